/-! X8_readsAll -/
abbrev rm_X8_readsAll : Room := { frames := 4, cells := 0, slots := 0, locals := 92 }
theorem in_X8_readsAll : ∀ w ∈ u_ws RX8 TX8 29, w ∈ wsX8_readsAll := by decide +kernel
def fm_readsAll_12 (x1 : Int32) (z : km_S) : Option ((Int32 × km_S) ⊕ km_S) :=
  if (16 : Int32) ≤ x1 then
  some (.inr z)
  else
  (km_wz z 19 x1 (0 : Int32)).bind fun z1 =>
  some (.inl ((x1 + 1), z1))
def lm_readsAll_12 (n : Nat) (x1 : Int32) (z : km_S) : Option km_S :=
  kj_it (fun (s : (Int32 × km_S)) => fm_readsAll_12 (s.1) (s.2)) n (x1, z)
def fm_readsAll_124 (z : km_S) : Option km_S :=
  (fm_takes (59 : Int32) z).bind fun o1 =>
  if (o1.1 4) = 0 then
  if (o1.1 1) ≤ (o1.1 3) then
  some o1
  else
  (fm_fails (1 : Int32) o1).bind fun o2 =>
  some o2
  else
  some o1
def fm_readsAll_113 (z : km_S) : Option km_S :=
  if (z.1 4) = 0 then
  (fm_readsDiagonals z).bind fun o1 =>
  fm_readsAll_124 o1
  else
  fm_readsAll_124 z
def fm_readsAll_93 (x1 : Int32) (z : km_S) : Option km_S :=
  if (z.1 4) = 0 then
  if x1 = (112 : Int32) then
  (fm_readsWords z).bind fun o1 =>
  fm_readsAll_124 o1
  else
  fm_readsAll_113 z
  else
  fm_readsAll_113 z
def fm_readsAll_69 (x1 : Int32) (z : km_S) : Option km_S :=
  (fm_goes z).bind fun o1 =>
  if (o1.1 4) = 0 then
  if x1 = (114 : Int32) then
  (fm_readsRows o1).bind fun o2 =>
  fm_readsAll_124 o2
  else
  fm_readsAll_93 x1 o1
  else
  fm_readsAll_93 x1 o1
def fm_readsAll (z : km_S) : Option km_S :=
  (km_pI z 3 (0 : Int32)).bind fun z1 =>
  (km_pI z1 4 (0 : Int32)).bind fun z2 =>
  (lm_readsAll_12 5000 (0 : Int32) z2).bind fun r3 =>
  (fm_takes (120 : Int32) (r3)).bind fun o4 =>
  (fm_readsBox o4).bind fun o5 =>
  (fm_here o5).bind fun o6 =>
  if (o6.1) = (114 : Int32) then
  fm_readsAll_69 (o6.1) (o6.2)
  else
  if (o6.1) = (112 : Int32) then
  fm_readsAll_69 (o6.1) (o6.2)
  else
  if (o6.1) = (100 : Int32) then
  fm_readsAll_69 (o6.1) (o6.2)
  else
  (fm_fails (1 : Int32) (o6.2)).bind fun o7 =>
  fm_readsAll_69 (o6.1) o7
set_option maxRecDepth 20000 in
theorem jm_readsAll_12 {p : Program} {l : Launch} {e : Env} {s : State} {m : MethodId} {args : Array Value} {below : List Frame} {meth : Method} {c : Code} {A : Nat → Prop} {D : va_G} {cA : Nat → ClassId} {h0 : Nat} {q : Nat → Nat} {Q : State → Prop} (F : kj_Fx p s m args meth c cX8_readsAll 2 wsX8_readsAll RX8 none D (km_T cA) A) {x1 : Int32} {z : km_S} {o : ((Int32 × km_S) ⊕ km_S)} (h : fm_readsAll_12 x1 z = some o) (kb : ∀ (a0' : Int32) (a1' : km_S), o = .inl (a0', a1') → kj_J p l e rm_X8_readsAll s m args below meth c 0 0 Q 2 D A ((km_w cA h0 q) a1') 12 [(0, .ref h0), (1, .int a0')] []) (ke0 : ∀ (a0' : km_S), o = .inr a0' → kj_J p l e rm_X8_readsAll s m args below meth c 0 0 Q 2 D A ((km_w cA h0 q) a0') 31 [(0, .ref h0)] []) : kj_J p l e rm_X8_readsAll s m args below meth c 0 0 Q 2 D A ((km_w cA h0 q) z) 12 [(0, .ref h0), (1, .int x1)] [] := by
  unfold fm_readsAll_12 at h
  refine kj_iload_n F dX8_readsAll_12 1 rfl rfl ?_
  refine kj_bipush F dX8_readsAll_13 (v := 16) (by decide) ?_
  refine kj_icmp_ge F dX8_readsAll_15 (tgt := 31) (by decide) h (fun hc h => ?_) (fun hc h => ?_)
  · refine kj_J.sub [0] rfl ?_
    exact ke0 z (Option.some.inj h).symm
  · refine kj_aload_n F dX8_readsAll_18 0 rfl rfl ?_
    refine km_get F dX8_readsAll_19 in_X8_readsAll 12 (by decide) (by decide +kernel) rfl rfl ?_
    refine kj_iload_n F dX8_readsAll_22 1 rfl rfl ?_
    refine kj_iconst F dX8_readsAll_23 (v := 0) (by decide) ?_
    refine km_zast F dX8_readsAll_24 19 (by decide) rfl h (fun z1 h => ?_)
    refine kj_iinc F dX8_readsAll_25 1 rfl (v := 1) (by decide) (by decide) (lv' := [(1, .int (x1 + 1)), (0, .ref h0)]) rfl ?_
    refine kj_goto F dX8_readsAll_28 (tgt := 12) (by decide) ?_
    refine kj_J.sub [1, 0] rfl ?_
    exact kb (x1 + 1) z1 (Option.some.inj h).symm
theorem jlm_readsAll_12 {p : Program} {l : Launch} {e : Env} {s : State} {m : MethodId} {args : Array Value} {below : List Frame} {meth : Method} {c : Code} {A : Nat → Prop} {D : va_G} {cA : Nat → ClassId} {h0 : Nat} {q : Nat → Nat} {Q : State → Prop} (F : kj_Fx p s m args meth c cX8_readsAll 2 wsX8_readsAll RX8 none D (km_T cA) A) {n : Nat} {x1 : Int32} {z : km_S} {r : km_S} (h : lm_readsAll_12 n x1 z = some r) (ke : kj_J p l e rm_X8_readsAll s m args below meth c 0 0 Q 2 D A ((km_w cA h0 q) (r)) 31 [(0, .ref h0)] []) : kj_J p l e rm_X8_readsAll s m args below meth c 0 0 Q 2 D A ((km_w cA h0 q) z) 12 [(0, .ref h0), (1, .int x1)] [] :=
  kj_it_J (Wh := fun (u : (Int32 × km_S)) => kj_J p l e rm_X8_readsAll s m args below meth c 0 0 Q 2 D A ((km_w cA h0 q) (u.2)) 12 [(0, .ref h0), (1, .int (u.1))] []) (We := fun r => kj_J p l e rm_X8_readsAll s m args below meth c 0 0 Q 2 D A ((km_w cA h0 q) (r)) 31 [(0, .ref h0)] []) (fun u o h kb ke => jm_readsAll_12 F h (fun a0' a1' e => kb (a0', a1') e) (fun a0' e => ke a0' e)) n (x1, z) r h ke
set_option maxRecDepth 20000 in
theorem jm_readsAll_124 {p : Program} {l : Launch} {e : Env} {s : State} {m : MethodId} {args : Array Value} {below : List Frame} {meth : Method} {c : Code} {A : Nat → Prop} {D : va_G} {cA : Nat → ClassId} {h0 : Nat} {q : Nat → Nat} (F : kj_Fx p s m args meth c cX8_readsAll 2 wsX8_readsAll RX8 none D (km_T cA) A) {z : km_S} {o : km_S} (h : fm_readsAll_124 z = some o) : kj_J p l e rm_X8_readsAll s m args below meth c 0 0 (MQ below (kj_Qv D (km_T cA) A (km_w cA h0 q) o) args s 0 0 A) 2 D A ((km_w cA h0 q) z) 124 [(0, .ref h0)] [] := by
  unfold fm_readsAll_124 at h
  refine kj_aload_n F dX8_readsAll_124 0 rfl rfl ?_
  refine kj_bipush F dX8_readsAll_125 (v := 59) (by decide) ?_
  refine kj_cVv (As := [.int (59 : Int32)]) (rest := []) F dX8_readsAll_127 h (fun o h1 => cm_takes h1) (cwV 1 F.2.2.2.2.1 gX8_readsAll_X8_takes rfl rfl rfl (by decide +kernel) ⟨Nat.le_of_ble_eq_true rfl, Nat.le_of_ble_eq_true rfl⟩) 0 rfl rfl rfl rfl rfl (Nat.le_of_ble_eq_true rfl) ⟨Nat.zero_le _, Nat.zero_le _⟩ (fun o1 h => ?_)
  refine kj_aload_n F dX8_readsAll_130 0 rfl rfl ?_
  refine km_get F dX8_readsAll_131 in_X8_readsAll 11 (by decide) (by decide +kernel) rfl rfl ?_
  refine kj_if_ne F dX8_readsAll_134 (tgt := 153) (by decide) h (fun hc h => ?_) (fun hc h => ?_)
  · refine kj_aload_n F dX8_readsAll_137 0 rfl rfl ?_
    refine km_get F dX8_readsAll_138 in_X8_readsAll 10 (by decide) (by decide +kernel) rfl rfl ?_
    refine kj_aload_n F dX8_readsAll_141 0 rfl rfl ?_
    refine km_get F dX8_readsAll_142 in_X8_readsAll 6 (by decide) (by decide +kernel) rfl rfl ?_
    refine kj_icmp_ge F dX8_readsAll_145 (tgt := 153) (by decide) h (fun hc h => ?_) (fun hc h => ?_)
    · exact kj_vret F dX8_readsAll_153 h
    · refine kj_aload_n F dX8_readsAll_148 0 rfl rfl ?_
      refine kj_iconst F dX8_readsAll_149 (v := 1) (by decide) ?_
      refine kj_cVv (As := [.int (1 : Int32)]) (rest := []) F dX8_readsAll_150 h (fun o h1 => cm_fails h1) (cwV 1 F.2.2.2.2.1 gX8_readsAll_X8_fails rfl rfl rfl (by decide +kernel) ⟨Nat.le_of_ble_eq_true rfl, Nat.le_of_ble_eq_true rfl⟩) 0 rfl rfl rfl rfl rfl (Nat.le_of_ble_eq_true rfl) ⟨Nat.zero_le _, Nat.zero_le _⟩ (fun o2 h => ?_)
      exact kj_vret F dX8_readsAll_153 h
  · exact kj_vret F dX8_readsAll_153 h
set_option maxRecDepth 20000 in
theorem jm_readsAll_113 {p : Program} {l : Launch} {e : Env} {s : State} {m : MethodId} {args : Array Value} {below : List Frame} {meth : Method} {c : Code} {A : Nat → Prop} {D : va_G} {cA : Nat → ClassId} {h0 : Nat} {q : Nat → Nat} (F : kj_Fx p s m args meth c cX8_readsAll 2 wsX8_readsAll RX8 none D (km_T cA) A) {z : km_S} {o : km_S} (h : fm_readsAll_113 z = some o) : kj_J p l e rm_X8_readsAll s m args below meth c 0 0 (MQ below (kj_Qv D (km_T cA) A (km_w cA h0 q) o) args s 0 0 A) 2 D A ((km_w cA h0 q) z) 113 [(0, .ref h0)] [] := by
  unfold fm_readsAll_113 at h
  refine kj_aload_n F dX8_readsAll_113 0 rfl rfl ?_
  refine km_get F dX8_readsAll_114 in_X8_readsAll 11 (by decide) (by decide +kernel) rfl rfl ?_
  refine kj_if_ne F dX8_readsAll_117 (tgt := 124) (by decide) h (fun hc h => ?_) (fun hc h => ?_)
  · refine kj_aload_n F dX8_readsAll_120 0 rfl rfl ?_
    refine kj_cVv (As := []) (rest := []) F dX8_readsAll_121 h (fun o h1 => cm_readsDiagonals h1) (cwV 0 F.2.2.2.2.1 gX8_readsAll_X8_readsDiagonals rfl rfl rfl (by decide +kernel) ⟨Nat.le_of_ble_eq_true rfl, Nat.le_of_ble_eq_true rfl⟩) 0 rfl rfl rfl rfl rfl (Nat.le_of_ble_eq_true rfl) ⟨Nat.zero_le _, Nat.zero_le _⟩ (fun o1 h => ?_)
    exact jm_readsAll_124 F h
  · exact jm_readsAll_124 F h
set_option maxRecDepth 20000 in
theorem jm_readsAll_93 {p : Program} {l : Launch} {e : Env} {s : State} {m : MethodId} {args : Array Value} {below : List Frame} {meth : Method} {c : Code} {A : Nat → Prop} {D : va_G} {cA : Nat → ClassId} {h0 : Nat} {q : Nat → Nat} (F : kj_Fx p s m args meth c cX8_readsAll 2 wsX8_readsAll RX8 none D (km_T cA) A) {x1 : Int32} {z : km_S} {o : km_S} (h : fm_readsAll_93 x1 z = some o) : kj_J p l e rm_X8_readsAll s m args below meth c 0 0 (MQ below (kj_Qv D (km_T cA) A (km_w cA h0 q) o) args s 0 0 A) 2 D A ((km_w cA h0 q) z) 93 [(0, .ref h0), (1, .int x1)] [] := by
  unfold fm_readsAll_93 at h
  refine kj_aload_n F dX8_readsAll_93 0 rfl rfl ?_
  refine km_get F dX8_readsAll_94 in_X8_readsAll 11 (by decide) (by decide +kernel) rfl rfl ?_
  refine kj_if_ne F dX8_readsAll_97 (tgt := 113) (by decide) h (fun hc h => ?_) (fun hc h => ?_)
  · refine kj_iload_n F dX8_readsAll_100 1 rfl rfl ?_
    refine kj_bipush F dX8_readsAll_101 (v := 112) (by decide) ?_
    refine kj_icmp_ne F dX8_readsAll_103 (tgt := 113) (by decide) h (fun hc h => ?_) (fun hc h => ?_)
    · refine kj_aload_n F dX8_readsAll_106 0 rfl rfl ?_
      refine kj_cVv (As := []) (rest := []) F dX8_readsAll_107 h (fun o h1 => cm_readsWords h1) (cwV 0 F.2.2.2.2.1 gX8_readsAll_X8_readsWords rfl rfl rfl (by decide +kernel) ⟨Nat.le_of_ble_eq_true rfl, Nat.le_of_ble_eq_true rfl⟩) 0 rfl rfl rfl rfl rfl (Nat.le_of_ble_eq_true rfl) ⟨Nat.zero_le _, Nat.zero_le _⟩ (fun o1 h => ?_)
      refine kj_goto F dX8_readsAll_110 (tgt := 124) (by decide) ?_
      refine kj_J.sub [0] rfl ?_
      exact jm_readsAll_124 F h
    · refine kj_J.sub [0] rfl ?_
      exact jm_readsAll_113 F h
  · refine kj_J.sub [0] rfl ?_
    exact jm_readsAll_113 F h
set_option maxRecDepth 20000 in
theorem jm_readsAll_69 {p : Program} {l : Launch} {e : Env} {s : State} {m : MethodId} {args : Array Value} {below : List Frame} {meth : Method} {c : Code} {A : Nat → Prop} {D : va_G} {cA : Nat → ClassId} {h0 : Nat} {q : Nat → Nat} (F : kj_Fx p s m args meth c cX8_readsAll 2 wsX8_readsAll RX8 none D (km_T cA) A) {x1 : Int32} {z : km_S} {o : km_S} (h : fm_readsAll_69 x1 z = some o) : kj_J p l e rm_X8_readsAll s m args below meth c 0 0 (MQ below (kj_Qv D (km_T cA) A (km_w cA h0 q) o) args s 0 0 A) 2 D A ((km_w cA h0 q) z) 69 [(0, .ref h0), (1, .int x1)] [] := by
  unfold fm_readsAll_69 at h
  refine kj_aload_n F dX8_readsAll_69 0 rfl rfl ?_
  refine kj_cVv (As := []) (rest := []) F dX8_readsAll_70 h (fun o h1 => cm_goes h1) (cwV 0 F.2.2.2.2.1 gX8_readsAll_X8_goes rfl rfl rfl (by decide +kernel) ⟨Nat.le_of_ble_eq_true rfl, Nat.le_of_ble_eq_true rfl⟩) 0 rfl rfl rfl rfl rfl (Nat.le_of_ble_eq_true rfl) ⟨Nat.zero_le _, Nat.zero_le _⟩ (fun o1 h => ?_)
  refine kj_aload_n F dX8_readsAll_73 0 rfl rfl ?_
  refine km_get F dX8_readsAll_74 in_X8_readsAll 11 (by decide) (by decide +kernel) rfl rfl ?_
  refine kj_if_ne F dX8_readsAll_77 (tgt := 93) (by decide) h (fun hc h => ?_) (fun hc h => ?_)
  · refine kj_iload_n F dX8_readsAll_80 1 rfl rfl ?_
    refine kj_bipush F dX8_readsAll_81 (v := 114) (by decide) ?_
    refine kj_icmp_ne F dX8_readsAll_83 (tgt := 93) (by decide) h (fun hc h => ?_) (fun hc h => ?_)
    · refine kj_aload_n F dX8_readsAll_86 0 rfl rfl ?_
      refine kj_cVv (As := []) (rest := []) F dX8_readsAll_87 h (fun o h1 => cm_readsRows h1) (cwV 0 F.2.2.2.2.1 gX8_readsAll_X8_readsRows rfl rfl rfl (by decide +kernel) ⟨Nat.le_of_ble_eq_true rfl, Nat.le_of_ble_eq_true rfl⟩) 0 rfl rfl rfl rfl rfl (Nat.le_of_ble_eq_true rfl) ⟨Nat.zero_le _, Nat.zero_le _⟩ (fun o2 h => ?_)
      refine kj_goto F dX8_readsAll_90 (tgt := 124) (by decide) ?_
      refine kj_J.sub [0] rfl ?_
      exact jm_readsAll_124 F h
    · exact jm_readsAll_93 F h
  · exact jm_readsAll_93 F h
set_option maxRecDepth 20000 in
theorem jm_readsAll {p : Program} {l : Launch} {e : Env} {s : State} {m : MethodId} {args : Array Value} {below : List Frame} {meth : Method} {c : Code} {A : Nat → Prop} {D : va_G} {cA : Nat → ClassId} {h0 : Nat} {q : Nat → Nat} (F : kj_Fx p s m args meth c cX8_readsAll 2 wsX8_readsAll RX8 none D (km_T cA) A) {z : km_S} {o : km_S} (h : fm_readsAll z = some o) : kj_J p l e rm_X8_readsAll s m args below meth c 0 0 (MQ below (kj_Qv D (km_T cA) A (km_w cA h0 q) o) args s 0 0 A) 2 D A ((km_w cA h0 q) z) 0 [(0, .ref h0)] [] := by
  unfold fm_readsAll at h
  refine kj_aload_n F dX8_readsAll_0 0 rfl rfl ?_
  refine kj_iconst F dX8_readsAll_1 (v := 0) (by decide) ?_
  refine km_pt F dX8_readsAll_2 in_X8_readsAll 10 3 (by decide) (by decide +kernel) rfl rfl (by decide +kernel) (km_put3 cA h0 q _ _) h (fun z1 h => ?_)
  refine kj_aload_n F dX8_readsAll_5 0 rfl rfl ?_
  refine kj_iconst F dX8_readsAll_6 (v := 0) (by decide) ?_
  refine km_pt F dX8_readsAll_7 in_X8_readsAll 11 4 (by decide) (by decide +kernel) rfl rfl (by decide +kernel) (km_put4 cA h0 q _ _) h (fun z2 h => ?_)
  refine kj_iconst F dX8_readsAll_10 (v := 0) (by decide) ?_
  refine kj_istore_n F dX8_readsAll_11 (lv' := [(1, .int (0 : Int32)), (0, .ref h0)]) rfl (by decide) rfl ?_
  refine kj_J.sub [1, 0] rfl ?_
  refine kj_bn h (fun r3 h1 h => ?_)
  refine jlm_readsAll_12 F h1 ?_
  refine kj_aload_n F dX8_readsAll_31 0 rfl rfl ?_
  refine kj_bipush F dX8_readsAll_32 (v := 120) (by decide) ?_
  refine kj_cVv (As := [.int (120 : Int32)]) (rest := []) F dX8_readsAll_34 h (fun o h1 => cm_takes h1) (cwV 1 F.2.2.2.2.1 gX8_readsAll_X8_takes rfl rfl rfl (by decide +kernel) ⟨Nat.le_of_ble_eq_true rfl, Nat.le_of_ble_eq_true rfl⟩) 0 rfl rfl rfl rfl rfl (Nat.le_of_ble_eq_true rfl) ⟨Nat.zero_le _, Nat.zero_le _⟩ (fun o4 h => ?_)
  refine kj_aload_n F dX8_readsAll_37 0 rfl rfl ?_
  refine kj_cVv (As := []) (rest := []) F dX8_readsAll_38 h (fun o h1 => cm_readsBox h1) (cwV 0 F.2.2.2.2.1 gX8_readsAll_X8_readsBox rfl rfl rfl (by decide +kernel) ⟨Nat.le_of_ble_eq_true rfl, Nat.le_of_ble_eq_true rfl⟩) 0 rfl rfl rfl rfl rfl (Nat.le_of_ble_eq_true rfl) ⟨Nat.zero_le _, Nat.zero_le _⟩ (fun o5 h => ?_)
  refine kj_aload_n F dX8_readsAll_41 0 rfl rfl ?_
  refine kj_cVi (As := []) (rest := []) F dX8_readsAll_42 h (fun o h1 => cm_here h1) (cwV 0 F.2.2.2.2.1 gX8_readsAll_X8_here rfl rfl rfl (by decide +kernel) ⟨Nat.le_of_ble_eq_true rfl, Nat.le_of_ble_eq_true rfl⟩) 0 rfl rfl rfl rfl rfl (Nat.le_of_ble_eq_true rfl) ⟨Nat.zero_le _, Nat.zero_le _⟩ (fun o6 h => ?_)
  refine kj_istore_n F dX8_readsAll_45 (lv' := [(1, .int (o6.1)), (0, .ref h0)]) rfl (by decide) rfl ?_
  refine kj_iload_n F dX8_readsAll_46 0 rfl rfl ?_
  refine kj_bipush F dX8_readsAll_47 (v := 114) (by decide) ?_
  refine kj_icmp_eq F dX8_readsAll_49 (tgt := 69) (by decide) h (fun hc h => ?_) (fun hc h => ?_)
  · refine kj_J.sub [1, 0] rfl ?_
    exact jm_readsAll_69 F h
  · refine kj_iload_n F dX8_readsAll_52 0 rfl rfl ?_
    refine kj_bipush F dX8_readsAll_53 (v := 112) (by decide) ?_
    refine kj_icmp_eq F dX8_readsAll_55 (tgt := 69) (by decide) h (fun hc h => ?_) (fun hc h => ?_)
    · refine kj_J.sub [1, 0] rfl ?_
      exact jm_readsAll_69 F h
    · refine kj_iload_n F dX8_readsAll_58 0 rfl rfl ?_
      refine kj_bipush F dX8_readsAll_59 (v := 100) (by decide) ?_
      refine kj_icmp_eq F dX8_readsAll_61 (tgt := 69) (by decide) h (fun hc h => ?_) (fun hc h => ?_)
      · refine kj_J.sub [1, 0] rfl ?_
        exact jm_readsAll_69 F h
      · refine kj_aload_n F dX8_readsAll_64 1 rfl rfl ?_
        refine kj_iconst F dX8_readsAll_65 (v := 1) (by decide) ?_
        refine kj_cVv (As := [.int (1 : Int32)]) (rest := []) F dX8_readsAll_66 h (fun o h1 => cm_fails h1) (cwV 1 F.2.2.2.2.1 gX8_readsAll_X8_fails rfl rfl rfl (by decide +kernel) ⟨Nat.le_of_ble_eq_true rfl, Nat.le_of_ble_eq_true rfl⟩) 0 rfl rfl rfl rfl rfl (Nat.le_of_ble_eq_true rfl) ⟨Nat.zero_le _, Nat.zero_le _⟩ (fun o7 h => ?_)
        refine kj_J.sub [1, 0] rfl ?_
        exact jm_readsAll_69 F h
theorem cm_readsAll {l : Launch} {D : va_G} {cA : Nat → ClassId} {h0 : Nat} {q : Nat → Nat} {z : km_S} {o : km_S} (h : fm_readsAll z = some o) : kj_Mv l yX8_readsAll wsX8_readsAll rm_X8_readsAll D (km_T cA) (km_w cA h0 q) z [.ref h0] o :=
  fun sz => kj_start (by decide) rfl (Nat.le_of_ble_eq_true rfl) rfl fun p e s m args below meth c hsz F => jm_readsAll F h
/-! X8_heap -/
abbrev rm_X8_heap : Room := { frames := 5, cells := 0, slots := 0, locals := 113 }
theorem in_X8_heap : ∀ w ∈ u_ws RX8 TX8 29, w ∈ wsX8_heap := by decide +kernel
def fm_heap (x1 : Int32) (z : km_S) : Option (Int32 × km_S) :=
  (fm_isPlace x1).bind fun o1 =>
  if o1 = 0 then
  some (((-1000001) : Int32), z)
  else
  (fm_readsAll z).bind fun o2 =>
  (km_pI o2 1 (0 : Int32)).bind fun z3 =>
  if (z3.1 4) ≤ 0 then
  (fm_comes x1 z3).bind fun o4 =>
  some ((o4.1), (o4.2))
  else
  (km_pI z3 2 (z3.1 4)).bind fun z5 =>
  some ((((-1000100) : Int32) - (z5.1 3)), z5)
set_option maxRecDepth 20000 in
theorem jm_heap {p : Program} {l : Launch} {e : Env} {s : State} {m : MethodId} {args : Array Value} {below : List Frame} {meth : Method} {c : Code} {A : Nat → Prop} {D : va_G} {cA : Nat → ClassId} {h0 : Nat} {q : Nat → Nat} (F : kj_Fx p s m args meth c cX8_heap 2 wsX8_heap RX8 (some .int) D (km_T cA) A) {x1 : Int32} {z : km_S} {o : (Int32 × km_S)} (h : fm_heap x1 z = some o) : kj_J p l e rm_X8_heap s m args below meth c 0 0 (MQ below (kj_Qi D (km_T cA) A (km_w cA h0 q) o) args s 0 0 A) 2 D A ((km_w cA h0 q) z) 0 [(0, .ref h0), (1, .int x1)] [] := by
  unfold fm_heap at h
  refine kj_iload_n F dX8_heap_0 1 rfl rfl ?_
  refine kj_cSip (As := [.int x1]) (rest := []) F dX8_heap_1 h (fun o h1 => cm_isPlace (w := (km_w cA h0 q)) h1) (va_cwS 1 F.2.2.2.2.1 gX8_heap_X8_isPlace rfl rfl rfl (by decide +kernel) ⟨Nat.le_of_ble_eq_true rfl, Nat.le_of_ble_eq_true rfl⟩) rfl rfl (Nat.le_of_ble_eq_true rfl) ⟨Nat.zero_le _, Nat.zero_le _⟩ (fun o1 h => ?_)
  refine kj_if_ne F dX8_heap_4 (tgt := 10) (by decide) h (fun hc h => ?_) (fun hc h => ?_)
  · refine kj_ldc F dX8_heap_7 (v := (-1000001)) (by decide +kernel) ?_
    exact kj_iret F dX8_heap_9 h
  · refine kj_aload_n F dX8_heap_10 0 rfl rfl ?_
    refine kj_cVv (As := []) (rest := []) F dX8_heap_11 h (fun o h1 => cm_readsAll h1) (cwV 0 F.2.2.2.2.1 gX8_heap_X8_readsAll rfl rfl rfl (by decide +kernel) ⟨Nat.le_of_ble_eq_true rfl, Nat.le_of_ble_eq_true rfl⟩) 0 rfl rfl rfl rfl rfl (Nat.le_of_ble_eq_true rfl) ⟨Nat.zero_le _, Nat.zero_le _⟩ (fun o2 h => ?_)
    refine kj_aload_n F dX8_heap_14 0 rfl rfl ?_
    refine kj_iconst F dX8_heap_15 (v := 0) (by decide) ?_
    refine km_pt F dX8_heap_16 in_X8_heap 6 1 (by decide) (by decide +kernel) rfl rfl (by decide +kernel) (km_put1 cA h0 q _ _) h (fun z3 h => ?_)
    refine kj_aload_n F dX8_heap_19 0 rfl rfl ?_
    refine km_get F dX8_heap_20 in_X8_heap 11 (by decide) (by decide +kernel) rfl rfl ?_
    refine kj_if_le F dX8_heap_23 (tgt := 42) (by decide) h (fun hc h => ?_) (fun hc h => ?_)
    · refine kj_aload_n F dX8_heap_42 0 rfl rfl ?_
      refine kj_iload_n F dX8_heap_43 1 rfl rfl ?_
      refine kj_cVi (As := [.int x1]) (rest := []) F dX8_heap_44 h (fun o h1 => cm_comes h1) (cwV 1 F.2.2.2.2.1 gX8_heap_X8_comes rfl rfl rfl (by decide +kernel) ⟨Nat.le_of_ble_eq_true rfl, Nat.le_of_ble_eq_true rfl⟩) 0 rfl rfl rfl rfl rfl (Nat.le_of_ble_eq_true rfl) ⟨Nat.zero_le _, Nat.zero_le _⟩ (fun o4 h => ?_)
      exact kj_iret F dX8_heap_47 h
    · refine kj_aload_n F dX8_heap_26 0 rfl rfl ?_
      refine kj_aload_n F dX8_heap_27 0 rfl rfl ?_
      refine km_get F dX8_heap_28 in_X8_heap 11 (by decide) (by decide +kernel) rfl rfl ?_
      refine km_pt F dX8_heap_31 in_X8_heap 7 2 (by decide) (by decide +kernel) rfl rfl (by decide +kernel) (km_put2 cA h0 q _ _) h (fun z5 h => ?_)
      refine kj_ldc F dX8_heap_34 (v := (-1000100)) (by decide +kernel) ?_
      refine kj_aload_n F dX8_heap_36 0 rfl rfl ?_
      refine km_get F dX8_heap_37 in_X8_heap 10 (by decide) (by decide +kernel) rfl rfl ?_
      refine kj_isub F dX8_heap_40 ?_
      exact kj_iret F dX8_heap_41 h
theorem cm_heap {l : Launch} {D : va_G} {cA : Nat → ClassId} {h0 : Nat} {q : Nat → Nat} {x1 : Int32} {z : km_S} {o : (Int32 × km_S)} (h : fm_heap x1 z = some o) : kj_Mi l yX8_heap wsX8_heap rm_X8_heap D (km_T cA) (km_w cA h0 q) z [.ref h0, .int x1] o :=
  fun sz => kj_start (by decide) rfl (Nat.le_of_ble_eq_true rfl) rfl fun p e s m args below meth c hsz F => jm_heap F h
/-! X8_fault -/
abbrev rm_X8_fault : Room := { frames := 0, cells := 0, slots := 0, locals := 0 }
theorem in_X8_fault : ∀ w ∈ u_ws RX8 TX8 29, w ∈ wsX8_fault := by decide +kernel
def fm_fault (z : km_S) : Option (Int32 × km_S) :=
  some ((z.1 2), z)
set_option maxRecDepth 20000 in
theorem jm_fault {p : Program} {l : Launch} {e : Env} {s : State} {m : MethodId} {args : Array Value} {below : List Frame} {meth : Method} {c : Code} {A : Nat → Prop} {D : va_G} {cA : Nat → ClassId} {h0 : Nat} {q : Nat → Nat} (F : kj_Fx p s m args meth c cX8_fault 1 wsX8_fault RX8 (some .int) D (km_T cA) A) {z : km_S} {o : (Int32 × km_S)} (h : fm_fault z = some o) : kj_J p l e rm_X8_fault s m args below meth c 0 0 (MQ below (kj_Qi D (km_T cA) A (km_w cA h0 q) o) args s 0 0 A) 1 D A ((km_w cA h0 q) z) 0 [(0, .ref h0)] [] := by
  unfold fm_fault at h
  refine kj_aload_n F dX8_fault_0 0 rfl rfl ?_
  refine km_get F dX8_fault_1 in_X8_fault 7 (by decide) (by decide +kernel) rfl rfl ?_
  exact kj_iret F dX8_fault_4 h
theorem cm_fault {l : Launch} {D : va_G} {cA : Nat → ClassId} {h0 : Nat} {q : Nat → Nat} {z : km_S} {o : (Int32 × km_S)} (h : fm_fault z = some o) : kj_Mi l yX8_fault wsX8_fault rm_X8_fault D (km_T cA) (km_w cA h0 q) z [.ref h0] o :=
  fun sz => kj_start (by decide) rfl (Nat.le_of_ble_eq_true rfl) rfl fun p e s m args below meth c hsz F => jm_fault F h
/-! X8_isUnder -/
abbrev rm_X8_isUnder : Room := { frames := 0, cells := 0, slots := 0, locals := 0 }
theorem in_X8_isUnder : ∀ w ∈ u_ws RX8 TX8 29, w ∈ wsX8_isUnder := by decide +kernel
def fm_isUnder_47 (x1 : Int32) (x2 : Int32) (x3 : Int32) (x5 : Int32) (t0 : Int32) (z : km_S) : Option ((Int32 × Int32 × Int32 × Int32 × Int32 × km_S) ⊕ (Int32 × km_S)) :=
  some (.inl (x1, x2, x3, t0, (x5 + 1), z))
def fm_isUnder_46 (x1 : Int32) (x2 : Int32) (x3 : Int32) (x5 : Int32) (z : km_S) : Option ((Int32 × Int32 × Int32 × Int32 × Int32 × km_S) ⊕ (Int32 × km_S)) :=
  fm_isUnder_47 x1 x2 x3 x5 (0 : Int32) z
def fm_isUnder_6 (x1 : Int32) (x2 : Int32) (x3 : Int32) (x4 : Int32) (x5 : Int32) (z : km_S) : Option ((Int32 × Int32 × Int32 × Int32 × Int32 × km_S) ⊕ (Int32 × km_S)) :=
  if x3 ≤ x5 then
  some (.inr (x4, z))
  else
  if x4 = 0 then
  fm_isUnder_46 x1 x2 x3 x5 z
  else
  (km_rd z 6 (((4 : Int32) * x1) + x5)).bind fun v1 =>
  (km_rd z 6 (((4 : Int32) * x2) + x5)).bind fun v2 =>
  if v2 < v1 then
  fm_isUnder_46 x1 x2 x3 x5 z
  else
  fm_isUnder_47 x1 x2 x3 x5 (1 : Int32) z
def lm_isUnder_6 (n : Nat) (x1 : Int32) (x2 : Int32) (x3 : Int32) (x4 : Int32) (x5 : Int32) (z : km_S) : Option (Int32 × km_S) :=
  kj_it (fun (s : (Int32 × Int32 × Int32 × Int32 × Int32 × km_S)) => fm_isUnder_6 (s.1) (s.2.1) (s.2.2.1) (s.2.2.2.1) (s.2.2.2.2.1) (s.2.2.2.2.2)) n (x1, x2, x3, x4, x5, z)
def fm_isUnder (x1 : Int32) (x2 : Int32) (x3 : Int32) (z : km_S) : Option (Int32 × km_S) :=
  (lm_isUnder_6 5000 x1 x2 x3 (1 : Int32) (0 : Int32) z).bind fun r1 =>
  if (r1.1) = 0 ∨ (r1.1) = 1 then some ((r1.1), (r1.2)) else none
set_option maxRecDepth 20000 in
theorem jm_isUnder_47 {p : Program} {l : Launch} {e : Env} {s : State} {m : MethodId} {args : Array Value} {below : List Frame} {meth : Method} {c : Code} {A : Nat → Prop} {D : va_G} {cA : Nat → ClassId} {h0 : Nat} {q : Nat → Nat} {Q : State → Prop} (F : kj_Fx p s m args meth c cX8_isUnder 6 wsX8_isUnder RX8 (some .boolean) D (km_T cA) A) {x1 : Int32} {x2 : Int32} {x3 : Int32} {x5 : Int32} {t0 : Int32} {z : km_S} {o : ((Int32 × Int32 × Int32 × Int32 × Int32 × km_S) ⊕ (Int32 × km_S))} (h : fm_isUnder_47 x1 x2 x3 x5 t0 z = some o) (kb : ∀ (a0' : Int32) (a1' : Int32) (a2' : Int32) (a3' : Int32) (a4' : Int32) (a5' : km_S), o = .inl (a0', a1', a2', a3', a4', a5') → kj_J p l e rm_X8_isUnder s m args below meth c 0 0 Q 6 D A ((km_w cA h0 q) a5') 6 [(0, .ref h0), (1, .int a0'), (2, .int a1'), (3, .int a2'), (4, .int a3'), (5, .int a4')] []) (ke0 : ∀ (a0' : Int32) (a1' : km_S), o = .inr (a0', a1') → kj_J p l e rm_X8_isUnder s m args below meth c 0 0 Q 6 D A ((km_w cA h0 q) a1') 55 [(4, .int a0')] []) : kj_J p l e rm_X8_isUnder s m args below meth c 0 0 Q 6 D A ((km_w cA h0 q) z) 47 [(0, .ref h0), (1, .int x1), (2, .int x2), (3, .int x3), (5, .int x5)] [.int t0] := by
  unfold fm_isUnder_47 at h
  refine kj_istore F dX8_isUnder_47 (lv' := [(4, .int t0), (0, .ref h0), (1, .int x1), (2, .int x2), (3, .int x3), (5, .int x5)]) (by decide) rfl ?_
  refine kj_iinc F dX8_isUnder_49 5 rfl (v := 1) (by decide) (by decide) (lv' := [(5, .int (x5 + 1)), (4, .int t0), (0, .ref h0), (1, .int x1), (2, .int x2), (3, .int x3)]) rfl ?_
  refine kj_goto F dX8_isUnder_52 (tgt := 6) (by decide) ?_
  refine kj_J.sub [2, 3, 4, 5, 1, 0] rfl ?_
  exact kb x1 x2 x3 t0 (x5 + 1) z (Option.some.inj h).symm
set_option maxRecDepth 20000 in
theorem jm_isUnder_46 {p : Program} {l : Launch} {e : Env} {s : State} {m : MethodId} {args : Array Value} {below : List Frame} {meth : Method} {c : Code} {A : Nat → Prop} {D : va_G} {cA : Nat → ClassId} {h0 : Nat} {q : Nat → Nat} {Q : State → Prop} (F : kj_Fx p s m args meth c cX8_isUnder 6 wsX8_isUnder RX8 (some .boolean) D (km_T cA) A) {x1 : Int32} {x2 : Int32} {x3 : Int32} {x5 : Int32} {z : km_S} {o : ((Int32 × Int32 × Int32 × Int32 × Int32 × km_S) ⊕ (Int32 × km_S))} (h : fm_isUnder_46 x1 x2 x3 x5 z = some o) (kb : ∀ (a0' : Int32) (a1' : Int32) (a2' : Int32) (a3' : Int32) (a4' : Int32) (a5' : km_S), o = .inl (a0', a1', a2', a3', a4', a5') → kj_J p l e rm_X8_isUnder s m args below meth c 0 0 Q 6 D A ((km_w cA h0 q) a5') 6 [(0, .ref h0), (1, .int a0'), (2, .int a1'), (3, .int a2'), (4, .int a3'), (5, .int a4')] []) (ke0 : ∀ (a0' : Int32) (a1' : km_S), o = .inr (a0', a1') → kj_J p l e rm_X8_isUnder s m args below meth c 0 0 Q 6 D A ((km_w cA h0 q) a1') 55 [(4, .int a0')] []) : kj_J p l e rm_X8_isUnder s m args below meth c 0 0 Q 6 D A ((km_w cA h0 q) z) 46 [(0, .ref h0), (1, .int x1), (2, .int x2), (3, .int x3), (5, .int x5)] [] := by
  unfold fm_isUnder_46 at h
  refine kj_iconst F dX8_isUnder_46 (v := 0) (by decide) ?_
  exact jm_isUnder_47 F h kb ke0
set_option maxRecDepth 20000 in
theorem jm_isUnder_6 {p : Program} {l : Launch} {e : Env} {s : State} {m : MethodId} {args : Array Value} {below : List Frame} {meth : Method} {c : Code} {A : Nat → Prop} {D : va_G} {cA : Nat → ClassId} {h0 : Nat} {q : Nat → Nat} {Q : State → Prop} (F : kj_Fx p s m args meth c cX8_isUnder 6 wsX8_isUnder RX8 (some .boolean) D (km_T cA) A) {x1 : Int32} {x2 : Int32} {x3 : Int32} {x4 : Int32} {x5 : Int32} {z : km_S} {o : ((Int32 × Int32 × Int32 × Int32 × Int32 × km_S) ⊕ (Int32 × km_S))} (h : fm_isUnder_6 x1 x2 x3 x4 x5 z = some o) (kb : ∀ (a0' : Int32) (a1' : Int32) (a2' : Int32) (a3' : Int32) (a4' : Int32) (a5' : km_S), o = .inl (a0', a1', a2', a3', a4', a5') → kj_J p l e rm_X8_isUnder s m args below meth c 0 0 Q 6 D A ((km_w cA h0 q) a5') 6 [(0, .ref h0), (1, .int a0'), (2, .int a1'), (3, .int a2'), (4, .int a3'), (5, .int a4')] []) (ke0 : ∀ (a0' : Int32) (a1' : km_S), o = .inr (a0', a1') → kj_J p l e rm_X8_isUnder s m args below meth c 0 0 Q 6 D A ((km_w cA h0 q) a1') 55 [(4, .int a0')] []) : kj_J p l e rm_X8_isUnder s m args below meth c 0 0 Q 6 D A ((km_w cA h0 q) z) 6 [(0, .ref h0), (1, .int x1), (2, .int x2), (3, .int x3), (4, .int x4), (5, .int x5)] [] := by
  unfold fm_isUnder_6 at h
  refine kj_iload F dX8_isUnder_6 5 rfl ?_
  refine kj_iload_n F dX8_isUnder_8 3 rfl rfl ?_
  refine kj_icmp_ge F dX8_isUnder_9 (tgt := 55) (by decide) h (fun hc h => ?_) (fun hc h => ?_)
  · refine kj_J.sub [4] rfl ?_
    exact ke0 x4 z (Option.some.inj h).symm
  · refine kj_iload F dX8_isUnder_12 4 rfl ?_
    refine kj_if_eq F dX8_isUnder_14 (tgt := 46) (by decide) h (fun hc h => ?_) (fun hc h => ?_)
    · refine kj_J.sub [0, 1, 2, 3, 5] rfl ?_
      exact jm_isUnder_46 F h kb ke0
    · refine kj_aload_n F dX8_isUnder_17 0 rfl rfl ?_
      refine km_get F dX8_isUnder_18 in_X8_isUnder 13 (by decide) (by decide +kernel) rfl rfl ?_
      refine kj_iconst F dX8_isUnder_21 (v := 4) (by decide) ?_
      refine kj_iload_n F dX8_isUnder_22 1 rfl rfl ?_
      refine kj_imul F dX8_isUnder_23 ?_
      refine kj_iload F dX8_isUnder_24 5 rfl ?_
      refine kj_iadd F dX8_isUnder_26 ?_
      refine km_iald F dX8_isUnder_27 6 (by decide) h (fun v1 h => ?_)
      refine kj_aload_n F dX8_isUnder_28 0 rfl rfl ?_
      refine km_get F dX8_isUnder_29 in_X8_isUnder 13 (by decide) (by decide +kernel) rfl rfl ?_
      refine kj_iconst F dX8_isUnder_32 (v := 4) (by decide) ?_
      refine kj_iload_n F dX8_isUnder_33 2 rfl rfl ?_
      refine kj_imul F dX8_isUnder_34 ?_
      refine kj_iload F dX8_isUnder_35 5 rfl ?_
      refine kj_iadd F dX8_isUnder_37 ?_
      refine km_iald F dX8_isUnder_38 6 (by decide) h (fun v2 h => ?_)
      refine kj_icmp_gt F dX8_isUnder_39 (tgt := 46) (by decide) h (fun hc h => ?_) (fun hc h => ?_)
      · refine kj_J.sub [0, 1, 2, 3, 5] rfl ?_
        exact jm_isUnder_46 F h kb ke0
      · refine kj_iconst F dX8_isUnder_42 (v := 1) (by decide) ?_
        refine kj_goto F dX8_isUnder_43 (tgt := 47) (by decide) ?_
        refine kj_J.sub [0, 1, 2, 3, 5] rfl ?_
        exact jm_isUnder_47 F h kb ke0
theorem jlm_isUnder_6 {p : Program} {l : Launch} {e : Env} {s : State} {m : MethodId} {args : Array Value} {below : List Frame} {meth : Method} {c : Code} {A : Nat → Prop} {D : va_G} {cA : Nat → ClassId} {h0 : Nat} {q : Nat → Nat} {Q : State → Prop} (F : kj_Fx p s m args meth c cX8_isUnder 6 wsX8_isUnder RX8 (some .boolean) D (km_T cA) A) {n : Nat} {x1 : Int32} {x2 : Int32} {x3 : Int32} {x4 : Int32} {x5 : Int32} {z : km_S} {r : (Int32 × km_S)} (h : lm_isUnder_6 n x1 x2 x3 x4 x5 z = some r) (ke : kj_J p l e rm_X8_isUnder s m args below meth c 0 0 Q 6 D A ((km_w cA h0 q) (r.2)) 55 [(4, .int (r.1))] []) : kj_J p l e rm_X8_isUnder s m args below meth c 0 0 Q 6 D A ((km_w cA h0 q) z) 6 [(0, .ref h0), (1, .int x1), (2, .int x2), (3, .int x3), (4, .int x4), (5, .int x5)] [] :=
  kj_it_J (Wh := fun (u : (Int32 × Int32 × Int32 × Int32 × Int32 × km_S)) => kj_J p l e rm_X8_isUnder s m args below meth c 0 0 Q 6 D A ((km_w cA h0 q) (u.2.2.2.2.2)) 6 [(0, .ref h0), (1, .int (u.1)), (2, .int (u.2.1)), (3, .int (u.2.2.1)), (4, .int (u.2.2.2.1)), (5, .int (u.2.2.2.2.1))] []) (We := fun r => kj_J p l e rm_X8_isUnder s m args below meth c 0 0 Q 6 D A ((km_w cA h0 q) (r.2)) 55 [(4, .int (r.1))] []) (fun u o h kb ke => jm_isUnder_6 F h (fun a0' a1' a2' a3' a4' a5' e => kb (a0', a1', a2', a3', a4', a5') e) (fun a0' a1' e => ke (a0', a1') e)) n (x1, x2, x3, x4, x5, z) r h ke
set_option maxRecDepth 20000 in
theorem jm_isUnder {p : Program} {l : Launch} {e : Env} {s : State} {m : MethodId} {args : Array Value} {below : List Frame} {meth : Method} {c : Code} {A : Nat → Prop} {D : va_G} {cA : Nat → ClassId} {h0 : Nat} {q : Nat → Nat} (F : kj_Fx p s m args meth c cX8_isUnder 6 wsX8_isUnder RX8 (some .boolean) D (km_T cA) A) {x1 : Int32} {x2 : Int32} {x3 : Int32} {z : km_S} {o : (Int32 × km_S)} (h : fm_isUnder x1 x2 x3 z = some o) : kj_J p l e rm_X8_isUnder s m args below meth c 0 0 (MQ below (kj_Qi D (km_T cA) A (km_w cA h0 q) o) args s 0 0 A) 6 D A ((km_w cA h0 q) z) 0 [(0, .ref h0), (1, .int x1), (2, .int x2), (3, .int x3)] [] := by
  unfold fm_isUnder at h
  refine kj_iconst F dX8_isUnder_0 (v := 1) (by decide) ?_
  refine kj_istore F dX8_isUnder_1 (lv' := [(4, .int (1 : Int32)), (0, .ref h0), (1, .int x1), (2, .int x2), (3, .int x3)]) (by decide) rfl ?_
  refine kj_iconst F dX8_isUnder_3 (v := 0) (by decide) ?_
  refine kj_istore F dX8_isUnder_4 (lv' := [(5, .int (0 : Int32)), (4, .int (1 : Int32)), (0, .ref h0), (1, .int x1), (2, .int x2), (3, .int x3)]) (by decide) rfl ?_
  refine kj_J.sub [2, 3, 4, 5, 1, 0] rfl ?_
  refine kj_bn h (fun r1 h1 h => ?_)
  refine jlm_isUnder_6 F h1 ?_
  refine kj_iload F dX8_isUnder_55 0 rfl ?_
  exact kj_zretB F dX8_isUnder_57 h
theorem cm_isUnder {l : Launch} {D : va_G} {cA : Nat → ClassId} {h0 : Nat} {q : Nat → Nat} {x1 : Int32} {x2 : Int32} {x3 : Int32} {z : km_S} {o : (Int32 × km_S)} (h : fm_isUnder x1 x2 x3 z = some o) : kj_Mi l yX8_isUnder wsX8_isUnder rm_X8_isUnder D (km_T cA) (km_w cA h0 q) z [.ref h0, .int x1, .int x2, .int x3] o :=
  fun sz => kj_start (by decide) rfl (Nat.le_of_ble_eq_true rfl) rfl fun p e s m args below meth c hsz F => jm_isUnder F h
/-! X8_laysRows -/
abbrev rm_X8_laysRows : Room := { frames := 0, cells := 0, slots := 0, locals := 0 }
theorem in_X8_laysRows : ∀ w ∈ u_ws RX8 TX8 29, w ∈ wsX8_laysRows := by decide +kernel
def fm_laysRows_10 (x1 : Int32) (x2 : Int32) (x3 : Int32) (x4 : Int32) (z : km_S) : Option ((Int32 × Int32 × Int32 × Int32 × km_S) ⊕ (Int32 × Int32 × Int32 × km_S)) :=
  if x1 ≤ x4 then
  some (.inr (x1, x2, x3, z))
  else
  some (.inl (x1, x2, (x3 * (x2 + (1 : Int32))), (x4 + 1), z))
def lm_laysRows_10 (n : Nat) (x1 : Int32) (x2 : Int32) (x3 : Int32) (x4 : Int32) (z : km_S) : Option (Int32 × Int32 × Int32 × km_S) :=
  kj_it (fun (s : (Int32 × Int32 × Int32 × Int32 × km_S)) => fm_laysRows_10 (s.1) (s.2.1) (s.2.2.1) (s.2.2.2.1) (s.2.2.2.2)) n (x1, x2, x3, x4, z)
def fm_laysRows_133 (x1 : Int32) (x2 : Int32) (x3 : Int32) (x4 : Int32) (x5 : Int32) (x7 : Int32) (t0 : Int32) (z : km_S) : Option ((Int32 × Int32 × Int32 × Int32 × Int32 × Int32 × Int32 × km_S) ⊕ (Int32 × Int32 × Int32 × Int32 × Int32 × km_S)) :=
  some (.inl (x1, x2, x3, x4, x5, t0, (x7 + (-1)), z))
def fm_laysRows_132 (x1 : Int32) (x2 : Int32) (x3 : Int32) (x4 : Int32) (x5 : Int32) (x7 : Int32) (z : km_S) : Option ((Int32 × Int32 × Int32 × Int32 × Int32 × Int32 × Int32 × km_S) ⊕ (Int32 × Int32 × Int32 × Int32 × Int32 × km_S)) :=
  fm_laysRows_133 x1 x2 x3 x4 x5 x7 (0 : Int32) z
def fm_laysRows_128 (x1 : Int32) (x2 : Int32) (x3 : Int32) (x4 : Int32) (x5 : Int32) (x7 : Int32) (z : km_S) : Option ((Int32 × Int32 × Int32 × Int32 × Int32 × Int32 × Int32 × km_S) ⊕ (Int32 × Int32 × Int32 × Int32 × Int32 × km_S)) :=
  fm_laysRows_133 x1 x2 x3 x4 x5 x7 (1 : Int32) z
def fm_laysRows_49 (x1 : Int32) (x2 : Int32) (x3 : Int32) (x4 : Int32) (x5 : Int32) (x6 : Int32) (x7 : Int32) (z : km_S) : Option ((Int32 × Int32 × Int32 × Int32 × Int32 × Int32 × Int32 × km_S) ⊕ (Int32 × Int32 × Int32 × Int32 × Int32 × km_S)) :=
  if x7 < 0 then
  some (.inr (x1, x2, x3, x4, x6, z))
  else
  if (x2 + (1 : Int32)) = 0 then none else
  (km_wr z 6 (((4 : Int32) * (z.1 5)) + x7) (x5 - x5 / (x2 + (1 : Int32)) * (x2 + (1 : Int32)))).bind fun z1 =>
  if (x2 + (1 : Int32)) = 0 then none else
  if x6 = 0 then
  fm_laysRows_132 x1 x2 x3 x4 (x5 / (x2 + (1 : Int32))) x7 z1
  else
  if x7 = (x1 - (1 : Int32)) then
  fm_laysRows_128 x1 x2 x3 x4 (x5 / (x2 + (1 : Int32))) x7 z1
  else
  (km_rd z1 6 (((4 : Int32) * (z1.1 5)) + x7)).bind fun v2 =>
  (km_rd z1 6 ((((4 : Int32) * (z1.1 5)) + x7) + (1 : Int32))).bind fun v3 =>
  if v2 < v3 then
  fm_laysRows_132 x1 x2 x3 x4 (x5 / (x2 + (1 : Int32))) x7 z1
  else
  fm_laysRows_128 x1 x2 x3 x4 (x5 / (x2 + (1 : Int32))) x7 z1
def lm_laysRows_49 (n : Nat) (x1 : Int32) (x2 : Int32) (x3 : Int32) (x4 : Int32) (x5 : Int32) (x6 : Int32) (x7 : Int32) (z : km_S) : Option (Int32 × Int32 × Int32 × Int32 × Int32 × km_S) :=
  kj_it (fun (s : (Int32 × Int32 × Int32 × Int32 × Int32 × Int32 × Int32 × km_S)) => fm_laysRows_49 (s.1) (s.2.1) (s.2.2.1) (s.2.2.2.1) (s.2.2.2.2.1) (s.2.2.2.2.2.1) (s.2.2.2.2.2.2.1) (s.2.2.2.2.2.2.2)) n (x1, x2, x3, x4, x5, x6, x7, z)
def fm_laysRows_156 (x1 : Int32) (x2 : Int32) (x3 : Int32) (x4 : Int32) (t0 : Int32) (t1 : Int32) (z : km_S) : Option ((Int32 × Int32 × Int32 × Int32 × km_S) ⊕ km_S) :=
  (km_pI z 5 (t1 + t0)).bind fun z1 =>
  some (.inl (x1, x2, x3, (x4 + 1), z1))
def fm_laysRows_31 (x1 : Int32) (x2 : Int32) (x3 : Int32) (x4 : Int32) (z : km_S) : Option ((Int32 × Int32 × Int32 × Int32 × km_S) ⊕ km_S) :=
  if x3 ≤ x4 then
  some (.inr z)
  else
  (lm_laysRows_49 5000 x1 x2 x3 x4 x4 (1 : Int32) (x1 - (1 : Int32)) z).bind fun r1 =>
  if (r1.2.2.2.2.1) = 0 then
  fm_laysRows_156 (r1.1) (r1.2.1) (r1.2.2.1) (r1.2.2.2.1) (0 : Int32) ((r1.2.2.2.2.2).1 5) (r1.2.2.2.2.2)
  else
  fm_laysRows_156 (r1.1) (r1.2.1) (r1.2.2.1) (r1.2.2.2.1) (1 : Int32) ((r1.2.2.2.2.2).1 5) (r1.2.2.2.2.2)
def lm_laysRows_31 (n : Nat) (x1 : Int32) (x2 : Int32) (x3 : Int32) (x4 : Int32) (z : km_S) : Option km_S :=
  kj_it (fun (s : (Int32 × Int32 × Int32 × Int32 × km_S)) => fm_laysRows_31 (s.1) (s.2.1) (s.2.2.1) (s.2.2.2.1) (s.2.2.2.2)) n (x1, x2, x3, x4, z)
def fm_laysRows (x1 : Int32) (x2 : Int32) (z : km_S) : Option km_S :=
  (km_pI z 5 (0 : Int32)).bind fun z1 =>
  (lm_laysRows_10 5000 x1 x2 (1 : Int32) (0 : Int32) z1).bind fun r2 =>
  (lm_laysRows_31 5000 (r2.1) (r2.2.1) (r2.2.2.1) (0 : Int32) (r2.2.2.2)).bind fun r3 =>
  some (r3)
set_option maxRecDepth 20000 in
theorem jm_laysRows_10 {p : Program} {l : Launch} {e : Env} {s : State} {m : MethodId} {args : Array Value} {below : List Frame} {meth : Method} {c : Code} {A : Nat → Prop} {D : va_G} {cA : Nat → ClassId} {h0 : Nat} {q : Nat → Nat} {Q : State → Prop} (F : kj_Fx p s m args meth c cX8_laysRows 8 wsX8_laysRows RX8 none D (km_T cA) A) {x1 : Int32} {x2 : Int32} {x3 : Int32} {x4 : Int32} {z : km_S} {o : ((Int32 × Int32 × Int32 × Int32 × km_S) ⊕ (Int32 × Int32 × Int32 × km_S))} (h : fm_laysRows_10 x1 x2 x3 x4 z = some o) (kb : ∀ (a0' : Int32) (a1' : Int32) (a2' : Int32) (a3' : Int32) (a4' : km_S), o = .inl (a0', a1', a2', a3', a4') → kj_J p l e rm_X8_laysRows s m args below meth c 0 0 Q 8 D A ((km_w cA h0 q) a4') 10 [(0, .ref h0), (1, .int a0'), (2, .int a1'), (3, .int a2'), (4, .int a3')] []) (ke0 : ∀ (a0' : Int32) (a1' : Int32) (a2' : Int32) (a3' : km_S), o = .inr (a0', a1', a2', a3') → kj_J p l e rm_X8_laysRows s m args below meth c 0 0 Q 8 D A ((km_w cA h0 q) a3') 28 [(0, .ref h0), (1, .int a0'), (2, .int a1'), (3, .int a2')] []) : kj_J p l e rm_X8_laysRows s m args below meth c 0 0 Q 8 D A ((km_w cA h0 q) z) 10 [(0, .ref h0), (1, .int x1), (2, .int x2), (3, .int x3), (4, .int x4)] [] := by
  unfold fm_laysRows_10 at h
  refine kj_iload F dX8_laysRows_10 4 rfl ?_
  refine kj_iload_n F dX8_laysRows_12 1 rfl rfl ?_
  refine kj_icmp_ge F dX8_laysRows_13 (tgt := 28) (by decide) h (fun hc h => ?_) (fun hc h => ?_)
  · refine kj_J.sub [0, 1, 2, 3] rfl ?_
    exact ke0 x1 x2 x3 z (Option.some.inj h).symm
  · refine kj_iload_n F dX8_laysRows_16 3 rfl rfl ?_
    refine kj_iload_n F dX8_laysRows_17 2 rfl rfl ?_
    refine kj_iconst F dX8_laysRows_18 (v := 1) (by decide) ?_
    refine kj_iadd F dX8_laysRows_19 ?_
    refine kj_imul F dX8_laysRows_20 ?_
    refine kj_istore_n F dX8_laysRows_21 (lv' := [(3, .int (x3 * (x2 + (1 : Int32)))), (0, .ref h0), (1, .int x1), (2, .int x2), (4, .int x4)]) rfl (by decide) rfl ?_
    refine kj_iinc F dX8_laysRows_22 4 rfl (v := 1) (by decide) (by decide) (lv' := [(4, .int (x4 + 1)), (3, .int (x3 * (x2 + (1 : Int32)))), (0, .ref h0), (1, .int x1), (2, .int x2)]) rfl ?_
    refine kj_goto F dX8_laysRows_25 (tgt := 10) (by decide) ?_
    refine kj_J.sub [2, 3, 4, 1, 0] rfl ?_
    exact kb x1 x2 (x3 * (x2 + (1 : Int32))) (x4 + 1) z (Option.some.inj h).symm
theorem jlm_laysRows_10 {p : Program} {l : Launch} {e : Env} {s : State} {m : MethodId} {args : Array Value} {below : List Frame} {meth : Method} {c : Code} {A : Nat → Prop} {D : va_G} {cA : Nat → ClassId} {h0 : Nat} {q : Nat → Nat} {Q : State → Prop} (F : kj_Fx p s m args meth c cX8_laysRows 8 wsX8_laysRows RX8 none D (km_T cA) A) {n : Nat} {x1 : Int32} {x2 : Int32} {x3 : Int32} {x4 : Int32} {z : km_S} {r : (Int32 × Int32 × Int32 × km_S)} (h : lm_laysRows_10 n x1 x2 x3 x4 z = some r) (ke : kj_J p l e rm_X8_laysRows s m args below meth c 0 0 Q 8 D A ((km_w cA h0 q) (r.2.2.2)) 28 [(0, .ref h0), (1, .int (r.1)), (2, .int (r.2.1)), (3, .int (r.2.2.1))] []) : kj_J p l e rm_X8_laysRows s m args below meth c 0 0 Q 8 D A ((km_w cA h0 q) z) 10 [(0, .ref h0), (1, .int x1), (2, .int x2), (3, .int x3), (4, .int x4)] [] :=
  kj_it_J (Wh := fun (u : (Int32 × Int32 × Int32 × Int32 × km_S)) => kj_J p l e rm_X8_laysRows s m args below meth c 0 0 Q 8 D A ((km_w cA h0 q) (u.2.2.2.2)) 10 [(0, .ref h0), (1, .int (u.1)), (2, .int (u.2.1)), (3, .int (u.2.2.1)), (4, .int (u.2.2.2.1))] []) (We := fun r => kj_J p l e rm_X8_laysRows s m args below meth c 0 0 Q 8 D A ((km_w cA h0 q) (r.2.2.2)) 28 [(0, .ref h0), (1, .int (r.1)), (2, .int (r.2.1)), (3, .int (r.2.2.1))] []) (fun u o h kb ke => jm_laysRows_10 F h (fun a0' a1' a2' a3' a4' e => kb (a0', a1', a2', a3', a4') e) (fun a0' a1' a2' a3' e => ke (a0', a1', a2', a3') e)) n (x1, x2, x3, x4, z) r h ke
set_option maxRecDepth 20000 in
theorem jm_laysRows_133 {p : Program} {l : Launch} {e : Env} {s : State} {m : MethodId} {args : Array Value} {below : List Frame} {meth : Method} {c : Code} {A : Nat → Prop} {D : va_G} {cA : Nat → ClassId} {h0 : Nat} {q : Nat → Nat} {Q : State → Prop} (F : kj_Fx p s m args meth c cX8_laysRows 8 wsX8_laysRows RX8 none D (km_T cA) A) {x1 : Int32} {x2 : Int32} {x3 : Int32} {x4 : Int32} {x5 : Int32} {x7 : Int32} {t0 : Int32} {z : km_S} {o : ((Int32 × Int32 × Int32 × Int32 × Int32 × Int32 × Int32 × km_S) ⊕ (Int32 × Int32 × Int32 × Int32 × Int32 × km_S))} (h : fm_laysRows_133 x1 x2 x3 x4 x5 x7 t0 z = some o) (kb : ∀ (a0' : Int32) (a1' : Int32) (a2' : Int32) (a3' : Int32) (a4' : Int32) (a5' : Int32) (a6' : Int32) (a7' : km_S), o = .inl (a0', a1', a2', a3', a4', a5', a6', a7') → kj_J p l e rm_X8_laysRows s m args below meth c 0 0 Q 8 D A ((km_w cA h0 q) a7') 49 [(0, .ref h0), (1, .int a0'), (2, .int a1'), (3, .int a2'), (4, .int a3'), (5, .int a4'), (6, .int a5'), (7, .int a6')] []) (ke0 : ∀ (a0' : Int32) (a1' : Int32) (a2' : Int32) (a3' : Int32) (a4' : Int32) (a5' : km_S), o = .inr (a0', a1', a2', a3', a4', a5') → kj_J p l e rm_X8_laysRows s m args below meth c 0 0 Q 8 D A ((km_w cA h0 q) a5') 141 [(0, .ref h0), (1, .int a0'), (2, .int a1'), (3, .int a2'), (4, .int a3'), (6, .int a4')] []) : kj_J p l e rm_X8_laysRows s m args below meth c 0 0 Q 8 D A ((km_w cA h0 q) z) 133 [(0, .ref h0), (1, .int x1), (2, .int x2), (3, .int x3), (4, .int x4), (5, .int x5), (7, .int x7)] [.int t0] := by
  unfold fm_laysRows_133 at h
  refine kj_istore F dX8_laysRows_133 (lv' := [(6, .int t0), (0, .ref h0), (1, .int x1), (2, .int x2), (3, .int x3), (4, .int x4), (5, .int x5), (7, .int x7)]) (by decide) rfl ?_
  refine kj_iinc F dX8_laysRows_135 7 rfl (v := (-1)) (by decide) (by decide) (lv' := [(7, .int (x7 + (-1))), (6, .int t0), (0, .ref h0), (1, .int x1), (2, .int x2), (3, .int x3), (4, .int x4), (5, .int x5)]) rfl ?_
  refine kj_goto F dX8_laysRows_138 (tgt := 49) (by decide) ?_
  refine kj_J.sub [2, 3, 4, 5, 6, 7, 1, 0] rfl ?_
  exact kb x1 x2 x3 x4 x5 t0 (x7 + (-1)) z (Option.some.inj h).symm
set_option maxRecDepth 20000 in
theorem jm_laysRows_132 {p : Program} {l : Launch} {e : Env} {s : State} {m : MethodId} {args : Array Value} {below : List Frame} {meth : Method} {c : Code} {A : Nat → Prop} {D : va_G} {cA : Nat → ClassId} {h0 : Nat} {q : Nat → Nat} {Q : State → Prop} (F : kj_Fx p s m args meth c cX8_laysRows 8 wsX8_laysRows RX8 none D (km_T cA) A) {x1 : Int32} {x2 : Int32} {x3 : Int32} {x4 : Int32} {x5 : Int32} {x7 : Int32} {z : km_S} {o : ((Int32 × Int32 × Int32 × Int32 × Int32 × Int32 × Int32 × km_S) ⊕ (Int32 × Int32 × Int32 × Int32 × Int32 × km_S))} (h : fm_laysRows_132 x1 x2 x3 x4 x5 x7 z = some o) (kb : ∀ (a0' : Int32) (a1' : Int32) (a2' : Int32) (a3' : Int32) (a4' : Int32) (a5' : Int32) (a6' : Int32) (a7' : km_S), o = .inl (a0', a1', a2', a3', a4', a5', a6', a7') → kj_J p l e rm_X8_laysRows s m args below meth c 0 0 Q 8 D A ((km_w cA h0 q) a7') 49 [(0, .ref h0), (1, .int a0'), (2, .int a1'), (3, .int a2'), (4, .int a3'), (5, .int a4'), (6, .int a5'), (7, .int a6')] []) (ke0 : ∀ (a0' : Int32) (a1' : Int32) (a2' : Int32) (a3' : Int32) (a4' : Int32) (a5' : km_S), o = .inr (a0', a1', a2', a3', a4', a5') → kj_J p l e rm_X8_laysRows s m args below meth c 0 0 Q 8 D A ((km_w cA h0 q) a5') 141 [(0, .ref h0), (1, .int a0'), (2, .int a1'), (3, .int a2'), (4, .int a3'), (6, .int a4')] []) : kj_J p l e rm_X8_laysRows s m args below meth c 0 0 Q 8 D A ((km_w cA h0 q) z) 132 [(0, .ref h0), (1, .int x1), (2, .int x2), (3, .int x3), (4, .int x4), (5, .int x5), (7, .int x7)] [] := by
  unfold fm_laysRows_132 at h
  refine kj_iconst F dX8_laysRows_132 (v := 0) (by decide) ?_
  exact jm_laysRows_133 F h kb ke0
set_option maxRecDepth 20000 in
theorem jm_laysRows_128 {p : Program} {l : Launch} {e : Env} {s : State} {m : MethodId} {args : Array Value} {below : List Frame} {meth : Method} {c : Code} {A : Nat → Prop} {D : va_G} {cA : Nat → ClassId} {h0 : Nat} {q : Nat → Nat} {Q : State → Prop} (F : kj_Fx p s m args meth c cX8_laysRows 8 wsX8_laysRows RX8 none D (km_T cA) A) {x1 : Int32} {x2 : Int32} {x3 : Int32} {x4 : Int32} {x5 : Int32} {x7 : Int32} {z : km_S} {o : ((Int32 × Int32 × Int32 × Int32 × Int32 × Int32 × Int32 × km_S) ⊕ (Int32 × Int32 × Int32 × Int32 × Int32 × km_S))} (h : fm_laysRows_128 x1 x2 x3 x4 x5 x7 z = some o) (kb : ∀ (a0' : Int32) (a1' : Int32) (a2' : Int32) (a3' : Int32) (a4' : Int32) (a5' : Int32) (a6' : Int32) (a7' : km_S), o = .inl (a0', a1', a2', a3', a4', a5', a6', a7') → kj_J p l e rm_X8_laysRows s m args below meth c 0 0 Q 8 D A ((km_w cA h0 q) a7') 49 [(0, .ref h0), (1, .int a0'), (2, .int a1'), (3, .int a2'), (4, .int a3'), (5, .int a4'), (6, .int a5'), (7, .int a6')] []) (ke0 : ∀ (a0' : Int32) (a1' : Int32) (a2' : Int32) (a3' : Int32) (a4' : Int32) (a5' : km_S), o = .inr (a0', a1', a2', a3', a4', a5') → kj_J p l e rm_X8_laysRows s m args below meth c 0 0 Q 8 D A ((km_w cA h0 q) a5') 141 [(0, .ref h0), (1, .int a0'), (2, .int a1'), (3, .int a2'), (4, .int a3'), (6, .int a4')] []) : kj_J p l e rm_X8_laysRows s m args below meth c 0 0 Q 8 D A ((km_w cA h0 q) z) 128 [(0, .ref h0), (1, .int x1), (2, .int x2), (3, .int x3), (4, .int x4), (5, .int x5), (7, .int x7)] [] := by
  unfold fm_laysRows_128 at h
  refine kj_iconst F dX8_laysRows_128 (v := 1) (by decide) ?_
  refine kj_goto F dX8_laysRows_129 (tgt := 133) (by decide) ?_
  exact jm_laysRows_133 F h kb ke0
set_option maxRecDepth 20000 in
theorem jm_laysRows_49 {p : Program} {l : Launch} {e : Env} {s : State} {m : MethodId} {args : Array Value} {below : List Frame} {meth : Method} {c : Code} {A : Nat → Prop} {D : va_G} {cA : Nat → ClassId} {h0 : Nat} {q : Nat → Nat} {Q : State → Prop} (F : kj_Fx p s m args meth c cX8_laysRows 8 wsX8_laysRows RX8 none D (km_T cA) A) {x1 : Int32} {x2 : Int32} {x3 : Int32} {x4 : Int32} {x5 : Int32} {x6 : Int32} {x7 : Int32} {z : km_S} {o : ((Int32 × Int32 × Int32 × Int32 × Int32 × Int32 × Int32 × km_S) ⊕ (Int32 × Int32 × Int32 × Int32 × Int32 × km_S))} (h : fm_laysRows_49 x1 x2 x3 x4 x5 x6 x7 z = some o) (kb : ∀ (a0' : Int32) (a1' : Int32) (a2' : Int32) (a3' : Int32) (a4' : Int32) (a5' : Int32) (a6' : Int32) (a7' : km_S), o = .inl (a0', a1', a2', a3', a4', a5', a6', a7') → kj_J p l e rm_X8_laysRows s m args below meth c 0 0 Q 8 D A ((km_w cA h0 q) a7') 49 [(0, .ref h0), (1, .int a0'), (2, .int a1'), (3, .int a2'), (4, .int a3'), (5, .int a4'), (6, .int a5'), (7, .int a6')] []) (ke0 : ∀ (a0' : Int32) (a1' : Int32) (a2' : Int32) (a3' : Int32) (a4' : Int32) (a5' : km_S), o = .inr (a0', a1', a2', a3', a4', a5') → kj_J p l e rm_X8_laysRows s m args below meth c 0 0 Q 8 D A ((km_w cA h0 q) a5') 141 [(0, .ref h0), (1, .int a0'), (2, .int a1'), (3, .int a2'), (4, .int a3'), (6, .int a4')] []) : kj_J p l e rm_X8_laysRows s m args below meth c 0 0 Q 8 D A ((km_w cA h0 q) z) 49 [(0, .ref h0), (1, .int x1), (2, .int x2), (3, .int x3), (4, .int x4), (5, .int x5), (6, .int x6), (7, .int x7)] [] := by
  unfold fm_laysRows_49 at h
  refine kj_iload F dX8_laysRows_49 7 rfl ?_
  refine kj_if_lt F dX8_laysRows_51 (tgt := 141) (by decide) h (fun hc h => ?_) (fun hc h => ?_)
  · refine kj_J.sub [0, 1, 2, 3, 4, 6] rfl ?_
    exact ke0 x1 x2 x3 x4 x6 z (Option.some.inj h).symm
  · refine kj_aload_n F dX8_laysRows_54 0 rfl rfl ?_
    refine km_get F dX8_laysRows_55 in_X8_laysRows 13 (by decide) (by decide +kernel) rfl rfl ?_
    refine kj_iconst F dX8_laysRows_58 (v := 4) (by decide) ?_
    refine kj_aload_n F dX8_laysRows_59 0 rfl rfl ?_
    refine km_get F dX8_laysRows_60 in_X8_laysRows 14 (by decide) (by decide +kernel) rfl rfl ?_
    refine kj_imul F dX8_laysRows_63 ?_
    refine kj_iload F dX8_laysRows_64 7 rfl ?_
    refine kj_iadd F dX8_laysRows_66 ?_
    refine kj_iload F dX8_laysRows_67 5 rfl ?_
    refine kj_iload_n F dX8_laysRows_69 2 rfl rfl ?_
    refine kj_iconst F dX8_laysRows_70 (v := 1) (by decide) ?_
    refine kj_iadd F dX8_laysRows_71 ?_
    refine kj_irem F dX8_laysRows_72 h (fun h => ?_)
    refine km_iast F dX8_laysRows_73 6 (by decide) h (fun z1 h => ?_)
    refine kj_iload F dX8_laysRows_74 5 rfl ?_
    refine kj_iload_n F dX8_laysRows_76 2 rfl rfl ?_
    refine kj_iconst F dX8_laysRows_77 (v := 1) (by decide) ?_
    refine kj_iadd F dX8_laysRows_78 ?_
    refine kj_idiv F dX8_laysRows_79 h (fun h => ?_)
    refine kj_istore F dX8_laysRows_80 (lv' := [(5, .int (x5 / (x2 + (1 : Int32)))), (0, .ref h0), (1, .int x1), (2, .int x2), (3, .int x3), (4, .int x4), (6, .int x6), (7, .int x7)]) (by decide) rfl ?_
    refine kj_iload F dX8_laysRows_82 6 rfl ?_
    refine kj_if_eq F dX8_laysRows_84 (tgt := 132) (by decide) h (fun hc h => ?_) (fun hc h => ?_)
    · refine kj_J.sub [1, 2, 3, 4, 5, 0, 7] rfl ?_
      exact jm_laysRows_132 F h kb ke0
    · refine kj_iload F dX8_laysRows_87 7 rfl ?_
      refine kj_iload_n F dX8_laysRows_89 2 rfl rfl ?_
      refine kj_iconst F dX8_laysRows_90 (v := 1) (by decide) ?_
      refine kj_isub F dX8_laysRows_91 ?_
      refine kj_icmp_eq F dX8_laysRows_92 (tgt := 128) (by decide) h (fun hc h => ?_) (fun hc h => ?_)
      · refine kj_J.sub [1, 2, 3, 4, 5, 0, 7] rfl ?_
        exact jm_laysRows_128 F h kb ke0
      · refine kj_aload_n F dX8_laysRows_95 1 rfl rfl ?_
        refine km_get F dX8_laysRows_96 in_X8_laysRows 13 (by decide) (by decide +kernel) rfl rfl ?_
        refine kj_iconst F dX8_laysRows_99 (v := 4) (by decide) ?_
        refine kj_aload_n F dX8_laysRows_100 1 rfl rfl ?_
        refine km_get F dX8_laysRows_101 in_X8_laysRows 14 (by decide) (by decide +kernel) rfl rfl ?_
        refine kj_imul F dX8_laysRows_104 ?_
        refine kj_iload F dX8_laysRows_105 7 rfl ?_
        refine kj_iadd F dX8_laysRows_107 ?_
        refine km_iald F dX8_laysRows_108 6 (by decide) h (fun v2 h => ?_)
        refine kj_aload_n F dX8_laysRows_109 1 rfl rfl ?_
        refine km_get F dX8_laysRows_110 in_X8_laysRows 13 (by decide) (by decide +kernel) rfl rfl ?_
        refine kj_iconst F dX8_laysRows_113 (v := 4) (by decide) ?_
        refine kj_aload_n F dX8_laysRows_114 1 rfl rfl ?_
        refine km_get F dX8_laysRows_115 in_X8_laysRows 14 (by decide) (by decide +kernel) rfl rfl ?_
        refine kj_imul F dX8_laysRows_118 ?_
        refine kj_iload F dX8_laysRows_119 7 rfl ?_
        refine kj_iadd F dX8_laysRows_121 ?_
        refine kj_iconst F dX8_laysRows_122 (v := 1) (by decide) ?_
        refine kj_iadd F dX8_laysRows_123 ?_
        refine km_iald F dX8_laysRows_124 6 (by decide) h (fun v3 h => ?_)
        refine kj_icmp_lt F dX8_laysRows_125 (tgt := 132) (by decide) h (fun hc h => ?_) (fun hc h => ?_)
        · refine kj_J.sub [1, 2, 3, 4, 5, 0, 7] rfl ?_
          exact jm_laysRows_132 F h kb ke0
        · refine kj_J.sub [1, 2, 3, 4, 5, 0, 7] rfl ?_
          exact jm_laysRows_128 F h kb ke0
theorem jlm_laysRows_49 {p : Program} {l : Launch} {e : Env} {s : State} {m : MethodId} {args : Array Value} {below : List Frame} {meth : Method} {c : Code} {A : Nat → Prop} {D : va_G} {cA : Nat → ClassId} {h0 : Nat} {q : Nat → Nat} {Q : State → Prop} (F : kj_Fx p s m args meth c cX8_laysRows 8 wsX8_laysRows RX8 none D (km_T cA) A) {n : Nat} {x1 : Int32} {x2 : Int32} {x3 : Int32} {x4 : Int32} {x5 : Int32} {x6 : Int32} {x7 : Int32} {z : km_S} {r : (Int32 × Int32 × Int32 × Int32 × Int32 × km_S)} (h : lm_laysRows_49 n x1 x2 x3 x4 x5 x6 x7 z = some r) (ke : kj_J p l e rm_X8_laysRows s m args below meth c 0 0 Q 8 D A ((km_w cA h0 q) (r.2.2.2.2.2)) 141 [(0, .ref h0), (1, .int (r.1)), (2, .int (r.2.1)), (3, .int (r.2.2.1)), (4, .int (r.2.2.2.1)), (6, .int (r.2.2.2.2.1))] []) : kj_J p l e rm_X8_laysRows s m args below meth c 0 0 Q 8 D A ((km_w cA h0 q) z) 49 [(0, .ref h0), (1, .int x1), (2, .int x2), (3, .int x3), (4, .int x4), (5, .int x5), (6, .int x6), (7, .int x7)] [] :=
  kj_it_J (Wh := fun (u : (Int32 × Int32 × Int32 × Int32 × Int32 × Int32 × Int32 × km_S)) => kj_J p l e rm_X8_laysRows s m args below meth c 0 0 Q 8 D A ((km_w cA h0 q) (u.2.2.2.2.2.2.2)) 49 [(0, .ref h0), (1, .int (u.1)), (2, .int (u.2.1)), (3, .int (u.2.2.1)), (4, .int (u.2.2.2.1)), (5, .int (u.2.2.2.2.1)), (6, .int (u.2.2.2.2.2.1)), (7, .int (u.2.2.2.2.2.2.1))] []) (We := fun r => kj_J p l e rm_X8_laysRows s m args below meth c 0 0 Q 8 D A ((km_w cA h0 q) (r.2.2.2.2.2)) 141 [(0, .ref h0), (1, .int (r.1)), (2, .int (r.2.1)), (3, .int (r.2.2.1)), (4, .int (r.2.2.2.1)), (6, .int (r.2.2.2.2.1))] []) (fun u o h kb ke => jm_laysRows_49 F h (fun a0' a1' a2' a3' a4' a5' a6' a7' e => kb (a0', a1', a2', a3', a4', a5', a6', a7') e) (fun a0' a1' a2' a3' a4' a5' e => ke (a0', a1', a2', a3', a4', a5') e)) n (x1, x2, x3, x4, x5, x6, x7, z) r h ke
set_option maxRecDepth 20000 in
theorem jm_laysRows_156 {p : Program} {l : Launch} {e : Env} {s : State} {m : MethodId} {args : Array Value} {below : List Frame} {meth : Method} {c : Code} {A : Nat → Prop} {D : va_G} {cA : Nat → ClassId} {h0 : Nat} {q : Nat → Nat} {Q : State → Prop} (F : kj_Fx p s m args meth c cX8_laysRows 8 wsX8_laysRows RX8 none D (km_T cA) A) {x1 : Int32} {x2 : Int32} {x3 : Int32} {x4 : Int32} {t0 : Int32} {t1 : Int32} {z : km_S} {o : ((Int32 × Int32 × Int32 × Int32 × km_S) ⊕ km_S)} (h : fm_laysRows_156 x1 x2 x3 x4 t0 t1 z = some o) (kb : ∀ (a0' : Int32) (a1' : Int32) (a2' : Int32) (a3' : Int32) (a4' : km_S), o = .inl (a0', a1', a2', a3', a4') → kj_J p l e rm_X8_laysRows s m args below meth c 0 0 Q 8 D A ((km_w cA h0 q) a4') 31 [(0, .ref h0), (1, .int a0'), (2, .int a1'), (3, .int a2'), (4, .int a3')] []) (ke0 : ∀ (a0' : km_S), o = .inr a0' → kj_J p l e rm_X8_laysRows s m args below meth c 0 0 Q 8 D A ((km_w cA h0 q) a0') 166 [] []) : kj_J p l e rm_X8_laysRows s m args below meth c 0 0 Q 8 D A ((km_w cA h0 q) z) 156 [(0, .ref h0), (1, .int x1), (2, .int x2), (3, .int x3), (4, .int x4)] [.int t0, .int t1, .ref h0] := by
  unfold fm_laysRows_156 at h
  refine kj_iadd F dX8_laysRows_156 ?_
  refine km_pt F dX8_laysRows_157 in_X8_laysRows 14 5 (by decide) (by decide +kernel) rfl rfl (by decide +kernel) (km_put5 cA h0 q _ _) h (fun z1 h => ?_)
  refine kj_iinc F dX8_laysRows_160 4 rfl (v := 1) (by decide) (by decide) (lv' := [(4, .int (x4 + 1)), (0, .ref h0), (1, .int x1), (2, .int x2), (3, .int x3)]) rfl ?_
  refine kj_goto F dX8_laysRows_163 (tgt := 31) (by decide) ?_
  refine kj_J.sub [1, 2, 3, 4, 0] rfl ?_
  exact kb x1 x2 x3 (x4 + 1) z1 (Option.some.inj h).symm
set_option maxRecDepth 20000 in
theorem jm_laysRows_31 {p : Program} {l : Launch} {e : Env} {s : State} {m : MethodId} {args : Array Value} {below : List Frame} {meth : Method} {c : Code} {A : Nat → Prop} {D : va_G} {cA : Nat → ClassId} {h0 : Nat} {q : Nat → Nat} {Q : State → Prop} (F : kj_Fx p s m args meth c cX8_laysRows 8 wsX8_laysRows RX8 none D (km_T cA) A) {x1 : Int32} {x2 : Int32} {x3 : Int32} {x4 : Int32} {z : km_S} {o : ((Int32 × Int32 × Int32 × Int32 × km_S) ⊕ km_S)} (h : fm_laysRows_31 x1 x2 x3 x4 z = some o) (kb : ∀ (a0' : Int32) (a1' : Int32) (a2' : Int32) (a3' : Int32) (a4' : km_S), o = .inl (a0', a1', a2', a3', a4') → kj_J p l e rm_X8_laysRows s m args below meth c 0 0 Q 8 D A ((km_w cA h0 q) a4') 31 [(0, .ref h0), (1, .int a0'), (2, .int a1'), (3, .int a2'), (4, .int a3')] []) (ke0 : ∀ (a0' : km_S), o = .inr a0' → kj_J p l e rm_X8_laysRows s m args below meth c 0 0 Q 8 D A ((km_w cA h0 q) a0') 166 [] []) : kj_J p l e rm_X8_laysRows s m args below meth c 0 0 Q 8 D A ((km_w cA h0 q) z) 31 [(0, .ref h0), (1, .int x1), (2, .int x2), (3, .int x3), (4, .int x4)] [] := by
  unfold fm_laysRows_31 at h
  refine kj_iload F dX8_laysRows_31 4 rfl ?_
  refine kj_iload_n F dX8_laysRows_33 3 rfl rfl ?_
  refine kj_icmp_ge F dX8_laysRows_34 (tgt := 166) (by decide) h (fun hc h => ?_) (fun hc h => ?_)
  · refine kj_J.sub [] rfl ?_
    exact ke0 z (Option.some.inj h).symm
  · refine kj_iload F dX8_laysRows_37 4 rfl ?_
    refine kj_istore F dX8_laysRows_39 (lv' := [(5, .int x4), (0, .ref h0), (1, .int x1), (2, .int x2), (3, .int x3), (4, .int x4)]) (by decide) rfl ?_
    refine kj_iconst F dX8_laysRows_41 (v := 1) (by decide) ?_
    refine kj_istore F dX8_laysRows_42 (lv' := [(6, .int (1 : Int32)), (5, .int x4), (0, .ref h0), (1, .int x1), (2, .int x2), (3, .int x3), (4, .int x4)]) (by decide) rfl ?_
    refine kj_iload_n F dX8_laysRows_44 3 rfl rfl ?_
    refine kj_iconst F dX8_laysRows_45 (v := 1) (by decide) ?_
    refine kj_isub F dX8_laysRows_46 ?_
    refine kj_istore F dX8_laysRows_47 (lv' := [(7, .int (x1 - (1 : Int32))), (6, .int (1 : Int32)), (5, .int x4), (0, .ref h0), (1, .int x1), (2, .int x2), (3, .int x3), (4, .int x4)]) (by decide) rfl ?_
    refine kj_J.sub [3, 4, 5, 6, 7, 2, 1, 0] rfl ?_
    refine kj_bn h (fun r1 h1 h => ?_)
    refine jlm_laysRows_49 F h1 ?_
    refine kj_aload_n F dX8_laysRows_141 0 rfl rfl ?_
    refine kj_dup F dX8_laysRows_142 rfl ?_
    refine km_get F dX8_laysRows_143 in_X8_laysRows 14 (by decide) (by decide +kernel) rfl rfl ?_
    refine kj_iload F dX8_laysRows_146 5 rfl ?_
    refine kj_if_eq F dX8_laysRows_148 (tgt := 155) (by decide) h (fun hc h => ?_) (fun hc h => ?_)
    · refine kj_iconst F dX8_laysRows_155 (v := 0) (by decide) ?_
      refine kj_J.sub [0, 1, 2, 3, 4] rfl ?_
      exact jm_laysRows_156 F h kb ke0
    · refine kj_iconst F dX8_laysRows_151 (v := 1) (by decide) ?_
      refine kj_goto F dX8_laysRows_152 (tgt := 156) (by decide) ?_
      refine kj_J.sub [0, 1, 2, 3, 4] rfl ?_
      exact jm_laysRows_156 F h kb ke0
theorem jlm_laysRows_31 {p : Program} {l : Launch} {e : Env} {s : State} {m : MethodId} {args : Array Value} {below : List Frame} {meth : Method} {c : Code} {A : Nat → Prop} {D : va_G} {cA : Nat → ClassId} {h0 : Nat} {q : Nat → Nat} {Q : State → Prop} (F : kj_Fx p s m args meth c cX8_laysRows 8 wsX8_laysRows RX8 none D (km_T cA) A) {n : Nat} {x1 : Int32} {x2 : Int32} {x3 : Int32} {x4 : Int32} {z : km_S} {r : km_S} (h : lm_laysRows_31 n x1 x2 x3 x4 z = some r) (ke : kj_J p l e rm_X8_laysRows s m args below meth c 0 0 Q 8 D A ((km_w cA h0 q) (r)) 166 [] []) : kj_J p l e rm_X8_laysRows s m args below meth c 0 0 Q 8 D A ((km_w cA h0 q) z) 31 [(0, .ref h0), (1, .int x1), (2, .int x2), (3, .int x3), (4, .int x4)] [] :=
  kj_it_J (Wh := fun (u : (Int32 × Int32 × Int32 × Int32 × km_S)) => kj_J p l e rm_X8_laysRows s m args below meth c 0 0 Q 8 D A ((km_w cA h0 q) (u.2.2.2.2)) 31 [(0, .ref h0), (1, .int (u.1)), (2, .int (u.2.1)), (3, .int (u.2.2.1)), (4, .int (u.2.2.2.1))] []) (We := fun r => kj_J p l e rm_X8_laysRows s m args below meth c 0 0 Q 8 D A ((km_w cA h0 q) (r)) 166 [] []) (fun u o h kb ke => jm_laysRows_31 F h (fun a0' a1' a2' a3' a4' e => kb (a0', a1', a2', a3', a4') e) (fun a0' e => ke a0' e)) n (x1, x2, x3, x4, z) r h ke
set_option maxRecDepth 20000 in
theorem jm_laysRows {p : Program} {l : Launch} {e : Env} {s : State} {m : MethodId} {args : Array Value} {below : List Frame} {meth : Method} {c : Code} {A : Nat → Prop} {D : va_G} {cA : Nat → ClassId} {h0 : Nat} {q : Nat → Nat} (F : kj_Fx p s m args meth c cX8_laysRows 8 wsX8_laysRows RX8 none D (km_T cA) A) {x1 : Int32} {x2 : Int32} {z : km_S} {o : km_S} (h : fm_laysRows x1 x2 z = some o) : kj_J p l e rm_X8_laysRows s m args below meth c 0 0 (MQ below (kj_Qv D (km_T cA) A (km_w cA h0 q) o) args s 0 0 A) 8 D A ((km_w cA h0 q) z) 0 [(0, .ref h0), (1, .int x1), (2, .int x2)] [] := by
  unfold fm_laysRows at h
  refine kj_aload_n F dX8_laysRows_0 0 rfl rfl ?_
  refine kj_iconst F dX8_laysRows_1 (v := 0) (by decide) ?_
  refine km_pt F dX8_laysRows_2 in_X8_laysRows 14 5 (by decide) (by decide +kernel) rfl rfl (by decide +kernel) (km_put5 cA h0 q _ _) h (fun z1 h => ?_)
  refine kj_iconst F dX8_laysRows_5 (v := 1) (by decide) ?_
  refine kj_istore_n F dX8_laysRows_6 (lv' := [(3, .int (1 : Int32)), (0, .ref h0), (1, .int x1), (2, .int x2)]) rfl (by decide) rfl ?_
  refine kj_iconst F dX8_laysRows_7 (v := 0) (by decide) ?_
  refine kj_istore F dX8_laysRows_8 (lv' := [(4, .int (0 : Int32)), (3, .int (1 : Int32)), (0, .ref h0), (1, .int x1), (2, .int x2)]) (by decide) rfl ?_
  refine kj_J.sub [2, 3, 4, 1, 0] rfl ?_
  refine kj_bn h (fun r2 h1 h => ?_)
  refine jlm_laysRows_10 F h1 ?_
  refine kj_iconst F dX8_laysRows_28 (v := 0) (by decide) ?_
  refine kj_istore F dX8_laysRows_29 (lv' := [(4, .int (0 : Int32)), (0, .ref h0), (1, .int (r2.1)), (2, .int (r2.2.1)), (3, .int (r2.2.2.1))]) (by decide) rfl ?_
  refine kj_J.sub [1, 2, 3, 4, 0] rfl ?_
  refine kj_bn h (fun r3 h1 h => ?_)
  refine jlm_laysRows_31 F h1 ?_
  exact kj_vret F dX8_laysRows_166 h
theorem cm_laysRows {l : Launch} {D : va_G} {cA : Nat → ClassId} {h0 : Nat} {q : Nat → Nat} {x1 : Int32} {x2 : Int32} {z : km_S} {o : km_S} (h : fm_laysRows x1 x2 z = some o) : kj_Mv l yX8_laysRows wsX8_laysRows rm_X8_laysRows D (km_T cA) (km_w cA h0 q) z [.ref h0, .int x1, .int x2] o :=
  fun sz => kj_start (by decide) rfl (Nat.le_of_ble_eq_true rfl) rfl fun p e s m args below meth c hsz F => jm_laysRows F h
/-! X8_lays -/
abbrev rm_X8_lays : Room := { frames := 1, cells := 0, slots := 0, locals := 27 }
theorem in_X8_lays : ∀ w ∈ u_ws RX8 TX8 29, w ∈ wsX8_lays := by decide +kernel
def fm_lays_9 (x1 : Int32) (x2 : Int32) (x4 : Int32) (z : km_S) : Option ((Int32 × Int32 × Int32 × km_S) ⊕ (Int32 × Int32 × km_S)) :=
  if (z.1 5) ≤ x4 then
  some (.inr (x1, x2, z))
  else
  (km_wr z 7 ((5 : Int32) * x4) (1 : Int32)).bind fun z1 =>
  some (.inl (x1, x2, (x4 + 1), z1))
def lm_lays_9 (n : Nat) (x1 : Int32) (x2 : Int32) (x4 : Int32) (z : km_S) : Option (Int32 × Int32 × km_S) :=
  kj_it (fun (s : (Int32 × Int32 × Int32 × km_S)) => fm_lays_9 (s.1) (s.2.1) (s.2.2.1) (s.2.2.2)) n (x1, x2, x4, z)
def fm_lays_100 (x1 : Int32) (x2 : Int32) (x4 : Int32) (x5 : Int32) (x7 : Int32) (t0 : Int32) (t1 : Int32) (z : km_S) : Option ((Int32 × Int32 × Int32 × Int32 × Int32 × Int32 × km_S) ⊕ (Int32 × Int32 × Int32 × Int32 × Int32 × km_S)) :=
  some (.inl (x1, x2, x4, x5, (t1 + t0), (x7 + 1), z))
def fm_lays_61 (x1 : Int32) (x2 : Int32) (x4 : Int32) (x5 : Int32) (x6 : Int32) (x7 : Int32) (z : km_S) : Option ((Int32 × Int32 × Int32 × Int32 × Int32 × Int32 × km_S) ⊕ (Int32 × Int32 × Int32 × Int32 × Int32 × km_S)) :=
  if x5 < x7 then
  some (.inr (x1, x2, x4, x5, x6, z))
  else
  (fm_isUnder x7 x5 x2 z).bind fun o1 =>
  if (o1.1) = 0 then
  fm_lays_100 x1 x2 x4 x5 x7 (0 : Int32) x6 (o1.2)
  else
  (km_rd (o1.2) 7 ((((5 : Int32) * x7) + x4) - (1 : Int32))).bind fun v2 =>
  fm_lays_100 x1 x2 x4 x5 x7 v2 x6 (o1.2)
def lm_lays_61 (n : Nat) (x1 : Int32) (x2 : Int32) (x4 : Int32) (x5 : Int32) (x6 : Int32) (x7 : Int32) (z : km_S) : Option (Int32 × Int32 × Int32 × Int32 × Int32 × km_S) :=
  kj_it (fun (s : (Int32 × Int32 × Int32 × Int32 × Int32 × Int32 × km_S)) => fm_lays_61 (s.1) (s.2.1) (s.2.2.1) (s.2.2.2.1) (s.2.2.2.2.1) (s.2.2.2.2.2.1) (s.2.2.2.2.2.2)) n (x1, x2, x4, x5, x6, x7, z)
def fm_lays_46 (x1 : Int32) (x2 : Int32) (x4 : Int32) (x5 : Int32) (z : km_S) : Option ((Int32 × Int32 × Int32 × Int32 × km_S) ⊕ (Int32 × Int32 × Int32 × km_S)) :=
  if (z.1 5) ≤ x5 then
  some (.inr (x1, x2, x4, z))
  else
  (lm_lays_61 5000 x1 x2 x4 x5 (0 : Int32) (0 : Int32) z).bind fun r1 =>
  (km_wr (r1.2.2.2.2.2) 7 (((5 : Int32) * (r1.2.2.2.1)) + (r1.2.2.1)) (r1.2.2.2.2.1)).bind fun z2 =>
  some (.inl ((r1.1), (r1.2.1), (r1.2.2.1), ((r1.2.2.2.1) + 1), z2))
def lm_lays_46 (n : Nat) (x1 : Int32) (x2 : Int32) (x4 : Int32) (x5 : Int32) (z : km_S) : Option (Int32 × Int32 × Int32 × km_S) :=
  kj_it (fun (s : (Int32 × Int32 × Int32 × Int32 × km_S)) => fm_lays_46 (s.1) (s.2.1) (s.2.2.1) (s.2.2.2.1) (s.2.2.2.2)) n (x1, x2, x4, x5, z)
def fm_lays_37 (x1 : Int32) (x2 : Int32) (x4 : Int32) (z : km_S) : Option ((Int32 × Int32 × Int32 × km_S) ⊕ (Int32 × km_S)) :=
  if x1 < x4 then
  some (.inr (x1, z))
  else
  (lm_lays_46 5000 x1 x2 x4 (0 : Int32) z).bind fun r1 =>
  some (.inl ((r1.1), (r1.2.1), ((r1.2.2.1) + 1), (r1.2.2.2)))
def lm_lays_37 (n : Nat) (x1 : Int32) (x2 : Int32) (x4 : Int32) (z : km_S) : Option (Int32 × km_S) :=
  kj_it (fun (s : (Int32 × Int32 × Int32 × km_S)) => fm_lays_37 (s.1) (s.2.1) (s.2.2.1) (s.2.2.2)) n (x1, x2, x4, z)
def fm_lays (x1 : Int32) (x2 : Int32) (x3 : Int32) (z : km_S) : Option (Int32 × km_S) :=
  (fm_laysRows x2 x3 z).bind fun o1 =>
  (lm_lays_9 5000 x1 x2 (0 : Int32) o1).bind fun r2 =>
  (lm_lays_37 5000 (r2.1) (r2.2.1) (1 : Int32) (r2.2.2)).bind fun r3 =>
  (km_rd (r3.2) 7 (((5 : Int32) * (((r3.2).1 5) - (1 : Int32))) + (r3.1))).bind fun v4 =>
  some (v4, (r3.2))
set_option maxRecDepth 20000 in
theorem jm_lays_9 {p : Program} {l : Launch} {e : Env} {s : State} {m : MethodId} {args : Array Value} {below : List Frame} {meth : Method} {c : Code} {A : Nat → Prop} {D : va_G} {cA : Nat → ClassId} {h0 : Nat} {q : Nat → Nat} {Q : State → Prop} (F : kj_Fx p s m args meth c cX8_lays 8 wsX8_lays RX8 (some .int) D (km_T cA) A) {x1 : Int32} {x2 : Int32} {x4 : Int32} {z : km_S} {o : ((Int32 × Int32 × Int32 × km_S) ⊕ (Int32 × Int32 × km_S))} (h : fm_lays_9 x1 x2 x4 z = some o) (kb : ∀ (a0' : Int32) (a1' : Int32) (a2' : Int32) (a3' : km_S), o = .inl (a0', a1', a2', a3') → kj_J p l e rm_X8_lays s m args below meth c 0 0 Q 8 D A ((km_w cA h0 q) a3') 9 [(0, .ref h0), (1, .int a0'), (2, .int a1'), (4, .int a2')] []) (ke0 : ∀ (a0' : Int32) (a1' : Int32) (a2' : km_S), o = .inr (a0', a1', a2') → kj_J p l e rm_X8_lays s m args below meth c 0 0 Q 8 D A ((km_w cA h0 q) a2') 34 [(0, .ref h0), (1, .int a0'), (2, .int a1')] []) : kj_J p l e rm_X8_lays s m args below meth c 0 0 Q 8 D A ((km_w cA h0 q) z) 9 [(0, .ref h0), (1, .int x1), (2, .int x2), (4, .int x4)] [] := by
  unfold fm_lays_9 at h
  refine kj_iload F dX8_lays_9 3 rfl ?_
  refine kj_aload_n F dX8_lays_11 0 rfl rfl ?_
  refine km_get F dX8_lays_12 in_X8_lays 14 (by decide) (by decide +kernel) rfl rfl ?_
  refine kj_icmp_ge F dX8_lays_15 (tgt := 34) (by decide) h (fun hc h => ?_) (fun hc h => ?_)
  · refine kj_J.sub [0, 1, 2] rfl ?_
    exact ke0 x1 x2 z (Option.some.inj h).symm
  · refine kj_aload_n F dX8_lays_18 0 rfl rfl ?_
    refine km_get F dX8_lays_19 in_X8_lays 15 (by decide) (by decide +kernel) rfl rfl ?_
    refine kj_iconst F dX8_lays_22 (v := 5) (by decide) ?_
    refine kj_iload F dX8_lays_23 3 rfl ?_
    refine kj_imul F dX8_lays_25 ?_
    refine kj_iconst F dX8_lays_26 (v := 1) (by decide) ?_
    refine km_iast F dX8_lays_27 7 (by decide) h (fun z1 h => ?_)
    refine kj_iinc F dX8_lays_28 3 rfl (v := 1) (by decide) (by decide) (lv' := [(4, .int (x4 + 1)), (0, .ref h0), (1, .int x1), (2, .int x2)]) rfl ?_
    refine kj_goto F dX8_lays_31 (tgt := 9) (by decide) ?_
    refine kj_J.sub [1, 2, 3, 0] rfl ?_
    exact kb x1 x2 (x4 + 1) z1 (Option.some.inj h).symm
theorem jlm_lays_9 {p : Program} {l : Launch} {e : Env} {s : State} {m : MethodId} {args : Array Value} {below : List Frame} {meth : Method} {c : Code} {A : Nat → Prop} {D : va_G} {cA : Nat → ClassId} {h0 : Nat} {q : Nat → Nat} {Q : State → Prop} (F : kj_Fx p s m args meth c cX8_lays 8 wsX8_lays RX8 (some .int) D (km_T cA) A) {n : Nat} {x1 : Int32} {x2 : Int32} {x4 : Int32} {z : km_S} {r : (Int32 × Int32 × km_S)} (h : lm_lays_9 n x1 x2 x4 z = some r) (ke : kj_J p l e rm_X8_lays s m args below meth c 0 0 Q 8 D A ((km_w cA h0 q) (r.2.2)) 34 [(0, .ref h0), (1, .int (r.1)), (2, .int (r.2.1))] []) : kj_J p l e rm_X8_lays s m args below meth c 0 0 Q 8 D A ((km_w cA h0 q) z) 9 [(0, .ref h0), (1, .int x1), (2, .int x2), (4, .int x4)] [] :=
  kj_it_J (Wh := fun (u : (Int32 × Int32 × Int32 × km_S)) => kj_J p l e rm_X8_lays s m args below meth c 0 0 Q 8 D A ((km_w cA h0 q) (u.2.2.2)) 9 [(0, .ref h0), (1, .int (u.1)), (2, .int (u.2.1)), (4, .int (u.2.2.1))] []) (We := fun r => kj_J p l e rm_X8_lays s m args below meth c 0 0 Q 8 D A ((km_w cA h0 q) (r.2.2)) 34 [(0, .ref h0), (1, .int (r.1)), (2, .int (r.2.1))] []) (fun u o h kb ke => jm_lays_9 F h (fun a0' a1' a2' a3' e => kb (a0', a1', a2', a3') e) (fun a0' a1' a2' e => ke (a0', a1', a2') e)) n (x1, x2, x4, z) r h ke
set_option maxRecDepth 20000 in
theorem jm_lays_100 {p : Program} {l : Launch} {e : Env} {s : State} {m : MethodId} {args : Array Value} {below : List Frame} {meth : Method} {c : Code} {A : Nat → Prop} {D : va_G} {cA : Nat → ClassId} {h0 : Nat} {q : Nat → Nat} {Q : State → Prop} (F : kj_Fx p s m args meth c cX8_lays 8 wsX8_lays RX8 (some .int) D (km_T cA) A) {x1 : Int32} {x2 : Int32} {x4 : Int32} {x5 : Int32} {x7 : Int32} {t0 : Int32} {t1 : Int32} {z : km_S} {o : ((Int32 × Int32 × Int32 × Int32 × Int32 × Int32 × km_S) ⊕ (Int32 × Int32 × Int32 × Int32 × Int32 × km_S))} (h : fm_lays_100 x1 x2 x4 x5 x7 t0 t1 z = some o) (kb : ∀ (a0' : Int32) (a1' : Int32) (a2' : Int32) (a3' : Int32) (a4' : Int32) (a5' : Int32) (a6' : km_S), o = .inl (a0', a1', a2', a3', a4', a5', a6') → kj_J p l e rm_X8_lays s m args below meth c 0 0 Q 8 D A ((km_w cA h0 q) a6') 61 [(0, .ref h0), (1, .int a0'), (2, .int a1'), (4, .int a2'), (5, .int a3'), (6, .int a4'), (7, .int a5')] []) (ke0 : ∀ (a0' : Int32) (a1' : Int32) (a2' : Int32) (a3' : Int32) (a4' : Int32) (a5' : km_S), o = .inr (a0', a1', a2', a3', a4', a5') → kj_J p l e rm_X8_lays s m args below meth c 0 0 Q 8 D A ((km_w cA h0 q) a5') 109 [(0, .ref h0), (1, .int a0'), (2, .int a1'), (4, .int a2'), (5, .int a3'), (6, .int a4')] []) : kj_J p l e rm_X8_lays s m args below meth c 0 0 Q 8 D A ((km_w cA h0 q) z) 100 [(0, .ref h0), (1, .int x1), (2, .int x2), (4, .int x4), (5, .int x5), (7, .int x7)] [.int t0, .int t1] := by
  unfold fm_lays_100 at h
  refine kj_iadd F dX8_lays_100 ?_
  refine kj_istore F dX8_lays_101 (lv' := [(6, .int (t1 + t0)), (0, .ref h0), (1, .int x1), (2, .int x2), (4, .int x4), (5, .int x5), (7, .int x7)]) (by decide) rfl ?_
  refine kj_iinc F dX8_lays_103 6 rfl (v := 1) (by decide) (by decide) (lv' := [(7, .int (x7 + 1)), (6, .int (t1 + t0)), (0, .ref h0), (1, .int x1), (2, .int x2), (4, .int x4), (5, .int x5)]) rfl ?_
  refine kj_goto F dX8_lays_106 (tgt := 61) (by decide) ?_
  refine kj_J.sub [2, 3, 4, 5, 6, 1, 0] rfl ?_
  exact kb x1 x2 x4 x5 (t1 + t0) (x7 + 1) z (Option.some.inj h).symm
set_option maxRecDepth 20000 in
theorem jm_lays_61 {p : Program} {l : Launch} {e : Env} {s : State} {m : MethodId} {args : Array Value} {below : List Frame} {meth : Method} {c : Code} {A : Nat → Prop} {D : va_G} {cA : Nat → ClassId} {h0 : Nat} {q : Nat → Nat} {Q : State → Prop} (F : kj_Fx p s m args meth c cX8_lays 8 wsX8_lays RX8 (some .int) D (km_T cA) A) {x1 : Int32} {x2 : Int32} {x4 : Int32} {x5 : Int32} {x6 : Int32} {x7 : Int32} {z : km_S} {o : ((Int32 × Int32 × Int32 × Int32 × Int32 × Int32 × km_S) ⊕ (Int32 × Int32 × Int32 × Int32 × Int32 × km_S))} (h : fm_lays_61 x1 x2 x4 x5 x6 x7 z = some o) (kb : ∀ (a0' : Int32) (a1' : Int32) (a2' : Int32) (a3' : Int32) (a4' : Int32) (a5' : Int32) (a6' : km_S), o = .inl (a0', a1', a2', a3', a4', a5', a6') → kj_J p l e rm_X8_lays s m args below meth c 0 0 Q 8 D A ((km_w cA h0 q) a6') 61 [(0, .ref h0), (1, .int a0'), (2, .int a1'), (4, .int a2'), (5, .int a3'), (6, .int a4'), (7, .int a5')] []) (ke0 : ∀ (a0' : Int32) (a1' : Int32) (a2' : Int32) (a3' : Int32) (a4' : Int32) (a5' : km_S), o = .inr (a0', a1', a2', a3', a4', a5') → kj_J p l e rm_X8_lays s m args below meth c 0 0 Q 8 D A ((km_w cA h0 q) a5') 109 [(0, .ref h0), (1, .int a0'), (2, .int a1'), (4, .int a2'), (5, .int a3'), (6, .int a4')] []) : kj_J p l e rm_X8_lays s m args below meth c 0 0 Q 8 D A ((km_w cA h0 q) z) 61 [(0, .ref h0), (1, .int x1), (2, .int x2), (4, .int x4), (5, .int x5), (6, .int x6), (7, .int x7)] [] := by
  unfold fm_lays_61 at h
  refine kj_iload F dX8_lays_61 6 rfl ?_
  refine kj_iload F dX8_lays_63 4 rfl ?_
  refine kj_icmp_gt F dX8_lays_65 (tgt := 109) (by decide) h (fun hc h => ?_) (fun hc h => ?_)
  · refine kj_J.sub [0, 1, 2, 3, 4, 5] rfl ?_
    exact ke0 x1 x2 x4 x5 x6 z (Option.some.inj h).symm
  · refine kj_iload F dX8_lays_68 5 rfl ?_
    refine kj_aload_n F dX8_lays_70 0 rfl rfl ?_
    refine kj_iload F dX8_lays_71 6 rfl ?_
    refine kj_iload F dX8_lays_73 4 rfl ?_
    refine kj_iload_n F dX8_lays_75 2 rfl rfl ?_
    refine kj_cVi (As := [.int x7, .int x5, .int x2]) (rest := [.int x6]) F dX8_lays_76 h (fun o h1 => cm_isUnder h1) (cwV 3 F.2.2.2.2.1 gX8_lays_X8_isUnder rfl rfl rfl (by decide +kernel) ⟨Nat.le_of_ble_eq_true rfl, Nat.le_of_ble_eq_true rfl⟩) 0 rfl rfl rfl rfl rfl (Nat.le_of_ble_eq_true rfl) ⟨Nat.zero_le _, Nat.zero_le _⟩ (fun o1 h => ?_)
    refine kj_if_eq F dX8_lays_79 (tgt := 99) (by decide) h (fun hc h => ?_) (fun hc h => ?_)
    · refine kj_iconst F dX8_lays_99 (v := 0) (by decide) ?_
      refine kj_J.sub [0, 1, 2, 3, 4, 6] rfl ?_
      exact jm_lays_100 F h kb ke0
    · refine kj_aload_n F dX8_lays_82 0 rfl rfl ?_
      refine km_get F dX8_lays_83 in_X8_lays 15 (by decide) (by decide +kernel) rfl rfl ?_
      refine kj_iconst F dX8_lays_86 (v := 5) (by decide) ?_
      refine kj_iload F dX8_lays_87 6 rfl ?_
      refine kj_imul F dX8_lays_89 ?_
      refine kj_iload F dX8_lays_90 3 rfl ?_
      refine kj_iadd F dX8_lays_92 ?_
      refine kj_iconst F dX8_lays_93 (v := 1) (by decide) ?_
      refine kj_isub F dX8_lays_94 ?_
      refine km_iald F dX8_lays_95 7 (by decide) h (fun v2 h => ?_)
      refine kj_goto F dX8_lays_96 (tgt := 100) (by decide) ?_
      refine kj_J.sub [0, 1, 2, 3, 4, 6] rfl ?_
      exact jm_lays_100 F h kb ke0
theorem jlm_lays_61 {p : Program} {l : Launch} {e : Env} {s : State} {m : MethodId} {args : Array Value} {below : List Frame} {meth : Method} {c : Code} {A : Nat → Prop} {D : va_G} {cA : Nat → ClassId} {h0 : Nat} {q : Nat → Nat} {Q : State → Prop} (F : kj_Fx p s m args meth c cX8_lays 8 wsX8_lays RX8 (some .int) D (km_T cA) A) {n : Nat} {x1 : Int32} {x2 : Int32} {x4 : Int32} {x5 : Int32} {x6 : Int32} {x7 : Int32} {z : km_S} {r : (Int32 × Int32 × Int32 × Int32 × Int32 × km_S)} (h : lm_lays_61 n x1 x2 x4 x5 x6 x7 z = some r) (ke : kj_J p l e rm_X8_lays s m args below meth c 0 0 Q 8 D A ((km_w cA h0 q) (r.2.2.2.2.2)) 109 [(0, .ref h0), (1, .int (r.1)), (2, .int (r.2.1)), (4, .int (r.2.2.1)), (5, .int (r.2.2.2.1)), (6, .int (r.2.2.2.2.1))] []) : kj_J p l e rm_X8_lays s m args below meth c 0 0 Q 8 D A ((km_w cA h0 q) z) 61 [(0, .ref h0), (1, .int x1), (2, .int x2), (4, .int x4), (5, .int x5), (6, .int x6), (7, .int x7)] [] :=
  kj_it_J (Wh := fun (u : (Int32 × Int32 × Int32 × Int32 × Int32 × Int32 × km_S)) => kj_J p l e rm_X8_lays s m args below meth c 0 0 Q 8 D A ((km_w cA h0 q) (u.2.2.2.2.2.2)) 61 [(0, .ref h0), (1, .int (u.1)), (2, .int (u.2.1)), (4, .int (u.2.2.1)), (5, .int (u.2.2.2.1)), (6, .int (u.2.2.2.2.1)), (7, .int (u.2.2.2.2.2.1))] []) (We := fun r => kj_J p l e rm_X8_lays s m args below meth c 0 0 Q 8 D A ((km_w cA h0 q) (r.2.2.2.2.2)) 109 [(0, .ref h0), (1, .int (r.1)), (2, .int (r.2.1)), (4, .int (r.2.2.1)), (5, .int (r.2.2.2.1)), (6, .int (r.2.2.2.2.1))] []) (fun u o h kb ke => jm_lays_61 F h (fun a0' a1' a2' a3' a4' a5' a6' e => kb (a0', a1', a2', a3', a4', a5', a6') e) (fun a0' a1' a2' a3' a4' a5' e => ke (a0', a1', a2', a3', a4', a5') e)) n (x1, x2, x4, x5, x6, x7, z) r h ke
set_option maxRecDepth 20000 in
theorem jm_lays_46 {p : Program} {l : Launch} {e : Env} {s : State} {m : MethodId} {args : Array Value} {below : List Frame} {meth : Method} {c : Code} {A : Nat → Prop} {D : va_G} {cA : Nat → ClassId} {h0 : Nat} {q : Nat → Nat} {Q : State → Prop} (F : kj_Fx p s m args meth c cX8_lays 8 wsX8_lays RX8 (some .int) D (km_T cA) A) {x1 : Int32} {x2 : Int32} {x4 : Int32} {x5 : Int32} {z : km_S} {o : ((Int32 × Int32 × Int32 × Int32 × km_S) ⊕ (Int32 × Int32 × Int32 × km_S))} (h : fm_lays_46 x1 x2 x4 x5 z = some o) (kb : ∀ (a0' : Int32) (a1' : Int32) (a2' : Int32) (a3' : Int32) (a4' : km_S), o = .inl (a0', a1', a2', a3', a4') → kj_J p l e rm_X8_lays s m args below meth c 0 0 Q 8 D A ((km_w cA h0 q) a4') 46 [(0, .ref h0), (1, .int a0'), (2, .int a1'), (4, .int a2'), (5, .int a3')] []) (ke0 : ∀ (a0' : Int32) (a1' : Int32) (a2' : Int32) (a3' : km_S), o = .inr (a0', a1', a2', a3') → kj_J p l e rm_X8_lays s m args below meth c 0 0 Q 8 D A ((km_w cA h0 q) a3') 129 [(0, .ref h0), (1, .int a0'), (2, .int a1'), (4, .int a2')] []) : kj_J p l e rm_X8_lays s m args below meth c 0 0 Q 8 D A ((km_w cA h0 q) z) 46 [(0, .ref h0), (1, .int x1), (2, .int x2), (4, .int x4), (5, .int x5)] [] := by
  unfold fm_lays_46 at h
  refine kj_iload F dX8_lays_46 4 rfl ?_
  refine kj_aload_n F dX8_lays_48 0 rfl rfl ?_
  refine km_get F dX8_lays_49 in_X8_lays 14 (by decide) (by decide +kernel) rfl rfl ?_
  refine kj_icmp_ge F dX8_lays_52 (tgt := 129) (by decide) h (fun hc h => ?_) (fun hc h => ?_)
  · refine kj_J.sub [0, 1, 2, 3] rfl ?_
    exact ke0 x1 x2 x4 z (Option.some.inj h).symm
  · refine kj_iconst F dX8_lays_55 (v := 0) (by decide) ?_
    refine kj_istore F dX8_lays_56 (lv' := [(6, .int (0 : Int32)), (0, .ref h0), (1, .int x1), (2, .int x2), (4, .int x4), (5, .int x5)]) (by decide) rfl ?_
    refine kj_iconst F dX8_lays_58 (v := 0) (by decide) ?_
    refine kj_istore F dX8_lays_59 (lv' := [(7, .int (0 : Int32)), (6, .int (0 : Int32)), (0, .ref h0), (1, .int x1), (2, .int x2), (4, .int x4), (5, .int x5)]) (by decide) rfl ?_
    refine kj_J.sub [2, 3, 4, 5, 6, 1, 0] rfl ?_
    refine kj_bn h (fun r1 h1 h => ?_)
    refine jlm_lays_61 F h1 ?_
    refine kj_aload_n F dX8_lays_109 0 rfl rfl ?_
    refine km_get F dX8_lays_110 in_X8_lays 15 (by decide) (by decide +kernel) rfl rfl ?_
    refine kj_iconst F dX8_lays_113 (v := 5) (by decide) ?_
    refine kj_iload F dX8_lays_114 4 rfl ?_
    refine kj_imul F dX8_lays_116 ?_
    refine kj_iload F dX8_lays_117 3 rfl ?_
    refine kj_iadd F dX8_lays_119 ?_
    refine kj_iload F dX8_lays_120 5 rfl ?_
    refine km_iast F dX8_lays_122 7 (by decide) h (fun z2 h => ?_)
    refine kj_iinc F dX8_lays_123 4 rfl (v := 1) (by decide) (by decide) (lv' := [(5, .int ((r1.2.2.2.1) + 1)), (0, .ref h0), (1, .int (r1.1)), (2, .int (r1.2.1)), (4, .int (r1.2.2.1)), (6, .int (r1.2.2.2.2.1))]) rfl ?_
    refine kj_goto F dX8_lays_126 (tgt := 46) (by decide) ?_
    refine kj_J.sub [1, 2, 3, 4, 0] rfl ?_
    exact kb (r1.1) (r1.2.1) (r1.2.2.1) ((r1.2.2.2.1) + 1) z2 (Option.some.inj h).symm
theorem jlm_lays_46 {p : Program} {l : Launch} {e : Env} {s : State} {m : MethodId} {args : Array Value} {below : List Frame} {meth : Method} {c : Code} {A : Nat → Prop} {D : va_G} {cA : Nat → ClassId} {h0 : Nat} {q : Nat → Nat} {Q : State → Prop} (F : kj_Fx p s m args meth c cX8_lays 8 wsX8_lays RX8 (some .int) D (km_T cA) A) {n : Nat} {x1 : Int32} {x2 : Int32} {x4 : Int32} {x5 : Int32} {z : km_S} {r : (Int32 × Int32 × Int32 × km_S)} (h : lm_lays_46 n x1 x2 x4 x5 z = some r) (ke : kj_J p l e rm_X8_lays s m args below meth c 0 0 Q 8 D A ((km_w cA h0 q) (r.2.2.2)) 129 [(0, .ref h0), (1, .int (r.1)), (2, .int (r.2.1)), (4, .int (r.2.2.1))] []) : kj_J p l e rm_X8_lays s m args below meth c 0 0 Q 8 D A ((km_w cA h0 q) z) 46 [(0, .ref h0), (1, .int x1), (2, .int x2), (4, .int x4), (5, .int x5)] [] :=
  kj_it_J (Wh := fun (u : (Int32 × Int32 × Int32 × Int32 × km_S)) => kj_J p l e rm_X8_lays s m args below meth c 0 0 Q 8 D A ((km_w cA h0 q) (u.2.2.2.2)) 46 [(0, .ref h0), (1, .int (u.1)), (2, .int (u.2.1)), (4, .int (u.2.2.1)), (5, .int (u.2.2.2.1))] []) (We := fun r => kj_J p l e rm_X8_lays s m args below meth c 0 0 Q 8 D A ((km_w cA h0 q) (r.2.2.2)) 129 [(0, .ref h0), (1, .int (r.1)), (2, .int (r.2.1)), (4, .int (r.2.2.1))] []) (fun u o h kb ke => jm_lays_46 F h (fun a0' a1' a2' a3' a4' e => kb (a0', a1', a2', a3', a4') e) (fun a0' a1' a2' a3' e => ke (a0', a1', a2', a3') e)) n (x1, x2, x4, x5, z) r h ke
set_option maxRecDepth 20000 in
theorem jm_lays_37 {p : Program} {l : Launch} {e : Env} {s : State} {m : MethodId} {args : Array Value} {below : List Frame} {meth : Method} {c : Code} {A : Nat → Prop} {D : va_G} {cA : Nat → ClassId} {h0 : Nat} {q : Nat → Nat} {Q : State → Prop} (F : kj_Fx p s m args meth c cX8_lays 8 wsX8_lays RX8 (some .int) D (km_T cA) A) {x1 : Int32} {x2 : Int32} {x4 : Int32} {z : km_S} {o : ((Int32 × Int32 × Int32 × km_S) ⊕ (Int32 × km_S))} (h : fm_lays_37 x1 x2 x4 z = some o) (kb : ∀ (a0' : Int32) (a1' : Int32) (a2' : Int32) (a3' : km_S), o = .inl (a0', a1', a2', a3') → kj_J p l e rm_X8_lays s m args below meth c 0 0 Q 8 D A ((km_w cA h0 q) a3') 37 [(0, .ref h0), (1, .int a0'), (2, .int a1'), (4, .int a2')] []) (ke0 : ∀ (a0' : Int32) (a1' : km_S), o = .inr (a0', a1') → kj_J p l e rm_X8_lays s m args below meth c 0 0 Q 8 D A ((km_w cA h0 q) a1') 135 [(0, .ref h0), (1, .int a0')] []) : kj_J p l e rm_X8_lays s m args below meth c 0 0 Q 8 D A ((km_w cA h0 q) z) 37 [(0, .ref h0), (1, .int x1), (2, .int x2), (4, .int x4)] [] := by
  unfold fm_lays_37 at h
  refine kj_iload F dX8_lays_37 3 rfl ?_
  refine kj_iload_n F dX8_lays_39 1 rfl rfl ?_
  refine kj_icmp_gt F dX8_lays_40 (tgt := 135) (by decide) h (fun hc h => ?_) (fun hc h => ?_)
  · refine kj_J.sub [0, 1] rfl ?_
    exact ke0 x1 z (Option.some.inj h).symm
  · refine kj_iconst F dX8_lays_43 (v := 0) (by decide) ?_
    refine kj_istore F dX8_lays_44 (lv' := [(5, .int (0 : Int32)), (0, .ref h0), (1, .int x1), (2, .int x2), (4, .int x4)]) (by decide) rfl ?_
    refine kj_J.sub [1, 2, 3, 4, 0] rfl ?_
    refine kj_bn h (fun r1 h1 h => ?_)
    refine jlm_lays_46 F h1 ?_
    refine kj_iinc F dX8_lays_129 3 rfl (v := 1) (by decide) (by decide) (lv' := [(4, .int ((r1.2.2.1) + 1)), (0, .ref h0), (1, .int (r1.1)), (2, .int (r1.2.1))]) rfl ?_
    refine kj_goto F dX8_lays_132 (tgt := 37) (by decide) ?_
    refine kj_J.sub [1, 2, 3, 0] rfl ?_
    exact kb (r1.1) (r1.2.1) ((r1.2.2.1) + 1) (r1.2.2.2) (Option.some.inj h).symm
theorem jlm_lays_37 {p : Program} {l : Launch} {e : Env} {s : State} {m : MethodId} {args : Array Value} {below : List Frame} {meth : Method} {c : Code} {A : Nat → Prop} {D : va_G} {cA : Nat → ClassId} {h0 : Nat} {q : Nat → Nat} {Q : State → Prop} (F : kj_Fx p s m args meth c cX8_lays 8 wsX8_lays RX8 (some .int) D (km_T cA) A) {n : Nat} {x1 : Int32} {x2 : Int32} {x4 : Int32} {z : km_S} {r : (Int32 × km_S)} (h : lm_lays_37 n x1 x2 x4 z = some r) (ke : kj_J p l e rm_X8_lays s m args below meth c 0 0 Q 8 D A ((km_w cA h0 q) (r.2)) 135 [(0, .ref h0), (1, .int (r.1))] []) : kj_J p l e rm_X8_lays s m args below meth c 0 0 Q 8 D A ((km_w cA h0 q) z) 37 [(0, .ref h0), (1, .int x1), (2, .int x2), (4, .int x4)] [] :=
  kj_it_J (Wh := fun (u : (Int32 × Int32 × Int32 × km_S)) => kj_J p l e rm_X8_lays s m args below meth c 0 0 Q 8 D A ((km_w cA h0 q) (u.2.2.2)) 37 [(0, .ref h0), (1, .int (u.1)), (2, .int (u.2.1)), (4, .int (u.2.2.1))] []) (We := fun r => kj_J p l e rm_X8_lays s m args below meth c 0 0 Q 8 D A ((km_w cA h0 q) (r.2)) 135 [(0, .ref h0), (1, .int (r.1))] []) (fun u o h kb ke => jm_lays_37 F h (fun a0' a1' a2' a3' e => kb (a0', a1', a2', a3') e) (fun a0' a1' e => ke (a0', a1') e)) n (x1, x2, x4, z) r h ke
set_option maxRecDepth 20000 in
theorem jm_lays {p : Program} {l : Launch} {e : Env} {s : State} {m : MethodId} {args : Array Value} {below : List Frame} {meth : Method} {c : Code} {A : Nat → Prop} {D : va_G} {cA : Nat → ClassId} {h0 : Nat} {q : Nat → Nat} (F : kj_Fx p s m args meth c cX8_lays 8 wsX8_lays RX8 (some .int) D (km_T cA) A) {x1 : Int32} {x2 : Int32} {x3 : Int32} {z : km_S} {o : (Int32 × km_S)} (h : fm_lays x1 x2 x3 z = some o) : kj_J p l e rm_X8_lays s m args below meth c 0 0 (MQ below (kj_Qi D (km_T cA) A (km_w cA h0 q) o) args s 0 0 A) 8 D A ((km_w cA h0 q) z) 0 [(0, .ref h0), (1, .int x1), (2, .int x2), (3, .int x3)] [] := by
  unfold fm_lays at h
  refine kj_aload_n F dX8_lays_0 0 rfl rfl ?_
  refine kj_iload_n F dX8_lays_1 2 rfl rfl ?_
  refine kj_iload_n F dX8_lays_2 3 rfl rfl ?_
  refine kj_cVv (As := [.int x2, .int x3]) (rest := []) F dX8_lays_3 h (fun o h1 => cm_laysRows h1) (cwV 2 F.2.2.2.2.1 gX8_lays_X8_laysRows rfl rfl rfl (by decide +kernel) ⟨Nat.le_of_ble_eq_true rfl, Nat.le_of_ble_eq_true rfl⟩) 0 rfl rfl rfl rfl rfl (Nat.le_of_ble_eq_true rfl) ⟨Nat.zero_le _, Nat.zero_le _⟩ (fun o1 h => ?_)
  refine kj_iconst F dX8_lays_6 (v := 0) (by decide) ?_
  refine kj_istore F dX8_lays_7 (lv' := [(4, .int (0 : Int32)), (0, .ref h0), (1, .int x1), (2, .int x2), (3, .int x3)]) (by decide) rfl ?_
  refine kj_J.sub [1, 2, 3, 0] rfl ?_
  refine kj_bn h (fun r2 h1 h => ?_)
  refine jlm_lays_9 F h1 ?_
  refine kj_iconst F dX8_lays_34 (v := 1) (by decide) ?_
  refine kj_istore F dX8_lays_35 (lv' := [(4, .int (1 : Int32)), (0, .ref h0), (1, .int (r2.1)), (2, .int (r2.2.1))]) (by decide) rfl ?_
  refine kj_J.sub [1, 2, 3, 0] rfl ?_
  refine kj_bn h (fun r3 h1 h => ?_)
  refine jlm_lays_37 F h1 ?_
  refine kj_aload_n F dX8_lays_135 0 rfl rfl ?_
  refine km_get F dX8_lays_136 in_X8_lays 15 (by decide) (by decide +kernel) rfl rfl ?_
  refine kj_iconst F dX8_lays_139 (v := 5) (by decide) ?_
  refine kj_aload_n F dX8_lays_140 0 rfl rfl ?_
  refine km_get F dX8_lays_141 in_X8_lays 14 (by decide) (by decide +kernel) rfl rfl ?_
  refine kj_iconst F dX8_lays_144 (v := 1) (by decide) ?_
  refine kj_isub F dX8_lays_145 ?_
  refine kj_imul F dX8_lays_146 ?_
  refine kj_iload_n F dX8_lays_147 1 rfl rfl ?_
  refine kj_iadd F dX8_lays_148 ?_
  refine km_iald F dX8_lays_149 7 (by decide) h (fun v4 h => ?_)
  exact kj_iret F dX8_lays_150 h
theorem cm_lays {l : Launch} {D : va_G} {cA : Nat → ClassId} {h0 : Nat} {q : Nat → Nat} {x1 : Int32} {x2 : Int32} {x3 : Int32} {z : km_S} {o : (Int32 × km_S)} (h : fm_lays x1 x2 x3 z = some o) : kj_Mi l yX8_lays wsX8_lays rm_X8_lays D (km_T cA) (km_w cA h0 q) z [.ref h0, .int x1, .int x2, .int x3] o :=
  fun sz => kj_start (by decide) rfl (Nat.le_of_ble_eq_true rfl) rfl fun p e s m args below meth c hsz F => jm_lays F h
/-! X8_rowOf -/
abbrev rm_X8_rowOf : Room := { frames := 1, cells := 0, slots := 0, locals := 26 }
theorem in_X8_rowOf : ∀ w ∈ u_ws RX8 TX8 29, w ∈ wsX8_rowOf := by decide +kernel
def fm_rowOf_3 (k0 : Nat) (x2 : Int32) (x3 : Int32) (x4 : Int32) (z : km_S) : Option ((Int32 × Int32 × Int32 × km_S) ⊕ (Int32 × km_S)) :=
  (fm_at x3 (0 : Int32)).bind fun o1 =>
  (km_rd z k0 (x2 + (2 : Int32))).bind fun v2 =>
  (fm_isSame 6 k0 ((4 : Int32) * x4) (x2 + o1) v2 z).bind fun o3 =>
  if (o3.1) = 0 then
  some (.inl (x2, x3, (x4 + 1), (o3.2)))
  else
  some (.inr (x4, (o3.2)))
def lm_rowOf_3 (k0 : Nat) (n : Nat) (x2 : Int32) (x3 : Int32) (x4 : Int32) (z : km_S) : Option (Int32 × km_S) :=
  kj_it (fun (s : (Int32 × Int32 × Int32 × km_S)) => fm_rowOf_3 k0 (s.1) (s.2.1) (s.2.2.1) (s.2.2.2)) n (x2, x3, x4, z)
def fm_rowOf (k0 : Nat) (x2 : Int32) (x3 : Int32) (z : km_S) : Option (Int32 × km_S) :=
  (lm_rowOf_3 k0 5000 x2 x3 (0 : Int32) z).bind fun r1 =>
  some ((r1.1), (r1.2))
set_option maxRecDepth 20000 in
theorem jm_rowOf_3 {p : Program} {l : Launch} {e : Env} {s : State} {m : MethodId} {args : Array Value} {below : List Frame} {meth : Method} {c : Code} {A : Nat → Prop} {D : va_G} {cA : Nat → ClassId} {h0 : Nat} {q : Nat → Nat} {Q : State → Prop} (F : kj_Fx p s m args meth c cX8_rowOf 5 wsX8_rowOf RX8 (some .int) D (km_T cA) A) {k0 : Nat} (hk0 : k0 < 18) {x2 : Int32} {x3 : Int32} {x4 : Int32} {z : km_S} {o : ((Int32 × Int32 × Int32 × km_S) ⊕ (Int32 × km_S))} (h : fm_rowOf_3 k0 x2 x3 x4 z = some o) (kb : ∀ (a0' : Int32) (a1' : Int32) (a2' : Int32) (a3' : km_S), o = .inl (a0', a1', a2', a3') → kj_J p l e rm_X8_rowOf s m args below meth c 0 0 Q 5 D A ((km_w cA h0 q) a3') 3 [(0, .ref h0), (1, .ref (q k0)), (2, .int a0'), (3, .int a1'), (4, .int a2')] []) (ke0 : ∀ (a0' : Int32) (a1' : km_S), o = .inr (a0', a1') → kj_J p l e rm_X8_rowOf s m args below meth c 0 0 Q 5 D A ((km_w cA h0 q) a1') 36 [(4, .int a0')] []) : kj_J p l e rm_X8_rowOf s m args below meth c 0 0 Q 5 D A ((km_w cA h0 q) z) 3 [(0, .ref h0), (1, .ref (q k0)), (2, .int x2), (3, .int x3), (4, .int x4)] [] := by
  unfold fm_rowOf_3 at h
  refine kj_aload_n F dX8_rowOf_3 0 rfl rfl ?_
  refine km_get F dX8_rowOf_4 in_X8_rowOf 13 (by decide) (by decide +kernel) rfl rfl ?_
  refine kj_iconst F dX8_rowOf_7 (v := 4) (by decide) ?_
  refine kj_iload F dX8_rowOf_8 4 rfl ?_
  refine kj_imul F dX8_rowOf_10 ?_
  refine kj_aload_n F dX8_rowOf_11 1 rfl rfl ?_
  refine kj_iload_n F dX8_rowOf_12 2 rfl rfl ?_
  refine kj_iload_n F dX8_rowOf_13 3 rfl rfl ?_
  refine kj_iconst F dX8_rowOf_14 (v := 0) (by decide) ?_
  refine kj_cSip (As := [.int x3, .int (0 : Int32)]) (rest := [.int x2, .ref (q k0), .int ((4 : Int32) * x4), .ref (q 6)]) F dX8_rowOf_15 h (fun o h1 => cm_at (w := (km_w cA h0 q)) h1) (va_cwS 2 F.2.2.2.2.1 gX8_rowOf_X8_at rfl rfl rfl (by decide +kernel) ⟨Nat.le_of_ble_eq_true rfl, Nat.le_of_ble_eq_true rfl⟩) rfl rfl (Nat.le_of_ble_eq_true rfl) ⟨Nat.zero_le _, Nat.zero_le _⟩ (fun o1 h => ?_)
  refine kj_iadd F dX8_rowOf_18 ?_
  refine kj_aload_n F dX8_rowOf_19 1 rfl rfl ?_
  refine kj_iload_n F dX8_rowOf_20 2 rfl rfl ?_
  refine kj_iconst F dX8_rowOf_21 (v := 2) (by decide) ?_
  refine kj_iadd F dX8_rowOf_22 ?_
  refine km_iald F dX8_rowOf_23 k0 hk0 h (fun v2 h => ?_)
  refine kj_cSi (As := [.ref (q 6), .int ((4 : Int32) * x4), .ref (q k0), .int (x2 + o1), .int v2]) (rest := []) F dX8_rowOf_24 h (fun o h1 => cm_isSame (by decide) hk0 h1) (va_cwS 5 F.2.2.2.2.1 gX8_rowOf_X8_isSame rfl rfl rfl (by decide +kernel) ⟨Nat.le_of_ble_eq_true rfl, Nat.le_of_ble_eq_true rfl⟩) rfl rfl (Nat.le_of_ble_eq_true rfl) ⟨Nat.zero_le _, Nat.zero_le _⟩ (fun o3 h => ?_)
  refine kj_if_ne F dX8_rowOf_27 (tgt := 36) (by decide) h (fun hc h => ?_) (fun hc h => ?_)
  · refine kj_iinc F dX8_rowOf_30 4 rfl (v := 1) (by decide) (by decide) (lv' := [(4, .int (x4 + 1)), (0, .ref h0), (1, .ref (q k0)), (2, .int x2), (3, .int x3)]) rfl ?_
    refine kj_goto F dX8_rowOf_33 (tgt := 3) (by decide) ?_
    refine kj_J.sub [1, 2, 3, 4, 0] rfl ?_
    exact kb x2 x3 (x4 + 1) (o3.2) (Option.some.inj h).symm
  · refine kj_J.sub [4] rfl ?_
    exact ke0 x4 (o3.2) (Option.some.inj h).symm
theorem jlm_rowOf_3 {p : Program} {l : Launch} {e : Env} {s : State} {m : MethodId} {args : Array Value} {below : List Frame} {meth : Method} {c : Code} {A : Nat → Prop} {D : va_G} {cA : Nat → ClassId} {h0 : Nat} {q : Nat → Nat} {Q : State → Prop} (F : kj_Fx p s m args meth c cX8_rowOf 5 wsX8_rowOf RX8 (some .int) D (km_T cA) A) {k0 : Nat} (hk0 : k0 < 18) {n : Nat} {x2 : Int32} {x3 : Int32} {x4 : Int32} {z : km_S} {r : (Int32 × km_S)} (h : lm_rowOf_3 k0 n x2 x3 x4 z = some r) (ke : kj_J p l e rm_X8_rowOf s m args below meth c 0 0 Q 5 D A ((km_w cA h0 q) (r.2)) 36 [(4, .int (r.1))] []) : kj_J p l e rm_X8_rowOf s m args below meth c 0 0 Q 5 D A ((km_w cA h0 q) z) 3 [(0, .ref h0), (1, .ref (q k0)), (2, .int x2), (3, .int x3), (4, .int x4)] [] :=
  kj_it_J (Wh := fun (u : (Int32 × Int32 × Int32 × km_S)) => kj_J p l e rm_X8_rowOf s m args below meth c 0 0 Q 5 D A ((km_w cA h0 q) (u.2.2.2)) 3 [(0, .ref h0), (1, .ref (q k0)), (2, .int (u.1)), (3, .int (u.2.1)), (4, .int (u.2.2.1))] []) (We := fun r => kj_J p l e rm_X8_rowOf s m args below meth c 0 0 Q 5 D A ((km_w cA h0 q) (r.2)) 36 [(4, .int (r.1))] []) (fun u o h kb ke => jm_rowOf_3 F hk0 h (fun a0' a1' a2' a3' e => kb (a0', a1', a2', a3') e) (fun a0' a1' e => ke (a0', a1') e)) n (x2, x3, x4, z) r h ke
set_option maxRecDepth 20000 in
theorem jm_rowOf {p : Program} {l : Launch} {e : Env} {s : State} {m : MethodId} {args : Array Value} {below : List Frame} {meth : Method} {c : Code} {A : Nat → Prop} {D : va_G} {cA : Nat → ClassId} {h0 : Nat} {q : Nat → Nat} (F : kj_Fx p s m args meth c cX8_rowOf 5 wsX8_rowOf RX8 (some .int) D (km_T cA) A) {k0 : Nat} (hk0 : k0 < 18) {x2 : Int32} {x3 : Int32} {z : km_S} {o : (Int32 × km_S)} (h : fm_rowOf k0 x2 x3 z = some o) : kj_J p l e rm_X8_rowOf s m args below meth c 0 0 (MQ below (kj_Qi D (km_T cA) A (km_w cA h0 q) o) args s 0 0 A) 5 D A ((km_w cA h0 q) z) 0 [(0, .ref h0), (1, .ref (q k0)), (2, .int x2), (3, .int x3)] [] := by
  unfold fm_rowOf at h
  refine kj_iconst F dX8_rowOf_0 (v := 0) (by decide) ?_
  refine kj_istore F dX8_rowOf_1 (lv' := [(4, .int (0 : Int32)), (0, .ref h0), (1, .ref (q k0)), (2, .int x2), (3, .int x3)]) (by decide) rfl ?_
  refine kj_J.sub [1, 2, 3, 4, 0] rfl ?_
  refine kj_bn h (fun r1 h1 h => ?_)
  refine jlm_rowOf_3 F hk0 h1 ?_
  refine kj_iload F dX8_rowOf_36 0 rfl ?_
  exact kj_iret F dX8_rowOf_38 h
theorem cm_rowOf {l : Launch} {D : va_G} {cA : Nat → ClassId} {h0 : Nat} {q : Nat → Nat} {k0 : Nat} (hk0 : k0 < 18) {x2 : Int32} {x3 : Int32} {z : km_S} {o : (Int32 × km_S)} (h : fm_rowOf k0 x2 x3 z = some o) : kj_Mi l yX8_rowOf wsX8_rowOf rm_X8_rowOf D (km_T cA) (km_w cA h0 q) z [.ref h0, .ref (q k0), .int x2, .int x3] o :=
  fun sz => kj_start (by decide) rfl (Nat.le_of_ble_eq_true rfl) rfl fun p e s m args below meth c hsz F => jm_rowOf F hk0 h
/-! X8_numberOf -/
abbrev rm_X8_numberOf : Room := { frames := 2, cells := 0, slots := 0, locals := 54 }
theorem in_X8_numberOf : ∀ w ∈ u_ws RX8 TX8 29, w ∈ wsX8_numberOf := by decide +kernel
def fm_numberOf_101 (k0 : Nat) (x2 : Int32) (x3 : Int32) (x4 : Int32) (x6 : Int32) (x7 : Int32) (x8 : Int32) (x9 : Int32) (t0 : Int32) (t1 : Int32) (z : km_S) : Option ((Int32 × Int32 × Int32 × Int32 × Int32 × Int32 × Int32 × Int32 × km_S) ⊕ (Int32 × Int32 × Int32 × Int32 × Int32 × Int32 × km_S)) :=
  some (.inl (x2, x3, x4, (t1 + t0), x6, x7, x8, (x9 + 1), z))
def fm_numberOf_59 (k0 : Nat) (x2 : Int32) (x3 : Int32) (x4 : Int32) (x5 : Int32) (x6 : Int32) (x7 : Int32) (x8 : Int32) (x9 : Int32) (z : km_S) : Option ((Int32 × Int32 × Int32 × Int32 × Int32 × Int32 × Int32 × Int32 × km_S) ⊕ (Int32 × Int32 × Int32 × Int32 × Int32 × Int32 × km_S)) :=
  if x8 ≤ x9 then
  some (.inr (x2, x3, x4, x5, x7, x8, z))
  else
  (fm_isUnder x9 x6 x4 z).bind fun o1 =>
  if (o1.1) = 0 then
  fm_numberOf_101 k0 x2 x3 x4 x6 x7 x8 x9 (0 : Int32) x5 (o1.2)
  else
  (km_rd (o1.2) 7 (((((5 : Int32) * x9) + x3) - (1 : Int32)) - x7)).bind fun v2 =>
  fm_numberOf_101 k0 x2 x3 x4 x6 x7 x8 x9 v2 x5 (o1.2)
def lm_numberOf_59 (k0 : Nat) (n : Nat) (x2 : Int32) (x3 : Int32) (x4 : Int32) (x5 : Int32) (x6 : Int32) (x7 : Int32) (x8 : Int32) (x9 : Int32) (z : km_S) : Option (Int32 × Int32 × Int32 × Int32 × Int32 × Int32 × km_S) :=
  kj_it (fun (s : (Int32 × Int32 × Int32 × Int32 × Int32 × Int32 × Int32 × Int32 × km_S)) => fm_numberOf_59 k0 (s.1) (s.2.1) (s.2.2.1) (s.2.2.2.1) (s.2.2.2.2.1) (s.2.2.2.2.2.1) (s.2.2.2.2.2.2.1) (s.2.2.2.2.2.2.2.1) (s.2.2.2.2.2.2.2.2)) n (x2, x3, x4, x5, x6, x7, x8, x9, z)
def fm_numberOf_40 (k0 : Nat) (x2 : Int32) (x3 : Int32) (x4 : Int32) (x5 : Int32) (x6 : Int32) (x7 : Int32) (z : km_S) : Option ((Int32 × Int32 × Int32 × Int32 × Int32 × Int32 × km_S) ⊕ (Int32 × km_S)) :=
  if x3 ≤ x7 then
  some (.inr (x5, z))
  else
  (fm_rowOf k0 x2 x7 z).bind fun o1 =>
  (lm_numberOf_59 k0 5000 x2 x3 x4 x5 x6 x7 (o1.1) (0 : Int32) (o1.2)).bind fun r2 =>
  some (.inl ((r2.1), (r2.2.1), (r2.2.2.1), (r2.2.2.2.1), (r2.2.2.2.2.2.1), ((r2.2.2.2.2.1) + 1), (r2.2.2.2.2.2.2)))
def lm_numberOf_40 (k0 : Nat) (n : Nat) (x2 : Int32) (x3 : Int32) (x4 : Int32) (x5 : Int32) (x6 : Int32) (x7 : Int32) (z : km_S) : Option (Int32 × km_S) :=
  kj_it (fun (s : (Int32 × Int32 × Int32 × Int32 × Int32 × Int32 × km_S)) => fm_numberOf_40 k0 (s.1) (s.2.1) (s.2.2.1) (s.2.2.2.1) (s.2.2.2.2.1) (s.2.2.2.2.2.1) (s.2.2.2.2.2.2)) n (x2, x3, x4, x5, x6, x7, z)
def fm_numberOf (k0 : Nat) (x2 : Int32) (z : km_S) : Option (Int32 × km_S) :=
  (km_rd z k0 (x2 + (1 : Int32))).bind fun v1 =>
  (km_rd z k0 (x2 + (2 : Int32))).bind fun v2 =>
  (km_rd z k0 (x2 + (3 : Int32))).bind fun v3 =>
  (fm_lays v1 v2 v3 z).bind fun o4 =>
  (lm_numberOf_40 k0 5000 x2 v1 v2 (0 : Int32) (((o4.2).1 5) - (1 : Int32)) (0 : Int32) (o4.2)).bind fun r5 =>
  some ((r5.1), (r5.2))
set_option maxRecDepth 20000 in
theorem jm_numberOf_101 {p : Program} {l : Launch} {e : Env} {s : State} {m : MethodId} {args : Array Value} {below : List Frame} {meth : Method} {c : Code} {A : Nat → Prop} {D : va_G} {cA : Nat → ClassId} {h0 : Nat} {q : Nat → Nat} {Q : State → Prop} (F : kj_Fx p s m args meth c cX8_numberOf 10 wsX8_numberOf RX8 (some .int) D (km_T cA) A) {k0 : Nat} (hk0 : k0 < 18) {x2 : Int32} {x3 : Int32} {x4 : Int32} {x6 : Int32} {x7 : Int32} {x8 : Int32} {x9 : Int32} {t0 : Int32} {t1 : Int32} {z : km_S} {o : ((Int32 × Int32 × Int32 × Int32 × Int32 × Int32 × Int32 × Int32 × km_S) ⊕ (Int32 × Int32 × Int32 × Int32 × Int32 × Int32 × km_S))} (h : fm_numberOf_101 k0 x2 x3 x4 x6 x7 x8 x9 t0 t1 z = some o) (kb : ∀ (a0' : Int32) (a1' : Int32) (a2' : Int32) (a3' : Int32) (a4' : Int32) (a5' : Int32) (a6' : Int32) (a7' : Int32) (a8' : km_S), o = .inl (a0', a1', a2', a3', a4', a5', a6', a7', a8') → kj_J p l e rm_X8_numberOf s m args below meth c 0 0 Q 10 D A ((km_w cA h0 q) a8') 59 [(0, .ref h0), (1, .ref (q k0)), (2, .int a0'), (3, .int a1'), (4, .int a2'), (5, .int a3'), (6, .int a4'), (7, .int a5'), (8, .int a6'), (9, .int a7')] []) (ke0 : ∀ (a0' : Int32) (a1' : Int32) (a2' : Int32) (a3' : Int32) (a4' : Int32) (a5' : Int32) (a6' : km_S), o = .inr (a0', a1', a2', a3', a4', a5', a6') → kj_J p l e rm_X8_numberOf s m args below meth c 0 0 Q 10 D A ((km_w cA h0 q) a6') 110 [(0, .ref h0), (1, .ref (q k0)), (2, .int a0'), (3, .int a1'), (4, .int a2'), (5, .int a3'), (7, .int a4'), (8, .int a5')] []) : kj_J p l e rm_X8_numberOf s m args below meth c 0 0 Q 10 D A ((km_w cA h0 q) z) 101 [(0, .ref h0), (1, .ref (q k0)), (2, .int x2), (3, .int x3), (4, .int x4), (6, .int x6), (7, .int x7), (8, .int x8), (9, .int x9)] [.int t0, .int t1] := by
  unfold fm_numberOf_101 at h
  refine kj_iadd F dX8_numberOf_101 ?_
  refine kj_istore F dX8_numberOf_102 (lv' := [(5, .int (t1 + t0)), (0, .ref h0), (1, .ref (q k0)), (2, .int x2), (3, .int x3), (4, .int x4), (6, .int x6), (7, .int x7), (8, .int x8), (9, .int x9)]) (by decide) rfl ?_
  refine kj_iinc F dX8_numberOf_104 9 rfl (v := 1) (by decide) (by decide) (lv' := [(9, .int (x9 + 1)), (5, .int (t1 + t0)), (0, .ref h0), (1, .ref (q k0)), (2, .int x2), (3, .int x3), (4, .int x4), (6, .int x6), (7, .int x7), (8, .int x8)]) rfl ?_
  refine kj_goto F dX8_numberOf_107 (tgt := 59) (by decide) ?_
  refine kj_J.sub [2, 3, 4, 5, 6, 1, 7, 8, 9, 0] rfl ?_
  exact kb x2 x3 x4 (t1 + t0) x6 x7 x8 (x9 + 1) z (Option.some.inj h).symm
set_option maxRecDepth 20000 in
theorem jm_numberOf_59 {p : Program} {l : Launch} {e : Env} {s : State} {m : MethodId} {args : Array Value} {below : List Frame} {meth : Method} {c : Code} {A : Nat → Prop} {D : va_G} {cA : Nat → ClassId} {h0 : Nat} {q : Nat → Nat} {Q : State → Prop} (F : kj_Fx p s m args meth c cX8_numberOf 10 wsX8_numberOf RX8 (some .int) D (km_T cA) A) {k0 : Nat} (hk0 : k0 < 18) {x2 : Int32} {x3 : Int32} {x4 : Int32} {x5 : Int32} {x6 : Int32} {x7 : Int32} {x8 : Int32} {x9 : Int32} {z : km_S} {o : ((Int32 × Int32 × Int32 × Int32 × Int32 × Int32 × Int32 × Int32 × km_S) ⊕ (Int32 × Int32 × Int32 × Int32 × Int32 × Int32 × km_S))} (h : fm_numberOf_59 k0 x2 x3 x4 x5 x6 x7 x8 x9 z = some o) (kb : ∀ (a0' : Int32) (a1' : Int32) (a2' : Int32) (a3' : Int32) (a4' : Int32) (a5' : Int32) (a6' : Int32) (a7' : Int32) (a8' : km_S), o = .inl (a0', a1', a2', a3', a4', a5', a6', a7', a8') → kj_J p l e rm_X8_numberOf s m args below meth c 0 0 Q 10 D A ((km_w cA h0 q) a8') 59 [(0, .ref h0), (1, .ref (q k0)), (2, .int a0'), (3, .int a1'), (4, .int a2'), (5, .int a3'), (6, .int a4'), (7, .int a5'), (8, .int a6'), (9, .int a7')] []) (ke0 : ∀ (a0' : Int32) (a1' : Int32) (a2' : Int32) (a3' : Int32) (a4' : Int32) (a5' : Int32) (a6' : km_S), o = .inr (a0', a1', a2', a3', a4', a5', a6') → kj_J p l e rm_X8_numberOf s m args below meth c 0 0 Q 10 D A ((km_w cA h0 q) a6') 110 [(0, .ref h0), (1, .ref (q k0)), (2, .int a0'), (3, .int a1'), (4, .int a2'), (5, .int a3'), (7, .int a4'), (8, .int a5')] []) : kj_J p l e rm_X8_numberOf s m args below meth c 0 0 Q 10 D A ((km_w cA h0 q) z) 59 [(0, .ref h0), (1, .ref (q k0)), (2, .int x2), (3, .int x3), (4, .int x4), (5, .int x5), (6, .int x6), (7, .int x7), (8, .int x8), (9, .int x9)] [] := by
  unfold fm_numberOf_59 at h
  refine kj_iload F dX8_numberOf_59 9 rfl ?_
  refine kj_iload F dX8_numberOf_61 8 rfl ?_
  refine kj_icmp_ge F dX8_numberOf_63 (tgt := 110) (by decide) h (fun hc h => ?_) (fun hc h => ?_)
  · refine kj_J.sub [0, 1, 2, 3, 4, 5, 7, 8] rfl ?_
    exact ke0 x2 x3 x4 x5 x7 x8 z (Option.some.inj h).symm
  · refine kj_iload F dX8_numberOf_66 5 rfl ?_
    refine kj_aload_n F dX8_numberOf_68 0 rfl rfl ?_
    refine kj_iload F dX8_numberOf_69 9 rfl ?_
    refine kj_iload F dX8_numberOf_71 6 rfl ?_
    refine kj_iload F dX8_numberOf_73 4 rfl ?_
    refine kj_cVi (As := [.int x9, .int x6, .int x4]) (rest := [.int x5]) F dX8_numberOf_75 h (fun o h1 => cm_isUnder h1) (cwV 3 F.2.2.2.2.1 gX8_numberOf_X8_isUnder rfl rfl rfl (by decide +kernel) ⟨Nat.le_of_ble_eq_true rfl, Nat.le_of_ble_eq_true rfl⟩) 0 rfl rfl rfl rfl rfl (Nat.le_of_ble_eq_true rfl) ⟨Nat.zero_le _, Nat.zero_le _⟩ (fun o1 h => ?_)
    refine kj_if_eq F dX8_numberOf_78 (tgt := 100) (by decide) h (fun hc h => ?_) (fun hc h => ?_)
    · refine kj_iconst F dX8_numberOf_100 (v := 0) (by decide) ?_
      refine kj_J.sub [0, 1, 2, 3, 4, 6, 7, 8, 9] rfl ?_
      exact jm_numberOf_101 F hk0 h kb ke0
    · refine kj_aload_n F dX8_numberOf_81 0 rfl rfl ?_
      refine km_get F dX8_numberOf_82 in_X8_numberOf 15 (by decide) (by decide +kernel) rfl rfl ?_
      refine kj_iconst F dX8_numberOf_85 (v := 5) (by decide) ?_
      refine kj_iload F dX8_numberOf_86 9 rfl ?_
      refine kj_imul F dX8_numberOf_88 ?_
      refine kj_iload_n F dX8_numberOf_89 3 rfl rfl ?_
      refine kj_iadd F dX8_numberOf_90 ?_
      refine kj_iconst F dX8_numberOf_91 (v := 1) (by decide) ?_
      refine kj_isub F dX8_numberOf_92 ?_
      refine kj_iload F dX8_numberOf_93 7 rfl ?_
      refine kj_isub F dX8_numberOf_95 ?_
      refine km_iald F dX8_numberOf_96 7 (by decide) h (fun v2 h => ?_)
      refine kj_goto F dX8_numberOf_97 (tgt := 101) (by decide) ?_
      refine kj_J.sub [0, 1, 2, 3, 4, 6, 7, 8, 9] rfl ?_
      exact jm_numberOf_101 F hk0 h kb ke0
theorem jlm_numberOf_59 {p : Program} {l : Launch} {e : Env} {s : State} {m : MethodId} {args : Array Value} {below : List Frame} {meth : Method} {c : Code} {A : Nat → Prop} {D : va_G} {cA : Nat → ClassId} {h0 : Nat} {q : Nat → Nat} {Q : State → Prop} (F : kj_Fx p s m args meth c cX8_numberOf 10 wsX8_numberOf RX8 (some .int) D (km_T cA) A) {k0 : Nat} (hk0 : k0 < 18) {n : Nat} {x2 : Int32} {x3 : Int32} {x4 : Int32} {x5 : Int32} {x6 : Int32} {x7 : Int32} {x8 : Int32} {x9 : Int32} {z : km_S} {r : (Int32 × Int32 × Int32 × Int32 × Int32 × Int32 × km_S)} (h : lm_numberOf_59 k0 n x2 x3 x4 x5 x6 x7 x8 x9 z = some r) (ke : kj_J p l e rm_X8_numberOf s m args below meth c 0 0 Q 10 D A ((km_w cA h0 q) (r.2.2.2.2.2.2)) 110 [(0, .ref h0), (1, .ref (q k0)), (2, .int (r.1)), (3, .int (r.2.1)), (4, .int (r.2.2.1)), (5, .int (r.2.2.2.1)), (7, .int (r.2.2.2.2.1)), (8, .int (r.2.2.2.2.2.1))] []) : kj_J p l e rm_X8_numberOf s m args below meth c 0 0 Q 10 D A ((km_w cA h0 q) z) 59 [(0, .ref h0), (1, .ref (q k0)), (2, .int x2), (3, .int x3), (4, .int x4), (5, .int x5), (6, .int x6), (7, .int x7), (8, .int x8), (9, .int x9)] [] :=
  kj_it_J (Wh := fun (u : (Int32 × Int32 × Int32 × Int32 × Int32 × Int32 × Int32 × Int32 × km_S)) => kj_J p l e rm_X8_numberOf s m args below meth c 0 0 Q 10 D A ((km_w cA h0 q) (u.2.2.2.2.2.2.2.2)) 59 [(0, .ref h0), (1, .ref (q k0)), (2, .int (u.1)), (3, .int (u.2.1)), (4, .int (u.2.2.1)), (5, .int (u.2.2.2.1)), (6, .int (u.2.2.2.2.1)), (7, .int (u.2.2.2.2.2.1)), (8, .int (u.2.2.2.2.2.2.1)), (9, .int (u.2.2.2.2.2.2.2.1))] []) (We := fun r => kj_J p l e rm_X8_numberOf s m args below meth c 0 0 Q 10 D A ((km_w cA h0 q) (r.2.2.2.2.2.2)) 110 [(0, .ref h0), (1, .ref (q k0)), (2, .int (r.1)), (3, .int (r.2.1)), (4, .int (r.2.2.1)), (5, .int (r.2.2.2.1)), (7, .int (r.2.2.2.2.1)), (8, .int (r.2.2.2.2.2.1))] []) (fun u o h kb ke => jm_numberOf_59 F hk0 h (fun a0' a1' a2' a3' a4' a5' a6' a7' a8' e => kb (a0', a1', a2', a3', a4', a5', a6', a7', a8') e) (fun a0' a1' a2' a3' a4' a5' a6' e => ke (a0', a1', a2', a3', a4', a5', a6') e)) n (x2, x3, x4, x5, x6, x7, x8, x9, z) r h ke
set_option maxRecDepth 20000 in
theorem jm_numberOf_40 {p : Program} {l : Launch} {e : Env} {s : State} {m : MethodId} {args : Array Value} {below : List Frame} {meth : Method} {c : Code} {A : Nat → Prop} {D : va_G} {cA : Nat → ClassId} {h0 : Nat} {q : Nat → Nat} {Q : State → Prop} (F : kj_Fx p s m args meth c cX8_numberOf 10 wsX8_numberOf RX8 (some .int) D (km_T cA) A) {k0 : Nat} (hk0 : k0 < 18) {x2 : Int32} {x3 : Int32} {x4 : Int32} {x5 : Int32} {x6 : Int32} {x7 : Int32} {z : km_S} {o : ((Int32 × Int32 × Int32 × Int32 × Int32 × Int32 × km_S) ⊕ (Int32 × km_S))} (h : fm_numberOf_40 k0 x2 x3 x4 x5 x6 x7 z = some o) (kb : ∀ (a0' : Int32) (a1' : Int32) (a2' : Int32) (a3' : Int32) (a4' : Int32) (a5' : Int32) (a6' : km_S), o = .inl (a0', a1', a2', a3', a4', a5', a6') → kj_J p l e rm_X8_numberOf s m args below meth c 0 0 Q 10 D A ((km_w cA h0 q) a6') 40 [(0, .ref h0), (1, .ref (q k0)), (2, .int a0'), (3, .int a1'), (4, .int a2'), (5, .int a3'), (6, .int a4'), (7, .int a5')] []) (ke0 : ∀ (a0' : Int32) (a1' : km_S), o = .inr (a0', a1') → kj_J p l e rm_X8_numberOf s m args below meth c 0 0 Q 10 D A ((km_w cA h0 q) a1') 120 [(5, .int a0')] []) : kj_J p l e rm_X8_numberOf s m args below meth c 0 0 Q 10 D A ((km_w cA h0 q) z) 40 [(0, .ref h0), (1, .ref (q k0)), (2, .int x2), (3, .int x3), (4, .int x4), (5, .int x5), (6, .int x6), (7, .int x7)] [] := by
  unfold fm_numberOf_40 at h
  refine kj_iload F dX8_numberOf_40 7 rfl ?_
  refine kj_iload_n F dX8_numberOf_42 3 rfl rfl ?_
  refine kj_icmp_ge F dX8_numberOf_43 (tgt := 120) (by decide) h (fun hc h => ?_) (fun hc h => ?_)
  · refine kj_J.sub [5] rfl ?_
    exact ke0 x5 z (Option.some.inj h).symm
  · refine kj_aload_n F dX8_numberOf_46 0 rfl rfl ?_
    refine kj_aload_n F dX8_numberOf_47 1 rfl rfl ?_
    refine kj_iload_n F dX8_numberOf_48 2 rfl rfl ?_
    refine kj_iload F dX8_numberOf_49 7 rfl ?_
    refine kj_cVi (As := [.ref (q k0), .int x2, .int x7]) (rest := []) F dX8_numberOf_51 h (fun o h1 => cm_rowOf hk0 h1) (cwV 3 F.2.2.2.2.1 gX8_numberOf_X8_rowOf rfl rfl rfl (by decide +kernel) ⟨Nat.le_of_ble_eq_true rfl, Nat.le_of_ble_eq_true rfl⟩) 0 rfl rfl rfl rfl rfl (Nat.le_of_ble_eq_true rfl) ⟨Nat.zero_le _, Nat.zero_le _⟩ (fun o1 h => ?_)
    refine kj_istore F dX8_numberOf_54 (lv' := [(8, .int (o1.1)), (0, .ref h0), (1, .ref (q k0)), (2, .int x2), (3, .int x3), (4, .int x4), (5, .int x5), (6, .int x6), (7, .int x7)]) (by decide) rfl ?_
    refine kj_iconst F dX8_numberOf_56 (v := 0) (by decide) ?_
    refine kj_istore F dX8_numberOf_57 (lv' := [(9, .int (0 : Int32)), (8, .int (o1.1)), (0, .ref h0), (1, .ref (q k0)), (2, .int x2), (3, .int x3), (4, .int x4), (5, .int x5), (6, .int x6), (7, .int x7)]) (by decide) rfl ?_
    refine kj_J.sub [2, 3, 4, 5, 6, 7, 8, 9, 1, 0] rfl ?_
    refine kj_bn h (fun r2 h1 h => ?_)
    refine jlm_numberOf_59 F hk0 h1 ?_
    refine kj_iload F dX8_numberOf_110 7 rfl ?_
    refine kj_istore F dX8_numberOf_112 (lv' := [(6, .int (r2.2.2.2.2.2.1)), (0, .ref h0), (1, .ref (q k0)), (2, .int (r2.1)), (3, .int (r2.2.1)), (4, .int (r2.2.2.1)), (5, .int (r2.2.2.2.1)), (7, .int (r2.2.2.2.2.1)), (8, .int (r2.2.2.2.2.2.1))]) (by decide) rfl ?_
    refine kj_iinc F dX8_numberOf_114 7 rfl (v := 1) (by decide) (by decide) (lv' := [(7, .int ((r2.2.2.2.2.1) + 1)), (6, .int (r2.2.2.2.2.2.1)), (0, .ref h0), (1, .ref (q k0)), (2, .int (r2.1)), (3, .int (r2.2.1)), (4, .int (r2.2.2.1)), (5, .int (r2.2.2.2.1)), (8, .int (r2.2.2.2.2.2.1))]) rfl ?_
    refine kj_goto F dX8_numberOf_117 (tgt := 40) (by decide) ?_
    refine kj_J.sub [2, 3, 4, 5, 6, 7, 1, 0] rfl ?_
    exact kb (r2.1) (r2.2.1) (r2.2.2.1) (r2.2.2.2.1) (r2.2.2.2.2.2.1) ((r2.2.2.2.2.1) + 1) (r2.2.2.2.2.2.2) (Option.some.inj h).symm
theorem jlm_numberOf_40 {p : Program} {l : Launch} {e : Env} {s : State} {m : MethodId} {args : Array Value} {below : List Frame} {meth : Method} {c : Code} {A : Nat → Prop} {D : va_G} {cA : Nat → ClassId} {h0 : Nat} {q : Nat → Nat} {Q : State → Prop} (F : kj_Fx p s m args meth c cX8_numberOf 10 wsX8_numberOf RX8 (some .int) D (km_T cA) A) {k0 : Nat} (hk0 : k0 < 18) {n : Nat} {x2 : Int32} {x3 : Int32} {x4 : Int32} {x5 : Int32} {x6 : Int32} {x7 : Int32} {z : km_S} {r : (Int32 × km_S)} (h : lm_numberOf_40 k0 n x2 x3 x4 x5 x6 x7 z = some r) (ke : kj_J p l e rm_X8_numberOf s m args below meth c 0 0 Q 10 D A ((km_w cA h0 q) (r.2)) 120 [(5, .int (r.1))] []) : kj_J p l e rm_X8_numberOf s m args below meth c 0 0 Q 10 D A ((km_w cA h0 q) z) 40 [(0, .ref h0), (1, .ref (q k0)), (2, .int x2), (3, .int x3), (4, .int x4), (5, .int x5), (6, .int x6), (7, .int x7)] [] :=
  kj_it_J (Wh := fun (u : (Int32 × Int32 × Int32 × Int32 × Int32 × Int32 × km_S)) => kj_J p l e rm_X8_numberOf s m args below meth c 0 0 Q 10 D A ((km_w cA h0 q) (u.2.2.2.2.2.2)) 40 [(0, .ref h0), (1, .ref (q k0)), (2, .int (u.1)), (3, .int (u.2.1)), (4, .int (u.2.2.1)), (5, .int (u.2.2.2.1)), (6, .int (u.2.2.2.2.1)), (7, .int (u.2.2.2.2.2.1))] []) (We := fun r => kj_J p l e rm_X8_numberOf s m args below meth c 0 0 Q 10 D A ((km_w cA h0 q) (r.2)) 120 [(5, .int (r.1))] []) (fun u o h kb ke => jm_numberOf_40 F hk0 h (fun a0' a1' a2' a3' a4' a5' a6' e => kb (a0', a1', a2', a3', a4', a5', a6') e) (fun a0' a1' e => ke (a0', a1') e)) n (x2, x3, x4, x5, x6, x7, z) r h ke
set_option maxRecDepth 20000 in
theorem jm_numberOf {p : Program} {l : Launch} {e : Env} {s : State} {m : MethodId} {args : Array Value} {below : List Frame} {meth : Method} {c : Code} {A : Nat → Prop} {D : va_G} {cA : Nat → ClassId} {h0 : Nat} {q : Nat → Nat} (F : kj_Fx p s m args meth c cX8_numberOf 10 wsX8_numberOf RX8 (some .int) D (km_T cA) A) {k0 : Nat} (hk0 : k0 < 18) {x2 : Int32} {z : km_S} {o : (Int32 × km_S)} (h : fm_numberOf k0 x2 z = some o) : kj_J p l e rm_X8_numberOf s m args below meth c 0 0 (MQ below (kj_Qi D (km_T cA) A (km_w cA h0 q) o) args s 0 0 A) 10 D A ((km_w cA h0 q) z) 0 [(0, .ref h0), (1, .ref (q k0)), (2, .int x2)] [] := by
  unfold fm_numberOf at h
  refine kj_aload_n F dX8_numberOf_0 1 rfl rfl ?_
  refine kj_iload_n F dX8_numberOf_1 2 rfl rfl ?_
  refine kj_iconst F dX8_numberOf_2 (v := 1) (by decide) ?_
  refine kj_iadd F dX8_numberOf_3 ?_
  refine km_iald F dX8_numberOf_4 k0 hk0 h (fun v1 h => ?_)
  refine kj_istore_n F dX8_numberOf_5 (lv' := [(3, .int v1), (0, .ref h0), (1, .ref (q k0)), (2, .int x2)]) rfl (by decide) rfl ?_
  refine kj_aload_n F dX8_numberOf_6 2 rfl rfl ?_
  refine kj_iload_n F dX8_numberOf_7 3 rfl rfl ?_
  refine kj_iconst F dX8_numberOf_8 (v := 2) (by decide) ?_
  refine kj_iadd F dX8_numberOf_9 ?_
  refine km_iald F dX8_numberOf_10 k0 hk0 h (fun v2 h => ?_)
  refine kj_istore F dX8_numberOf_11 (lv' := [(4, .int v2), (3, .int v1), (0, .ref h0), (1, .ref (q k0)), (2, .int x2)]) (by decide) rfl ?_
  refine kj_aload_n F dX8_numberOf_13 2 rfl rfl ?_
  refine kj_iload_n F dX8_numberOf_14 1 rfl rfl ?_
  refine kj_iload F dX8_numberOf_15 0 rfl ?_
  refine kj_aload_n F dX8_numberOf_17 3 rfl rfl ?_
  refine kj_iload_n F dX8_numberOf_18 4 rfl rfl ?_
  refine kj_iconst F dX8_numberOf_19 (v := 3) (by decide) ?_
  refine kj_iadd F dX8_numberOf_20 ?_
  refine km_iald F dX8_numberOf_21 k0 hk0 h (fun v3 h => ?_)
  refine kj_cVi (As := [.int v1, .int v2, .int v3]) (rest := []) F dX8_numberOf_22 h (fun o h1 => cm_lays h1) (cwV 3 F.2.2.2.2.1 gX8_numberOf_X8_lays rfl rfl rfl (by decide +kernel) ⟨Nat.le_of_ble_eq_true rfl, Nat.le_of_ble_eq_true rfl⟩) 0 rfl rfl rfl rfl rfl (Nat.le_of_ble_eq_true rfl) ⟨Nat.zero_le _, Nat.zero_le _⟩ (fun o4 h => ?_)
  refine kj_pop F dX8_numberOf_25 rfl ?_
  refine kj_iconst F dX8_numberOf_26 (v := 0) (by decide) ?_
  refine kj_istore F dX8_numberOf_27 (lv' := [(5, .int (0 : Int32)), (4, .int v2), (3, .int v1), (0, .ref h0), (1, .ref (q k0)), (2, .int x2)]) (by decide) rfl ?_
  refine kj_aload_n F dX8_numberOf_29 3 rfl rfl ?_
  refine km_get F dX8_numberOf_30 in_X8_numberOf 14 (by decide) (by decide +kernel) rfl rfl ?_
  refine kj_iconst F dX8_numberOf_33 (v := 1) (by decide) ?_
  refine kj_isub F dX8_numberOf_34 ?_
  refine kj_istore F dX8_numberOf_35 (lv' := [(6, .int (((o4.2).1 5) - (1 : Int32))), (5, .int (0 : Int32)), (4, .int v2), (3, .int v1), (0, .ref h0), (1, .ref (q k0)), (2, .int x2)]) (by decide) rfl ?_
  refine kj_iconst F dX8_numberOf_37 (v := 0) (by decide) ?_
  refine kj_istore F dX8_numberOf_38 (lv' := [(7, .int (0 : Int32)), (6, .int (((o4.2).1 5) - (1 : Int32))), (5, .int (0 : Int32)), (4, .int v2), (3, .int v1), (0, .ref h0), (1, .ref (q k0)), (2, .int x2)]) (by decide) rfl ?_
  refine kj_J.sub [5, 6, 7, 4, 3, 2, 1, 0] rfl ?_
  refine kj_bn h (fun r5 h1 h => ?_)
  refine jlm_numberOf_40 F hk0 h1 ?_
  refine kj_iload F dX8_numberOf_120 0 rfl ?_
  exact kj_iret F dX8_numberOf_122 h
theorem cm_numberOf {l : Launch} {D : va_G} {cA : Nat → ClassId} {h0 : Nat} {q : Nat → Nat} {k0 : Nat} (hk0 : k0 < 18) {x2 : Int32} {z : km_S} {o : (Int32 × km_S)} (h : fm_numberOf k0 x2 z = some o) : kj_Mi l yX8_numberOf wsX8_numberOf rm_X8_numberOf D (km_T cA) (km_w cA h0 q) z [.ref h0, .ref (q k0), .int x2] o :=
  fun sz => kj_start (by decide) rfl (Nat.le_of_ble_eq_true rfl) rfl fun p e s m args below meth c hsz F => jm_numberOf F hk0 h
/-! X8_makes -/
abbrev rm_X8_makes : Room := { frames := 1, cells := 0, slots := 0, locals := 25 }
theorem in_X8_makes : ∀ w ∈ u_ws RX8 TX8 29, w ∈ wsX8_makes := by decide +kernel
def fm_makes_118 (x1 : Int32) (x2 : Int32) (x5 : Int32) (x6 : Int32) (x7 : Int32) (x9 : Int32) (t0 : Int32) (t1 : Int32) (z : km_S) : Option ((Int32 × Int32 × Int32 × Int32 × Int32 × Int32 × Int32 × km_S) ⊕ (Int32 × Int32 × Int32 × Int32 × Int32 × km_S)) :=
  some (.inl (x1, x2, x5, x6, x7, (t1 + t0), x9, z))
def fm_makes_103 (x1 : Int32) (x2 : Int32) (x6 : Int32) (x7 : Int32) (x8 : Int32) (x9 : Int32) (t0 : Int32) (t1 : Int32) (z : km_S) : Option ((Int32 × Int32 × Int32 × Int32 × Int32 × Int32 × Int32 × km_S) ⊕ (Int32 × Int32 × Int32 × Int32 × Int32 × km_S)) :=
  if x9 = 0 then
  fm_makes_118 x1 x2 (t1 - t0) x6 x7 x9 (1 : Int32) x8 z
  else
  fm_makes_118 x1 x2 (t1 - t0) x6 x7 x9 (0 : Int32) x8 z
def fm_makes_88 (x1 : Int32) (x2 : Int32) (x5 : Int32) (x6 : Int32) (x7 : Int32) (x8 : Int32) (x10 : Int32) (t0 : Int32) (z : km_S) : Option ((Int32 × Int32 × Int32 × Int32 × Int32 × Int32 × Int32 × km_S) ⊕ (Int32 × Int32 × Int32 × Int32 × Int32 × km_S)) :=
  if t0 = 0 then
  fm_makes_103 x1 x2 x6 x7 x8 t0 x10 x5 z
  else
  fm_makes_103 x1 x2 x6 x7 x8 t0 (0 : Int32) x5 z
def fm_makes_74 (x1 : Int32) (x2 : Int32) (x5 : Int32) (x6 : Int32) (x7 : Int32) (x8 : Int32) (t0 : Int32) (z : km_S) : Option ((Int32 × Int32 × Int32 × Int32 × Int32 × Int32 × Int32 × km_S) ⊕ (Int32 × Int32 × Int32 × Int32 × Int32 × km_S)) :=
  if t0 ≤ x5 then
  fm_makes_88 x1 x2 x5 x6 x7 x8 t0 (0 : Int32) z
  else
  fm_makes_88 x1 x2 x5 x6 x7 x8 t0 (1 : Int32) z
def fm_makes_37 (x1 : Int32) (x2 : Int32) (x5 : Int32) (x6 : Int32) (x7 : Int32) (x8 : Int32) (x9 : Int32) (z : km_S) : Option ((Int32 × Int32 × Int32 × Int32 × Int32 × Int32 × Int32 × km_S) ⊕ (Int32 × Int32 × Int32 × Int32 × Int32 × km_S)) :=
  if x9 = 0 then
  (fm_isUnder x8 x6 x2 z).bind fun o1 =>
  if (o1.1) = 0 then
  fm_makes_74 x1 x2 x5 x6 x7 x8 (0 : Int32) (o1.2)
  else
  (km_rd (o1.2) 7 (((((5 : Int32) * x8) + x1) - (1 : Int32)) - x7)).bind fun v2 =>
  fm_makes_74 x1 x2 x5 x6 x7 x8 v2 (o1.2)
  else
  some (.inr (x1, x2, x5, x7, x8, z))
def lm_makes_37 (n : Nat) (x1 : Int32) (x2 : Int32) (x5 : Int32) (x6 : Int32) (x7 : Int32) (x8 : Int32) (x9 : Int32) (z : km_S) : Option (Int32 × Int32 × Int32 × Int32 × Int32 × km_S) :=
  kj_it (fun (s : (Int32 × Int32 × Int32 × Int32 × Int32 × Int32 × Int32 × km_S)) => fm_makes_37 (s.1) (s.2.1) (s.2.2.1) (s.2.2.2.1) (s.2.2.2.2.1) (s.2.2.2.2.2.1) (s.2.2.2.2.2.2.1) (s.2.2.2.2.2.2.2)) n (x1, x2, x5, x6, x7, x8, x9, z)
def fm_makes_25 (x1 : Int32) (x2 : Int32) (x5 : Int32) (x6 : Int32) (x7 : Int32) (z : km_S) : Option ((Int32 × Int32 × Int32 × Int32 × Int32 × km_S) ⊕ km_S) :=
  if x1 ≤ x7 then
  some (.inr z)
  else
  (lm_makes_37 5000 x1 x2 x5 x6 x7 (0 : Int32) (0 : Int32) z).bind fun r1 =>
  (fm_at (r1.2.2.2.1) (0 : Int32)).bind fun o2 =>
  (fm_bring 6 4 ((4 : Int32) * (r1.2.2.2.2.1)) o2 (r1.2.1) (r1.2.2.2.2.2)).bind fun o3 =>
  some (.inl ((r1.1), (r1.2.1), (r1.2.2.1), (r1.2.2.2.2.1), ((r1.2.2.2.1) + 1), o3))
def lm_makes_25 (n : Nat) (x1 : Int32) (x2 : Int32) (x5 : Int32) (x6 : Int32) (x7 : Int32) (z : km_S) : Option km_S :=
  kj_it (fun (s : (Int32 × Int32 × Int32 × Int32 × Int32 × km_S)) => fm_makes_25 (s.1) (s.2.1) (s.2.2.1) (s.2.2.2.1) (s.2.2.2.2.1) (s.2.2.2.2.2)) n (x1, x2, x5, x6, x7, z)
def fm_makes (x1 : Int32) (x2 : Int32) (x3 : Int32) (x4 : Int32) (z : km_S) : Option km_S :=
  (fm_begins 4 x1 x2 x3 z).bind fun o1 =>
  (lm_makes_25 5000 x1 x2 x4 ((o1.1 5) - (1 : Int32)) (0 : Int32) o1).bind fun r2 =>
  some (r2)
set_option maxRecDepth 20000 in
theorem jm_makes_118 {p : Program} {l : Launch} {e : Env} {s : State} {m : MethodId} {args : Array Value} {below : List Frame} {meth : Method} {c : Code} {A : Nat → Prop} {D : va_G} {cA : Nat → ClassId} {h0 : Nat} {q : Nat → Nat} {Q : State → Prop} (F : kj_Fx p s m args meth c cX8_makes 11 wsX8_makes RX8 none D (km_T cA) A) {x1 : Int32} {x2 : Int32} {x5 : Int32} {x6 : Int32} {x7 : Int32} {x9 : Int32} {t0 : Int32} {t1 : Int32} {z : km_S} {o : ((Int32 × Int32 × Int32 × Int32 × Int32 × Int32 × Int32 × km_S) ⊕ (Int32 × Int32 × Int32 × Int32 × Int32 × km_S))} (h : fm_makes_118 x1 x2 x5 x6 x7 x9 t0 t1 z = some o) (kb : ∀ (a0' : Int32) (a1' : Int32) (a2' : Int32) (a3' : Int32) (a4' : Int32) (a5' : Int32) (a6' : Int32) (a7' : km_S), o = .inl (a0', a1', a2', a3', a4', a5', a6', a7') → kj_J p l e rm_X8_makes s m args below meth c 0 0 Q 11 D A ((km_w cA h0 q) a7') 37 [(0, .ref h0), (1, .int a0'), (2, .int a1'), (5, .int a2'), (6, .int a3'), (7, .int a4'), (8, .int a5'), (9, .int a6')] []) (ke0 : ∀ (a0' : Int32) (a1' : Int32) (a2' : Int32) (a3' : Int32) (a4' : Int32) (a5' : km_S), o = .inr (a0', a1', a2', a3', a4', a5') → kj_J p l e rm_X8_makes s m args below meth c 0 0 Q 11 D A ((km_w cA h0 q) a5') 124 [(0, .ref h0), (1, .int a0'), (2, .int a1'), (5, .int a2'), (7, .int a3'), (8, .int a4')] []) : kj_J p l e rm_X8_makes s m args below meth c 0 0 Q 11 D A ((km_w cA h0 q) z) 118 [(0, .ref h0), (1, .int x1), (2, .int x2), (5, .int x5), (6, .int x6), (7, .int x7), (9, .int x9)] [.int t0, .int t1] := by
  unfold fm_makes_118 at h
  refine kj_iadd F dX8_makes_118 ?_
  refine kj_istore F dX8_makes_119 (lv' := [(8, .int (t1 + t0)), (0, .ref h0), (1, .int x1), (2, .int x2), (5, .int x5), (6, .int x6), (7, .int x7), (9, .int x9)]) (by decide) rfl ?_
  refine kj_goto F dX8_makes_121 (tgt := 37) (by decide) ?_
  refine kj_J.sub [1, 2, 3, 4, 5, 6, 0, 7] rfl ?_
  exact kb x1 x2 x5 x6 x7 (t1 + t0) x9 z (Option.some.inj h).symm
set_option maxRecDepth 20000 in
theorem jm_makes_103 {p : Program} {l : Launch} {e : Env} {s : State} {m : MethodId} {args : Array Value} {below : List Frame} {meth : Method} {c : Code} {A : Nat → Prop} {D : va_G} {cA : Nat → ClassId} {h0 : Nat} {q : Nat → Nat} {Q : State → Prop} (F : kj_Fx p s m args meth c cX8_makes 11 wsX8_makes RX8 none D (km_T cA) A) {x1 : Int32} {x2 : Int32} {x6 : Int32} {x7 : Int32} {x8 : Int32} {x9 : Int32} {t0 : Int32} {t1 : Int32} {z : km_S} {o : ((Int32 × Int32 × Int32 × Int32 × Int32 × Int32 × Int32 × km_S) ⊕ (Int32 × Int32 × Int32 × Int32 × Int32 × km_S))} (h : fm_makes_103 x1 x2 x6 x7 x8 x9 t0 t1 z = some o) (kb : ∀ (a0' : Int32) (a1' : Int32) (a2' : Int32) (a3' : Int32) (a4' : Int32) (a5' : Int32) (a6' : Int32) (a7' : km_S), o = .inl (a0', a1', a2', a3', a4', a5', a6', a7') → kj_J p l e rm_X8_makes s m args below meth c 0 0 Q 11 D A ((km_w cA h0 q) a7') 37 [(0, .ref h0), (1, .int a0'), (2, .int a1'), (5, .int a2'), (6, .int a3'), (7, .int a4'), (8, .int a5'), (9, .int a6')] []) (ke0 : ∀ (a0' : Int32) (a1' : Int32) (a2' : Int32) (a3' : Int32) (a4' : Int32) (a5' : km_S), o = .inr (a0', a1', a2', a3', a4', a5') → kj_J p l e rm_X8_makes s m args below meth c 0 0 Q 11 D A ((km_w cA h0 q) a5') 124 [(0, .ref h0), (1, .int a0'), (2, .int a1'), (5, .int a2'), (7, .int a3'), (8, .int a4')] []) : kj_J p l e rm_X8_makes s m args below meth c 0 0 Q 11 D A ((km_w cA h0 q) z) 103 [(0, .ref h0), (1, .int x1), (2, .int x2), (6, .int x6), (7, .int x7), (8, .int x8), (9, .int x9)] [.int t0, .int t1] := by
  unfold fm_makes_103 at h
  refine kj_isub F dX8_makes_103 ?_
  refine kj_istore F dX8_makes_104 (lv' := [(5, .int (t1 - t0)), (0, .ref h0), (1, .int x1), (2, .int x2), (6, .int x6), (7, .int x7), (8, .int x8), (9, .int x9)]) (by decide) rfl ?_
  refine kj_iload F dX8_makes_106 6 rfl ?_
  refine kj_iload F dX8_makes_108 7 rfl ?_
  refine kj_if_eq F dX8_makes_110 (tgt := 117) (by decide) h (fun hc h => ?_) (fun hc h => ?_)
  · refine kj_iconst F dX8_makes_117 (v := 1) (by decide) ?_
    refine kj_J.sub [1, 2, 3, 0, 4, 5, 7] rfl ?_
    exact jm_makes_118 F h kb ke0
  · refine kj_iconst F dX8_makes_113 (v := 0) (by decide) ?_
    refine kj_goto F dX8_makes_114 (tgt := 118) (by decide) ?_
    refine kj_J.sub [1, 2, 3, 0, 4, 5, 7] rfl ?_
    exact jm_makes_118 F h kb ke0
set_option maxRecDepth 20000 in
theorem jm_makes_88 {p : Program} {l : Launch} {e : Env} {s : State} {m : MethodId} {args : Array Value} {below : List Frame} {meth : Method} {c : Code} {A : Nat → Prop} {D : va_G} {cA : Nat → ClassId} {h0 : Nat} {q : Nat → Nat} {Q : State → Prop} (F : kj_Fx p s m args meth c cX8_makes 11 wsX8_makes RX8 none D (km_T cA) A) {x1 : Int32} {x2 : Int32} {x5 : Int32} {x6 : Int32} {x7 : Int32} {x8 : Int32} {x10 : Int32} {t0 : Int32} {z : km_S} {o : ((Int32 × Int32 × Int32 × Int32 × Int32 × Int32 × Int32 × km_S) ⊕ (Int32 × Int32 × Int32 × Int32 × Int32 × km_S))} (h : fm_makes_88 x1 x2 x5 x6 x7 x8 x10 t0 z = some o) (kb : ∀ (a0' : Int32) (a1' : Int32) (a2' : Int32) (a3' : Int32) (a4' : Int32) (a5' : Int32) (a6' : Int32) (a7' : km_S), o = .inl (a0', a1', a2', a3', a4', a5', a6', a7') → kj_J p l e rm_X8_makes s m args below meth c 0 0 Q 11 D A ((km_w cA h0 q) a7') 37 [(0, .ref h0), (1, .int a0'), (2, .int a1'), (5, .int a2'), (6, .int a3'), (7, .int a4'), (8, .int a5'), (9, .int a6')] []) (ke0 : ∀ (a0' : Int32) (a1' : Int32) (a2' : Int32) (a3' : Int32) (a4' : Int32) (a5' : km_S), o = .inr (a0', a1', a2', a3', a4', a5') → kj_J p l e rm_X8_makes s m args below meth c 0 0 Q 11 D A ((km_w cA h0 q) a5') 124 [(0, .ref h0), (1, .int a0'), (2, .int a1'), (5, .int a2'), (7, .int a3'), (8, .int a4')] []) : kj_J p l e rm_X8_makes s m args below meth c 0 0 Q 11 D A ((km_w cA h0 q) z) 88 [(0, .ref h0), (1, .int x1), (2, .int x2), (5, .int x5), (6, .int x6), (7, .int x7), (8, .int x8), (10, .int x10)] [.int t0] := by
  unfold fm_makes_88 at h
  refine kj_istore F dX8_makes_88 (lv' := [(9, .int t0), (0, .ref h0), (1, .int x1), (2, .int x2), (5, .int x5), (6, .int x6), (7, .int x7), (8, .int x8), (10, .int x10)]) (by decide) rfl ?_
  refine kj_iload F dX8_makes_90 4 rfl ?_
  refine kj_iload F dX8_makes_92 0 rfl ?_
  refine kj_if_eq F dX8_makes_94 (tgt := 101) (by decide) h (fun hc h => ?_) (fun hc h => ?_)
  · refine kj_iload F dX8_makes_101 8 rfl ?_
    refine kj_J.sub [1, 2, 3, 5, 6, 7, 0] rfl ?_
    exact jm_makes_103 F h kb ke0
  · refine kj_iconst F dX8_makes_97 (v := 0) (by decide) ?_
    refine kj_goto F dX8_makes_98 (tgt := 103) (by decide) ?_
    refine kj_J.sub [1, 2, 3, 5, 6, 7, 0] rfl ?_
    exact jm_makes_103 F h kb ke0
set_option maxRecDepth 20000 in
theorem jm_makes_74 {p : Program} {l : Launch} {e : Env} {s : State} {m : MethodId} {args : Array Value} {below : List Frame} {meth : Method} {c : Code} {A : Nat → Prop} {D : va_G} {cA : Nat → ClassId} {h0 : Nat} {q : Nat → Nat} {Q : State → Prop} (F : kj_Fx p s m args meth c cX8_makes 11 wsX8_makes RX8 none D (km_T cA) A) {x1 : Int32} {x2 : Int32} {x5 : Int32} {x6 : Int32} {x7 : Int32} {x8 : Int32} {t0 : Int32} {z : km_S} {o : ((Int32 × Int32 × Int32 × Int32 × Int32 × Int32 × Int32 × km_S) ⊕ (Int32 × Int32 × Int32 × Int32 × Int32 × km_S))} (h : fm_makes_74 x1 x2 x5 x6 x7 x8 t0 z = some o) (kb : ∀ (a0' : Int32) (a1' : Int32) (a2' : Int32) (a3' : Int32) (a4' : Int32) (a5' : Int32) (a6' : Int32) (a7' : km_S), o = .inl (a0', a1', a2', a3', a4', a5', a6', a7') → kj_J p l e rm_X8_makes s m args below meth c 0 0 Q 11 D A ((km_w cA h0 q) a7') 37 [(0, .ref h0), (1, .int a0'), (2, .int a1'), (5, .int a2'), (6, .int a3'), (7, .int a4'), (8, .int a5'), (9, .int a6')] []) (ke0 : ∀ (a0' : Int32) (a1' : Int32) (a2' : Int32) (a3' : Int32) (a4' : Int32) (a5' : km_S), o = .inr (a0', a1', a2', a3', a4', a5') → kj_J p l e rm_X8_makes s m args below meth c 0 0 Q 11 D A ((km_w cA h0 q) a5') 124 [(0, .ref h0), (1, .int a0'), (2, .int a1'), (5, .int a2'), (7, .int a3'), (8, .int a4')] []) : kj_J p l e rm_X8_makes s m args below meth c 0 0 Q 11 D A ((km_w cA h0 q) z) 74 [(0, .ref h0), (1, .int x1), (2, .int x2), (5, .int x5), (6, .int x6), (7, .int x7), (8, .int x8)] [.int t0] := by
  unfold fm_makes_74 at h
  refine kj_istore F dX8_makes_74 (lv' := [(10, .int t0), (0, .ref h0), (1, .int x1), (2, .int x2), (5, .int x5), (6, .int x6), (7, .int x7), (8, .int x8)]) (by decide) rfl ?_
  refine kj_iload F dX8_makes_76 4 rfl ?_
  refine kj_iload F dX8_makes_78 0 rfl ?_
  refine kj_icmp_ge F dX8_makes_80 (tgt := 87) (by decide) h (fun hc h => ?_) (fun hc h => ?_)
  · refine kj_iconst F dX8_makes_87 (v := 0) (by decide) ?_
    refine kj_J.sub [1, 2, 3, 4, 5, 6, 7, 0] rfl ?_
    exact jm_makes_88 F h kb ke0
  · refine kj_iconst F dX8_makes_83 (v := 1) (by decide) ?_
    refine kj_goto F dX8_makes_84 (tgt := 88) (by decide) ?_
    refine kj_J.sub [1, 2, 3, 4, 5, 6, 7, 0] rfl ?_
    exact jm_makes_88 F h kb ke0
set_option maxRecDepth 20000 in
theorem jm_makes_37 {p : Program} {l : Launch} {e : Env} {s : State} {m : MethodId} {args : Array Value} {below : List Frame} {meth : Method} {c : Code} {A : Nat → Prop} {D : va_G} {cA : Nat → ClassId} {h0 : Nat} {q : Nat → Nat} {Q : State → Prop} (F : kj_Fx p s m args meth c cX8_makes 11 wsX8_makes RX8 none D (km_T cA) A) {x1 : Int32} {x2 : Int32} {x5 : Int32} {x6 : Int32} {x7 : Int32} {x8 : Int32} {x9 : Int32} {z : km_S} {o : ((Int32 × Int32 × Int32 × Int32 × Int32 × Int32 × Int32 × km_S) ⊕ (Int32 × Int32 × Int32 × Int32 × Int32 × km_S))} (h : fm_makes_37 x1 x2 x5 x6 x7 x8 x9 z = some o) (kb : ∀ (a0' : Int32) (a1' : Int32) (a2' : Int32) (a3' : Int32) (a4' : Int32) (a5' : Int32) (a6' : Int32) (a7' : km_S), o = .inl (a0', a1', a2', a3', a4', a5', a6', a7') → kj_J p l e rm_X8_makes s m args below meth c 0 0 Q 11 D A ((km_w cA h0 q) a7') 37 [(0, .ref h0), (1, .int a0'), (2, .int a1'), (5, .int a2'), (6, .int a3'), (7, .int a4'), (8, .int a5'), (9, .int a6')] []) (ke0 : ∀ (a0' : Int32) (a1' : Int32) (a2' : Int32) (a3' : Int32) (a4' : Int32) (a5' : km_S), o = .inr (a0', a1', a2', a3', a4', a5') → kj_J p l e rm_X8_makes s m args below meth c 0 0 Q 11 D A ((km_w cA h0 q) a5') 124 [(0, .ref h0), (1, .int a0'), (2, .int a1'), (5, .int a2'), (7, .int a3'), (8, .int a4')] []) : kj_J p l e rm_X8_makes s m args below meth c 0 0 Q 11 D A ((km_w cA h0 q) z) 37 [(0, .ref h0), (1, .int x1), (2, .int x2), (5, .int x5), (6, .int x6), (7, .int x7), (8, .int x8), (9, .int x9)] [] := by
  unfold fm_makes_37 at h
  refine kj_iload F dX8_makes_37 7 rfl ?_
  refine kj_if_ne F dX8_makes_39 (tgt := 124) (by decide) h (fun hc h => ?_) (fun hc h => ?_)
  · refine kj_aload_n F dX8_makes_42 0 rfl rfl ?_
    refine kj_iload F dX8_makes_43 6 rfl ?_
    refine kj_iload F dX8_makes_45 4 rfl ?_
    refine kj_iload_n F dX8_makes_47 2 rfl rfl ?_
    refine kj_cVi (As := [.int x8, .int x6, .int x2]) (rest := []) F dX8_makes_48 h (fun o h1 => cm_isUnder h1) (cwV 3 F.2.2.2.2.1 gX8_makes_X8_isUnder rfl rfl rfl (by decide +kernel) ⟨Nat.le_of_ble_eq_true rfl, Nat.le_of_ble_eq_true rfl⟩) 0 rfl rfl rfl rfl rfl (Nat.le_of_ble_eq_true rfl) ⟨Nat.zero_le _, Nat.zero_le _⟩ (fun o1 h => ?_)
    refine kj_if_eq F dX8_makes_51 (tgt := 73) (by decide) h (fun hc h => ?_) (fun hc h => ?_)
    · refine kj_iconst F dX8_makes_73 (v := 0) (by decide) ?_
      refine kj_J.sub [0, 1, 2, 3, 4, 5, 6] rfl ?_
      exact jm_makes_74 F h kb ke0
    · refine kj_aload_n F dX8_makes_54 0 rfl rfl ?_
      refine km_get F dX8_makes_55 in_X8_makes 15 (by decide) (by decide +kernel) rfl rfl ?_
      refine kj_iconst F dX8_makes_58 (v := 5) (by decide) ?_
      refine kj_iload F dX8_makes_59 6 rfl ?_
      refine kj_imul F dX8_makes_61 ?_
      refine kj_iload_n F dX8_makes_62 1 rfl rfl ?_
      refine kj_iadd F dX8_makes_63 ?_
      refine kj_iconst F dX8_makes_64 (v := 1) (by decide) ?_
      refine kj_isub F dX8_makes_65 ?_
      refine kj_iload F dX8_makes_66 5 rfl ?_
      refine kj_isub F dX8_makes_68 ?_
      refine km_iald F dX8_makes_69 7 (by decide) h (fun v2 h => ?_)
      refine kj_goto F dX8_makes_70 (tgt := 74) (by decide) ?_
      refine kj_J.sub [0, 1, 2, 3, 4, 5, 6] rfl ?_
      exact jm_makes_74 F h kb ke0
  · refine kj_J.sub [0, 1, 2, 3, 5, 6] rfl ?_
    exact ke0 x1 x2 x5 x7 x8 z (Option.some.inj h).symm
theorem jlm_makes_37 {p : Program} {l : Launch} {e : Env} {s : State} {m : MethodId} {args : Array Value} {below : List Frame} {meth : Method} {c : Code} {A : Nat → Prop} {D : va_G} {cA : Nat → ClassId} {h0 : Nat} {q : Nat → Nat} {Q : State → Prop} (F : kj_Fx p s m args meth c cX8_makes 11 wsX8_makes RX8 none D (km_T cA) A) {n : Nat} {x1 : Int32} {x2 : Int32} {x5 : Int32} {x6 : Int32} {x7 : Int32} {x8 : Int32} {x9 : Int32} {z : km_S} {r : (Int32 × Int32 × Int32 × Int32 × Int32 × km_S)} (h : lm_makes_37 n x1 x2 x5 x6 x7 x8 x9 z = some r) (ke : kj_J p l e rm_X8_makes s m args below meth c 0 0 Q 11 D A ((km_w cA h0 q) (r.2.2.2.2.2)) 124 [(0, .ref h0), (1, .int (r.1)), (2, .int (r.2.1)), (5, .int (r.2.2.1)), (7, .int (r.2.2.2.1)), (8, .int (r.2.2.2.2.1))] []) : kj_J p l e rm_X8_makes s m args below meth c 0 0 Q 11 D A ((km_w cA h0 q) z) 37 [(0, .ref h0), (1, .int x1), (2, .int x2), (5, .int x5), (6, .int x6), (7, .int x7), (8, .int x8), (9, .int x9)] [] :=
  kj_it_J (Wh := fun (u : (Int32 × Int32 × Int32 × Int32 × Int32 × Int32 × Int32 × km_S)) => kj_J p l e rm_X8_makes s m args below meth c 0 0 Q 11 D A ((km_w cA h0 q) (u.2.2.2.2.2.2.2)) 37 [(0, .ref h0), (1, .int (u.1)), (2, .int (u.2.1)), (5, .int (u.2.2.1)), (6, .int (u.2.2.2.1)), (7, .int (u.2.2.2.2.1)), (8, .int (u.2.2.2.2.2.1)), (9, .int (u.2.2.2.2.2.2.1))] []) (We := fun r => kj_J p l e rm_X8_makes s m args below meth c 0 0 Q 11 D A ((km_w cA h0 q) (r.2.2.2.2.2)) 124 [(0, .ref h0), (1, .int (r.1)), (2, .int (r.2.1)), (5, .int (r.2.2.1)), (7, .int (r.2.2.2.1)), (8, .int (r.2.2.2.2.1))] []) (fun u o h kb ke => jm_makes_37 F h (fun a0' a1' a2' a3' a4' a5' a6' a7' e => kb (a0', a1', a2', a3', a4', a5', a6', a7') e) (fun a0' a1' a2' a3' a4' a5' e => ke (a0', a1', a2', a3', a4', a5') e)) n (x1, x2, x5, x6, x7, x8, x9, z) r h ke
set_option maxRecDepth 20000 in
theorem jm_makes_25 {p : Program} {l : Launch} {e : Env} {s : State} {m : MethodId} {args : Array Value} {below : List Frame} {meth : Method} {c : Code} {A : Nat → Prop} {D : va_G} {cA : Nat → ClassId} {h0 : Nat} {q : Nat → Nat} {Q : State → Prop} (F : kj_Fx p s m args meth c cX8_makes 11 wsX8_makes RX8 none D (km_T cA) A) {x1 : Int32} {x2 : Int32} {x5 : Int32} {x6 : Int32} {x7 : Int32} {z : km_S} {o : ((Int32 × Int32 × Int32 × Int32 × Int32 × km_S) ⊕ km_S)} (h : fm_makes_25 x1 x2 x5 x6 x7 z = some o) (kb : ∀ (a0' : Int32) (a1' : Int32) (a2' : Int32) (a3' : Int32) (a4' : Int32) (a5' : km_S), o = .inl (a0', a1', a2', a3', a4', a5') → kj_J p l e rm_X8_makes s m args below meth c 0 0 Q 11 D A ((km_w cA h0 q) a5') 25 [(0, .ref h0), (1, .int a0'), (2, .int a1'), (5, .int a2'), (6, .int a3'), (7, .int a4')] []) (ke0 : ∀ (a0' : km_S), o = .inr a0' → kj_J p l e rm_X8_makes s m args below meth c 0 0 Q 11 D A ((km_w cA h0 q) a0') 156 [] []) : kj_J p l e rm_X8_makes s m args below meth c 0 0 Q 11 D A ((km_w cA h0 q) z) 25 [(0, .ref h0), (1, .int x1), (2, .int x2), (5, .int x5), (6, .int x6), (7, .int x7)] [] := by
  unfold fm_makes_25 at h
  refine kj_iload F dX8_makes_25 5 rfl ?_
  refine kj_iload_n F dX8_makes_27 1 rfl rfl ?_
  refine kj_icmp_ge F dX8_makes_28 (tgt := 156) (by decide) h (fun hc h => ?_) (fun hc h => ?_)
  · refine kj_J.sub [] rfl ?_
    exact ke0 z (Option.some.inj h).symm
  · refine kj_iconst F dX8_makes_31 (v := 0) (by decide) ?_
    refine kj_istore F dX8_makes_32 (lv' := [(8, .int (0 : Int32)), (0, .ref h0), (1, .int x1), (2, .int x2), (5, .int x5), (6, .int x6), (7, .int x7)]) (by decide) rfl ?_
    refine kj_iconst F dX8_makes_34 (v := 0) (by decide) ?_
    refine kj_istore F dX8_makes_35 (lv' := [(9, .int (0 : Int32)), (8, .int (0 : Int32)), (0, .ref h0), (1, .int x1), (2, .int x2), (5, .int x5), (6, .int x6), (7, .int x7)]) (by decide) rfl ?_
    refine kj_J.sub [2, 3, 4, 5, 6, 7, 1, 0] rfl ?_
    refine kj_bn h (fun r1 h1 h => ?_)
    refine jlm_makes_37 F h1 ?_
    refine kj_aload_n F dX8_makes_124 0 rfl rfl ?_
    refine km_get F dX8_makes_125 in_X8_makes 13 (by decide) (by decide +kernel) rfl rfl ?_
    refine kj_iconst F dX8_makes_128 (v := 4) (by decide) ?_
    refine kj_iload F dX8_makes_129 5 rfl ?_
    refine kj_imul F dX8_makes_131 ?_
    refine kj_aload_n F dX8_makes_132 0 rfl rfl ?_
    refine km_get F dX8_makes_133 in_X8_makes 8 (by decide) (by decide +kernel) rfl rfl ?_
    refine kj_iload F dX8_makes_136 4 rfl ?_
    refine kj_iconst F dX8_makes_138 (v := 0) (by decide) ?_
    refine kj_cSip (As := [.int (r1.2.2.2.1), .int (0 : Int32)]) (rest := [.ref (q 4), .int ((4 : Int32) * (r1.2.2.2.2.1)), .ref (q 6)]) F dX8_makes_139 h (fun o h1 => cm_at (w := (km_w cA h0 q)) h1) (va_cwS 2 F.2.2.2.2.1 gX8_makes_X8_at rfl rfl rfl (by decide +kernel) ⟨Nat.le_of_ble_eq_true rfl, Nat.le_of_ble_eq_true rfl⟩) rfl rfl (Nat.le_of_ble_eq_true rfl) ⟨Nat.zero_le _, Nat.zero_le _⟩ (fun o2 h => ?_)
    refine kj_iload_n F dX8_makes_142 2 rfl rfl ?_
    refine kj_cSv (As := [.ref (q 6), .int ((4 : Int32) * (r1.2.2.2.2.1)), .ref (q 4), .int o2, .int (r1.2.1)]) (rest := []) F dX8_makes_143 h (fun o h1 => cm_bring (by decide) (by decide) h1) (va_cwS 5 F.2.2.2.2.1 gX8_makes_X8_bring rfl rfl rfl (by decide +kernel) ⟨Nat.le_of_ble_eq_true rfl, Nat.le_of_ble_eq_true rfl⟩) rfl rfl (Nat.le_of_ble_eq_true rfl) ⟨Nat.zero_le _, Nat.zero_le _⟩ (fun o3 h => ?_)
    refine kj_iload F dX8_makes_146 5 rfl ?_
    refine kj_istore F dX8_makes_148 (lv' := [(6, .int (r1.2.2.2.2.1)), (0, .ref h0), (1, .int (r1.1)), (2, .int (r1.2.1)), (5, .int (r1.2.2.1)), (7, .int (r1.2.2.2.1)), (8, .int (r1.2.2.2.2.1))]) (by decide) rfl ?_
    refine kj_iinc F dX8_makes_150 5 rfl (v := 1) (by decide) (by decide) (lv' := [(7, .int ((r1.2.2.2.1) + 1)), (6, .int (r1.2.2.2.2.1)), (0, .ref h0), (1, .int (r1.1)), (2, .int (r1.2.1)), (5, .int (r1.2.2.1)), (8, .int (r1.2.2.2.2.1))]) rfl ?_
    refine kj_goto F dX8_makes_153 (tgt := 25) (by decide) ?_
    refine kj_J.sub [2, 3, 4, 5, 1, 0] rfl ?_
    exact kb (r1.1) (r1.2.1) (r1.2.2.1) (r1.2.2.2.2.1) ((r1.2.2.2.1) + 1) o3 (Option.some.inj h).symm
theorem jlm_makes_25 {p : Program} {l : Launch} {e : Env} {s : State} {m : MethodId} {args : Array Value} {below : List Frame} {meth : Method} {c : Code} {A : Nat → Prop} {D : va_G} {cA : Nat → ClassId} {h0 : Nat} {q : Nat → Nat} {Q : State → Prop} (F : kj_Fx p s m args meth c cX8_makes 11 wsX8_makes RX8 none D (km_T cA) A) {n : Nat} {x1 : Int32} {x2 : Int32} {x5 : Int32} {x6 : Int32} {x7 : Int32} {z : km_S} {r : km_S} (h : lm_makes_25 n x1 x2 x5 x6 x7 z = some r) (ke : kj_J p l e rm_X8_makes s m args below meth c 0 0 Q 11 D A ((km_w cA h0 q) (r)) 156 [] []) : kj_J p l e rm_X8_makes s m args below meth c 0 0 Q 11 D A ((km_w cA h0 q) z) 25 [(0, .ref h0), (1, .int x1), (2, .int x2), (5, .int x5), (6, .int x6), (7, .int x7)] [] :=
  kj_it_J (Wh := fun (u : (Int32 × Int32 × Int32 × Int32 × Int32 × km_S)) => kj_J p l e rm_X8_makes s m args below meth c 0 0 Q 11 D A ((km_w cA h0 q) (u.2.2.2.2.2)) 25 [(0, .ref h0), (1, .int (u.1)), (2, .int (u.2.1)), (5, .int (u.2.2.1)), (6, .int (u.2.2.2.1)), (7, .int (u.2.2.2.2.1))] []) (We := fun r => kj_J p l e rm_X8_makes s m args below meth c 0 0 Q 11 D A ((km_w cA h0 q) (r)) 156 [] []) (fun u o h kb ke => jm_makes_25 F h (fun a0' a1' a2' a3' a4' a5' e => kb (a0', a1', a2', a3', a4', a5') e) (fun a0' e => ke a0' e)) n (x1, x2, x5, x6, x7, z) r h ke
set_option maxRecDepth 20000 in
theorem jm_makes {p : Program} {l : Launch} {e : Env} {s : State} {m : MethodId} {args : Array Value} {below : List Frame} {meth : Method} {c : Code} {A : Nat → Prop} {D : va_G} {cA : Nat → ClassId} {h0 : Nat} {q : Nat → Nat} (F : kj_Fx p s m args meth c cX8_makes 11 wsX8_makes RX8 none D (km_T cA) A) {x1 : Int32} {x2 : Int32} {x3 : Int32} {x4 : Int32} {z : km_S} {o : km_S} (h : fm_makes x1 x2 x3 x4 z = some o) : kj_J p l e rm_X8_makes s m args below meth c 0 0 (MQ below (kj_Qv D (km_T cA) A (km_w cA h0 q) o) args s 0 0 A) 11 D A ((km_w cA h0 q) z) 0 [(0, .ref h0), (1, .int x1), (2, .int x2), (3, .int x3), (4, .int x4)] [] := by
  unfold fm_makes at h
  refine kj_aload_n F dX8_makes_0 0 rfl rfl ?_
  refine km_get F dX8_makes_1 in_X8_makes 8 (by decide) (by decide +kernel) rfl rfl ?_
  refine kj_iload_n F dX8_makes_4 1 rfl rfl ?_
  refine kj_iload_n F dX8_makes_5 2 rfl rfl ?_
  refine kj_iload_n F dX8_makes_6 3 rfl rfl ?_
  refine kj_cSv (As := [.ref (q 4), .int x1, .int x2, .int x3]) (rest := []) F dX8_makes_7 h (fun o h1 => cm_begins (by decide) h1) (va_cwS 4 F.2.2.2.2.1 gX8_makes_X8_begins rfl rfl rfl (by decide +kernel) ⟨Nat.le_of_ble_eq_true rfl, Nat.le_of_ble_eq_true rfl⟩) rfl rfl (Nat.le_of_ble_eq_true rfl) ⟨Nat.zero_le _, Nat.zero_le _⟩ (fun o1 h => ?_)
  refine kj_iload F dX8_makes_10 4 rfl ?_
  refine kj_istore F dX8_makes_12 (lv' := [(5, .int x4), (0, .ref h0), (1, .int x1), (2, .int x2), (3, .int x3), (4, .int x4)]) (by decide) rfl ?_
  refine kj_aload_n F dX8_makes_14 1 rfl rfl ?_
  refine km_get F dX8_makes_15 in_X8_makes 14 (by decide) (by decide +kernel) rfl rfl ?_
  refine kj_iconst F dX8_makes_18 (v := 1) (by decide) ?_
  refine kj_isub F dX8_makes_19 ?_
  refine kj_istore F dX8_makes_20 (lv' := [(6, .int ((o1.1 5) - (1 : Int32))), (5, .int x4), (0, .ref h0), (1, .int x1), (2, .int x2), (3, .int x3), (4, .int x4)]) (by decide) rfl ?_
  refine kj_iconst F dX8_makes_22 (v := 0) (by decide) ?_
  refine kj_istore F dX8_makes_23 (lv' := [(7, .int (0 : Int32)), (6, .int ((o1.1 5) - (1 : Int32))), (5, .int x4), (0, .ref h0), (1, .int x1), (2, .int x2), (3, .int x3), (4, .int x4)]) (by decide) rfl ?_
  refine kj_J.sub [3, 4, 5, 2, 1, 0] rfl ?_
  refine kj_bn h (fun r2 h1 h => ?_)
  refine jlm_makes_25 F h1 ?_
  exact kj_vret F dX8_makes_156 h
theorem cm_makes {l : Launch} {D : va_G} {cA : Nat → ClassId} {h0 : Nat} {q : Nat → Nat} {x1 : Int32} {x2 : Int32} {x3 : Int32} {x4 : Int32} {z : km_S} {o : km_S} (h : fm_makes x1 x2 x3 x4 z = some o) : kj_Mv l yX8_makes wsX8_makes rm_X8_makes D (km_T cA) (km_w cA h0 q) z [.ref h0, .int x1, .int x2, .int x3, .int x4] o :=
  fun sz => kj_start (by decide) rfl (Nat.le_of_ble_eq_true rfl) rfl fun p e s m args below meth c hsz F => jm_makes F h
/-! X8_take -/
abbrev rm_X8_take : Room := { frames := 3, cells := 0, slots := 0, locals := 66 }
def fm_take (x1 : Int32) (x2 : Int32) (x3 : Int32) (x4 : Int32) (x5 : Int32) (z : km_S) : Option (Int32 × km_S) :=
  (fm_isBox x1 x2 x3).bind fun o1 =>
  if o1 = 0 then
  some (((-1000001) : Int32), z)
  else
  (fm_isPlace x5).bind fun o2 =>
  if o2 = 0 then
  some (((-1000001) : Int32), z)
  else
  (fm_lays x1 x2 x3 z).bind fun o3 =>
  (fm_in x4 (0 : Int32) ((o3.1) - (1 : Int32))).bind fun o4 =>
  if o4 = 0 then
  some (((-1000001) : Int32), (o3.2))
  else
  (fm_makes x1 x2 x3 x4 (o3.2)).bind fun o5 =>
  (fm_comes x5 o5).bind fun o6 =>
  some ((o6.1), (o6.2))
set_option maxRecDepth 20000 in
theorem jm_take {p : Program} {l : Launch} {e : Env} {s : State} {m : MethodId} {args : Array Value} {below : List Frame} {meth : Method} {c : Code} {A : Nat → Prop} {D : va_G} {cA : Nat → ClassId} {h0 : Nat} {q : Nat → Nat} (F : kj_Fx p s m args meth c cX8_take 6 wsX8_take RX8 (some .int) D (km_T cA) A) {x1 : Int32} {x2 : Int32} {x3 : Int32} {x4 : Int32} {x5 : Int32} {z : km_S} {o : (Int32 × km_S)} (h : fm_take x1 x2 x3 x4 x5 z = some o) : kj_J p l e rm_X8_take s m args below meth c 0 0 (MQ below (kj_Qi D (km_T cA) A (km_w cA h0 q) o) args s 0 0 A) 6 D A ((km_w cA h0 q) z) 0 [(0, .ref h0), (1, .int x1), (2, .int x2), (3, .int x3), (4, .int x4), (5, .int x5)] [] := by
  unfold fm_take at h
  refine kj_iload_n F dX8_take_0 1 rfl rfl ?_
  refine kj_iload_n F dX8_take_1 2 rfl rfl ?_
  refine kj_iload_n F dX8_take_2 3 rfl rfl ?_
  refine kj_cSip (As := [.int x1, .int x2, .int x3]) (rest := []) F dX8_take_3 h (fun o h1 => cm_isBox (w := (km_w cA h0 q)) h1) (va_cwS 3 F.2.2.2.2.1 gX8_take_X8_isBox rfl rfl rfl (by decide +kernel) ⟨Nat.le_of_ble_eq_true rfl, Nat.le_of_ble_eq_true rfl⟩) rfl rfl (Nat.le_of_ble_eq_true rfl) ⟨Nat.zero_le _, Nat.zero_le _⟩ (fun o1 h => ?_)
  refine kj_if_eq F dX8_take_6 (tgt := 17) (by decide) h (fun hc h => ?_) (fun hc h => ?_)
  · refine kj_ldc F dX8_take_17 (v := (-1000001)) (by decide +kernel) ?_
    exact kj_iret F dX8_take_19 h
  · refine kj_iload F dX8_take_9 5 rfl ?_
    refine kj_cSip (As := [.int x5]) (rest := []) F dX8_take_11 h (fun o h1 => cm_isPlace (w := (km_w cA h0 q)) h1) (va_cwS 1 F.2.2.2.2.1 gX8_take_X8_isPlace rfl rfl rfl (by decide +kernel) ⟨Nat.le_of_ble_eq_true rfl, Nat.le_of_ble_eq_true rfl⟩) rfl rfl (Nat.le_of_ble_eq_true rfl) ⟨Nat.zero_le _, Nat.zero_le _⟩ (fun o2 h => ?_)
    refine kj_if_ne F dX8_take_14 (tgt := 20) (by decide) h (fun hc h => ?_) (fun hc h => ?_)
    · refine kj_ldc F dX8_take_17 (v := (-1000001)) (by decide +kernel) ?_
      exact kj_iret F dX8_take_19 h
    · refine kj_iload F dX8_take_20 4 rfl ?_
      refine kj_iconst F dX8_take_22 (v := 0) (by decide) ?_
      refine kj_aload_n F dX8_take_23 0 rfl rfl ?_
      refine kj_iload_n F dX8_take_24 1 rfl rfl ?_
      refine kj_iload_n F dX8_take_25 2 rfl rfl ?_
      refine kj_iload_n F dX8_take_26 3 rfl rfl ?_
      refine kj_cVi (As := [.int x1, .int x2, .int x3]) (rest := [.int (0 : Int32), .int x4]) F dX8_take_27 h (fun o h1 => cm_lays h1) (cwV 3 F.2.2.2.2.1 gX8_take_X8_lays rfl rfl rfl (by decide +kernel) ⟨Nat.le_of_ble_eq_true rfl, Nat.le_of_ble_eq_true rfl⟩) 0 rfl rfl rfl rfl rfl (Nat.le_of_ble_eq_true rfl) ⟨Nat.zero_le _, Nat.zero_le _⟩ (fun o3 h => ?_)
      refine kj_iconst F dX8_take_30 (v := 1) (by decide) ?_
      refine kj_isub F dX8_take_31 ?_
      refine kj_cSip (As := [.int x4, .int (0 : Int32), .int ((o3.1) - (1 : Int32))]) (rest := []) F dX8_take_32 h (fun o h1 => cm_in (w := (km_w cA h0 q)) h1) (va_cwS 3 F.2.2.2.2.1 gX8_take_X8_in rfl rfl rfl (by decide +kernel) ⟨Nat.le_of_ble_eq_true rfl, Nat.le_of_ble_eq_true rfl⟩) rfl rfl (Nat.le_of_ble_eq_true rfl) ⟨Nat.zero_le _, Nat.zero_le _⟩ (fun o4 h => ?_)
      refine kj_if_ne F dX8_take_35 (tgt := 41) (by decide) h (fun hc h => ?_) (fun hc h => ?_)
      · refine kj_ldc F dX8_take_38 (v := (-1000001)) (by decide +kernel) ?_
        exact kj_iret F dX8_take_40 h
      · refine kj_aload_n F dX8_take_41 0 rfl rfl ?_
        refine kj_iload_n F dX8_take_42 1 rfl rfl ?_
        refine kj_iload_n F dX8_take_43 2 rfl rfl ?_
        refine kj_iload_n F dX8_take_44 3 rfl rfl ?_
        refine kj_iload F dX8_take_45 4 rfl ?_
        refine kj_cVv (As := [.int x1, .int x2, .int x3, .int x4]) (rest := []) F dX8_take_47 h (fun o h1 => cm_makes h1) (cwV 4 F.2.2.2.2.1 gX8_take_X8_makes rfl rfl rfl (by decide +kernel) ⟨Nat.le_of_ble_eq_true rfl, Nat.le_of_ble_eq_true rfl⟩) 0 rfl rfl rfl rfl rfl (Nat.le_of_ble_eq_true rfl) ⟨Nat.zero_le _, Nat.zero_le _⟩ (fun o5 h => ?_)
        refine kj_aload_n F dX8_take_50 0 rfl rfl ?_
        refine kj_iload F dX8_take_51 5 rfl ?_
        refine kj_cVi (As := [.int x5]) (rest := []) F dX8_take_53 h (fun o h1 => cm_comes h1) (cwV 1 F.2.2.2.2.1 gX8_take_X8_comes rfl rfl rfl (by decide +kernel) ⟨Nat.le_of_ble_eq_true rfl, Nat.le_of_ble_eq_true rfl⟩) 0 rfl rfl rfl rfl rfl (Nat.le_of_ble_eq_true rfl) ⟨Nat.zero_le _, Nat.zero_le _⟩ (fun o6 h => ?_)
        exact kj_iret F dX8_take_56 h
theorem cm_take {l : Launch} {D : va_G} {cA : Nat → ClassId} {h0 : Nat} {q : Nat → Nat} {x1 : Int32} {x2 : Int32} {x3 : Int32} {x4 : Int32} {x5 : Int32} {z : km_S} {o : (Int32 × km_S)} (h : fm_take x1 x2 x3 x4 x5 z = some o) : kj_Mi l yX8_take wsX8_take rm_X8_take D (km_T cA) (km_w cA h0 q) z [.ref h0, .int x1, .int x2, .int x3, .int x4, .int x5] o :=
  fun sz => kj_start (by decide) rfl (Nat.le_of_ble_eq_true rfl) rfl fun p e s m args below meth c hsz F => jm_take F h
/-! X8_drawn -/
abbrev rm_X8_drawn : Room := { frames := 3, cells := 0, slots := 0, locals := 66 }
def fm_drawn (x1 : Int32) (x2 : Int32) (x3 : Int32) (x4 : Int32) (x5 : Int32) (z : km_S) : Option (Int32 × km_S) :=
  (fm_isBox x1 x2 x3).bind fun o1 =>
  if o1 = 0 then
  some (((-1000001) : Int32), z)
  else
  (fm_in x4 (1 : Int32) ((999999) : Int32)).bind fun o2 =>
  if o2 = 0 then
  some (((-1000001) : Int32), z)
  else
  (fm_isPlace x5).bind fun o3 =>
  if o3 = 0 then
  some (((-1000001) : Int32), z)
  else
  if ((2147483647) : Int64) = 0 then none else
  (fm_lays x1 x2 x3 z).bind fun o4 =>
  if ((o4.1)).toInt64 = 0 then none else
  (fm_makes x1 x2 x3 (((((x4).toInt64 * ((16807) : Int64)) - ((x4).toInt64 * ((16807) : Int64)) / ((2147483647) : Int64) * ((2147483647) : Int64)) - (((x4).toInt64 * ((16807) : Int64)) - ((x4).toInt64 * ((16807) : Int64)) / ((2147483647) : Int64) * ((2147483647) : Int64)) / ((o4.1)).toInt64 * ((o4.1)).toInt64)).toInt32 (o4.2)).bind fun o5 =>
  (fm_comes x5 o5).bind fun o6 =>
  some ((((((x4).toInt64 * ((16807) : Int64)) - ((x4).toInt64 * ((16807) : Int64)) / ((2147483647) : Int64) * ((2147483647) : Int64)) - (((x4).toInt64 * ((16807) : Int64)) - ((x4).toInt64 * ((16807) : Int64)) / ((2147483647) : Int64) * ((2147483647) : Int64)) / ((o4.1)).toInt64 * ((o4.1)).toInt64)).toInt32, (o6.2))
set_option maxRecDepth 20000 in
theorem jm_drawn {p : Program} {l : Launch} {e : Env} {s : State} {m : MethodId} {args : Array Value} {below : List Frame} {meth : Method} {c : Code} {A : Nat → Prop} {D : va_G} {cA : Nat → ClassId} {h0 : Nat} {q : Nat → Nat} (F : kj_Fx p s m args meth c cX8_drawn 9 wsX8_drawn RX8 (some .int) D (km_T cA) A) {x1 : Int32} {x2 : Int32} {x3 : Int32} {x4 : Int32} {x5 : Int32} {z : km_S} {o : (Int32 × km_S)} (h : fm_drawn x1 x2 x3 x4 x5 z = some o) : kj_J p l e rm_X8_drawn s m args below meth c 0 0 (MQ below (kj_Qi D (km_T cA) A (km_w cA h0 q) o) args s 0 0 A) 9 D A ((km_w cA h0 q) z) 0 [(0, .ref h0), (1, .int x1), (2, .int x2), (3, .int x3), (4, .int x4), (5, .int x5)] [] := by
  unfold fm_drawn at h
  refine kj_iload_n F dX8_drawn_0 1 rfl rfl ?_
  refine kj_iload_n F dX8_drawn_1 2 rfl rfl ?_
  refine kj_iload_n F dX8_drawn_2 3 rfl rfl ?_
  refine kj_cSip (As := [.int x1, .int x2, .int x3]) (rest := []) F dX8_drawn_3 h (fun o h1 => cm_isBox (w := (km_w cA h0 q)) h1) (va_cwS 3 F.2.2.2.2.1 gX8_drawn_X8_isBox rfl rfl rfl (by decide +kernel) ⟨Nat.le_of_ble_eq_true rfl, Nat.le_of_ble_eq_true rfl⟩) rfl rfl (Nat.le_of_ble_eq_true rfl) ⟨Nat.zero_le _, Nat.zero_le _⟩ (fun o1 h => ?_)
  refine kj_if_eq F dX8_drawn_6 (tgt := 28) (by decide) h (fun hc h => ?_) (fun hc h => ?_)
  · refine kj_ldc F dX8_drawn_28 (v := (-1000001)) (by decide +kernel) ?_
    exact kj_iret F dX8_drawn_30 h
  · refine kj_iload F dX8_drawn_9 4 rfl ?_
    refine kj_iconst F dX8_drawn_11 (v := 1) (by decide) ?_
    refine kj_ldc F dX8_drawn_12 (v := (999999)) (by decide +kernel) ?_
    refine kj_cSip (As := [.int x4, .int (1 : Int32), .int ((999999) : Int32)]) (rest := []) F dX8_drawn_14 h (fun o h1 => cm_in (w := (km_w cA h0 q)) h1) (va_cwS 3 F.2.2.2.2.1 gX8_drawn_X8_in rfl rfl rfl (by decide +kernel) ⟨Nat.le_of_ble_eq_true rfl, Nat.le_of_ble_eq_true rfl⟩) rfl rfl (Nat.le_of_ble_eq_true rfl) ⟨Nat.zero_le _, Nat.zero_le _⟩ (fun o2 h => ?_)
    refine kj_if_eq F dX8_drawn_17 (tgt := 28) (by decide) h (fun hc h => ?_) (fun hc h => ?_)
    · refine kj_ldc F dX8_drawn_28 (v := (-1000001)) (by decide +kernel) ?_
      exact kj_iret F dX8_drawn_30 h
    · refine kj_iload F dX8_drawn_20 5 rfl ?_
      refine kj_cSip (As := [.int x5]) (rest := []) F dX8_drawn_22 h (fun o h1 => cm_isPlace (w := (km_w cA h0 q)) h1) (va_cwS 1 F.2.2.2.2.1 gX8_drawn_X8_isPlace rfl rfl rfl (by decide +kernel) ⟨Nat.le_of_ble_eq_true rfl, Nat.le_of_ble_eq_true rfl⟩) rfl rfl (Nat.le_of_ble_eq_true rfl) ⟨Nat.zero_le _, Nat.zero_le _⟩ (fun o3 h => ?_)
      refine kj_if_ne F dX8_drawn_25 (tgt := 31) (by decide) h (fun hc h => ?_) (fun hc h => ?_)
      · refine kj_ldc F dX8_drawn_28 (v := (-1000001)) (by decide +kernel) ?_
        exact kj_iret F dX8_drawn_30 h
      · refine kj_iload F dX8_drawn_31 4 rfl ?_
        refine kj_i2l F dX8_drawn_33 ?_
        refine kj_ldc2 F dX8_drawn_34 (v := (16807)) (by decide +kernel) ?_
        refine kj_lmul F dX8_drawn_37 ?_
        refine kj_ldc2 F dX8_drawn_38 (v := (2147483647)) (by decide +kernel) ?_
        refine kj_lrem F dX8_drawn_41 h (fun h => ?_)
        refine kj_lstore F dX8_drawn_42 (lv' := [(6, .long (((x4).toInt64 * ((16807) : Int64)) - ((x4).toInt64 * ((16807) : Int64)) / ((2147483647) : Int64) * ((2147483647) : Int64))), (0, .ref h0), (1, .int x1), (2, .int x2), (3, .int x3), (4, .int x4), (5, .int x5)]) (by decide) rfl ?_
        refine kj_lload F dX8_drawn_44 0 rfl ?_
        refine kj_aload_n F dX8_drawn_46 1 rfl rfl ?_
        refine kj_iload_n F dX8_drawn_47 2 rfl rfl ?_
        refine kj_iload_n F dX8_drawn_48 3 rfl rfl ?_
        refine kj_iload_n F dX8_drawn_49 4 rfl rfl ?_
        refine kj_cVi (As := [.int x1, .int x2, .int x3]) (rest := [.long (((x4).toInt64 * ((16807) : Int64)) - ((x4).toInt64 * ((16807) : Int64)) / ((2147483647) : Int64) * ((2147483647) : Int64))]) F dX8_drawn_50 h (fun o h1 => cm_lays h1) (cwV 3 F.2.2.2.2.1 gX8_drawn_X8_lays rfl rfl rfl (by decide +kernel) ⟨Nat.le_of_ble_eq_true rfl, Nat.le_of_ble_eq_true rfl⟩) 0 rfl rfl rfl rfl rfl (Nat.le_of_ble_eq_true rfl) ⟨Nat.zero_le _, Nat.zero_le _⟩ (fun o4 h => ?_)
        refine kj_i2l F dX8_drawn_53 ?_
        refine kj_lrem F dX8_drawn_54 h (fun h => ?_)
        refine kj_l2i F dX8_drawn_55 ?_
        refine kj_istore F dX8_drawn_56 (lv' := [(8, .int (((((x4).toInt64 * ((16807) : Int64)) - ((x4).toInt64 * ((16807) : Int64)) / ((2147483647) : Int64) * ((2147483647) : Int64)) - (((x4).toInt64 * ((16807) : Int64)) - ((x4).toInt64 * ((16807) : Int64)) / ((2147483647) : Int64) * ((2147483647) : Int64)) / ((o4.1)).toInt64 * ((o4.1)).toInt64)).toInt32), (6, .long (((x4).toInt64 * ((16807) : Int64)) - ((x4).toInt64 * ((16807) : Int64)) / ((2147483647) : Int64) * ((2147483647) : Int64))), (0, .ref h0), (1, .int x1), (2, .int x2), (3, .int x3), (4, .int x4), (5, .int x5)]) (by decide) rfl ?_
        refine kj_aload_n F dX8_drawn_58 2 rfl rfl ?_
        refine kj_iload_n F dX8_drawn_59 3 rfl rfl ?_
        refine kj_iload_n F dX8_drawn_60 4 rfl rfl ?_
        refine kj_iload_n F dX8_drawn_61 5 rfl rfl ?_
        refine kj_iload F dX8_drawn_62 0 rfl ?_
        refine kj_cVv (As := [.int x1, .int x2, .int x3, .int (((((x4).toInt64 * ((16807) : Int64)) - ((x4).toInt64 * ((16807) : Int64)) / ((2147483647) : Int64) * ((2147483647) : Int64)) - (((x4).toInt64 * ((16807) : Int64)) - ((x4).toInt64 * ((16807) : Int64)) / ((2147483647) : Int64) * ((2147483647) : Int64)) / ((o4.1)).toInt64 * ((o4.1)).toInt64)).toInt32]) (rest := []) F dX8_drawn_64 h (fun o h1 => cm_makes h1) (cwV 4 F.2.2.2.2.1 gX8_drawn_X8_makes rfl rfl rfl (by decide +kernel) ⟨Nat.le_of_ble_eq_true rfl, Nat.le_of_ble_eq_true rfl⟩) 0 rfl rfl rfl rfl rfl (Nat.le_of_ble_eq_true rfl) ⟨Nat.zero_le _, Nat.zero_le _⟩ (fun o5 h => ?_)
        refine kj_aload_n F dX8_drawn_67 2 rfl rfl ?_
        refine kj_iload F dX8_drawn_68 7 rfl ?_
        refine kj_cVi (As := [.int x5]) (rest := []) F dX8_drawn_70 h (fun o h1 => cm_comes h1) (cwV 1 F.2.2.2.2.1 gX8_drawn_X8_comes rfl rfl rfl (by decide +kernel) ⟨Nat.le_of_ble_eq_true rfl, Nat.le_of_ble_eq_true rfl⟩) 0 rfl rfl rfl rfl rfl (Nat.le_of_ble_eq_true rfl) ⟨Nat.zero_le _, Nat.zero_le _⟩ (fun o6 h => ?_)
        refine kj_pop F dX8_drawn_73 rfl ?_
        refine kj_iload F dX8_drawn_74 0 rfl ?_
        exact kj_iret F dX8_drawn_76 h
theorem cm_drawn {l : Launch} {D : va_G} {cA : Nat → ClassId} {h0 : Nat} {q : Nat → Nat} {x1 : Int32} {x2 : Int32} {x3 : Int32} {x4 : Int32} {x5 : Int32} {z : km_S} {o : (Int32 × km_S)} (h : fm_drawn x1 x2 x3 x4 x5 z = some o) : kj_Mi l yX8_drawn wsX8_drawn rm_X8_drawn D (km_T cA) (km_w cA h0 q) z [.ref h0, .int x1, .int x2, .int x3, .int x4, .int x5] o :=
  fun sz => kj_start (by decide) rfl (Nat.le_of_ble_eq_true rfl) rfl fun p e s m args below meth c hsz F => jm_drawn F h
/-! X8_isSpot -/
abbrev rm_X8_isSpot : Room := { frames := 3, cells := 0, slots := 0, locals := 63 }
theorem in_X8_isSpot : ∀ w ∈ u_ws RX8 TX8 29, w ∈ wsX8_isSpot := by decide +kernel
def fm_isSpot (x1 : Int32) (x2 : Int32) (x3 : Int32) (z : km_S) : Option (Int32 × km_S) :=
  (fm_isHeap x1 z).bind fun o1 =>
  if (o1.1) = 0 then
  some ((0 : Int32), (o1.2))
  else
  (km_rd (o1.2) 0 (((20 : Int32) * x1) + (1 : Int32))).bind fun v2 =>
  (fm_in x2 (0 : Int32) (v2 - (1 : Int32))).bind fun o3 =>
  if o3 = 0 then
  some ((0 : Int32), (o1.2))
  else
  (km_rd (o1.2) 0 (((20 : Int32) * x1) + (2 : Int32))).bind fun v4 =>
  (fm_in x3 (0 : Int32) (v4 - (1 : Int32))).bind fun o5 =>
  if o5 = 0 then
  some ((0 : Int32), (o1.2))
  else
  some ((1 : Int32), (o1.2))
set_option maxRecDepth 20000 in
theorem jm_isSpot {p : Program} {l : Launch} {e : Env} {s : State} {m : MethodId} {args : Array Value} {below : List Frame} {meth : Method} {c : Code} {A : Nat → Prop} {D : va_G} {cA : Nat → ClassId} {h0 : Nat} {q : Nat → Nat} (F : kj_Fx p s m args meth c cX8_isSpot 4 wsX8_isSpot RX8 (some .boolean) D (km_T cA) A) {x1 : Int32} {x2 : Int32} {x3 : Int32} {z : km_S} {o : (Int32 × km_S)} (h : fm_isSpot x1 x2 x3 z = some o) : kj_J p l e rm_X8_isSpot s m args below meth c 0 0 (MQ below (kj_Qi D (km_T cA) A (km_w cA h0 q) o) args s 0 0 A) 4 D A ((km_w cA h0 q) z) 0 [(0, .ref h0), (1, .int x1), (2, .int x2), (3, .int x3)] [] := by
  unfold fm_isSpot at h
  refine kj_aload_n F dX8_isSpot_0 0 rfl rfl ?_
  refine kj_iload_n F dX8_isSpot_1 1 rfl rfl ?_
  refine kj_cVi (As := [.int x1]) (rest := []) F dX8_isSpot_2 h (fun o h1 => cm_isHeap h1) (cwV 1 F.2.2.2.2.1 gX8_isSpot_X8_isHeap rfl rfl rfl (by decide +kernel) ⟨Nat.le_of_ble_eq_true rfl, Nat.le_of_ble_eq_true rfl⟩) 0 rfl rfl rfl rfl rfl (Nat.le_of_ble_eq_true rfl) ⟨Nat.zero_le _, Nat.zero_le _⟩ (fun o1 h => ?_)
  refine kj_if_eq F dX8_isSpot_5 (tgt := 54) (by decide) h (fun hc h => ?_) (fun hc h => ?_)
  · refine kj_iconst F dX8_isSpot_54 (v := 0) (by decide) ?_
    exact kj_zret F dX8_isSpot_55 (by decide) h
  · refine kj_iload_n F dX8_isSpot_8 2 rfl rfl ?_
    refine kj_iconst F dX8_isSpot_9 (v := 0) (by decide) ?_
    refine kj_aload_n F dX8_isSpot_10 0 rfl rfl ?_
    refine km_get F dX8_isSpot_11 in_X8_isSpot 0 (by decide) (by decide +kernel) rfl rfl ?_
    refine kj_bipush F dX8_isSpot_14 (v := 20) (by decide) ?_
    refine kj_iload_n F dX8_isSpot_16 1 rfl rfl ?_
    refine kj_imul F dX8_isSpot_17 ?_
    refine kj_iconst F dX8_isSpot_18 (v := 1) (by decide) ?_
    refine kj_iadd F dX8_isSpot_19 ?_
    refine km_iald F dX8_isSpot_20 0 (by decide) h (fun v2 h => ?_)
    refine kj_iconst F dX8_isSpot_21 (v := 1) (by decide) ?_
    refine kj_isub F dX8_isSpot_22 ?_
    refine kj_cSip (As := [.int x2, .int (0 : Int32), .int (v2 - (1 : Int32))]) (rest := []) F dX8_isSpot_23 h (fun o h1 => cm_in (w := (km_w cA h0 q)) h1) (va_cwS 3 F.2.2.2.2.1 gX8_isSpot_X8_in rfl rfl rfl (by decide +kernel) ⟨Nat.le_of_ble_eq_true rfl, Nat.le_of_ble_eq_true rfl⟩) rfl rfl (Nat.le_of_ble_eq_true rfl) ⟨Nat.zero_le _, Nat.zero_le _⟩ (fun o3 h => ?_)
    refine kj_if_eq F dX8_isSpot_26 (tgt := 54) (by decide) h (fun hc h => ?_) (fun hc h => ?_)
    · refine kj_iconst F dX8_isSpot_54 (v := 0) (by decide) ?_
      exact kj_zret F dX8_isSpot_55 (by decide) h
    · refine kj_iload_n F dX8_isSpot_29 3 rfl rfl ?_
      refine kj_iconst F dX8_isSpot_30 (v := 0) (by decide) ?_
      refine kj_aload_n F dX8_isSpot_31 0 rfl rfl ?_
      refine km_get F dX8_isSpot_32 in_X8_isSpot 0 (by decide) (by decide +kernel) rfl rfl ?_
      refine kj_bipush F dX8_isSpot_35 (v := 20) (by decide) ?_
      refine kj_iload_n F dX8_isSpot_37 1 rfl rfl ?_
      refine kj_imul F dX8_isSpot_38 ?_
      refine kj_iconst F dX8_isSpot_39 (v := 2) (by decide) ?_
      refine kj_iadd F dX8_isSpot_40 ?_
      refine km_iald F dX8_isSpot_41 0 (by decide) h (fun v4 h => ?_)
      refine kj_iconst F dX8_isSpot_42 (v := 1) (by decide) ?_
      refine kj_isub F dX8_isSpot_43 ?_
      refine kj_cSip (As := [.int x3, .int (0 : Int32), .int (v4 - (1 : Int32))]) (rest := []) F dX8_isSpot_44 h (fun o h1 => cm_in (w := (km_w cA h0 q)) h1) (va_cwS 3 F.2.2.2.2.1 gX8_isSpot_X8_in rfl rfl rfl (by decide +kernel) ⟨Nat.le_of_ble_eq_true rfl, Nat.le_of_ble_eq_true rfl⟩) rfl rfl (Nat.le_of_ble_eq_true rfl) ⟨Nat.zero_le _, Nat.zero_le _⟩ (fun o5 h => ?_)
      refine kj_if_eq F dX8_isSpot_47 (tgt := 54) (by decide) h (fun hc h => ?_) (fun hc h => ?_)
      · refine kj_iconst F dX8_isSpot_54 (v := 0) (by decide) ?_
        exact kj_zret F dX8_isSpot_55 (by decide) h
      · refine kj_iconst F dX8_isSpot_50 (v := 1) (by decide) ?_
        refine kj_goto F dX8_isSpot_51 (tgt := 55) (by decide) ?_
        exact kj_zret F dX8_isSpot_55 (by decide) h
theorem cm_isSpot {l : Launch} {D : va_G} {cA : Nat → ClassId} {h0 : Nat} {q : Nat → Nat} {x1 : Int32} {x2 : Int32} {x3 : Int32} {z : km_S} {o : (Int32 × km_S)} (h : fm_isSpot x1 x2 x3 z = some o) : kj_Mi l yX8_isSpot wsX8_isSpot rm_X8_isSpot D (km_T cA) (km_w cA h0 q) z [.ref h0, .int x1, .int x2, .int x3] o :=
  fun sz => kj_start (by decide) rfl (Nat.le_of_ble_eq_true rfl) rfl fun p e s m args below meth c hsz F => jm_isSpot F h
/-! X8_canLay -/
abbrev rm_X8_canLay : Room := { frames := 1, cells := 0, slots := 0, locals := 21 }
def fm_canLay_41 (k0 : Nat) (x1 : Int32) (x2 : Int32) (x3 : Int32) (x4 : Int32) (z : km_S) : Option (Int32 × km_S) :=
  if x3 = 0 then
  some ((1 : Int32), z)
  else
  (fm_at x2 (x3 - (1 : Int32))).bind fun o1 =>
  (km_rd z k0 (x1 + o1)).bind fun v2 =>
  if v2 ≤ x4 then
  some ((0 : Int32), z)
  else
  some ((1 : Int32), z)
def fm_canLay (k0 : Nat) (x1 : Int32) (x2 : Int32) (x3 : Int32) (z : km_S) : Option (Int32 × km_S) :=
  (fm_at x2 x3).bind fun o1 =>
  (km_rd z k0 (x1 + o1)).bind fun v2 =>
  (km_rd z k0 (x1 + (3 : Int32))).bind fun v3 =>
  if v3 ≤ v2 then
  some ((0 : Int32), z)
  else
  if x2 = 0 then
  fm_canLay_41 k0 x1 x2 x3 v2 z
  else
  (fm_at (x2 - (1 : Int32)) x3).bind fun o4 =>
  (km_rd z k0 (x1 + o4)).bind fun v5 =>
  if v5 ≤ v2 then
  some ((0 : Int32), z)
  else
  fm_canLay_41 k0 x1 x2 x3 v2 z
set_option maxRecDepth 20000 in
theorem jm_canLay_41 {p : Program} {l : Launch} {e : Env} {s : State} {m : MethodId} {args : Array Value} {below : List Frame} {meth : Method} {c : Code} {A : Nat → Prop} {D : va_G} {cA : Nat → ClassId} {h0 : Nat} {q : Nat → Nat} (F : kj_Fx p s m args meth c cX8_canLay 5 wsX8_canLay RX8 (some .boolean) D (km_T cA) A) {k0 : Nat} (hk0 : k0 < 18) {x1 : Int32} {x2 : Int32} {x3 : Int32} {x4 : Int32} {z : km_S} {o : (Int32 × km_S)} (h : fm_canLay_41 k0 x1 x2 x3 x4 z = some o) : kj_J p l e rm_X8_canLay s m args below meth c 0 0 (MQ below (kj_Qi D (km_T cA) A (km_w cA h0 q) o) args s 0 0 A) 5 D A ((km_w cA h0 q) z) 41 [(0, .ref (q k0)), (1, .int x1), (2, .int x2), (3, .int x3), (4, .int x4)] [] := by
  unfold fm_canLay_41 at h
  refine kj_iload_n F dX8_canLay_41 3 rfl rfl ?_
  refine kj_if_eq F dX8_canLay_42 (tgt := 61) (by decide) h (fun hc h => ?_) (fun hc h => ?_)
  · refine kj_iconst F dX8_canLay_61 (v := 1) (by decide) ?_
    refine kj_goto F dX8_canLay_62 (tgt := 66) (by decide) ?_
    exact kj_zret F dX8_canLay_66 (by decide) h
  · refine kj_aload_n F dX8_canLay_45 0 rfl rfl ?_
    refine kj_iload_n F dX8_canLay_46 1 rfl rfl ?_
    refine kj_iload_n F dX8_canLay_47 2 rfl rfl ?_
    refine kj_iload_n F dX8_canLay_48 3 rfl rfl ?_
    refine kj_iconst F dX8_canLay_49 (v := 1) (by decide) ?_
    refine kj_isub F dX8_canLay_50 ?_
    refine kj_cSip (As := [.int x2, .int (x3 - (1 : Int32))]) (rest := [.int x1, .ref (q k0)]) F dX8_canLay_51 h (fun o h1 => cm_at (w := (km_w cA h0 q)) h1) (va_cwS 2 F.2.2.2.2.1 gX8_canLay_X8_at rfl rfl rfl (by decide +kernel) ⟨Nat.le_of_ble_eq_true rfl, Nat.le_of_ble_eq_true rfl⟩) rfl rfl (Nat.le_of_ble_eq_true rfl) ⟨Nat.zero_le _, Nat.zero_le _⟩ (fun o1 h => ?_)
    refine kj_iadd F dX8_canLay_54 ?_
    refine km_iald F dX8_canLay_55 k0 hk0 h (fun v2 h => ?_)
    refine kj_iload F dX8_canLay_56 4 rfl ?_
    refine kj_icmp_le F dX8_canLay_58 (tgt := 65) (by decide) h (fun hc h => ?_) (fun hc h => ?_)
    · refine kj_iconst F dX8_canLay_65 (v := 0) (by decide) ?_
      exact kj_zret F dX8_canLay_66 (by decide) h
    · refine kj_iconst F dX8_canLay_61 (v := 1) (by decide) ?_
      refine kj_goto F dX8_canLay_62 (tgt := 66) (by decide) ?_
      exact kj_zret F dX8_canLay_66 (by decide) h
set_option maxRecDepth 20000 in
theorem jm_canLay {p : Program} {l : Launch} {e : Env} {s : State} {m : MethodId} {args : Array Value} {below : List Frame} {meth : Method} {c : Code} {A : Nat → Prop} {D : va_G} {cA : Nat → ClassId} {h0 : Nat} {q : Nat → Nat} (F : kj_Fx p s m args meth c cX8_canLay 5 wsX8_canLay RX8 (some .boolean) D (km_T cA) A) {k0 : Nat} (hk0 : k0 < 18) {x1 : Int32} {x2 : Int32} {x3 : Int32} {z : km_S} {o : (Int32 × km_S)} (h : fm_canLay k0 x1 x2 x3 z = some o) : kj_J p l e rm_X8_canLay s m args below meth c 0 0 (MQ below (kj_Qi D (km_T cA) A (km_w cA h0 q) o) args s 0 0 A) 5 D A ((km_w cA h0 q) z) 0 [(0, .ref (q k0)), (1, .int x1), (2, .int x2), (3, .int x3)] [] := by
  unfold fm_canLay at h
  refine kj_aload_n F dX8_canLay_0 0 rfl rfl ?_
  refine kj_iload_n F dX8_canLay_1 1 rfl rfl ?_
  refine kj_iload_n F dX8_canLay_2 2 rfl rfl ?_
  refine kj_iload_n F dX8_canLay_3 3 rfl rfl ?_
  refine kj_cSip (As := [.int x2, .int x3]) (rest := [.int x1, .ref (q k0)]) F dX8_canLay_4 h (fun o h1 => cm_at (w := (km_w cA h0 q)) h1) (va_cwS 2 F.2.2.2.2.1 gX8_canLay_X8_at rfl rfl rfl (by decide +kernel) ⟨Nat.le_of_ble_eq_true rfl, Nat.le_of_ble_eq_true rfl⟩) rfl rfl (Nat.le_of_ble_eq_true rfl) ⟨Nat.zero_le _, Nat.zero_le _⟩ (fun o1 h => ?_)
  refine kj_iadd F dX8_canLay_7 ?_
  refine km_iald F dX8_canLay_8 k0 hk0 h (fun v2 h => ?_)
  refine kj_istore F dX8_canLay_9 (lv' := [(4, .int v2), (0, .ref (q k0)), (1, .int x1), (2, .int x2), (3, .int x3)]) (by decide) rfl ?_
  refine kj_iload F dX8_canLay_11 0 rfl ?_
  refine kj_aload_n F dX8_canLay_13 1 rfl rfl ?_
  refine kj_iload_n F dX8_canLay_14 2 rfl rfl ?_
  refine kj_iconst F dX8_canLay_15 (v := 3) (by decide) ?_
  refine kj_iadd F dX8_canLay_16 ?_
  refine km_iald F dX8_canLay_17 k0 hk0 h (fun v3 h => ?_)
  refine kj_icmp_ge F dX8_canLay_18 (tgt := 65) (by decide) h (fun hc h => ?_) (fun hc h => ?_)
  · refine kj_iconst F dX8_canLay_65 (v := 0) (by decide) ?_
    exact kj_zret F dX8_canLay_66 (by decide) h
  · refine kj_iload_n F dX8_canLay_21 3 rfl rfl ?_
    refine kj_if_eq F dX8_canLay_22 (tgt := 41) (by decide) h (fun hc h => ?_) (fun hc h => ?_)
    · refine kj_J.sub [1, 2, 3, 4, 0] rfl ?_
      exact jm_canLay_41 F hk0 h
    · refine kj_aload_n F dX8_canLay_25 1 rfl rfl ?_
      refine kj_iload_n F dX8_canLay_26 2 rfl rfl ?_
      refine kj_iload_n F dX8_canLay_27 3 rfl rfl ?_
      refine kj_iconst F dX8_canLay_28 (v := 1) (by decide) ?_
      refine kj_isub F dX8_canLay_29 ?_
      refine kj_iload_n F dX8_canLay_30 4 rfl rfl ?_
      refine kj_cSip (As := [.int (x2 - (1 : Int32)), .int x3]) (rest := [.int x1, .ref (q k0)]) F dX8_canLay_31 h (fun o h1 => cm_at (w := (km_w cA h0 q)) h1) (va_cwS 2 F.2.2.2.2.1 gX8_canLay_X8_at rfl rfl rfl (by decide +kernel) ⟨Nat.le_of_ble_eq_true rfl, Nat.le_of_ble_eq_true rfl⟩) rfl rfl (Nat.le_of_ble_eq_true rfl) ⟨Nat.zero_le _, Nat.zero_le _⟩ (fun o4 h => ?_)
      refine kj_iadd F dX8_canLay_34 ?_
      refine km_iald F dX8_canLay_35 k0 hk0 h (fun v5 h => ?_)
      refine kj_iload F dX8_canLay_36 0 rfl ?_
      refine kj_icmp_le F dX8_canLay_38 (tgt := 65) (by decide) h (fun hc h => ?_) (fun hc h => ?_)
      · refine kj_iconst F dX8_canLay_65 (v := 0) (by decide) ?_
        exact kj_zret F dX8_canLay_66 (by decide) h
      · refine kj_J.sub [1, 2, 3, 4, 0] rfl ?_
        exact jm_canLay_41 F hk0 h
theorem cm_canLay {l : Launch} {D : va_G} {cA : Nat → ClassId} {h0 : Nat} {q : Nat → Nat} {k0 : Nat} (hk0 : k0 < 18) {x1 : Int32} {x2 : Int32} {x3 : Int32} {z : km_S} {o : (Int32 × km_S)} (h : fm_canLay k0 x1 x2 x3 z = some o) : kj_Mi l yX8_canLay wsX8_canLay rm_X8_canLay D (km_T cA) (km_w cA h0 q) z [.ref (q k0), .int x1, .int x2, .int x3] o :=
  fun sz => kj_start (by decide) rfl (Nat.le_of_ble_eq_true rfl) rfl fun p e s m args below meth c hsz F => jm_canLay F hk0 h
/-! X8_canTake -/
abbrev rm_X8_canTake : Room := { frames := 1, cells := 0, slots := 0, locals := 21 }
def fm_canTake_43 (k0 : Nat) (x1 : Int32) (x2 : Int32) (x3 : Int32) (x4 : Int32) (t0 : Int32) (z : km_S) : Option (Int32 × km_S) :=
  if x4 ≤ 0 then
  some ((0 : Int32), z)
  else
  if t0 = 0 then
  some ((0 : Int32), z)
  else
  (km_rd z k0 (x1 + (2 : Int32))).bind fun v1 =>
  if x3 = (v1 - (1 : Int32)) then
  some ((1 : Int32), z)
  else
  (fm_at x2 (x3 + (1 : Int32))).bind fun o2 =>
  (km_rd z k0 (x1 + o2)).bind fun v3 =>
  if x4 ≤ v3 then
  some ((0 : Int32), z)
  else
  some ((1 : Int32), z)
def fm_canTake_38 (k0 : Nat) (x1 : Int32) (x2 : Int32) (x3 : Int32) (x4 : Int32) (z : km_S) : Option (Int32 × km_S) :=
  fm_canTake_43 k0 x1 x2 x3 x4 (1 : Int32) z
def fm_canTake (k0 : Nat) (x1 : Int32) (x2 : Int32) (x3 : Int32) (z : km_S) : Option (Int32 × km_S) :=
  (fm_at x2 x3).bind fun o1 =>
  (km_rd z k0 (x1 + o1)).bind fun v2 =>
  (km_rd z k0 (x1 + (1 : Int32))).bind fun v3 =>
  if x2 = (v3 - (1 : Int32)) then
  fm_canTake_38 k0 x1 x2 x3 v2 z
  else
  (fm_at (x2 + (1 : Int32)) x3).bind fun o4 =>
  (km_rd z k0 (x1 + o4)).bind fun v5 =>
  if v2 ≤ v5 then
  fm_canTake_43 k0 x1 x2 x3 v2 (0 : Int32) z
  else
  fm_canTake_38 k0 x1 x2 x3 v2 z
set_option maxRecDepth 20000 in
theorem jm_canTake_43 {p : Program} {l : Launch} {e : Env} {s : State} {m : MethodId} {args : Array Value} {below : List Frame} {meth : Method} {c : Code} {A : Nat → Prop} {D : va_G} {cA : Nat → ClassId} {h0 : Nat} {q : Nat → Nat} (F : kj_Fx p s m args meth c cX8_canTake 6 wsX8_canTake RX8 (some .boolean) D (km_T cA) A) {k0 : Nat} (hk0 : k0 < 18) {x1 : Int32} {x2 : Int32} {x3 : Int32} {x4 : Int32} {t0 : Int32} {z : km_S} {o : (Int32 × km_S)} (h : fm_canTake_43 k0 x1 x2 x3 x4 t0 z = some o) : kj_J p l e rm_X8_canTake s m args below meth c 0 0 (MQ below (kj_Qi D (km_T cA) A (km_w cA h0 q) o) args s 0 0 A) 6 D A ((km_w cA h0 q) z) 43 [(0, .ref (q k0)), (1, .int x1), (2, .int x2), (3, .int x3), (4, .int x4)] [.int t0] := by
  unfold fm_canTake_43 at h
  refine kj_istore F dX8_canTake_43 (lv' := [(5, .int t0), (0, .ref (q k0)), (1, .int x1), (2, .int x2), (3, .int x3), (4, .int x4)]) (by decide) rfl ?_
  refine kj_iload F dX8_canTake_45 5 rfl ?_
  refine kj_if_le F dX8_canTake_47 (tgt := 86) (by decide) h (fun hc h => ?_) (fun hc h => ?_)
  · refine kj_iconst F dX8_canTake_86 (v := 0) (by decide) ?_
    exact kj_zret F dX8_canTake_87 (by decide) h
  · refine kj_iload F dX8_canTake_50 0 rfl ?_
    refine kj_if_eq F dX8_canTake_52 (tgt := 86) (by decide) h (fun hc h => ?_) (fun hc h => ?_)
    · refine kj_iconst F dX8_canTake_86 (v := 0) (by decide) ?_
      exact kj_zret F dX8_canTake_87 (by decide) h
    · refine kj_iload_n F dX8_canTake_55 4 rfl rfl ?_
      refine kj_aload_n F dX8_canTake_56 1 rfl rfl ?_
      refine kj_iload_n F dX8_canTake_57 2 rfl rfl ?_
      refine kj_iconst F dX8_canTake_58 (v := 2) (by decide) ?_
      refine kj_iadd F dX8_canTake_59 ?_
      refine km_iald F dX8_canTake_60 k0 hk0 h (fun v1 h => ?_)
      refine kj_iconst F dX8_canTake_61 (v := 1) (by decide) ?_
      refine kj_isub F dX8_canTake_62 ?_
      refine kj_icmp_eq F dX8_canTake_63 (tgt := 82) (by decide) h (fun hc h => ?_) (fun hc h => ?_)
      · refine kj_iconst F dX8_canTake_82 (v := 1) (by decide) ?_
        refine kj_goto F dX8_canTake_83 (tgt := 87) (by decide) ?_
        exact kj_zret F dX8_canTake_87 (by decide) h
      · refine kj_aload_n F dX8_canTake_66 1 rfl rfl ?_
        refine kj_iload_n F dX8_canTake_67 2 rfl rfl ?_
        refine kj_iload_n F dX8_canTake_68 3 rfl rfl ?_
        refine kj_iload_n F dX8_canTake_69 4 rfl rfl ?_
        refine kj_iconst F dX8_canTake_70 (v := 1) (by decide) ?_
        refine kj_iadd F dX8_canTake_71 ?_
        refine kj_cSip (As := [.int x2, .int (x3 + (1 : Int32))]) (rest := [.int x1, .ref (q k0)]) F dX8_canTake_72 h (fun o h1 => cm_at (w := (km_w cA h0 q)) h1) (va_cwS 2 F.2.2.2.2.1 gX8_canTake_X8_at rfl rfl rfl (by decide +kernel) ⟨Nat.le_of_ble_eq_true rfl, Nat.le_of_ble_eq_true rfl⟩) rfl rfl (Nat.le_of_ble_eq_true rfl) ⟨Nat.zero_le _, Nat.zero_le _⟩ (fun o2 h => ?_)
        refine kj_iadd F dX8_canTake_75 ?_
        refine km_iald F dX8_canTake_76 k0 hk0 h (fun v3 h => ?_)
        refine kj_iload F dX8_canTake_77 5 rfl ?_
        refine kj_icmp_ge F dX8_canTake_79 (tgt := 86) (by decide) h (fun hc h => ?_) (fun hc h => ?_)
        · refine kj_iconst F dX8_canTake_86 (v := 0) (by decide) ?_
          exact kj_zret F dX8_canTake_87 (by decide) h
        · refine kj_iconst F dX8_canTake_82 (v := 1) (by decide) ?_
          refine kj_goto F dX8_canTake_83 (tgt := 87) (by decide) ?_
          exact kj_zret F dX8_canTake_87 (by decide) h
set_option maxRecDepth 20000 in
theorem jm_canTake_38 {p : Program} {l : Launch} {e : Env} {s : State} {m : MethodId} {args : Array Value} {below : List Frame} {meth : Method} {c : Code} {A : Nat → Prop} {D : va_G} {cA : Nat → ClassId} {h0 : Nat} {q : Nat → Nat} (F : kj_Fx p s m args meth c cX8_canTake 6 wsX8_canTake RX8 (some .boolean) D (km_T cA) A) {k0 : Nat} (hk0 : k0 < 18) {x1 : Int32} {x2 : Int32} {x3 : Int32} {x4 : Int32} {z : km_S} {o : (Int32 × km_S)} (h : fm_canTake_38 k0 x1 x2 x3 x4 z = some o) : kj_J p l e rm_X8_canTake s m args below meth c 0 0 (MQ below (kj_Qi D (km_T cA) A (km_w cA h0 q) o) args s 0 0 A) 6 D A ((km_w cA h0 q) z) 38 [(0, .ref (q k0)), (1, .int x1), (2, .int x2), (3, .int x3), (4, .int x4)] [] := by
  unfold fm_canTake_38 at h
  refine kj_iconst F dX8_canTake_38 (v := 1) (by decide) ?_
  refine kj_goto F dX8_canTake_39 (tgt := 43) (by decide) ?_
  exact jm_canTake_43 F hk0 h
set_option maxRecDepth 20000 in
theorem jm_canTake {p : Program} {l : Launch} {e : Env} {s : State} {m : MethodId} {args : Array Value} {below : List Frame} {meth : Method} {c : Code} {A : Nat → Prop} {D : va_G} {cA : Nat → ClassId} {h0 : Nat} {q : Nat → Nat} (F : kj_Fx p s m args meth c cX8_canTake 6 wsX8_canTake RX8 (some .boolean) D (km_T cA) A) {k0 : Nat} (hk0 : k0 < 18) {x1 : Int32} {x2 : Int32} {x3 : Int32} {z : km_S} {o : (Int32 × km_S)} (h : fm_canTake k0 x1 x2 x3 z = some o) : kj_J p l e rm_X8_canTake s m args below meth c 0 0 (MQ below (kj_Qi D (km_T cA) A (km_w cA h0 q) o) args s 0 0 A) 6 D A ((km_w cA h0 q) z) 0 [(0, .ref (q k0)), (1, .int x1), (2, .int x2), (3, .int x3)] [] := by
  unfold fm_canTake at h
  refine kj_aload_n F dX8_canTake_0 0 rfl rfl ?_
  refine kj_iload_n F dX8_canTake_1 1 rfl rfl ?_
  refine kj_iload_n F dX8_canTake_2 2 rfl rfl ?_
  refine kj_iload_n F dX8_canTake_3 3 rfl rfl ?_
  refine kj_cSip (As := [.int x2, .int x3]) (rest := [.int x1, .ref (q k0)]) F dX8_canTake_4 h (fun o h1 => cm_at (w := (km_w cA h0 q)) h1) (va_cwS 2 F.2.2.2.2.1 gX8_canTake_X8_at rfl rfl rfl (by decide +kernel) ⟨Nat.le_of_ble_eq_true rfl, Nat.le_of_ble_eq_true rfl⟩) rfl rfl (Nat.le_of_ble_eq_true rfl) ⟨Nat.zero_le _, Nat.zero_le _⟩ (fun o1 h => ?_)
  refine kj_iadd F dX8_canTake_7 ?_
  refine km_iald F dX8_canTake_8 k0 hk0 h (fun v2 h => ?_)
  refine kj_istore F dX8_canTake_9 (lv' := [(4, .int v2), (0, .ref (q k0)), (1, .int x1), (2, .int x2), (3, .int x3)]) (by decide) rfl ?_
  refine kj_iload_n F dX8_canTake_11 3 rfl rfl ?_
  refine kj_aload_n F dX8_canTake_12 1 rfl rfl ?_
  refine kj_iload_n F dX8_canTake_13 2 rfl rfl ?_
  refine kj_iconst F dX8_canTake_14 (v := 1) (by decide) ?_
  refine kj_iadd F dX8_canTake_15 ?_
  refine km_iald F dX8_canTake_16 k0 hk0 h (fun v3 h => ?_)
  refine kj_iconst F dX8_canTake_17 (v := 1) (by decide) ?_
  refine kj_isub F dX8_canTake_18 ?_
  refine kj_icmp_eq F dX8_canTake_19 (tgt := 38) (by decide) h (fun hc h => ?_) (fun hc h => ?_)
  · refine kj_J.sub [1, 2, 3, 4, 0] rfl ?_
    exact jm_canTake_38 F hk0 h
  · refine kj_aload_n F dX8_canTake_22 1 rfl rfl ?_
    refine kj_iload_n F dX8_canTake_23 2 rfl rfl ?_
    refine kj_iload_n F dX8_canTake_24 3 rfl rfl ?_
    refine kj_iconst F dX8_canTake_25 (v := 1) (by decide) ?_
    refine kj_iadd F dX8_canTake_26 ?_
    refine kj_iload_n F dX8_canTake_27 4 rfl rfl ?_
    refine kj_cSip (As := [.int (x2 + (1 : Int32)), .int x3]) (rest := [.int x1, .ref (q k0)]) F dX8_canTake_28 h (fun o h1 => cm_at (w := (km_w cA h0 q)) h1) (va_cwS 2 F.2.2.2.2.1 gX8_canTake_X8_at rfl rfl rfl (by decide +kernel) ⟨Nat.le_of_ble_eq_true rfl, Nat.le_of_ble_eq_true rfl⟩) rfl rfl (Nat.le_of_ble_eq_true rfl) ⟨Nat.zero_le _, Nat.zero_le _⟩ (fun o4 h => ?_)
    refine kj_iadd F dX8_canTake_31 ?_
    refine km_iald F dX8_canTake_32 k0 hk0 h (fun v5 h => ?_)
    refine kj_iload F dX8_canTake_33 0 rfl ?_
    refine kj_icmp_ge F dX8_canTake_35 (tgt := 42) (by decide) h (fun hc h => ?_) (fun hc h => ?_)
    · refine kj_iconst F dX8_canTake_42 (v := 0) (by decide) ?_
      refine kj_J.sub [1, 2, 3, 4, 0] rfl ?_
      exact jm_canTake_43 F hk0 h
    · refine kj_J.sub [1, 2, 3, 4, 0] rfl ?_
      exact jm_canTake_38 F hk0 h
theorem cm_canTake {l : Launch} {D : va_G} {cA : Nat → ClassId} {h0 : Nat} {q : Nat → Nat} {k0 : Nat} (hk0 : k0 < 18) {x1 : Int32} {x2 : Int32} {x3 : Int32} {z : km_S} {o : (Int32 × km_S)} (h : fm_canTake k0 x1 x2 x3 z = some o) : kj_Mi l yX8_canTake wsX8_canTake rm_X8_canTake D (km_T cA) (km_w cA h0 q) z [.ref (q k0), .int x1, .int x2, .int x3] o :=
  fun sz => kj_start (by decide) rfl (Nat.le_of_ble_eq_true rfl) rfl fun p e s m args below meth c hsz F => jm_canTake F hk0 h
