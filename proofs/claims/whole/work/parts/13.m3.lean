/-! X8_kinOf -/
abbrev rm_X8_kinOf : Room := { frames := 4, cells := 0, slots := 0, locals := 100 }
theorem in_X8_kinOf : ∀ w ∈ u_ws RX8 TX8 29, w ∈ wsX8_kinOf := by decide +kernel
def fm_kinOf (x1 : Int32) (z : km_S) : Option (Int32 × km_S) :=
  (fm_laysKin x1 z).bind fun o1 =>
  some ((o1.1 6), o1)
set_option maxRecDepth 20000 in
theorem jm_kinOf {p : Program} {l : Launch} {e : Env} {s : State} {m : MethodId} {args : Array Value} {below : List Frame} {meth : Method} {c : Code} {A : Nat → Prop} {D : va_G} {cA : Nat → ClassId} {h0 : Nat} {q : Nat → Nat} (F : kj_Fx p s m args meth c cX8_kinOf 2 wsX8_kinOf RX8 (some .int) D (km_T cA) A) {x1 : Int32} {z : km_S} {o : (Int32 × km_S)} (h : fm_kinOf x1 z = some o) : kj_J p l e rm_X8_kinOf s m args below meth c 0 0 (MQ below (kj_Qi D (km_T cA) A (km_w cA h0 q) o) args s 0 0 A) 2 D A ((km_w cA h0 q) z) 0 [(0, .ref h0), (1, .int x1)] [] := by
  unfold fm_kinOf at h
  refine kj_aload_n F dX8_kinOf_0 0 rfl rfl ?_
  refine kj_iload_n F dX8_kinOf_1 1 rfl rfl ?_
  refine kj_cVv (As := [.int x1]) (rest := []) F dX8_kinOf_2 h (fun o h1 => cm_laysKin h1) (cwV 1 F.2.2.2.2.1 gX8_kinOf_X8_laysKin rfl rfl rfl (by decide +kernel) ⟨Nat.le_of_ble_eq_true rfl, Nat.le_of_ble_eq_true rfl⟩) 0 rfl rfl rfl rfl rfl (Nat.le_of_ble_eq_true rfl) ⟨Nat.zero_le _, Nat.zero_le _⟩ (fun o1 h => ?_)
  refine kj_aload_n F dX8_kinOf_5 0 rfl rfl ?_
  refine km_get F dX8_kinOf_6 in_X8_kinOf 18 (by decide) (by decide +kernel) rfl rfl ?_
  exact kj_iret F dX8_kinOf_9 h
theorem cm_kinOf {l : Launch} {D : va_G} {cA : Nat → ClassId} {h0 : Nat} {q : Nat → Nat} {x1 : Int32} {z : km_S} {o : (Int32 × km_S)} (h : fm_kinOf x1 z = some o) : kj_Mi l yX8_kinOf wsX8_kinOf rm_X8_kinOf D (km_T cA) (km_w cA h0 q) z [.ref h0, .int x1] o :=
  fun sz => kj_start (by decide) rfl (Nat.le_of_ble_eq_true rfl) rfl fun p e s m args below meth c hsz F => jm_kinOf F h
/-! X8_whole -/
abbrev rm_X8_whole : Room := { frames := 5, cells := 0, slots := 0, locals := 121 }
theorem in_X8_whole : ∀ w ∈ u_ws RX8 TX8 29, w ∈ wsX8_whole := by decide +kernel
def fm_whole_121 (t0 : Int32) (t1 : Int32) (z : km_S) : Option (Int32 × km_S) :=
  (fm_corners t1 t0 z).bind fun o1 =>
  some ((o1.1), (o1.2))
def fm_whole (x1 : Int32) (x2 : Int32) (z : km_S) : Option (Int32 × km_S) :=
  (fm_isHeap x1 z).bind fun o1 =>
  if (o1.1) = 0 then
  some (((-1000001) : Int32), (o1.2))
  else
  if x2 = 0 then
  (km_rd (o1.2) 0 ((((20 : Int32) * x1) + (1 : Int32)) + x2)).bind fun v2 =>
  some (v2, (o1.2))
  else
  if x2 = 1 then
  (km_rd (o1.2) 0 ((((20 : Int32) * x1) + (1 : Int32)) + x2)).bind fun v3 =>
  some (v3, (o1.2))
  else
  if x2 = 2 then
  (km_rd (o1.2) 0 ((((20 : Int32) * x1) + (1 : Int32)) + x2)).bind fun v4 =>
  some (v4, (o1.2))
  else
  if x2 = 3 then
  (fm_volume 0 ((20 : Int32) * x1) (o1.2)).bind fun o5 =>
  some ((o5.1), (o5.2))
  else
  if x2 = 4 then
  (fm_numberOf 0 ((20 : Int32) * x1) (o1.2)).bind fun o6 =>
  some ((o6.1), (o6.2))
  else
  if x2 = 5 then
  (fm_trace ((20 : Int32) * x1) (o1.2)).bind fun o7 =>
  some ((o7.1), (o7.2))
  else
  if x2 = 6 then
  if x2 = (6 : Int32) then
  fm_whole_121 (1 : Int32) ((20 : Int32) * x1) (o1.2)
  else
  fm_whole_121 (0 : Int32) ((20 : Int32) * x1) (o1.2)
  else
  if x2 = 7 then
  if x2 = (6 : Int32) then
  fm_whole_121 (1 : Int32) ((20 : Int32) * x1) (o1.2)
  else
  fm_whole_121 (0 : Int32) ((20 : Int32) * x1) (o1.2)
  else
  if x2 = 8 then
  (fm_symmetries 0 ((20 : Int32) * x1) (o1.2)).bind fun o8 =>
  some ((o8.1), (o8.2))
  else
  if x2 = 9 then
  (fm_kinOf ((20 : Int32) * x1) (o1.2)).bind fun o9 =>
  some ((o9.1), (o9.2))
  else
  some (((-1000001) : Int32), (o1.2))
set_option maxRecDepth 20000 in
theorem jm_whole_121 {p : Program} {l : Launch} {e : Env} {s : State} {m : MethodId} {args : Array Value} {below : List Frame} {meth : Method} {c : Code} {A : Nat → Prop} {D : va_G} {cA : Nat → ClassId} {h0 : Nat} {q : Nat → Nat} (F : kj_Fx p s m args meth c cX8_whole 4 wsX8_whole RX8 (some .int) D (km_T cA) A) {t0 : Int32} {t1 : Int32} {z : km_S} {o : (Int32 × km_S)} (h : fm_whole_121 t0 t1 z = some o) : kj_J p l e rm_X8_whole s m args below meth c 0 0 (MQ below (kj_Qi D (km_T cA) A (km_w cA h0 q) o) args s 0 0 A) 4 D A ((km_w cA h0 q) z) 121 [] [.int t0, .int t1, .ref h0] := by
  unfold fm_whole_121 at h
  refine kj_cVi (As := [.int t1, .int t0]) (rest := []) F dX8_whole_121 h (fun o h1 => cm_corners h1) (cwV 2 F.2.2.2.2.1 gX8_whole_X8_corners rfl rfl rfl (by decide +kernel) ⟨Nat.le_of_ble_eq_true rfl, Nat.le_of_ble_eq_true rfl⟩) 0 rfl rfl rfl rfl rfl (Nat.le_of_ble_eq_true rfl) ⟨Nat.zero_le _, Nat.zero_le _⟩ (fun o1 h => ?_)
  exact kj_iret F dX8_whole_124 h
set_option maxRecDepth 20000 in
theorem jm_whole {p : Program} {l : Launch} {e : Env} {s : State} {m : MethodId} {args : Array Value} {below : List Frame} {meth : Method} {c : Code} {A : Nat → Prop} {D : va_G} {cA : Nat → ClassId} {h0 : Nat} {q : Nat → Nat} (F : kj_Fx p s m args meth c cX8_whole 4 wsX8_whole RX8 (some .int) D (km_T cA) A) {x1 : Int32} {x2 : Int32} {z : km_S} {o : (Int32 × km_S)} (h : fm_whole x1 x2 z = some o) : kj_J p l e rm_X8_whole s m args below meth c 0 0 (MQ below (kj_Qi D (km_T cA) A (km_w cA h0 q) o) args s 0 0 A) 4 D A ((km_w cA h0 q) z) 0 [(0, .ref h0), (1, .int x1), (2, .int x2)] [] := by
  unfold fm_whole at h
  refine kj_aload_n F dX8_whole_0 0 rfl rfl ?_
  refine kj_iload_n F dX8_whole_1 1 rfl rfl ?_
  refine kj_cVi (As := [.int x1]) (rest := []) F dX8_whole_2 h (fun o h1 => cm_isHeap h1) (cwV 1 F.2.2.2.2.1 gX8_whole_X8_isHeap rfl rfl rfl (by decide +kernel) ⟨Nat.le_of_ble_eq_true rfl, Nat.le_of_ble_eq_true rfl⟩) 0 rfl rfl rfl rfl rfl (Nat.le_of_ble_eq_true rfl) ⟨Nat.zero_le _, Nat.zero_le _⟩ (fun o1 h => ?_)
  refine kj_if_ne F dX8_whole_5 (tgt := 11) (by decide) h (fun hc h => ?_) (fun hc h => ?_)
  · refine kj_ldc F dX8_whole_8 (v := (-1000001)) (by decide +kernel) ?_
    exact kj_iret F dX8_whole_10 h
  · refine kj_bipush F dX8_whole_11 (v := 20) (by decide) ?_
    refine kj_iload_n F dX8_whole_13 1 rfl rfl ?_
    refine kj_imul F dX8_whole_14 ?_
    refine kj_istore_n F dX8_whole_15 (lv' := [(3, .int ((20 : Int32) * x1)), (0, .ref h0), (1, .int x1), (2, .int x2)]) rfl (by decide) rfl ?_
    refine kj_iload_n F dX8_whole_16 3 rfl rfl ?_
    refine kj_if h (fun hc h => ?_) (fun hn17_0 h => ?_)
    · refine kj_tableIn F dX8_whole_17 (off := 55) (tgt := 72) (by rw [hc]; decide) (by rw [hc]; decide) (by rw [hc]; rfl) (by decide) ?_
      refine kj_aload_n F dX8_whole_72 1 rfl rfl ?_
      refine km_get F dX8_whole_73 in_X8_whole 0 (by decide) (by decide +kernel) rfl rfl ?_
      refine kj_iload_n F dX8_whole_76 0 rfl rfl ?_
      refine kj_iconst F dX8_whole_77 (v := 1) (by decide) ?_
      refine kj_iadd F dX8_whole_78 ?_
      refine kj_iload_n F dX8_whole_79 3 rfl rfl ?_
      refine kj_iadd F dX8_whole_80 ?_
      refine km_iald F dX8_whole_81 0 (by decide) h (fun v2 h => ?_)
      exact kj_iret F dX8_whole_82 h
    refine kj_if h (fun hc h => ?_) (fun hn17_1 h => ?_)
    · refine kj_tableIn F dX8_whole_17 (off := 55) (tgt := 72) (by rw [hc]; decide) (by rw [hc]; decide) (by rw [hc]; rfl) (by decide) ?_
      refine kj_aload_n F dX8_whole_72 1 rfl rfl ?_
      refine km_get F dX8_whole_73 in_X8_whole 0 (by decide) (by decide +kernel) rfl rfl ?_
      refine kj_iload_n F dX8_whole_76 0 rfl rfl ?_
      refine kj_iconst F dX8_whole_77 (v := 1) (by decide) ?_
      refine kj_iadd F dX8_whole_78 ?_
      refine kj_iload_n F dX8_whole_79 3 rfl rfl ?_
      refine kj_iadd F dX8_whole_80 ?_
      refine km_iald F dX8_whole_81 0 (by decide) h (fun v3 h => ?_)
      exact kj_iret F dX8_whole_82 h
    refine kj_if h (fun hc h => ?_) (fun hn17_2 h => ?_)
    · refine kj_tableIn F dX8_whole_17 (off := 55) (tgt := 72) (by rw [hc]; decide) (by rw [hc]; decide) (by rw [hc]; rfl) (by decide) ?_
      refine kj_aload_n F dX8_whole_72 1 rfl rfl ?_
      refine km_get F dX8_whole_73 in_X8_whole 0 (by decide) (by decide +kernel) rfl rfl ?_
      refine kj_iload_n F dX8_whole_76 0 rfl rfl ?_
      refine kj_iconst F dX8_whole_77 (v := 1) (by decide) ?_
      refine kj_iadd F dX8_whole_78 ?_
      refine kj_iload_n F dX8_whole_79 3 rfl rfl ?_
      refine kj_iadd F dX8_whole_80 ?_
      refine km_iald F dX8_whole_81 0 (by decide) h (fun v4 h => ?_)
      exact kj_iret F dX8_whole_82 h
    refine kj_if h (fun hc h => ?_) (fun hn17_3 h => ?_)
    · refine kj_tableIn F dX8_whole_17 (off := 66) (tgt := 83) (by rw [hc]; decide) (by rw [hc]; decide) (by rw [hc]; rfl) (by decide) ?_
      refine kj_aload_n F dX8_whole_83 1 rfl rfl ?_
      refine km_get F dX8_whole_84 in_X8_whole 0 (by decide) (by decide +kernel) rfl rfl ?_
      refine kj_iload_n F dX8_whole_87 0 rfl rfl ?_
      refine kj_cSi (As := [.ref (q 0), .int ((20 : Int32) * x1)]) (rest := []) F dX8_whole_88 h (fun o h1 => cm_volume (by decide) h1) (va_cwS 2 F.2.2.2.2.1 gX8_whole_X8_volume rfl rfl rfl (by decide +kernel) ⟨Nat.le_of_ble_eq_true rfl, Nat.le_of_ble_eq_true rfl⟩) rfl rfl (Nat.le_of_ble_eq_true rfl) ⟨Nat.zero_le _, Nat.zero_le _⟩ (fun o5 h => ?_)
      exact kj_iret F dX8_whole_91 h
    refine kj_if h (fun hc h => ?_) (fun hn17_4 h => ?_)
    · refine kj_tableIn F dX8_whole_17 (off := 75) (tgt := 92) (by rw [hc]; decide) (by rw [hc]; decide) (by rw [hc]; rfl) (by decide) ?_
      refine kj_aload_n F dX8_whole_92 1 rfl rfl ?_
      refine kj_aload_n F dX8_whole_93 1 rfl rfl ?_
      refine km_get F dX8_whole_94 in_X8_whole 0 (by decide) (by decide +kernel) rfl rfl ?_
      refine kj_iload_n F dX8_whole_97 0 rfl rfl ?_
      refine kj_cVi (As := [.ref (q 0), .int ((20 : Int32) * x1)]) (rest := []) F dX8_whole_98 h (fun o h1 => cm_numberOf (by decide) h1) (cwV 2 F.2.2.2.2.1 gX8_whole_X8_numberOf rfl rfl rfl (by decide +kernel) ⟨Nat.le_of_ble_eq_true rfl, Nat.le_of_ble_eq_true rfl⟩) 0 rfl rfl rfl rfl rfl (Nat.le_of_ble_eq_true rfl) ⟨Nat.zero_le _, Nat.zero_le _⟩ (fun o6 h => ?_)
      exact kj_iret F dX8_whole_101 h
    refine kj_if h (fun hc h => ?_) (fun hn17_5 h => ?_)
    · refine kj_tableIn F dX8_whole_17 (off := 85) (tgt := 102) (by rw [hc]; decide) (by rw [hc]; decide) (by rw [hc]; rfl) (by decide) ?_
      refine kj_aload_n F dX8_whole_102 1 rfl rfl ?_
      refine kj_iload_n F dX8_whole_103 0 rfl rfl ?_
      refine kj_cVi (As := [.int ((20 : Int32) * x1)]) (rest := []) F dX8_whole_104 h (fun o h1 => cm_trace h1) (cwV 1 F.2.2.2.2.1 gX8_whole_X8_trace rfl rfl rfl (by decide +kernel) ⟨Nat.le_of_ble_eq_true rfl, Nat.le_of_ble_eq_true rfl⟩) 0 rfl rfl rfl rfl rfl (Nat.le_of_ble_eq_true rfl) ⟨Nat.zero_le _, Nat.zero_le _⟩ (fun o7 h => ?_)
      exact kj_iret F dX8_whole_107 h
    refine kj_if h (fun hc h => ?_) (fun hn17_6 h => ?_)
    · refine kj_tableIn F dX8_whole_17 (off := 91) (tgt := 108) (by rw [hc]; decide) (by rw [hc]; decide) (by rw [hc]; rfl) (by decide) ?_
      refine kj_aload_n F dX8_whole_108 1 rfl rfl ?_
      refine kj_iload_n F dX8_whole_109 0 rfl rfl ?_
      refine kj_iload_n F dX8_whole_110 3 rfl rfl ?_
      refine kj_bipush F dX8_whole_111 (v := 6) (by decide) ?_
      refine kj_icmp_ne F dX8_whole_113 (tgt := 120) (by decide) h (fun hc h => ?_) (fun hc h => ?_)
      · refine kj_iconst F dX8_whole_116 (v := 1) (by decide) ?_
        refine kj_goto F dX8_whole_117 (tgt := 121) (by decide) ?_
        refine kj_J.sub [] rfl ?_
        exact jm_whole_121 F h
      · refine kj_iconst F dX8_whole_120 (v := 0) (by decide) ?_
        refine kj_J.sub [] rfl ?_
        exact jm_whole_121 F h
    refine kj_if h (fun hc h => ?_) (fun hn17_7 h => ?_)
    · refine kj_tableIn F dX8_whole_17 (off := 91) (tgt := 108) (by rw [hc]; decide) (by rw [hc]; decide) (by rw [hc]; rfl) (by decide) ?_
      refine kj_aload_n F dX8_whole_108 1 rfl rfl ?_
      refine kj_iload_n F dX8_whole_109 0 rfl rfl ?_
      refine kj_iload_n F dX8_whole_110 3 rfl rfl ?_
      refine kj_bipush F dX8_whole_111 (v := 6) (by decide) ?_
      refine kj_icmp_ne F dX8_whole_113 (tgt := 120) (by decide) h (fun hc h => ?_) (fun hc h => ?_)
      · refine kj_iconst F dX8_whole_116 (v := 1) (by decide) ?_
        refine kj_goto F dX8_whole_117 (tgt := 121) (by decide) ?_
        refine kj_J.sub [] rfl ?_
        exact jm_whole_121 F h
      · refine kj_iconst F dX8_whole_120 (v := 0) (by decide) ?_
        refine kj_J.sub [] rfl ?_
        exact jm_whole_121 F h
    refine kj_if h (fun hc h => ?_) (fun hn17_8 h => ?_)
    · refine kj_tableIn F dX8_whole_17 (off := 108) (tgt := 125) (by rw [hc]; decide) (by rw [hc]; decide) (by rw [hc]; rfl) (by decide) ?_
      refine kj_aload_n F dX8_whole_125 1 rfl rfl ?_
      refine kj_aload_n F dX8_whole_126 1 rfl rfl ?_
      refine km_get F dX8_whole_127 in_X8_whole 0 (by decide) (by decide +kernel) rfl rfl ?_
      refine kj_iload_n F dX8_whole_130 0 rfl rfl ?_
      refine kj_cVi (As := [.ref (q 0), .int ((20 : Int32) * x1)]) (rest := []) F dX8_whole_131 h (fun o h1 => cm_symmetries (by decide) h1) (cwV 2 F.2.2.2.2.1 gX8_whole_X8_symmetries rfl rfl rfl (by decide +kernel) ⟨Nat.le_of_ble_eq_true rfl, Nat.le_of_ble_eq_true rfl⟩) 0 rfl rfl rfl rfl rfl (Nat.le_of_ble_eq_true rfl) ⟨Nat.zero_le _, Nat.zero_le _⟩ (fun o8 h => ?_)
      exact kj_iret F dX8_whole_134 h
    refine kj_if h (fun hc h => ?_) (fun hn17_9 h => ?_)
    · refine kj_tableIn F dX8_whole_17 (off := 118) (tgt := 135) (by rw [hc]; decide) (by rw [hc]; decide) (by rw [hc]; rfl) (by decide) ?_
      refine kj_aload_n F dX8_whole_135 1 rfl rfl ?_
      refine kj_iload_n F dX8_whole_136 0 rfl rfl ?_
      refine kj_cVi (As := [.int ((20 : Int32) * x1)]) (rest := []) F dX8_whole_137 h (fun o h1 => cm_kinOf h1) (cwV 1 F.2.2.2.2.1 gX8_whole_X8_kinOf rfl rfl rfl (by decide +kernel) ⟨Nat.le_of_ble_eq_true rfl, Nat.le_of_ble_eq_true rfl⟩) 0 rfl rfl rfl rfl rfl (Nat.le_of_ble_eq_true rfl) ⟨Nat.zero_le _, Nat.zero_le _⟩ (fun o9 h => ?_)
      exact kj_iret F dX8_whole_140 h
    refine kj_tableOut F dX8_whole_17 (tgt := 141) (by have e0 : Int32.toInt x2 ≠ 0 := fun q => hn17_0 (Int32.toInt_inj.mp (q.trans (by decide))); have e1 : Int32.toInt x2 ≠ 1 := fun q => hn17_1 (Int32.toInt_inj.mp (q.trans (by decide))); have e2 : Int32.toInt x2 ≠ 2 := fun q => hn17_2 (Int32.toInt_inj.mp (q.trans (by decide))); have e3 : Int32.toInt x2 ≠ 3 := fun q => hn17_3 (Int32.toInt_inj.mp (q.trans (by decide))); have e4 : Int32.toInt x2 ≠ 4 := fun q => hn17_4 (Int32.toInt_inj.mp (q.trans (by decide))); have e5 : Int32.toInt x2 ≠ 5 := fun q => hn17_5 (Int32.toInt_inj.mp (q.trans (by decide))); have e6 : Int32.toInt x2 ≠ 6 := fun q => hn17_6 (Int32.toInt_inj.mp (q.trans (by decide))); have e7 : Int32.toInt x2 ≠ 7 := fun q => hn17_7 (Int32.toInt_inj.mp (q.trans (by decide))); have e8 : Int32.toInt x2 ≠ 8 := fun q => hn17_8 (Int32.toInt_inj.mp (q.trans (by decide))); have e9 : Int32.toInt x2 ≠ 9 := fun q => hn17_9 (Int32.toInt_inj.mp (q.trans (by decide))); omega) (by decide) ?_
    refine kj_ldc F dX8_whole_141 (v := (-1000001)) (by decide +kernel) ?_
    exact kj_iret F dX8_whole_143 h
theorem cm_whole {l : Launch} {D : va_G} {cA : Nat → ClassId} {h0 : Nat} {q : Nat → Nat} {x1 : Int32} {x2 : Int32} {z : km_S} {o : (Int32 × km_S)} (h : fm_whole x1 x2 z = some o) : kj_Mi l yX8_whole wsX8_whole rm_X8_whole D (km_T cA) (km_w cA h0 q) z [.ref h0, .int x1, .int x2] o :=
  fun sz => kj_start (by decide) rfl (Nat.le_of_ble_eq_true rfl) rfl fun p e s m args below meth c hsz F => jm_whole F h
/-! X8_path -/
abbrev rm_X8_path : Room := { frames := 3, cells := 0, slots := 0, locals := 63 }
theorem in_X8_path : ∀ w ∈ u_ws RX8 TX8 29, w ∈ wsX8_path := by decide +kernel
def fm_path_67 (x2 : Int32) (x3 : Int32) (x4 : Int32) (x5 : Int32) (x6 : Int32) (x7 : Int32) (z : km_S) : Option ((Int32 × Int32 × Int32 × Int32 × Int32 × Int32 × km_S) ⊕ (km_S ⊕ (Int32 × Int32 × Int32 × km_S))) :=
  if x5 ≤ x7 then
  some (.inr (.inr (x3, x5, x6, z)))
  else
  (fm_at x2 x7).bind fun o1 =>
  (km_rd z 0 (x4 + o1)).bind fun v2 =>
  if x3 = ((x7 + x6) - v2) then
  some (.inr (.inl z))
  else
  some (.inl (x2, x3, x4, x5, x6, (x7 + 1), z))
def lm_path_67 (n : Nat) (x2 : Int32) (x3 : Int32) (x4 : Int32) (x5 : Int32) (x6 : Int32) (x7 : Int32) (z : km_S) : Option (km_S ⊕ (Int32 × Int32 × Int32 × km_S)) :=
  kj_it (fun (s : (Int32 × Int32 × Int32 × Int32 × Int32 × Int32 × km_S)) => fm_path_67 (s.1) (s.2.1) (s.2.2.1) (s.2.2.2.1) (s.2.2.2.2.1) (s.2.2.2.2.2.1) (s.2.2.2.2.2.2)) n (x2, x3, x4, x5, x6, x7, z)
def fm_path (x1 : Int32) (x2 : Int32) (x3 : Int32) (z : km_S) : Option (Int32 × km_S) :=
  (fm_isHeap x1 z).bind fun o1 =>
  if (o1.1) = 0 then
  some (((-1000001) : Int32), (o1.2))
  else
  (km_rd (o1.2) 0 (((20 : Int32) * x1) + (1 : Int32))).bind fun v2 =>
  (fm_in x2 (0 : Int32) (v2 - (1 : Int32))).bind fun o3 =>
  if o3 = 0 then
  some (((-1000001) : Int32), (o1.2))
  else
  if 0 ≤ x3 then
  (km_rd (o1.2) 0 (((20 : Int32) * x1) + (2 : Int32))).bind fun v4 =>
  (km_rd (o1.2) 0 (((20 : Int32) * x1) + (3 : Int32))).bind fun v5 =>
  (lm_path_67 5000 x2 x3 ((20 : Int32) * x1) v4 v5 (0 : Int32) (o1.2)).bind fun r6 => kj_se r6 (fun a7 => some ((101 : Int32), (a7))) (fun b8 => if ((b8.2.1) + (b8.2.2.1)) ≤ (b8.1) then
  some (((-1000000) : Int32), (b8.2.2.2))
  else
  some ((110 : Int32), (b8.2.2.2)))
  else
  some (((-1000001) : Int32), (o1.2))
set_option maxRecDepth 20000 in
theorem jm_path_67 {p : Program} {l : Launch} {e : Env} {s : State} {m : MethodId} {args : Array Value} {below : List Frame} {meth : Method} {c : Code} {A : Nat → Prop} {D : va_G} {cA : Nat → ClassId} {h0 : Nat} {q : Nat → Nat} {Q : State → Prop} (F : kj_Fx p s m args meth c cX8_path 8 wsX8_path RX8 (some .int) D (km_T cA) A) {x2 : Int32} {x3 : Int32} {x4 : Int32} {x5 : Int32} {x6 : Int32} {x7 : Int32} {z : km_S} {o : ((Int32 × Int32 × Int32 × Int32 × Int32 × Int32 × km_S) ⊕ (km_S ⊕ (Int32 × Int32 × Int32 × km_S)))} (h : fm_path_67 x2 x3 x4 x5 x6 x7 z = some o) (kb : ∀ (a0' : Int32) (a1' : Int32) (a2' : Int32) (a3' : Int32) (a4' : Int32) (a5' : Int32) (a6' : km_S), o = .inl (a0', a1', a2', a3', a4', a5', a6') → kj_J p l e rm_X8_path s m args below meth c 0 0 Q 8 D A ((km_w cA h0 q) a6') 67 [(0, .ref h0), (2, .int a0'), (3, .int a1'), (4, .int a2'), (5, .int a3'), (6, .int a4'), (7, .int a5')] []) (ke0 : ∀ (a0' : km_S), o = .inr (.inl a0') → kj_J p l e rm_X8_path s m args below meth c 0 0 Q 8 D A ((km_w cA h0 q) a0') 98 [] []) (ke1 : ∀ (a0' : Int32) (a1' : Int32) (a2' : Int32) (a3' : km_S), o = .inr (.inr (a0', a1', a2', a3')) → kj_J p l e rm_X8_path s m args below meth c 0 0 Q 8 D A ((km_w cA h0 q) a3') 107 [(3, .int a0'), (5, .int a1'), (6, .int a2')] []) : kj_J p l e rm_X8_path s m args below meth c 0 0 Q 8 D A ((km_w cA h0 q) z) 67 [(0, .ref h0), (2, .int x2), (3, .int x3), (4, .int x4), (5, .int x5), (6, .int x6), (7, .int x7)] [] := by
  unfold fm_path_67 at h
  refine kj_iload F dX8_path_67 6 rfl ?_
  refine kj_iload F dX8_path_69 4 rfl ?_
  refine kj_icmp_ge F dX8_path_71 (tgt := 107) (by decide) h (fun hc h => ?_) (fun hc h => ?_)
  · refine kj_J.sub [2, 4, 5] rfl ?_
    exact ke1 x3 x5 x6 z (Option.some.inj h).symm
  · refine kj_iload_n F dX8_path_74 2 rfl rfl ?_
    refine kj_iload F dX8_path_75 6 rfl ?_
    refine kj_iload F dX8_path_77 5 rfl ?_
    refine kj_iadd F dX8_path_79 ?_
    refine kj_aload_n F dX8_path_80 0 rfl rfl ?_
    refine km_get F dX8_path_81 in_X8_path 0 (by decide) (by decide +kernel) rfl rfl ?_
    refine kj_iload F dX8_path_84 3 rfl ?_
    refine kj_iload_n F dX8_path_86 1 rfl rfl ?_
    refine kj_iload F dX8_path_87 6 rfl ?_
    refine kj_cSip (As := [.int x2, .int x7]) (rest := [.int x4, .ref (q 0), .int (x7 + x6), .int x3]) F dX8_path_89 h (fun o h1 => cm_at (w := (km_w cA h0 q)) h1) (va_cwS 2 F.2.2.2.2.1 gX8_path_X8_at rfl rfl rfl (by decide +kernel) ⟨Nat.le_of_ble_eq_true rfl, Nat.le_of_ble_eq_true rfl⟩) rfl rfl (Nat.le_of_ble_eq_true rfl) ⟨Nat.zero_le _, Nat.zero_le _⟩ (fun o1 h => ?_)
    refine kj_iadd F dX8_path_92 ?_
    refine km_iald F dX8_path_93 0 (by decide) h (fun v2 h => ?_)
    refine kj_isub F dX8_path_94 ?_
    refine kj_icmp_ne F dX8_path_95 (tgt := 101) (by decide) h (fun hc h => ?_) (fun hc h => ?_)
    · refine kj_J.sub [] rfl ?_
      exact ke0 z (Option.some.inj h).symm
    · refine kj_iinc F dX8_path_101 6 rfl (v := 1) (by decide) (by decide) (lv' := [(7, .int (x7 + 1)), (0, .ref h0), (2, .int x2), (3, .int x3), (4, .int x4), (5, .int x5), (6, .int x6)]) rfl ?_
      refine kj_goto F dX8_path_104 (tgt := 67) (by decide) ?_
      refine kj_J.sub [1, 2, 3, 4, 5, 6, 0] rfl ?_
      exact kb x2 x3 x4 x5 x6 (x7 + 1) z (Option.some.inj h).symm
theorem jlm_path_67 {p : Program} {l : Launch} {e : Env} {s : State} {m : MethodId} {args : Array Value} {below : List Frame} {meth : Method} {c : Code} {A : Nat → Prop} {D : va_G} {cA : Nat → ClassId} {h0 : Nat} {q : Nat → Nat} {Q : State → Prop} (F : kj_Fx p s m args meth c cX8_path 8 wsX8_path RX8 (some .int) D (km_T cA) A) {n : Nat} {x2 : Int32} {x3 : Int32} {x4 : Int32} {x5 : Int32} {x6 : Int32} {x7 : Int32} {z : km_S} {r : (km_S ⊕ (Int32 × Int32 × Int32 × km_S))} (h : lm_path_67 n x2 x3 x4 x5 x6 x7 z = some r) (ke : (∀ a, r = (.inl a) → kj_J p l e rm_X8_path s m args below meth c 0 0 Q 8 D A ((km_w cA h0 q) (a)) 98 [] []) ∧ (∀ a, r = (.inr a) → kj_J p l e rm_X8_path s m args below meth c 0 0 Q 8 D A ((km_w cA h0 q) (a.2.2.2)) 107 [(3, .int (a.1)), (5, .int (a.2.1)), (6, .int (a.2.2.1))] [])) : kj_J p l e rm_X8_path s m args below meth c 0 0 Q 8 D A ((km_w cA h0 q) z) 67 [(0, .ref h0), (2, .int x2), (3, .int x3), (4, .int x4), (5, .int x5), (6, .int x6), (7, .int x7)] [] :=
  kj_it_J (Wh := fun (u : (Int32 × Int32 × Int32 × Int32 × Int32 × Int32 × km_S)) => kj_J p l e rm_X8_path s m args below meth c 0 0 Q 8 D A ((km_w cA h0 q) (u.2.2.2.2.2.2)) 67 [(0, .ref h0), (2, .int (u.1)), (3, .int (u.2.1)), (4, .int (u.2.2.1)), (5, .int (u.2.2.2.1)), (6, .int (u.2.2.2.2.1)), (7, .int (u.2.2.2.2.2.1))] []) (We := fun r => (∀ a, r = (.inl a) → kj_J p l e rm_X8_path s m args below meth c 0 0 Q 8 D A ((km_w cA h0 q) (a)) 98 [] []) ∧ (∀ a, r = (.inr a) → kj_J p l e rm_X8_path s m args below meth c 0 0 Q 8 D A ((km_w cA h0 q) (a.2.2.2)) 107 [(3, .int (a.1)), (5, .int (a.2.1)), (6, .int (a.2.2.1))] [])) (fun u o h kb ke => jm_path_67 F h (fun a0' a1' a2' a3' a4' a5' a6' e => kb (a0', a1', a2', a3', a4', a5', a6') e) (fun a0' e => (ke (.inl a0') e).1 a0' rfl) (fun a0' a1' a2' a3' e => (ke (.inr (a0', a1', a2', a3')) e).2 (a0', a1', a2', a3') rfl)) n (x2, x3, x4, x5, x6, x7, z) r h ke
set_option maxRecDepth 20000 in
theorem jm_path {p : Program} {l : Launch} {e : Env} {s : State} {m : MethodId} {args : Array Value} {below : List Frame} {meth : Method} {c : Code} {A : Nat → Prop} {D : va_G} {cA : Nat → ClassId} {h0 : Nat} {q : Nat → Nat} (F : kj_Fx p s m args meth c cX8_path 8 wsX8_path RX8 (some .int) D (km_T cA) A) {x1 : Int32} {x2 : Int32} {x3 : Int32} {z : km_S} {o : (Int32 × km_S)} (h : fm_path x1 x2 x3 z = some o) : kj_J p l e rm_X8_path s m args below meth c 0 0 (MQ below (kj_Qi D (km_T cA) A (km_w cA h0 q) o) args s 0 0 A) 8 D A ((km_w cA h0 q) z) 0 [(0, .ref h0), (1, .int x1), (2, .int x2), (3, .int x3)] [] := by
  unfold fm_path at h
  refine kj_aload_n F dX8_path_0 0 rfl rfl ?_
  refine kj_iload_n F dX8_path_1 1 rfl rfl ?_
  refine kj_cVi (As := [.int x1]) (rest := []) F dX8_path_2 h (fun o h1 => cm_isHeap h1) (cwV 1 F.2.2.2.2.1 gX8_path_X8_isHeap rfl rfl rfl (by decide +kernel) ⟨Nat.le_of_ble_eq_true rfl, Nat.le_of_ble_eq_true rfl⟩) 0 rfl rfl rfl rfl rfl (Nat.le_of_ble_eq_true rfl) ⟨Nat.zero_le _, Nat.zero_le _⟩ (fun o1 h => ?_)
  refine kj_if_eq F dX8_path_5 (tgt := 33) (by decide) h (fun hc h => ?_) (fun hc h => ?_)
  · refine kj_ldc F dX8_path_33 (v := (-1000001)) (by decide +kernel) ?_
    exact kj_iret F dX8_path_35 h
  · refine kj_iload_n F dX8_path_8 2 rfl rfl ?_
    refine kj_iconst F dX8_path_9 (v := 0) (by decide) ?_
    refine kj_aload_n F dX8_path_10 0 rfl rfl ?_
    refine km_get F dX8_path_11 in_X8_path 0 (by decide) (by decide +kernel) rfl rfl ?_
    refine kj_bipush F dX8_path_14 (v := 20) (by decide) ?_
    refine kj_iload_n F dX8_path_16 1 rfl rfl ?_
    refine kj_imul F dX8_path_17 ?_
    refine kj_iconst F dX8_path_18 (v := 1) (by decide) ?_
    refine kj_iadd F dX8_path_19 ?_
    refine km_iald F dX8_path_20 0 (by decide) h (fun v2 h => ?_)
    refine kj_iconst F dX8_path_21 (v := 1) (by decide) ?_
    refine kj_isub F dX8_path_22 ?_
    refine kj_cSip (As := [.int x2, .int (0 : Int32), .int (v2 - (1 : Int32))]) (rest := []) F dX8_path_23 h (fun o h1 => cm_in (w := (km_w cA h0 q)) h1) (va_cwS 3 F.2.2.2.2.1 gX8_path_X8_in rfl rfl rfl (by decide +kernel) ⟨Nat.le_of_ble_eq_true rfl, Nat.le_of_ble_eq_true rfl⟩) rfl rfl (Nat.le_of_ble_eq_true rfl) ⟨Nat.zero_le _, Nat.zero_le _⟩ (fun o3 h => ?_)
    refine kj_if_eq F dX8_path_26 (tgt := 33) (by decide) h (fun hc h => ?_) (fun hc h => ?_)
    · refine kj_ldc F dX8_path_33 (v := (-1000001)) (by decide +kernel) ?_
      exact kj_iret F dX8_path_35 h
    · refine kj_iload_n F dX8_path_29 3 rfl rfl ?_
      refine kj_if_ge F dX8_path_30 (tgt := 36) (by decide) h (fun hc h => ?_) (fun hc h => ?_)
      · refine kj_bipush F dX8_path_36 (v := 20) (by decide) ?_
        refine kj_iload_n F dX8_path_38 1 rfl rfl ?_
        refine kj_imul F dX8_path_39 ?_
        refine kj_istore F dX8_path_40 (lv' := [(4, .int ((20 : Int32) * x1)), (0, .ref h0), (1, .int x1), (2, .int x2), (3, .int x3)]) (by decide) rfl ?_
        refine kj_aload_n F dX8_path_42 1 rfl rfl ?_
        refine km_get F dX8_path_43 in_X8_path 0 (by decide) (by decide +kernel) rfl rfl ?_
        refine kj_iload F dX8_path_46 0 rfl ?_
        refine kj_iconst F dX8_path_48 (v := 2) (by decide) ?_
        refine kj_iadd F dX8_path_49 ?_
        refine km_iald F dX8_path_50 0 (by decide) h (fun v4 h => ?_)
        refine kj_istore F dX8_path_51 (lv' := [(5, .int v4), (4, .int ((20 : Int32) * x1)), (0, .ref h0), (1, .int x1), (2, .int x2), (3, .int x3)]) (by decide) rfl ?_
        refine kj_aload_n F dX8_path_53 2 rfl rfl ?_
        refine km_get F dX8_path_54 in_X8_path 0 (by decide) (by decide +kernel) rfl rfl ?_
        refine kj_iload F dX8_path_57 1 rfl ?_
        refine kj_iconst F dX8_path_59 (v := 3) (by decide) ?_
        refine kj_iadd F dX8_path_60 ?_
        refine km_iald F dX8_path_61 0 (by decide) h (fun v5 h => ?_)
        refine kj_istore F dX8_path_62 (lv' := [(6, .int v5), (5, .int v4), (4, .int ((20 : Int32) * x1)), (0, .ref h0), (1, .int x1), (2, .int x2), (3, .int x3)]) (by decide) rfl ?_
        refine kj_iconst F dX8_path_64 (v := 0) (by decide) ?_
        refine kj_istore F dX8_path_65 (lv' := [(7, .int (0 : Int32)), (6, .int v5), (5, .int v4), (4, .int ((20 : Int32) * x1)), (0, .ref h0), (1, .int x1), (2, .int x2), (3, .int x3)]) (by decide) rfl ?_
        refine kj_J.sub [4, 6, 7, 3, 2, 1, 0] rfl ?_
        refine kj_bn h (fun r6 h1 h => ?_)
        refine jlm_path_67 F h1 ?_
        refine ⟨fun a7 e => ?_, fun b8 e => ?_⟩
        · subst e
          refine kj_seL h (fun h => ?_)
          refine kj_bipush F dX8_path_98 (v := 101) (by decide) ?_
          exact kj_iret F dX8_path_100 h
        · subst e
          refine kj_seR h (fun h => ?_)
          refine kj_iload_n F dX8_path_107 0 rfl rfl ?_
          refine kj_iload F dX8_path_108 1 rfl ?_
          refine kj_iload F dX8_path_110 2 rfl ?_
          refine kj_iadd F dX8_path_112 ?_
          refine kj_icmp_ge F dX8_path_113 (tgt := 121) (by decide) h (fun hc h => ?_) (fun hc h => ?_)
          · refine kj_ldc F dX8_path_121 (v := (-1000000)) (by decide +kernel) ?_
            exact kj_iret F dX8_path_123 h
          · refine kj_bipush F dX8_path_116 (v := 110) (by decide) ?_
            refine kj_goto F dX8_path_118 (tgt := 123) (by decide) ?_
            exact kj_iret F dX8_path_123 h
      · refine kj_ldc F dX8_path_33 (v := (-1000001)) (by decide +kernel) ?_
        exact kj_iret F dX8_path_35 h
theorem cm_path {l : Launch} {D : va_G} {cA : Nat → ClassId} {h0 : Nat} {q : Nat → Nat} {x1 : Int32} {x2 : Int32} {x3 : Int32} {z : km_S} {o : (Int32 × km_S)} (h : fm_path x1 x2 x3 z = some o) : kj_Mi l yX8_path wsX8_path rm_X8_path D (km_T cA) (km_w cA h0 q) z [.ref h0, .int x1, .int x2, .int x3] o :=
  fun sz => kj_start (by decide) rfl (Nat.le_of_ble_eq_true rfl) rfl fun p e s m args below meth c hsz F => jm_path F h
/-! X8_slice -/
abbrev rm_X8_slice : Room := { frames := 3, cells := 0, slots := 0, locals := 63 }
theorem in_X8_slice : ∀ w ∈ u_ws RX8 TX8 29, w ∈ wsX8_slice := by decide +kernel
def fm_slice_107 (x2 : Int32) (x4 : Int32) (x5 : Int32) (t0 : Int32) (z : km_S) : Option (Int32 × km_S) :=
  if t0 = 0 then
  some (((-1000000) : Int32), z)
  else
  (fm_at x5 (x5 + x2)).bind fun o1 =>
  (km_rd z 0 (x4 + o1)).bind fun v2 =>
  some (v2, z)
def fm_slice_106 (x2 : Int32) (x4 : Int32) (x5 : Int32) (z : km_S) : Option (Int32 × km_S) :=
  fm_slice_107 x2 x4 x5 (0 : Int32) z
def fm_slice_64 (x2 : Int32) (x3 : Int32) (x4 : Int32) (t0 : Int32) (t1 : Int32) (z : km_S) : Option (Int32 × km_S) :=
  if (4 : Int32) ≤ x3 then
  fm_slice_106 x2 x4 (t1 + t0) z
  else
  (km_rd z 0 (x4 + (1 : Int32))).bind fun v1 =>
  if v1 ≤ (t1 + t0) then
  fm_slice_106 x2 x4 (t1 + t0) z
  else
  (km_rd z 0 (x4 + (2 : Int32))).bind fun v2 =>
  if v2 ≤ ((t1 + t0) + x2) then
  fm_slice_106 x2 x4 (t1 + t0) z
  else
  fm_slice_107 x2 x4 (t1 + t0) (1 : Int32) z
def fm_slice (x1 : Int32) (x2 : Int32) (x3 : Int32) (z : km_S) : Option (Int32 × km_S) :=
  (fm_isHeap x1 z).bind fun o1 =>
  if (o1.1) = 0 then
  some (((-1000001) : Int32), (o1.2))
  else
  if 0 ≤ x3 then
  (km_rd (o1.2) 0 (((20 : Int32) * x1) + (1 : Int32))).bind fun v2 =>
  (km_rd (o1.2) 0 (((20 : Int32) * x1) + (2 : Int32))).bind fun v3 =>
  (fm_in x2 ((1 : Int32) - v2) (v3 - (1 : Int32))).bind fun o4 =>
  if o4 = 0 then
  some (((-1000001) : Int32), (o1.2))
  else
  if 0 ≤ x2 then
  fm_slice_64 x2 x3 ((20 : Int32) * x1) (0 : Int32) x3 (o1.2)
  else
  fm_slice_64 x2 x3 ((20 : Int32) * x1) (-x2) x3 (o1.2)
  else
  some (((-1000001) : Int32), (o1.2))
set_option maxRecDepth 20000 in
theorem jm_slice_107 {p : Program} {l : Launch} {e : Env} {s : State} {m : MethodId} {args : Array Value} {below : List Frame} {meth : Method} {c : Code} {A : Nat → Prop} {D : va_G} {cA : Nat → ClassId} {h0 : Nat} {q : Nat → Nat} (F : kj_Fx p s m args meth c cX8_slice 7 wsX8_slice RX8 (some .int) D (km_T cA) A) {x2 : Int32} {x4 : Int32} {x5 : Int32} {t0 : Int32} {z : km_S} {o : (Int32 × km_S)} (h : fm_slice_107 x2 x4 x5 t0 z = some o) : kj_J p l e rm_X8_slice s m args below meth c 0 0 (MQ below (kj_Qi D (km_T cA) A (km_w cA h0 q) o) args s 0 0 A) 7 D A ((km_w cA h0 q) z) 107 [(0, .ref h0), (2, .int x2), (4, .int x4), (5, .int x5)] [.int t0] := by
  unfold fm_slice_107 at h
  refine kj_istore F dX8_slice_107 (lv' := [(6, .int t0), (0, .ref h0), (2, .int x2), (4, .int x4), (5, .int x5)]) (by decide) rfl ?_
  refine kj_iload F dX8_slice_109 0 rfl ?_
  refine kj_if_eq F dX8_slice_111 (tgt := 134) (by decide) h (fun hc h => ?_) (fun hc h => ?_)
  · refine kj_ldc F dX8_slice_134 (v := (-1000000)) (by decide +kernel) ?_
    exact kj_iret F dX8_slice_136 h
  · refine kj_aload_n F dX8_slice_114 1 rfl rfl ?_
    refine km_get F dX8_slice_115 in_X8_slice 0 (by decide) (by decide +kernel) rfl rfl ?_
    refine kj_iload F dX8_slice_118 3 rfl ?_
    refine kj_iload F dX8_slice_120 4 rfl ?_
    refine kj_iload F dX8_slice_122 4 rfl ?_
    refine kj_iload_n F dX8_slice_124 2 rfl rfl ?_
    refine kj_iadd F dX8_slice_125 ?_
    refine kj_cSip (As := [.int x5, .int (x5 + x2)]) (rest := [.int x4, .ref (q 0)]) F dX8_slice_126 h (fun o h1 => cm_at (w := (km_w cA h0 q)) h1) (va_cwS 2 F.2.2.2.2.1 gX8_slice_X8_at rfl rfl rfl (by decide +kernel) ⟨Nat.le_of_ble_eq_true rfl, Nat.le_of_ble_eq_true rfl⟩) rfl rfl (Nat.le_of_ble_eq_true rfl) ⟨Nat.zero_le _, Nat.zero_le _⟩ (fun o1 h => ?_)
    refine kj_iadd F dX8_slice_129 ?_
    refine km_iald F dX8_slice_130 0 (by decide) h (fun v2 h => ?_)
    refine kj_goto F dX8_slice_131 (tgt := 136) (by decide) ?_
    exact kj_iret F dX8_slice_136 h
set_option maxRecDepth 20000 in
theorem jm_slice_106 {p : Program} {l : Launch} {e : Env} {s : State} {m : MethodId} {args : Array Value} {below : List Frame} {meth : Method} {c : Code} {A : Nat → Prop} {D : va_G} {cA : Nat → ClassId} {h0 : Nat} {q : Nat → Nat} (F : kj_Fx p s m args meth c cX8_slice 7 wsX8_slice RX8 (some .int) D (km_T cA) A) {x2 : Int32} {x4 : Int32} {x5 : Int32} {z : km_S} {o : (Int32 × km_S)} (h : fm_slice_106 x2 x4 x5 z = some o) : kj_J p l e rm_X8_slice s m args below meth c 0 0 (MQ below (kj_Qi D (km_T cA) A (km_w cA h0 q) o) args s 0 0 A) 7 D A ((km_w cA h0 q) z) 106 [(0, .ref h0), (2, .int x2), (4, .int x4), (5, .int x5)] [] := by
  unfold fm_slice_106 at h
  refine kj_iconst F dX8_slice_106 (v := 0) (by decide) ?_
  exact jm_slice_107 F h
set_option maxRecDepth 20000 in
theorem jm_slice_64 {p : Program} {l : Launch} {e : Env} {s : State} {m : MethodId} {args : Array Value} {below : List Frame} {meth : Method} {c : Code} {A : Nat → Prop} {D : va_G} {cA : Nat → ClassId} {h0 : Nat} {q : Nat → Nat} (F : kj_Fx p s m args meth c cX8_slice 7 wsX8_slice RX8 (some .int) D (km_T cA) A) {x2 : Int32} {x3 : Int32} {x4 : Int32} {t0 : Int32} {t1 : Int32} {z : km_S} {o : (Int32 × km_S)} (h : fm_slice_64 x2 x3 x4 t0 t1 z = some o) : kj_J p l e rm_X8_slice s m args below meth c 0 0 (MQ below (kj_Qi D (km_T cA) A (km_w cA h0 q) o) args s 0 0 A) 7 D A ((km_w cA h0 q) z) 64 [(0, .ref h0), (2, .int x2), (3, .int x3), (4, .int x4)] [.int t0, .int t1] := by
  unfold fm_slice_64 at h
  refine kj_iadd F dX8_slice_64 ?_
  refine kj_istore F dX8_slice_65 (lv' := [(5, .int (t1 + t0)), (0, .ref h0), (2, .int x2), (3, .int x3), (4, .int x4)]) (by decide) rfl ?_
  refine kj_iload_n F dX8_slice_67 3 rfl rfl ?_
  refine kj_iconst F dX8_slice_68 (v := 4) (by decide) ?_
  refine kj_icmp_ge F dX8_slice_69 (tgt := 106) (by decide) h (fun hc h => ?_) (fun hc h => ?_)
  · refine kj_J.sub [1, 2, 4, 0] rfl ?_
    exact jm_slice_106 F h
  · refine kj_iload F dX8_slice_72 0 rfl ?_
    refine kj_aload_n F dX8_slice_74 1 rfl rfl ?_
    refine km_get F dX8_slice_75 in_X8_slice 0 (by decide) (by decide +kernel) rfl rfl ?_
    refine kj_iload F dX8_slice_78 4 rfl ?_
    refine kj_iconst F dX8_slice_80 (v := 1) (by decide) ?_
    refine kj_iadd F dX8_slice_81 ?_
    refine km_iald F dX8_slice_82 0 (by decide) h (fun v1 h => ?_)
    refine kj_icmp_ge F dX8_slice_83 (tgt := 106) (by decide) h (fun hc h => ?_) (fun hc h => ?_)
    · refine kj_J.sub [1, 2, 4, 0] rfl ?_
      exact jm_slice_106 F h
    · refine kj_iload F dX8_slice_86 0 rfl ?_
      refine kj_iload_n F dX8_slice_88 2 rfl rfl ?_
      refine kj_iadd F dX8_slice_89 ?_
      refine kj_aload_n F dX8_slice_90 1 rfl rfl ?_
      refine km_get F dX8_slice_91 in_X8_slice 0 (by decide) (by decide +kernel) rfl rfl ?_
      refine kj_iload F dX8_slice_94 4 rfl ?_
      refine kj_iconst F dX8_slice_96 (v := 2) (by decide) ?_
      refine kj_iadd F dX8_slice_97 ?_
      refine km_iald F dX8_slice_98 0 (by decide) h (fun v2 h => ?_)
      refine kj_icmp_ge F dX8_slice_99 (tgt := 106) (by decide) h (fun hc h => ?_) (fun hc h => ?_)
      · refine kj_J.sub [1, 2, 4, 0] rfl ?_
        exact jm_slice_106 F h
      · refine kj_iconst F dX8_slice_102 (v := 1) (by decide) ?_
        refine kj_goto F dX8_slice_103 (tgt := 107) (by decide) ?_
        refine kj_J.sub [1, 2, 4, 0] rfl ?_
        exact jm_slice_107 F h
set_option maxRecDepth 20000 in
theorem jm_slice {p : Program} {l : Launch} {e : Env} {s : State} {m : MethodId} {args : Array Value} {below : List Frame} {meth : Method} {c : Code} {A : Nat → Prop} {D : va_G} {cA : Nat → ClassId} {h0 : Nat} {q : Nat → Nat} (F : kj_Fx p s m args meth c cX8_slice 7 wsX8_slice RX8 (some .int) D (km_T cA) A) {x1 : Int32} {x2 : Int32} {x3 : Int32} {z : km_S} {o : (Int32 × km_S)} (h : fm_slice x1 x2 x3 z = some o) : kj_J p l e rm_X8_slice s m args below meth c 0 0 (MQ below (kj_Qi D (km_T cA) A (km_w cA h0 q) o) args s 0 0 A) 7 D A ((km_w cA h0 q) z) 0 [(0, .ref h0), (1, .int x1), (2, .int x2), (3, .int x3)] [] := by
  unfold fm_slice at h
  refine kj_aload_n F dX8_slice_0 0 rfl rfl ?_
  refine kj_iload_n F dX8_slice_1 1 rfl rfl ?_
  refine kj_cVi (As := [.int x1]) (rest := []) F dX8_slice_2 h (fun o h1 => cm_isHeap h1) (cwV 1 F.2.2.2.2.1 gX8_slice_X8_isHeap rfl rfl rfl (by decide +kernel) ⟨Nat.le_of_ble_eq_true rfl, Nat.le_of_ble_eq_true rfl⟩) 0 rfl rfl rfl rfl rfl (Nat.le_of_ble_eq_true rfl) ⟨Nat.zero_le _, Nat.zero_le _⟩ (fun o1 h => ?_)
  refine kj_if_eq F dX8_slice_5 (tgt := 12) (by decide) h (fun hc h => ?_) (fun hc h => ?_)
  · refine kj_ldc F dX8_slice_12 (v := (-1000001)) (by decide +kernel) ?_
    exact kj_iret F dX8_slice_14 h
  · refine kj_iload_n F dX8_slice_8 3 rfl rfl ?_
    refine kj_if_ge F dX8_slice_9 (tgt := 15) (by decide) h (fun hc h => ?_) (fun hc h => ?_)
    · refine kj_bipush F dX8_slice_15 (v := 20) (by decide) ?_
      refine kj_iload_n F dX8_slice_17 1 rfl rfl ?_
      refine kj_imul F dX8_slice_18 ?_
      refine kj_istore F dX8_slice_19 (lv' := [(4, .int ((20 : Int32) * x1)), (0, .ref h0), (1, .int x1), (2, .int x2), (3, .int x3)]) (by decide) rfl ?_
      refine kj_iload_n F dX8_slice_21 3 rfl rfl ?_
      refine kj_iconst F dX8_slice_22 (v := 1) (by decide) ?_
      refine kj_aload_n F dX8_slice_23 1 rfl rfl ?_
      refine km_get F dX8_slice_24 in_X8_slice 0 (by decide) (by decide +kernel) rfl rfl ?_
      refine kj_iload F dX8_slice_27 0 rfl ?_
      refine kj_iconst F dX8_slice_29 (v := 1) (by decide) ?_
      refine kj_iadd F dX8_slice_30 ?_
      refine km_iald F dX8_slice_31 0 (by decide) h (fun v2 h => ?_)
      refine kj_isub F dX8_slice_32 ?_
      refine kj_aload_n F dX8_slice_33 1 rfl rfl ?_
      refine km_get F dX8_slice_34 in_X8_slice 0 (by decide) (by decide +kernel) rfl rfl ?_
      refine kj_iload F dX8_slice_37 0 rfl ?_
      refine kj_iconst F dX8_slice_39 (v := 2) (by decide) ?_
      refine kj_iadd F dX8_slice_40 ?_
      refine km_iald F dX8_slice_41 0 (by decide) h (fun v3 h => ?_)
      refine kj_iconst F dX8_slice_42 (v := 1) (by decide) ?_
      refine kj_isub F dX8_slice_43 ?_
      refine kj_cSip (As := [.int x2, .int ((1 : Int32) - v2), .int (v3 - (1 : Int32))]) (rest := []) F dX8_slice_44 h (fun o h1 => cm_in (w := (km_w cA h0 q)) h1) (va_cwS 3 F.2.2.2.2.1 gX8_slice_X8_in rfl rfl rfl (by decide +kernel) ⟨Nat.le_of_ble_eq_true rfl, Nat.le_of_ble_eq_true rfl⟩) rfl rfl (Nat.le_of_ble_eq_true rfl) ⟨Nat.zero_le _, Nat.zero_le _⟩ (fun o4 h => ?_)
      refine kj_if_ne F dX8_slice_47 (tgt := 53) (by decide) h (fun hc h => ?_) (fun hc h => ?_)
      · refine kj_ldc F dX8_slice_50 (v := (-1000001)) (by decide +kernel) ?_
        exact kj_iret F dX8_slice_52 h
      · refine kj_iload_n F dX8_slice_53 4 rfl rfl ?_
        refine kj_iload_n F dX8_slice_54 3 rfl rfl ?_
        refine kj_if_ge F dX8_slice_55 (tgt := 63) (by decide) h (fun hc h => ?_) (fun hc h => ?_)
        · refine kj_iconst F dX8_slice_63 (v := 0) (by decide) ?_
          refine kj_J.sub [1, 3, 4, 0] rfl ?_
          exact jm_slice_64 F h
        · refine kj_iload_n F dX8_slice_58 3 rfl rfl ?_
          refine kj_ineg F dX8_slice_59 ?_
          refine kj_goto F dX8_slice_60 (tgt := 64) (by decide) ?_
          refine kj_J.sub [1, 3, 4, 0] rfl ?_
          exact jm_slice_64 F h
    · refine kj_ldc F dX8_slice_12 (v := (-1000001)) (by decide +kernel) ?_
      exact kj_iret F dX8_slice_14 h
theorem cm_slice {l : Launch} {D : va_G} {cA : Nat → ClassId} {h0 : Nat} {q : Nat → Nat} {x1 : Int32} {x2 : Int32} {x3 : Int32} {z : km_S} {o : (Int32 × km_S)} (h : fm_slice x1 x2 x3 z = some o) : kj_Mi l yX8_slice wsX8_slice rm_X8_slice D (km_T cA) (km_w cA h0 q) z [.ref h0, .int x1, .int x2, .int x3] o :=
  fun sz => kj_start (by decide) rfl (Nat.le_of_ble_eq_true rfl) rfl fun p e s m args below meth c hsz F => jm_slice F h
/-! X8_heightBy -/
abbrev rm_X8_heightBy : Room := { frames := 1, cells := 0, slots := 0, locals := 21 }
theorem in_X8_heightBy : ∀ w ∈ u_ws RX8 TX8 29, w ∈ wsX8_heightBy := by decide +kernel
def fm_heightBy_8 (x1 : Int32) (z : km_S) : Option (Int32 × km_S) :=
  (km_rd z 0 (x1 + (3 : Int32))).bind fun v1 =>
  some (v1, z)
def fm_heightBy (x1 : Int32) (x2 : Int32) (x3 : Int32) (z : km_S) : Option (Int32 × km_S) :=
  if x2 < 0 then
  fm_heightBy_8 x1 z
  else
  if 0 ≤ x3 then
  (km_rd z 0 (x1 + (1 : Int32))).bind fun v1 =>
  if v1 ≤ x2 then
  some ((0 : Int32), z)
  else
  (km_rd z 0 (x1 + (2 : Int32))).bind fun v2 =>
  if v2 ≤ x3 then
  some ((0 : Int32), z)
  else
  (fm_at x2 x3).bind fun o3 =>
  (km_rd z 0 (x1 + o3)).bind fun v4 =>
  some (v4, z)
  else
  fm_heightBy_8 x1 z
set_option maxRecDepth 20000 in
theorem jm_heightBy_8 {p : Program} {l : Launch} {e : Env} {s : State} {m : MethodId} {args : Array Value} {below : List Frame} {meth : Method} {c : Code} {A : Nat → Prop} {D : va_G} {cA : Nat → ClassId} {h0 : Nat} {q : Nat → Nat} (F : kj_Fx p s m args meth c cX8_heightBy 4 wsX8_heightBy RX8 (some .int) D (km_T cA) A) {x1 : Int32} {z : km_S} {o : (Int32 × km_S)} (h : fm_heightBy_8 x1 z = some o) : kj_J p l e rm_X8_heightBy s m args below meth c 0 0 (MQ below (kj_Qi D (km_T cA) A (km_w cA h0 q) o) args s 0 0 A) 4 D A ((km_w cA h0 q) z) 8 [(0, .ref h0), (1, .int x1)] [] := by
  unfold fm_heightBy_8 at h
  refine kj_aload_n F dX8_heightBy_8 0 rfl rfl ?_
  refine km_get F dX8_heightBy_9 in_X8_heightBy 0 (by decide) (by decide +kernel) rfl rfl ?_
  refine kj_iload_n F dX8_heightBy_12 1 rfl rfl ?_
  refine kj_iconst F dX8_heightBy_13 (v := 3) (by decide) ?_
  refine kj_iadd F dX8_heightBy_14 ?_
  refine km_iald F dX8_heightBy_15 0 (by decide) h (fun v1 h => ?_)
  exact kj_iret F dX8_heightBy_16 h
set_option maxRecDepth 20000 in
theorem jm_heightBy {p : Program} {l : Launch} {e : Env} {s : State} {m : MethodId} {args : Array Value} {below : List Frame} {meth : Method} {c : Code} {A : Nat → Prop} {D : va_G} {cA : Nat → ClassId} {h0 : Nat} {q : Nat → Nat} (F : kj_Fx p s m args meth c cX8_heightBy 4 wsX8_heightBy RX8 (some .int) D (km_T cA) A) {x1 : Int32} {x2 : Int32} {x3 : Int32} {z : km_S} {o : (Int32 × km_S)} (h : fm_heightBy x1 x2 x3 z = some o) : kj_J p l e rm_X8_heightBy s m args below meth c 0 0 (MQ below (kj_Qi D (km_T cA) A (km_w cA h0 q) o) args s 0 0 A) 4 D A ((km_w cA h0 q) z) 0 [(0, .ref h0), (1, .int x1), (2, .int x2), (3, .int x3)] [] := by
  unfold fm_heightBy at h
  refine kj_iload_n F dX8_heightBy_0 2 rfl rfl ?_
  refine kj_if_lt F dX8_heightBy_1 (tgt := 8) (by decide) h (fun hc h => ?_) (fun hc h => ?_)
  · refine kj_J.sub [0, 1] rfl ?_
    exact jm_heightBy_8 F h
  · refine kj_iload_n F dX8_heightBy_4 3 rfl rfl ?_
    refine kj_if_ge F dX8_heightBy_5 (tgt := 17) (by decide) h (fun hc h => ?_) (fun hc h => ?_)
    · refine kj_iload_n F dX8_heightBy_17 2 rfl rfl ?_
      refine kj_aload_n F dX8_heightBy_18 0 rfl rfl ?_
      refine km_get F dX8_heightBy_19 in_X8_heightBy 0 (by decide) (by decide +kernel) rfl rfl ?_
      refine kj_iload_n F dX8_heightBy_22 1 rfl rfl ?_
      refine kj_iconst F dX8_heightBy_23 (v := 1) (by decide) ?_
      refine kj_iadd F dX8_heightBy_24 ?_
      refine km_iald F dX8_heightBy_25 0 (by decide) h (fun v1 h => ?_)
      refine kj_icmp_ge F dX8_heightBy_26 (tgt := 56) (by decide) h (fun hc h => ?_) (fun hc h => ?_)
      · refine kj_iconst F dX8_heightBy_56 (v := 0) (by decide) ?_
        exact kj_iret F dX8_heightBy_57 h
      · refine kj_iload_n F dX8_heightBy_29 3 rfl rfl ?_
        refine kj_aload_n F dX8_heightBy_30 0 rfl rfl ?_
        refine km_get F dX8_heightBy_31 in_X8_heightBy 0 (by decide) (by decide +kernel) rfl rfl ?_
        refine kj_iload_n F dX8_heightBy_34 1 rfl rfl ?_
        refine kj_iconst F dX8_heightBy_35 (v := 2) (by decide) ?_
        refine kj_iadd F dX8_heightBy_36 ?_
        refine km_iald F dX8_heightBy_37 0 (by decide) h (fun v2 h => ?_)
        refine kj_icmp_ge F dX8_heightBy_38 (tgt := 56) (by decide) h (fun hc h => ?_) (fun hc h => ?_)
        · refine kj_iconst F dX8_heightBy_56 (v := 0) (by decide) ?_
          exact kj_iret F dX8_heightBy_57 h
        · refine kj_aload_n F dX8_heightBy_41 0 rfl rfl ?_
          refine km_get F dX8_heightBy_42 in_X8_heightBy 0 (by decide) (by decide +kernel) rfl rfl ?_
          refine kj_iload_n F dX8_heightBy_45 1 rfl rfl ?_
          refine kj_iload_n F dX8_heightBy_46 2 rfl rfl ?_
          refine kj_iload_n F dX8_heightBy_47 3 rfl rfl ?_
          refine kj_cSip (As := [.int x2, .int x3]) (rest := [.int x1, .ref (q 0)]) F dX8_heightBy_48 h (fun o h1 => cm_at (w := (km_w cA h0 q)) h1) (va_cwS 2 F.2.2.2.2.1 gX8_heightBy_X8_at rfl rfl rfl (by decide +kernel) ⟨Nat.le_of_ble_eq_true rfl, Nat.le_of_ble_eq_true rfl⟩) rfl rfl (Nat.le_of_ble_eq_true rfl) ⟨Nat.zero_le _, Nat.zero_le _⟩ (fun o3 h => ?_)
          refine kj_iadd F dX8_heightBy_51 ?_
          refine km_iald F dX8_heightBy_52 0 (by decide) h (fun v4 h => ?_)
          refine kj_goto F dX8_heightBy_53 (tgt := 57) (by decide) ?_
          exact kj_iret F dX8_heightBy_57 h
    · refine kj_J.sub [0, 1] rfl ?_
      exact jm_heightBy_8 F h
theorem cm_heightBy {l : Launch} {D : va_G} {cA : Nat → ClassId} {h0 : Nat} {q : Nat → Nat} {x1 : Int32} {x2 : Int32} {x3 : Int32} {z : km_S} {o : (Int32 × km_S)} (h : fm_heightBy x1 x2 x3 z = some o) : kj_Mi l yX8_heightBy wsX8_heightBy rm_X8_heightBy D (km_T cA) (km_w cA h0 q) z [.ref h0, .int x1, .int x2, .int x3] o :=
  fun sz => kj_start (by decide) rfl (Nat.le_of_ble_eq_true rfl) rfl fun p e s m args below meth c hsz F => jm_heightBy F h
/-! X8_isSide -/
abbrev rm_X8_isSide : Room := { frames := 2, cells := 0, slots := 0, locals := 44 }
def fm_isSide_101 (x2 : Int32) (x3 : Int32) (x5 : Int32) (x7 : Int32) (x10 : Int32) (t0 : Int32) (z : km_S) : Option ((Int32 × Int32 × Int32 × Int32 × Int32 × Int32 × km_S) ⊕ (Int32 × km_S)) :=
  some (.inl (x2, x3, x5, x7, t0, (x10 + 1), z))
def fm_isSide_96 (x2 : Int32) (x3 : Int32) (x5 : Int32) (x7 : Int32) (x10 : Int32) (z : km_S) : Option ((Int32 × Int32 × Int32 × Int32 × Int32 × Int32 × km_S) ⊕ (Int32 × km_S)) :=
  fm_isSide_101 x2 x3 x5 x7 x10 (1 : Int32) z
def fm_isSide_65 (x2 : Int32) (x3 : Int32) (x5 : Int32) (x7 : Int32) (x9 : Int32) (x10 : Int32) (z : km_S) : Option ((Int32 × Int32 × Int32 × Int32 × Int32 × Int32 × km_S) ⊕ (Int32 × km_S)) :=
  if x7 < x10 then
  some (.inr (x9, z))
  else
  if x9 = 0 then
  if x5 = (((((4 : Int32) * x10) - ((2 : Int32) * x2)) - ((2 : Int32) * x3)) - (5 : Int32)) then
  fm_isSide_96 x2 x3 x5 x7 x10 z
  else
  fm_isSide_101 x2 x3 x5 x7 x10 (0 : Int32) z
  else
  fm_isSide_96 x2 x3 x5 x7 x10 z
def lm_isSide_65 (n : Nat) (x2 : Int32) (x3 : Int32) (x5 : Int32) (x7 : Int32) (x9 : Int32) (x10 : Int32) (z : km_S) : Option (Int32 × km_S) :=
  kj_it (fun (s : (Int32 × Int32 × Int32 × Int32 × Int32 × Int32 × km_S)) => fm_isSide_65 (s.1) (s.2.1) (s.2.2.1) (s.2.2.2.1) (s.2.2.2.2.1) (s.2.2.2.2.2.1) (s.2.2.2.2.2.2)) n (x2, x3, x5, x7, x9, x10, z)
def fm_isSide_54 (x2 : Int32) (x3 : Int32) (x5 : Int32) (x7 : Int32) (t0 : Int32) (z : km_S) : Option (Int32 × km_S) :=
  (lm_isSide_65 5000 x2 x3 x5 x7 (0 : Int32) (t0 + (1 : Int32)) z).bind fun r1 =>
  if (r1.1) = 0 ∨ (r1.1) = 1 then some ((r1.1), (r1.2)) else none
def fm_isSide_17 (x1 : Int32) (x2 : Int32) (x3 : Int32) (x5 : Int32) (t0 : Int32) (z : km_S) : Option (Int32 × km_S) :=
  (fm_heightBy x1 x2 x3 z).bind fun o1 =>
  if t0 = 0 then
  (fm_heightBy x1 x2 (x3 + (1 : Int32)) (o1.2)).bind fun o2 =>
  fm_isSide_54 x2 x3 x5 (o1.1) (o2.1) (o2.2)
  else
  (fm_heightBy x1 (x2 + (1 : Int32)) x3 (o1.2)).bind fun o3 =>
  fm_isSide_54 x2 x3 x5 (o1.1) (o3.1) (o3.2)
def fm_isSide (x1 : Int32) (x2 : Int32) (x3 : Int32) (x4 : Int32) (x5 : Int32) (z : km_S) : Option (Int32 × km_S) :=
  if x4 = (((2 : Int32) * (x3 - x2)) - (1 : Int32)) then
  fm_isSide_17 x1 x2 x3 x5 (1 : Int32) z
  else
  fm_isSide_17 x1 x2 x3 x5 (0 : Int32) z
set_option maxRecDepth 20000 in
theorem jm_isSide_101 {p : Program} {l : Launch} {e : Env} {s : State} {m : MethodId} {args : Array Value} {below : List Frame} {meth : Method} {c : Code} {A : Nat → Prop} {D : va_G} {cA : Nat → ClassId} {h0 : Nat} {q : Nat → Nat} {Q : State → Prop} (F : kj_Fx p s m args meth c cX8_isSide 11 wsX8_isSide RX8 (some .boolean) D (km_T cA) A) {x2 : Int32} {x3 : Int32} {x5 : Int32} {x7 : Int32} {x10 : Int32} {t0 : Int32} {z : km_S} {o : ((Int32 × Int32 × Int32 × Int32 × Int32 × Int32 × km_S) ⊕ (Int32 × km_S))} (h : fm_isSide_101 x2 x3 x5 x7 x10 t0 z = some o) (kb : ∀ (a0' : Int32) (a1' : Int32) (a2' : Int32) (a3' : Int32) (a4' : Int32) (a5' : Int32) (a6' : km_S), o = .inl (a0', a1', a2', a3', a4', a5', a6') → kj_J p l e rm_X8_isSide s m args below meth c 0 0 Q 11 D A ((km_w cA h0 q) a6') 65 [(2, .int a0'), (3, .int a1'), (5, .int a2'), (7, .int a3'), (9, .int a4'), (10, .int a5')] []) (ke0 : ∀ (a0' : Int32) (a1' : km_S), o = .inr (a0', a1') → kj_J p l e rm_X8_isSide s m args below meth c 0 0 Q 11 D A ((km_w cA h0 q) a1') 109 [(9, .int a0')] []) : kj_J p l e rm_X8_isSide s m args below meth c 0 0 Q 11 D A ((km_w cA h0 q) z) 101 [(2, .int x2), (3, .int x3), (5, .int x5), (7, .int x7), (10, .int x10)] [.int t0] := by
  unfold fm_isSide_101 at h
  refine kj_istore F dX8_isSide_101 (lv' := [(9, .int t0), (2, .int x2), (3, .int x3), (5, .int x5), (7, .int x7), (10, .int x10)]) (by decide) rfl ?_
  refine kj_iinc F dX8_isSide_103 5 rfl (v := 1) (by decide) (by decide) (lv' := [(10, .int (x10 + 1)), (9, .int t0), (2, .int x2), (3, .int x3), (5, .int x5), (7, .int x7)]) rfl ?_
  refine kj_goto F dX8_isSide_106 (tgt := 65) (by decide) ?_
  refine kj_J.sub [2, 3, 4, 5, 1, 0] rfl ?_
  exact kb x2 x3 x5 x7 t0 (x10 + 1) z (Option.some.inj h).symm
set_option maxRecDepth 20000 in
theorem jm_isSide_96 {p : Program} {l : Launch} {e : Env} {s : State} {m : MethodId} {args : Array Value} {below : List Frame} {meth : Method} {c : Code} {A : Nat → Prop} {D : va_G} {cA : Nat → ClassId} {h0 : Nat} {q : Nat → Nat} {Q : State → Prop} (F : kj_Fx p s m args meth c cX8_isSide 11 wsX8_isSide RX8 (some .boolean) D (km_T cA) A) {x2 : Int32} {x3 : Int32} {x5 : Int32} {x7 : Int32} {x10 : Int32} {z : km_S} {o : ((Int32 × Int32 × Int32 × Int32 × Int32 × Int32 × km_S) ⊕ (Int32 × km_S))} (h : fm_isSide_96 x2 x3 x5 x7 x10 z = some o) (kb : ∀ (a0' : Int32) (a1' : Int32) (a2' : Int32) (a3' : Int32) (a4' : Int32) (a5' : Int32) (a6' : km_S), o = .inl (a0', a1', a2', a3', a4', a5', a6') → kj_J p l e rm_X8_isSide s m args below meth c 0 0 Q 11 D A ((km_w cA h0 q) a6') 65 [(2, .int a0'), (3, .int a1'), (5, .int a2'), (7, .int a3'), (9, .int a4'), (10, .int a5')] []) (ke0 : ∀ (a0' : Int32) (a1' : km_S), o = .inr (a0', a1') → kj_J p l e rm_X8_isSide s m args below meth c 0 0 Q 11 D A ((km_w cA h0 q) a1') 109 [(9, .int a0')] []) : kj_J p l e rm_X8_isSide s m args below meth c 0 0 Q 11 D A ((km_w cA h0 q) z) 96 [(2, .int x2), (3, .int x3), (5, .int x5), (7, .int x7), (10, .int x10)] [] := by
  unfold fm_isSide_96 at h
  refine kj_iconst F dX8_isSide_96 (v := 1) (by decide) ?_
  refine kj_goto F dX8_isSide_97 (tgt := 101) (by decide) ?_
  exact jm_isSide_101 F h kb ke0
set_option maxRecDepth 20000 in
theorem jm_isSide_65 {p : Program} {l : Launch} {e : Env} {s : State} {m : MethodId} {args : Array Value} {below : List Frame} {meth : Method} {c : Code} {A : Nat → Prop} {D : va_G} {cA : Nat → ClassId} {h0 : Nat} {q : Nat → Nat} {Q : State → Prop} (F : kj_Fx p s m args meth c cX8_isSide 11 wsX8_isSide RX8 (some .boolean) D (km_T cA) A) {x2 : Int32} {x3 : Int32} {x5 : Int32} {x7 : Int32} {x9 : Int32} {x10 : Int32} {z : km_S} {o : ((Int32 × Int32 × Int32 × Int32 × Int32 × Int32 × km_S) ⊕ (Int32 × km_S))} (h : fm_isSide_65 x2 x3 x5 x7 x9 x10 z = some o) (kb : ∀ (a0' : Int32) (a1' : Int32) (a2' : Int32) (a3' : Int32) (a4' : Int32) (a5' : Int32) (a6' : km_S), o = .inl (a0', a1', a2', a3', a4', a5', a6') → kj_J p l e rm_X8_isSide s m args below meth c 0 0 Q 11 D A ((km_w cA h0 q) a6') 65 [(2, .int a0'), (3, .int a1'), (5, .int a2'), (7, .int a3'), (9, .int a4'), (10, .int a5')] []) (ke0 : ∀ (a0' : Int32) (a1' : km_S), o = .inr (a0', a1') → kj_J p l e rm_X8_isSide s m args below meth c 0 0 Q 11 D A ((km_w cA h0 q) a1') 109 [(9, .int a0')] []) : kj_J p l e rm_X8_isSide s m args below meth c 0 0 Q 11 D A ((km_w cA h0 q) z) 65 [(2, .int x2), (3, .int x3), (5, .int x5), (7, .int x7), (9, .int x9), (10, .int x10)] [] := by
  unfold fm_isSide_65 at h
  refine kj_iload F dX8_isSide_65 5 rfl ?_
  refine kj_iload F dX8_isSide_67 3 rfl ?_
  refine kj_icmp_gt F dX8_isSide_69 (tgt := 109) (by decide) h (fun hc h => ?_) (fun hc h => ?_)
  · refine kj_J.sub [4] rfl ?_
    exact ke0 x9 z (Option.some.inj h).symm
  · refine kj_iload F dX8_isSide_72 4 rfl ?_
    refine kj_if_ne F dX8_isSide_74 (tgt := 96) (by decide) h (fun hc h => ?_) (fun hc h => ?_)
    · refine kj_iload F dX8_isSide_77 2 rfl ?_
      refine kj_iconst F dX8_isSide_79 (v := 4) (by decide) ?_
      refine kj_iload F dX8_isSide_80 5 rfl ?_
      refine kj_imul F dX8_isSide_82 ?_
      refine kj_iconst F dX8_isSide_83 (v := 2) (by decide) ?_
      refine kj_iload_n F dX8_isSide_84 0 rfl rfl ?_
      refine kj_imul F dX8_isSide_85 ?_
      refine kj_isub F dX8_isSide_86 ?_
      refine kj_iconst F dX8_isSide_87 (v := 2) (by decide) ?_
      refine kj_iload_n F dX8_isSide_88 1 rfl rfl ?_
      refine kj_imul F dX8_isSide_89 ?_
      refine kj_isub F dX8_isSide_90 ?_
      refine kj_iconst F dX8_isSide_91 (v := 5) (by decide) ?_
      refine kj_isub F dX8_isSide_92 ?_
      refine kj_icmp_ne F dX8_isSide_93 (tgt := 100) (by decide) h (fun hc h => ?_) (fun hc h => ?_)
      · refine kj_J.sub [0, 1, 2, 3, 5] rfl ?_
        exact jm_isSide_96 F h kb ke0
      · refine kj_iconst F dX8_isSide_100 (v := 0) (by decide) ?_
        refine kj_J.sub [0, 1, 2, 3, 5] rfl ?_
        exact jm_isSide_101 F h kb ke0
    · refine kj_J.sub [0, 1, 2, 3, 5] rfl ?_
      exact jm_isSide_96 F h kb ke0
theorem jlm_isSide_65 {p : Program} {l : Launch} {e : Env} {s : State} {m : MethodId} {args : Array Value} {below : List Frame} {meth : Method} {c : Code} {A : Nat → Prop} {D : va_G} {cA : Nat → ClassId} {h0 : Nat} {q : Nat → Nat} {Q : State → Prop} (F : kj_Fx p s m args meth c cX8_isSide 11 wsX8_isSide RX8 (some .boolean) D (km_T cA) A) {n : Nat} {x2 : Int32} {x3 : Int32} {x5 : Int32} {x7 : Int32} {x9 : Int32} {x10 : Int32} {z : km_S} {r : (Int32 × km_S)} (h : lm_isSide_65 n x2 x3 x5 x7 x9 x10 z = some r) (ke : kj_J p l e rm_X8_isSide s m args below meth c 0 0 Q 11 D A ((km_w cA h0 q) (r.2)) 109 [(9, .int (r.1))] []) : kj_J p l e rm_X8_isSide s m args below meth c 0 0 Q 11 D A ((km_w cA h0 q) z) 65 [(2, .int x2), (3, .int x3), (5, .int x5), (7, .int x7), (9, .int x9), (10, .int x10)] [] :=
  kj_it_J (Wh := fun (u : (Int32 × Int32 × Int32 × Int32 × Int32 × Int32 × km_S)) => kj_J p l e rm_X8_isSide s m args below meth c 0 0 Q 11 D A ((km_w cA h0 q) (u.2.2.2.2.2.2)) 65 [(2, .int (u.1)), (3, .int (u.2.1)), (5, .int (u.2.2.1)), (7, .int (u.2.2.2.1)), (9, .int (u.2.2.2.2.1)), (10, .int (u.2.2.2.2.2.1))] []) (We := fun r => kj_J p l e rm_X8_isSide s m args below meth c 0 0 Q 11 D A ((km_w cA h0 q) (r.2)) 109 [(9, .int (r.1))] []) (fun u o h kb ke => jm_isSide_65 F h (fun a0' a1' a2' a3' a4' a5' a6' e => kb (a0', a1', a2', a3', a4', a5', a6') e) (fun a0' a1' e => ke (a0', a1') e)) n (x2, x3, x5, x7, x9, x10, z) r h ke
set_option maxRecDepth 20000 in
theorem jm_isSide_54 {p : Program} {l : Launch} {e : Env} {s : State} {m : MethodId} {args : Array Value} {below : List Frame} {meth : Method} {c : Code} {A : Nat → Prop} {D : va_G} {cA : Nat → ClassId} {h0 : Nat} {q : Nat → Nat} (F : kj_Fx p s m args meth c cX8_isSide 11 wsX8_isSide RX8 (some .boolean) D (km_T cA) A) {x2 : Int32} {x3 : Int32} {x5 : Int32} {x7 : Int32} {t0 : Int32} {z : km_S} {o : (Int32 × km_S)} (h : fm_isSide_54 x2 x3 x5 x7 t0 z = some o) : kj_J p l e rm_X8_isSide s m args below meth c 0 0 (MQ below (kj_Qi D (km_T cA) A (km_w cA h0 q) o) args s 0 0 A) 11 D A ((km_w cA h0 q) z) 54 [(2, .int x2), (3, .int x3), (5, .int x5), (7, .int x7)] [.int t0] := by
  unfold fm_isSide_54 at h
  refine kj_istore F dX8_isSide_54 (lv' := [(8, .int t0), (2, .int x2), (3, .int x3), (5, .int x5), (7, .int x7)]) (by decide) rfl ?_
  refine kj_iconst F dX8_isSide_56 (v := 0) (by decide) ?_
  refine kj_istore F dX8_isSide_57 (lv' := [(9, .int (0 : Int32)), (8, .int t0), (2, .int x2), (3, .int x3), (5, .int x5), (7, .int x7)]) (by decide) rfl ?_
  refine kj_iload F dX8_isSide_59 1 rfl ?_
  refine kj_iconst F dX8_isSide_61 (v := 1) (by decide) ?_
  refine kj_iadd F dX8_isSide_62 ?_
  refine kj_istore F dX8_isSide_63 (lv' := [(10, .int (t0 + (1 : Int32))), (9, .int (0 : Int32)), (8, .int t0), (2, .int x2), (3, .int x3), (5, .int x5), (7, .int x7)]) (by decide) rfl ?_
  refine kj_J.sub [3, 4, 5, 6, 1, 0] rfl ?_
  refine kj_bn h (fun r1 h1 h => ?_)
  refine jlm_isSide_65 F h1 ?_
  refine kj_iload F dX8_isSide_109 0 rfl ?_
  exact kj_zretB F dX8_isSide_111 h
set_option maxRecDepth 20000 in
theorem jm_isSide_17 {p : Program} {l : Launch} {e : Env} {s : State} {m : MethodId} {args : Array Value} {below : List Frame} {meth : Method} {c : Code} {A : Nat → Prop} {D : va_G} {cA : Nat → ClassId} {h0 : Nat} {q : Nat → Nat} (F : kj_Fx p s m args meth c cX8_isSide 11 wsX8_isSide RX8 (some .boolean) D (km_T cA) A) {x1 : Int32} {x2 : Int32} {x3 : Int32} {x5 : Int32} {t0 : Int32} {z : km_S} {o : (Int32 × km_S)} (h : fm_isSide_17 x1 x2 x3 x5 t0 z = some o) : kj_J p l e rm_X8_isSide s m args below meth c 0 0 (MQ below (kj_Qi D (km_T cA) A (km_w cA h0 q) o) args s 0 0 A) 11 D A ((km_w cA h0 q) z) 17 [(0, .ref h0), (1, .int x1), (2, .int x2), (3, .int x3), (5, .int x5)] [.int t0] := by
  unfold fm_isSide_17 at h
  refine kj_istore F dX8_isSide_17 (lv' := [(6, .int t0), (0, .ref h0), (1, .int x1), (2, .int x2), (3, .int x3), (5, .int x5)]) (by decide) rfl ?_
  refine kj_aload_n F dX8_isSide_19 1 rfl rfl ?_
  refine kj_iload_n F dX8_isSide_20 2 rfl rfl ?_
  refine kj_iload_n F dX8_isSide_21 3 rfl rfl ?_
  refine kj_iload_n F dX8_isSide_22 4 rfl rfl ?_
  refine kj_cVi (As := [.int x1, .int x2, .int x3]) (rest := []) F dX8_isSide_23 h (fun o h1 => cm_heightBy h1) (cwV 3 F.2.2.2.2.1 gX8_isSide_X8_heightBy rfl rfl rfl (by decide +kernel) ⟨Nat.le_of_ble_eq_true rfl, Nat.le_of_ble_eq_true rfl⟩) 0 rfl rfl rfl rfl rfl (Nat.le_of_ble_eq_true rfl) ⟨Nat.zero_le _, Nat.zero_le _⟩ (fun o1 h => ?_)
  refine kj_istore F dX8_isSide_26 (lv' := [(7, .int (o1.1)), (6, .int t0), (0, .ref h0), (1, .int x1), (2, .int x2), (3, .int x3), (5, .int x5)]) (by decide) rfl ?_
  refine kj_iload F dX8_isSide_28 1 rfl ?_
  refine kj_if_eq F dX8_isSide_30 (tgt := 45) (by decide) h (fun hc h => ?_) (fun hc h => ?_)
  · refine kj_aload_n F dX8_isSide_45 2 rfl rfl ?_
    refine kj_iload_n F dX8_isSide_46 3 rfl rfl ?_
    refine kj_iload_n F dX8_isSide_47 4 rfl rfl ?_
    refine kj_iload_n F dX8_isSide_48 5 rfl rfl ?_
    refine kj_iconst F dX8_isSide_49 (v := 1) (by decide) ?_
    refine kj_iadd F dX8_isSide_50 ?_
    refine kj_cVi (As := [.int x1, .int x2, .int (x3 + (1 : Int32))]) (rest := []) F dX8_isSide_51 h (fun o h1 => cm_heightBy h1) (cwV 3 F.2.2.2.2.1 gX8_isSide_X8_heightBy rfl rfl rfl (by decide +kernel) ⟨Nat.le_of_ble_eq_true rfl, Nat.le_of_ble_eq_true rfl⟩) 0 rfl rfl rfl rfl rfl (Nat.le_of_ble_eq_true rfl) ⟨Nat.zero_le _, Nat.zero_le _⟩ (fun o2 h => ?_)
    refine kj_J.sub [4, 5, 6, 0] rfl ?_
    exact jm_isSide_54 F h
  · refine kj_aload_n F dX8_isSide_33 2 rfl rfl ?_
    refine kj_iload_n F dX8_isSide_34 3 rfl rfl ?_
    refine kj_iload_n F dX8_isSide_35 4 rfl rfl ?_
    refine kj_iconst F dX8_isSide_36 (v := 1) (by decide) ?_
    refine kj_iadd F dX8_isSide_37 ?_
    refine kj_iload_n F dX8_isSide_38 5 rfl rfl ?_
    refine kj_cVi (As := [.int x1, .int (x2 + (1 : Int32)), .int x3]) (rest := []) F dX8_isSide_39 h (fun o h1 => cm_heightBy h1) (cwV 3 F.2.2.2.2.1 gX8_isSide_X8_heightBy rfl rfl rfl (by decide +kernel) ⟨Nat.le_of_ble_eq_true rfl, Nat.le_of_ble_eq_true rfl⟩) 0 rfl rfl rfl rfl rfl (Nat.le_of_ble_eq_true rfl) ⟨Nat.zero_le _, Nat.zero_le _⟩ (fun o3 h => ?_)
    refine kj_goto F dX8_isSide_42 (tgt := 54) (by decide) ?_
    refine kj_J.sub [4, 5, 6, 0] rfl ?_
    exact jm_isSide_54 F h
set_option maxRecDepth 20000 in
theorem jm_isSide {p : Program} {l : Launch} {e : Env} {s : State} {m : MethodId} {args : Array Value} {below : List Frame} {meth : Method} {c : Code} {A : Nat → Prop} {D : va_G} {cA : Nat → ClassId} {h0 : Nat} {q : Nat → Nat} (F : kj_Fx p s m args meth c cX8_isSide 11 wsX8_isSide RX8 (some .boolean) D (km_T cA) A) {x1 : Int32} {x2 : Int32} {x3 : Int32} {x4 : Int32} {x5 : Int32} {z : km_S} {o : (Int32 × km_S)} (h : fm_isSide x1 x2 x3 x4 x5 z = some o) : kj_J p l e rm_X8_isSide s m args below meth c 0 0 (MQ below (kj_Qi D (km_T cA) A (km_w cA h0 q) o) args s 0 0 A) 11 D A ((km_w cA h0 q) z) 0 [(0, .ref h0), (1, .int x1), (2, .int x2), (3, .int x3), (4, .int x4), (5, .int x5)] [] := by
  unfold fm_isSide at h
  refine kj_iload F dX8_isSide_0 4 rfl ?_
  refine kj_iconst F dX8_isSide_2 (v := 2) (by decide) ?_
  refine kj_iload_n F dX8_isSide_3 3 rfl rfl ?_
  refine kj_iload_n F dX8_isSide_4 2 rfl rfl ?_
  refine kj_isub F dX8_isSide_5 ?_
  refine kj_imul F dX8_isSide_6 ?_
  refine kj_iconst F dX8_isSide_7 (v := 1) (by decide) ?_
  refine kj_isub F dX8_isSide_8 ?_
  refine kj_icmp_ne F dX8_isSide_9 (tgt := 16) (by decide) h (fun hc h => ?_) (fun hc h => ?_)
  · refine kj_iconst F dX8_isSide_12 (v := 1) (by decide) ?_
    refine kj_goto F dX8_isSide_13 (tgt := 17) (by decide) ?_
    refine kj_J.sub [0, 1, 2, 3, 5] rfl ?_
    exact jm_isSide_17 F h
  · refine kj_iconst F dX8_isSide_16 (v := 0) (by decide) ?_
    refine kj_J.sub [0, 1, 2, 3, 5] rfl ?_
    exact jm_isSide_17 F h
theorem cm_isSide {l : Launch} {D : va_G} {cA : Nat → ClassId} {h0 : Nat} {q : Nat → Nat} {x1 : Int32} {x2 : Int32} {x3 : Int32} {x4 : Int32} {x5 : Int32} {z : km_S} {o : (Int32 × km_S)} (h : fm_isSide x1 x2 x3 x4 x5 z = some o) : kj_Mi l yX8_isSide wsX8_isSide rm_X8_isSide D (km_T cA) (km_w cA h0 q) z [.ref h0, .int x1, .int x2, .int x3, .int x4, .int x5] o :=
  fun sz => kj_start (by decide) rfl (Nat.le_of_ble_eq_true rfl) rfl fun p e s m args below meth c hsz F => jm_isSide F h
/-! X8_faceAt -/
abbrev rm_X8_faceAt : Room := { frames := 3, cells := 0, slots := 0, locals := 74 }
theorem in_X8_faceAt : ∀ w ∈ u_ws RX8 TX8 29, w ∈ wsX8_faceAt := by decide +kernel
def fm_faceAt_82 (x1 : Int32) (x2 : Int32) (x3 : Int32) (x4 : Int32) (x5 : Int32) (x6 : Int32) (z : km_S) : Option (Int32 × km_S) :=
  if x2 < 0 then
  some ((0 : Int32), z)
  else
  if x4 = (x6 + (1 : Int32)) then
  (fm_isSide x1 x2 x3 x4 x5 z).bind fun o1 =>
  if (o1.1) = 0 then
  some ((0 : Int32), (o1.2))
  else
  some ((3 : Int32), (o1.2))
  else
  some ((0 : Int32), z)
def fm_faceAt_53 (x1 : Int32) (x2 : Int32) (x3 : Int32) (x4 : Int32) (x5 : Int32) (x6 : Int32) (z : km_S) : Option (Int32 × km_S) :=
  if x3 < 0 then
  fm_faceAt_82 x1 x2 x3 x4 x5 x6 z
  else
  if x4 = (x6 - (1 : Int32)) then
  (fm_isSide x1 x2 x3 x4 x5 z).bind fun o1 =>
  if (o1.1) = 0 then
  fm_faceAt_82 x1 x2 x3 x4 x5 x6 (o1.2)
  else
  some ((2 : Int32), (o1.2))
  else
  fm_faceAt_82 x1 x2 x3 x4 x5 x6 z
def fm_faceAt (x1 : Int32) (x2 : Int32) (x3 : Int32) (x4 : Int32) (x5 : Int32) (z : km_S) : Option (Int32 × km_S) :=
  if x2 < 0 then
  fm_faceAt_53 x1 x2 x3 x4 x5 ((2 : Int32) * (x3 - x2)) z
  else
  if x3 < 0 then
  fm_faceAt_53 x1 x2 x3 x4 x5 ((2 : Int32) * (x3 - x2)) z
  else
  if x4 = ((2 : Int32) * (x3 - x2)) then
  (fm_at x2 x3).bind fun o1 =>
  (km_rd z 0 (x1 + o1)).bind fun v2 =>
  if x5 = (((((4 : Int32) * v2) - ((2 : Int32) * x2)) - ((2 : Int32) * x3)) - (2 : Int32)) then
  some ((1 : Int32), z)
  else
  fm_faceAt_53 x1 x2 x3 x4 x5 ((2 : Int32) * (x3 - x2)) z
  else
  fm_faceAt_53 x1 x2 x3 x4 x5 ((2 : Int32) * (x3 - x2)) z
set_option maxRecDepth 20000 in
theorem jm_faceAt_82 {p : Program} {l : Launch} {e : Env} {s : State} {m : MethodId} {args : Array Value} {below : List Frame} {meth : Method} {c : Code} {A : Nat → Prop} {D : va_G} {cA : Nat → ClassId} {h0 : Nat} {q : Nat → Nat} (F : kj_Fx p s m args meth c cX8_faceAt 7 wsX8_faceAt RX8 (some .int) D (km_T cA) A) {x1 : Int32} {x2 : Int32} {x3 : Int32} {x4 : Int32} {x5 : Int32} {x6 : Int32} {z : km_S} {o : (Int32 × km_S)} (h : fm_faceAt_82 x1 x2 x3 x4 x5 x6 z = some o) : kj_J p l e rm_X8_faceAt s m args below meth c 0 0 (MQ below (kj_Qi D (km_T cA) A (km_w cA h0 q) o) args s 0 0 A) 7 D A ((km_w cA h0 q) z) 82 [(0, .ref h0), (1, .int x1), (2, .int x2), (3, .int x3), (4, .int x4), (5, .int x5), (6, .int x6)] [] := by
  unfold fm_faceAt_82 at h
  refine kj_iload_n F dX8_faceAt_82 2 rfl rfl ?_
  refine kj_if_lt F dX8_faceAt_83 (tgt := 113) (by decide) h (fun hc h => ?_) (fun hc h => ?_)
  · refine kj_iconst F dX8_faceAt_113 (v := 0) (by decide) ?_
    exact kj_iret F dX8_faceAt_114 h
  · refine kj_iload F dX8_faceAt_86 4 rfl ?_
    refine kj_iload F dX8_faceAt_88 6 rfl ?_
    refine kj_iconst F dX8_faceAt_90 (v := 1) (by decide) ?_
    refine kj_iadd F dX8_faceAt_91 ?_
    refine kj_icmp_ne F dX8_faceAt_92 (tgt := 113) (by decide) h (fun hc h => ?_) (fun hc h => ?_)
    · refine kj_aload_n F dX8_faceAt_95 0 rfl rfl ?_
      refine kj_iload_n F dX8_faceAt_96 1 rfl rfl ?_
      refine kj_iload_n F dX8_faceAt_97 2 rfl rfl ?_
      refine kj_iload_n F dX8_faceAt_98 3 rfl rfl ?_
      refine kj_iload F dX8_faceAt_99 4 rfl ?_
      refine kj_iload F dX8_faceAt_101 5 rfl ?_
      refine kj_cVi (As := [.int x1, .int x2, .int x3, .int x4, .int x5]) (rest := []) F dX8_faceAt_103 h (fun o h1 => cm_isSide h1) (cwV 5 F.2.2.2.2.1 gX8_faceAt_X8_isSide rfl rfl rfl (by decide +kernel) ⟨Nat.le_of_ble_eq_true rfl, Nat.le_of_ble_eq_true rfl⟩) 0 rfl rfl rfl rfl rfl (Nat.le_of_ble_eq_true rfl) ⟨Nat.zero_le _, Nat.zero_le _⟩ (fun o1 h => ?_)
      refine kj_if_eq F dX8_faceAt_106 (tgt := 113) (by decide) h (fun hc h => ?_) (fun hc h => ?_)
      · refine kj_iconst F dX8_faceAt_113 (v := 0) (by decide) ?_
        exact kj_iret F dX8_faceAt_114 h
      · refine kj_iconst F dX8_faceAt_109 (v := 3) (by decide) ?_
        refine kj_goto F dX8_faceAt_110 (tgt := 114) (by decide) ?_
        exact kj_iret F dX8_faceAt_114 h
    · refine kj_iconst F dX8_faceAt_113 (v := 0) (by decide) ?_
      exact kj_iret F dX8_faceAt_114 h
set_option maxRecDepth 20000 in
theorem jm_faceAt_53 {p : Program} {l : Launch} {e : Env} {s : State} {m : MethodId} {args : Array Value} {below : List Frame} {meth : Method} {c : Code} {A : Nat → Prop} {D : va_G} {cA : Nat → ClassId} {h0 : Nat} {q : Nat → Nat} (F : kj_Fx p s m args meth c cX8_faceAt 7 wsX8_faceAt RX8 (some .int) D (km_T cA) A) {x1 : Int32} {x2 : Int32} {x3 : Int32} {x4 : Int32} {x5 : Int32} {x6 : Int32} {z : km_S} {o : (Int32 × km_S)} (h : fm_faceAt_53 x1 x2 x3 x4 x5 x6 z = some o) : kj_J p l e rm_X8_faceAt s m args below meth c 0 0 (MQ below (kj_Qi D (km_T cA) A (km_w cA h0 q) o) args s 0 0 A) 7 D A ((km_w cA h0 q) z) 53 [(0, .ref h0), (1, .int x1), (2, .int x2), (3, .int x3), (4, .int x4), (5, .int x5), (6, .int x6)] [] := by
  unfold fm_faceAt_53 at h
  refine kj_iload_n F dX8_faceAt_53 3 rfl rfl ?_
  refine kj_if_lt F dX8_faceAt_54 (tgt := 82) (by decide) h (fun hc h => ?_) (fun hc h => ?_)
  · exact jm_faceAt_82 F h
  · refine kj_iload F dX8_faceAt_57 4 rfl ?_
    refine kj_iload F dX8_faceAt_59 6 rfl ?_
    refine kj_iconst F dX8_faceAt_61 (v := 1) (by decide) ?_
    refine kj_isub F dX8_faceAt_62 ?_
    refine kj_icmp_ne F dX8_faceAt_63 (tgt := 82) (by decide) h (fun hc h => ?_) (fun hc h => ?_)
    · refine kj_aload_n F dX8_faceAt_66 0 rfl rfl ?_
      refine kj_iload_n F dX8_faceAt_67 1 rfl rfl ?_
      refine kj_iload_n F dX8_faceAt_68 2 rfl rfl ?_
      refine kj_iload_n F dX8_faceAt_69 3 rfl rfl ?_
      refine kj_iload F dX8_faceAt_70 4 rfl ?_
      refine kj_iload F dX8_faceAt_72 5 rfl ?_
      refine kj_cVi (As := [.int x1, .int x2, .int x3, .int x4, .int x5]) (rest := []) F dX8_faceAt_74 h (fun o h1 => cm_isSide h1) (cwV 5 F.2.2.2.2.1 gX8_faceAt_X8_isSide rfl rfl rfl (by decide +kernel) ⟨Nat.le_of_ble_eq_true rfl, Nat.le_of_ble_eq_true rfl⟩) 0 rfl rfl rfl rfl rfl (Nat.le_of_ble_eq_true rfl) ⟨Nat.zero_le _, Nat.zero_le _⟩ (fun o1 h => ?_)
      refine kj_if_eq F dX8_faceAt_77 (tgt := 82) (by decide) h (fun hc h => ?_) (fun hc h => ?_)
      · exact jm_faceAt_82 F h
      · refine kj_iconst F dX8_faceAt_80 (v := 2) (by decide) ?_
        exact kj_iret F dX8_faceAt_81 h
    · exact jm_faceAt_82 F h
set_option maxRecDepth 20000 in
theorem jm_faceAt {p : Program} {l : Launch} {e : Env} {s : State} {m : MethodId} {args : Array Value} {below : List Frame} {meth : Method} {c : Code} {A : Nat → Prop} {D : va_G} {cA : Nat → ClassId} {h0 : Nat} {q : Nat → Nat} (F : kj_Fx p s m args meth c cX8_faceAt 7 wsX8_faceAt RX8 (some .int) D (km_T cA) A) {x1 : Int32} {x2 : Int32} {x3 : Int32} {x4 : Int32} {x5 : Int32} {z : km_S} {o : (Int32 × km_S)} (h : fm_faceAt x1 x2 x3 x4 x5 z = some o) : kj_J p l e rm_X8_faceAt s m args below meth c 0 0 (MQ below (kj_Qi D (km_T cA) A (km_w cA h0 q) o) args s 0 0 A) 7 D A ((km_w cA h0 q) z) 0 [(0, .ref h0), (1, .int x1), (2, .int x2), (3, .int x3), (4, .int x4), (5, .int x5)] [] := by
  unfold fm_faceAt at h
  refine kj_iconst F dX8_faceAt_0 (v := 2) (by decide) ?_
  refine kj_iload_n F dX8_faceAt_1 3 rfl rfl ?_
  refine kj_iload_n F dX8_faceAt_2 2 rfl rfl ?_
  refine kj_isub F dX8_faceAt_3 ?_
  refine kj_imul F dX8_faceAt_4 ?_
  refine kj_istore F dX8_faceAt_5 (lv' := [(6, .int ((2 : Int32) * (x3 - x2))), (0, .ref h0), (1, .int x1), (2, .int x2), (3, .int x3), (4, .int x4), (5, .int x5)]) (by decide) rfl ?_
  refine kj_iload_n F dX8_faceAt_7 3 rfl rfl ?_
  refine kj_if_lt F dX8_faceAt_8 (tgt := 53) (by decide) h (fun hc h => ?_) (fun hc h => ?_)
  · refine kj_J.sub [1, 2, 3, 4, 5, 6, 0] rfl ?_
    exact jm_faceAt_53 F h
  · refine kj_iload_n F dX8_faceAt_11 4 rfl rfl ?_
    refine kj_if_lt F dX8_faceAt_12 (tgt := 53) (by decide) h (fun hc h => ?_) (fun hc h => ?_)
    · refine kj_J.sub [1, 2, 3, 4, 5, 6, 0] rfl ?_
      exact jm_faceAt_53 F h
    · refine kj_iload F dX8_faceAt_15 5 rfl ?_
      refine kj_iload F dX8_faceAt_17 0 rfl ?_
      refine kj_icmp_ne F dX8_faceAt_19 (tgt := 53) (by decide) h (fun hc h => ?_) (fun hc h => ?_)
      · refine kj_iload F dX8_faceAt_22 6 rfl ?_
        refine kj_iconst F dX8_faceAt_24 (v := 4) (by decide) ?_
        refine kj_aload_n F dX8_faceAt_25 1 rfl rfl ?_
        refine km_get F dX8_faceAt_26 in_X8_faceAt 0 (by decide) (by decide +kernel) rfl rfl ?_
        refine kj_iload_n F dX8_faceAt_29 2 rfl rfl ?_
        refine kj_iload_n F dX8_faceAt_30 3 rfl rfl ?_
        refine kj_iload_n F dX8_faceAt_31 4 rfl rfl ?_
        refine kj_cSip (As := [.int x2, .int x3]) (rest := [.int x1, .ref (q 0), .int (4 : Int32), .int x5]) F dX8_faceAt_32 h (fun o h1 => cm_at (w := (km_w cA h0 q)) h1) (va_cwS 2 F.2.2.2.2.1 gX8_faceAt_X8_at rfl rfl rfl (by decide +kernel) ⟨Nat.le_of_ble_eq_true rfl, Nat.le_of_ble_eq_true rfl⟩) rfl rfl (Nat.le_of_ble_eq_true rfl) ⟨Nat.zero_le _, Nat.zero_le _⟩ (fun o1 h => ?_)
        refine kj_iadd F dX8_faceAt_35 ?_
        refine km_iald F dX8_faceAt_36 0 (by decide) h (fun v2 h => ?_)
        refine kj_imul F dX8_faceAt_37 ?_
        refine kj_iconst F dX8_faceAt_38 (v := 2) (by decide) ?_
        refine kj_iload_n F dX8_faceAt_39 3 rfl rfl ?_
        refine kj_imul F dX8_faceAt_40 ?_
        refine kj_isub F dX8_faceAt_41 ?_
        refine kj_iconst F dX8_faceAt_42 (v := 2) (by decide) ?_
        refine kj_iload_n F dX8_faceAt_43 4 rfl rfl ?_
        refine kj_imul F dX8_faceAt_44 ?_
        refine kj_isub F dX8_faceAt_45 ?_
        refine kj_iconst F dX8_faceAt_46 (v := 2) (by decide) ?_
        refine kj_isub F dX8_faceAt_47 ?_
        refine kj_icmp_ne F dX8_faceAt_48 (tgt := 53) (by decide) h (fun hc h => ?_) (fun hc h => ?_)
        · refine kj_iconst F dX8_faceAt_51 (v := 1) (by decide) ?_
          exact kj_iret F dX8_faceAt_52 h
        · refine kj_J.sub [1, 2, 3, 4, 5, 6, 0] rfl ?_
          exact jm_faceAt_53 F h
      · refine kj_J.sub [1, 2, 3, 4, 5, 6, 0] rfl ?_
        exact jm_faceAt_53 F h
theorem cm_faceAt {l : Launch} {D : va_G} {cA : Nat → ClassId} {h0 : Nat} {q : Nat → Nat} {x1 : Int32} {x2 : Int32} {x3 : Int32} {x4 : Int32} {x5 : Int32} {z : km_S} {o : (Int32 × km_S)} (h : fm_faceAt x1 x2 x3 x4 x5 z = some o) : kj_Mi l yX8_faceAt wsX8_faceAt rm_X8_faceAt D (km_T cA) (km_w cA h0 q) z [.ref h0, .int x1, .int x2, .int x3, .int x4, .int x5] o :=
  fun sz => kj_start (by decide) rfl (Nat.le_of_ble_eq_true rfl) rfl fun p e s m args below meth c hsz F => jm_faceAt F h
/-! X8_face -/
abbrev rm_X8_face : Room := { frames := 4, cells := 0, slots := 0, locals := 100 }
theorem in_X8_face : ∀ w ∈ u_ws RX8 TX8 29, w ∈ wsX8_face := by decide +kernel
def fm_face_76 (x2 : Int32) (x3 : Int32) (x4 : Int32) (x6 : Int32) (x7 : Int32) (t0 : Int32) (z : km_S) : Option ((Int32 × Int32 × Int32 × Int32 × Int32 × Int32 × km_S) ⊕ (Int32 × Int32 × Int32 × Int32 × Int32 × km_S)) :=
  some (.inl (x2, x3, x4, t0, x6, (x7 + 1), z))
def fm_face_40 (x2 : Int32) (x3 : Int32) (x4 : Int32) (x5 : Int32) (x6 : Int32) (x7 : Int32) (z : km_S) : Option ((Int32 × Int32 × Int32 × Int32 × Int32 × Int32 × km_S) ⊕ (Int32 × Int32 × Int32 × Int32 × Int32 × km_S)) :=
  (km_rd z 0 (x4 + (2 : Int32))).bind fun v1 =>
  if v1 ≤ x7 then
  some (.inr (x2, x3, x4, x5, x6, z))
  else
  if x5 ≤ 0 then
  (fm_faceAt x4 x6 x7 x2 x3 z).bind fun o2 =>
  fm_face_76 x2 x3 x4 x6 x7 (o2.1) (o2.2)
  else
  fm_face_76 x2 x3 x4 x6 x7 x5 z
def lm_face_40 (n : Nat) (x2 : Int32) (x3 : Int32) (x4 : Int32) (x5 : Int32) (x6 : Int32) (x7 : Int32) (z : km_S) : Option (Int32 × Int32 × Int32 × Int32 × Int32 × km_S) :=
  kj_it (fun (s : (Int32 × Int32 × Int32 × Int32 × Int32 × Int32 × km_S)) => fm_face_40 (s.1) (s.2.1) (s.2.2.1) (s.2.2.2.1) (s.2.2.2.2.1) (s.2.2.2.2.2.1) (s.2.2.2.2.2.2)) n (x2, x3, x4, x5, x6, x7, z)
def fm_face_23 (x2 : Int32) (x3 : Int32) (x4 : Int32) (x5 : Int32) (x6 : Int32) (z : km_S) : Option ((Int32 × Int32 × Int32 × Int32 × Int32 × km_S) ⊕ (Int32 × km_S)) :=
  (km_rd z 0 (x4 + (1 : Int32))).bind fun v1 =>
  if v1 ≤ x6 then
  some (.inr (x5, z))
  else
  (lm_face_40 5000 x2 x3 x4 x5 x6 (-1 : Int32) z).bind fun r2 =>
  some (.inl ((r2.1), (r2.2.1), (r2.2.2.1), (r2.2.2.2.1), ((r2.2.2.2.2.1) + 1), (r2.2.2.2.2.2)))
def lm_face_23 (n : Nat) (x2 : Int32) (x3 : Int32) (x4 : Int32) (x5 : Int32) (x6 : Int32) (z : km_S) : Option (Int32 × km_S) :=
  kj_it (fun (s : (Int32 × Int32 × Int32 × Int32 × Int32 × km_S)) => fm_face_23 (s.1) (s.2.1) (s.2.2.1) (s.2.2.2.1) (s.2.2.2.2.1) (s.2.2.2.2.2)) n (x2, x3, x4, x5, x6, z)
def fm_face (x1 : Int32) (x2 : Int32) (x3 : Int32) (z : km_S) : Option (Int32 × km_S) :=
  (fm_isHeap x1 z).bind fun o1 =>
  if (o1.1) = 0 then
  some (((-1000001) : Int32), (o1.2))
  else
  (lm_face_23 5000 x2 x3 ((20 : Int32) * x1) (0 : Int32) (-1 : Int32) (o1.2)).bind fun r2 =>
  some ((r2.1), (r2.2))
set_option maxRecDepth 20000 in
theorem jm_face_76 {p : Program} {l : Launch} {e : Env} {s : State} {m : MethodId} {args : Array Value} {below : List Frame} {meth : Method} {c : Code} {A : Nat → Prop} {D : va_G} {cA : Nat → ClassId} {h0 : Nat} {q : Nat → Nat} {Q : State → Prop} (F : kj_Fx p s m args meth c cX8_face 8 wsX8_face RX8 (some .int) D (km_T cA) A) {x2 : Int32} {x3 : Int32} {x4 : Int32} {x6 : Int32} {x7 : Int32} {t0 : Int32} {z : km_S} {o : ((Int32 × Int32 × Int32 × Int32 × Int32 × Int32 × km_S) ⊕ (Int32 × Int32 × Int32 × Int32 × Int32 × km_S))} (h : fm_face_76 x2 x3 x4 x6 x7 t0 z = some o) (kb : ∀ (a0' : Int32) (a1' : Int32) (a2' : Int32) (a3' : Int32) (a4' : Int32) (a5' : Int32) (a6' : km_S), o = .inl (a0', a1', a2', a3', a4', a5', a6') → kj_J p l e rm_X8_face s m args below meth c 0 0 Q 8 D A ((km_w cA h0 q) a6') 40 [(0, .ref h0), (2, .int a0'), (3, .int a1'), (4, .int a2'), (5, .int a3'), (6, .int a4'), (7, .int a5')] []) (ke0 : ∀ (a0' : Int32) (a1' : Int32) (a2' : Int32) (a3' : Int32) (a4' : Int32) (a5' : km_S), o = .inr (a0', a1', a2', a3', a4', a5') → kj_J p l e rm_X8_face s m args below meth c 0 0 Q 8 D A ((km_w cA h0 q) a5') 84 [(0, .ref h0), (2, .int a0'), (3, .int a1'), (4, .int a2'), (5, .int a3'), (6, .int a4')] []) : kj_J p l e rm_X8_face s m args below meth c 0 0 Q 8 D A ((km_w cA h0 q) z) 76 [(0, .ref h0), (2, .int x2), (3, .int x3), (4, .int x4), (6, .int x6), (7, .int x7)] [.int t0] := by
  unfold fm_face_76 at h
  refine kj_istore F dX8_face_76 (lv' := [(5, .int t0), (0, .ref h0), (2, .int x2), (3, .int x3), (4, .int x4), (6, .int x6), (7, .int x7)]) (by decide) rfl ?_
  refine kj_iinc F dX8_face_78 6 rfl (v := 1) (by decide) (by decide) (lv' := [(7, .int (x7 + 1)), (5, .int t0), (0, .ref h0), (2, .int x2), (3, .int x3), (4, .int x4), (6, .int x6)]) rfl ?_
  refine kj_goto F dX8_face_81 (tgt := 40) (by decide) ?_
  refine kj_J.sub [2, 3, 4, 5, 1, 6, 0] rfl ?_
  exact kb x2 x3 x4 t0 x6 (x7 + 1) z (Option.some.inj h).symm
set_option maxRecDepth 20000 in
theorem jm_face_40 {p : Program} {l : Launch} {e : Env} {s : State} {m : MethodId} {args : Array Value} {below : List Frame} {meth : Method} {c : Code} {A : Nat → Prop} {D : va_G} {cA : Nat → ClassId} {h0 : Nat} {q : Nat → Nat} {Q : State → Prop} (F : kj_Fx p s m args meth c cX8_face 8 wsX8_face RX8 (some .int) D (km_T cA) A) {x2 : Int32} {x3 : Int32} {x4 : Int32} {x5 : Int32} {x6 : Int32} {x7 : Int32} {z : km_S} {o : ((Int32 × Int32 × Int32 × Int32 × Int32 × Int32 × km_S) ⊕ (Int32 × Int32 × Int32 × Int32 × Int32 × km_S))} (h : fm_face_40 x2 x3 x4 x5 x6 x7 z = some o) (kb : ∀ (a0' : Int32) (a1' : Int32) (a2' : Int32) (a3' : Int32) (a4' : Int32) (a5' : Int32) (a6' : km_S), o = .inl (a0', a1', a2', a3', a4', a5', a6') → kj_J p l e rm_X8_face s m args below meth c 0 0 Q 8 D A ((km_w cA h0 q) a6') 40 [(0, .ref h0), (2, .int a0'), (3, .int a1'), (4, .int a2'), (5, .int a3'), (6, .int a4'), (7, .int a5')] []) (ke0 : ∀ (a0' : Int32) (a1' : Int32) (a2' : Int32) (a3' : Int32) (a4' : Int32) (a5' : km_S), o = .inr (a0', a1', a2', a3', a4', a5') → kj_J p l e rm_X8_face s m args below meth c 0 0 Q 8 D A ((km_w cA h0 q) a5') 84 [(0, .ref h0), (2, .int a0'), (3, .int a1'), (4, .int a2'), (5, .int a3'), (6, .int a4')] []) : kj_J p l e rm_X8_face s m args below meth c 0 0 Q 8 D A ((km_w cA h0 q) z) 40 [(0, .ref h0), (2, .int x2), (3, .int x3), (4, .int x4), (5, .int x5), (6, .int x6), (7, .int x7)] [] := by
  unfold fm_face_40 at h
  refine kj_iload F dX8_face_40 6 rfl ?_
  refine kj_aload_n F dX8_face_42 0 rfl rfl ?_
  refine km_get F dX8_face_43 in_X8_face 0 (by decide) (by decide +kernel) rfl rfl ?_
  refine kj_iload F dX8_face_46 3 rfl ?_
  refine kj_iconst F dX8_face_48 (v := 2) (by decide) ?_
  refine kj_iadd F dX8_face_49 ?_
  refine km_iald F dX8_face_50 0 (by decide) h (fun v1 h => ?_)
  refine kj_icmp_ge F dX8_face_51 (tgt := 84) (by decide) h (fun hc h => ?_) (fun hc h => ?_)
  · refine kj_J.sub [0, 1, 2, 3, 4, 5] rfl ?_
    exact ke0 x2 x3 x4 x5 x6 z (Option.some.inj h).symm
  · refine kj_iload F dX8_face_54 4 rfl ?_
    refine kj_if_le F dX8_face_56 (tgt := 64) (by decide) h (fun hc h => ?_) (fun hc h => ?_)
    · refine kj_aload_n F dX8_face_64 0 rfl rfl ?_
      refine kj_iload F dX8_face_65 3 rfl ?_
      refine kj_iload F dX8_face_67 5 rfl ?_
      refine kj_iload F dX8_face_69 6 rfl ?_
      refine kj_iload_n F dX8_face_71 1 rfl rfl ?_
      refine kj_iload_n F dX8_face_72 2 rfl rfl ?_
      refine kj_cVi (As := [.int x4, .int x6, .int x7, .int x2, .int x3]) (rest := []) F dX8_face_73 h (fun o h1 => cm_faceAt h1) (cwV 5 F.2.2.2.2.1 gX8_face_X8_faceAt rfl rfl rfl (by decide +kernel) ⟨Nat.le_of_ble_eq_true rfl, Nat.le_of_ble_eq_true rfl⟩) 0 rfl rfl rfl rfl rfl (Nat.le_of_ble_eq_true rfl) ⟨Nat.zero_le _, Nat.zero_le _⟩ (fun o2 h => ?_)
      refine kj_J.sub [0, 1, 2, 3, 5, 6] rfl ?_
      exact jm_face_76 F h kb ke0
    · refine kj_iload F dX8_face_59 4 rfl ?_
      refine kj_goto F dX8_face_61 (tgt := 76) (by decide) ?_
      refine kj_J.sub [0, 1, 2, 3, 5, 6] rfl ?_
      exact jm_face_76 F h kb ke0
theorem jlm_face_40 {p : Program} {l : Launch} {e : Env} {s : State} {m : MethodId} {args : Array Value} {below : List Frame} {meth : Method} {c : Code} {A : Nat → Prop} {D : va_G} {cA : Nat → ClassId} {h0 : Nat} {q : Nat → Nat} {Q : State → Prop} (F : kj_Fx p s m args meth c cX8_face 8 wsX8_face RX8 (some .int) D (km_T cA) A) {n : Nat} {x2 : Int32} {x3 : Int32} {x4 : Int32} {x5 : Int32} {x6 : Int32} {x7 : Int32} {z : km_S} {r : (Int32 × Int32 × Int32 × Int32 × Int32 × km_S)} (h : lm_face_40 n x2 x3 x4 x5 x6 x7 z = some r) (ke : kj_J p l e rm_X8_face s m args below meth c 0 0 Q 8 D A ((km_w cA h0 q) (r.2.2.2.2.2)) 84 [(0, .ref h0), (2, .int (r.1)), (3, .int (r.2.1)), (4, .int (r.2.2.1)), (5, .int (r.2.2.2.1)), (6, .int (r.2.2.2.2.1))] []) : kj_J p l e rm_X8_face s m args below meth c 0 0 Q 8 D A ((km_w cA h0 q) z) 40 [(0, .ref h0), (2, .int x2), (3, .int x3), (4, .int x4), (5, .int x5), (6, .int x6), (7, .int x7)] [] :=
  kj_it_J (Wh := fun (u : (Int32 × Int32 × Int32 × Int32 × Int32 × Int32 × km_S)) => kj_J p l e rm_X8_face s m args below meth c 0 0 Q 8 D A ((km_w cA h0 q) (u.2.2.2.2.2.2)) 40 [(0, .ref h0), (2, .int (u.1)), (3, .int (u.2.1)), (4, .int (u.2.2.1)), (5, .int (u.2.2.2.1)), (6, .int (u.2.2.2.2.1)), (7, .int (u.2.2.2.2.2.1))] []) (We := fun r => kj_J p l e rm_X8_face s m args below meth c 0 0 Q 8 D A ((km_w cA h0 q) (r.2.2.2.2.2)) 84 [(0, .ref h0), (2, .int (r.1)), (3, .int (r.2.1)), (4, .int (r.2.2.1)), (5, .int (r.2.2.2.1)), (6, .int (r.2.2.2.2.1))] []) (fun u o h kb ke => jm_face_40 F h (fun a0' a1' a2' a3' a4' a5' a6' e => kb (a0', a1', a2', a3', a4', a5', a6') e) (fun a0' a1' a2' a3' a4' a5' e => ke (a0', a1', a2', a3', a4', a5') e)) n (x2, x3, x4, x5, x6, x7, z) r h ke
set_option maxRecDepth 20000 in
theorem jm_face_23 {p : Program} {l : Launch} {e : Env} {s : State} {m : MethodId} {args : Array Value} {below : List Frame} {meth : Method} {c : Code} {A : Nat → Prop} {D : va_G} {cA : Nat → ClassId} {h0 : Nat} {q : Nat → Nat} {Q : State → Prop} (F : kj_Fx p s m args meth c cX8_face 8 wsX8_face RX8 (some .int) D (km_T cA) A) {x2 : Int32} {x3 : Int32} {x4 : Int32} {x5 : Int32} {x6 : Int32} {z : km_S} {o : ((Int32 × Int32 × Int32 × Int32 × Int32 × km_S) ⊕ (Int32 × km_S))} (h : fm_face_23 x2 x3 x4 x5 x6 z = some o) (kb : ∀ (a0' : Int32) (a1' : Int32) (a2' : Int32) (a3' : Int32) (a4' : Int32) (a5' : km_S), o = .inl (a0', a1', a2', a3', a4', a5') → kj_J p l e rm_X8_face s m args below meth c 0 0 Q 8 D A ((km_w cA h0 q) a5') 23 [(0, .ref h0), (2, .int a0'), (3, .int a1'), (4, .int a2'), (5, .int a3'), (6, .int a4')] []) (ke0 : ∀ (a0' : Int32) (a1' : km_S), o = .inr (a0', a1') → kj_J p l e rm_X8_face s m args below meth c 0 0 Q 8 D A ((km_w cA h0 q) a1') 90 [(5, .int a0')] []) : kj_J p l e rm_X8_face s m args below meth c 0 0 Q 8 D A ((km_w cA h0 q) z) 23 [(0, .ref h0), (2, .int x2), (3, .int x3), (4, .int x4), (5, .int x5), (6, .int x6)] [] := by
  unfold fm_face_23 at h
  refine kj_iload F dX8_face_23 5 rfl ?_
  refine kj_aload_n F dX8_face_25 0 rfl rfl ?_
  refine km_get F dX8_face_26 in_X8_face 0 (by decide) (by decide +kernel) rfl rfl ?_
  refine kj_iload F dX8_face_29 3 rfl ?_
  refine kj_iconst F dX8_face_31 (v := 1) (by decide) ?_
  refine kj_iadd F dX8_face_32 ?_
  refine km_iald F dX8_face_33 0 (by decide) h (fun v1 h => ?_)
  refine kj_icmp_ge F dX8_face_34 (tgt := 90) (by decide) h (fun hc h => ?_) (fun hc h => ?_)
  · refine kj_J.sub [4] rfl ?_
    exact ke0 x5 z (Option.some.inj h).symm
  · refine kj_iconst F dX8_face_37 (v := (-1)) (by decide) ?_
    refine kj_istore F dX8_face_38 (lv' := [(7, .int (-1 : Int32)), (0, .ref h0), (2, .int x2), (3, .int x3), (4, .int x4), (5, .int x5), (6, .int x6)]) (by decide) rfl ?_
    refine kj_J.sub [1, 2, 3, 4, 5, 6, 0] rfl ?_
    refine kj_bn h (fun r2 h1 h => ?_)
    refine jlm_face_40 F h1 ?_
    refine kj_iinc F dX8_face_84 5 rfl (v := 1) (by decide) (by decide) (lv' := [(6, .int ((r2.2.2.2.2.1) + 1)), (0, .ref h0), (2, .int (r2.1)), (3, .int (r2.2.1)), (4, .int (r2.2.2.1)), (5, .int (r2.2.2.2.1))]) rfl ?_
    refine kj_goto F dX8_face_87 (tgt := 23) (by decide) ?_
    refine kj_J.sub [1, 2, 3, 4, 5, 0] rfl ?_
    exact kb (r2.1) (r2.2.1) (r2.2.2.1) (r2.2.2.2.1) ((r2.2.2.2.2.1) + 1) (r2.2.2.2.2.2) (Option.some.inj h).symm
theorem jlm_face_23 {p : Program} {l : Launch} {e : Env} {s : State} {m : MethodId} {args : Array Value} {below : List Frame} {meth : Method} {c : Code} {A : Nat → Prop} {D : va_G} {cA : Nat → ClassId} {h0 : Nat} {q : Nat → Nat} {Q : State → Prop} (F : kj_Fx p s m args meth c cX8_face 8 wsX8_face RX8 (some .int) D (km_T cA) A) {n : Nat} {x2 : Int32} {x3 : Int32} {x4 : Int32} {x5 : Int32} {x6 : Int32} {z : km_S} {r : (Int32 × km_S)} (h : lm_face_23 n x2 x3 x4 x5 x6 z = some r) (ke : kj_J p l e rm_X8_face s m args below meth c 0 0 Q 8 D A ((km_w cA h0 q) (r.2)) 90 [(5, .int (r.1))] []) : kj_J p l e rm_X8_face s m args below meth c 0 0 Q 8 D A ((km_w cA h0 q) z) 23 [(0, .ref h0), (2, .int x2), (3, .int x3), (4, .int x4), (5, .int x5), (6, .int x6)] [] :=
  kj_it_J (Wh := fun (u : (Int32 × Int32 × Int32 × Int32 × Int32 × km_S)) => kj_J p l e rm_X8_face s m args below meth c 0 0 Q 8 D A ((km_w cA h0 q) (u.2.2.2.2.2)) 23 [(0, .ref h0), (2, .int (u.1)), (3, .int (u.2.1)), (4, .int (u.2.2.1)), (5, .int (u.2.2.2.1)), (6, .int (u.2.2.2.2.1))] []) (We := fun r => kj_J p l e rm_X8_face s m args below meth c 0 0 Q 8 D A ((km_w cA h0 q) (r.2)) 90 [(5, .int (r.1))] []) (fun u o h kb ke => jm_face_23 F h (fun a0' a1' a2' a3' a4' a5' e => kb (a0', a1', a2', a3', a4', a5') e) (fun a0' a1' e => ke (a0', a1') e)) n (x2, x3, x4, x5, x6, z) r h ke
set_option maxRecDepth 20000 in
theorem jm_face {p : Program} {l : Launch} {e : Env} {s : State} {m : MethodId} {args : Array Value} {below : List Frame} {meth : Method} {c : Code} {A : Nat → Prop} {D : va_G} {cA : Nat → ClassId} {h0 : Nat} {q : Nat → Nat} (F : kj_Fx p s m args meth c cX8_face 8 wsX8_face RX8 (some .int) D (km_T cA) A) {x1 : Int32} {x2 : Int32} {x3 : Int32} {z : km_S} {o : (Int32 × km_S)} (h : fm_face x1 x2 x3 z = some o) : kj_J p l e rm_X8_face s m args below meth c 0 0 (MQ below (kj_Qi D (km_T cA) A (km_w cA h0 q) o) args s 0 0 A) 8 D A ((km_w cA h0 q) z) 0 [(0, .ref h0), (1, .int x1), (2, .int x2), (3, .int x3)] [] := by
  unfold fm_face at h
  refine kj_aload_n F dX8_face_0 0 rfl rfl ?_
  refine kj_iload_n F dX8_face_1 1 rfl rfl ?_
  refine kj_cVi (As := [.int x1]) (rest := []) F dX8_face_2 h (fun o h1 => cm_isHeap h1) (cwV 1 F.2.2.2.2.1 gX8_face_X8_isHeap rfl rfl rfl (by decide +kernel) ⟨Nat.le_of_ble_eq_true rfl, Nat.le_of_ble_eq_true rfl⟩) 0 rfl rfl rfl rfl rfl (Nat.le_of_ble_eq_true rfl) ⟨Nat.zero_le _, Nat.zero_le _⟩ (fun o1 h => ?_)
  refine kj_if_ne F dX8_face_5 (tgt := 11) (by decide) h (fun hc h => ?_) (fun hc h => ?_)
  · refine kj_ldc F dX8_face_8 (v := (-1000001)) (by decide +kernel) ?_
    exact kj_iret F dX8_face_10 h
  · refine kj_bipush F dX8_face_11 (v := 20) (by decide) ?_
    refine kj_iload_n F dX8_face_13 1 rfl rfl ?_
    refine kj_imul F dX8_face_14 ?_
    refine kj_istore F dX8_face_15 (lv' := [(4, .int ((20 : Int32) * x1)), (0, .ref h0), (1, .int x1), (2, .int x2), (3, .int x3)]) (by decide) rfl ?_
    refine kj_iconst F dX8_face_17 (v := 0) (by decide) ?_
    refine kj_istore F dX8_face_18 (lv' := [(5, .int (0 : Int32)), (4, .int ((20 : Int32) * x1)), (0, .ref h0), (1, .int x1), (2, .int x2), (3, .int x3)]) (by decide) rfl ?_
    refine kj_iconst F dX8_face_20 (v := (-1)) (by decide) ?_
    refine kj_istore F dX8_face_21 (lv' := [(6, .int (-1 : Int32)), (5, .int (0 : Int32)), (4, .int ((20 : Int32) * x1)), (0, .ref h0), (1, .int x1), (2, .int x2), (3, .int x3)]) (by decide) rfl ?_
    refine kj_J.sub [3, 5, 6, 2, 1, 0] rfl ?_
    refine kj_bn h (fun r2 h1 h => ?_)
    refine jlm_face_23 F h1 ?_
    refine kj_iload F dX8_face_90 0 rfl ?_
    exact kj_iret F dX8_face_92 h
theorem cm_face {l : Launch} {D : va_G} {cA : Nat → ClassId} {h0 : Nat} {q : Nat → Nat} {x1 : Int32} {x2 : Int32} {x3 : Int32} {z : km_S} {o : (Int32 × km_S)} (h : fm_face x1 x2 x3 z = some o) : kj_Mi l yX8_face wsX8_face rm_X8_face D (km_T cA) (km_w cA h0 q) z [.ref h0, .int x1, .int x2, .int x3] o :=
  fun sz => kj_start (by decide) rfl (Nat.le_of_ble_eq_true rfl) rfl fun p e s m args below meth c hsz F => jm_face F h
/-! X8_cubeAt -/
abbrev rm_X8_cubeAt : Room := { frames := 0, cells := 0, slots := 0, locals := 0 }
theorem in_X8_cubeAt : ∀ w ∈ u_ws RX8 TX8 29, w ∈ wsX8_cubeAt := by decide +kernel
def fm_cubeAt_3 (x1 : Int32) (x2 : Int32) (x3 : Int32) (x4 : Int32) (x5 : Int32) (z : km_S) : Option ((Int32 × Int32 × Int32 × Int32 × Int32 × km_S) ⊕ ((Int32 × km_S) ⊕ km_S)) :=
  if x1 ≤ x5 then
  some (.inr (.inr z))
  else
  (km_rd z 10 x5).bind fun v1 =>
  if v1 = ((((100 : Int32) * x2) + ((10 : Int32) * x3)) + x4) then
  some (.inr (.inl (x5, z)))
  else
  some (.inl (x1, x2, x3, x4, (x5 + 1), z))
def lm_cubeAt_3 (n : Nat) (x1 : Int32) (x2 : Int32) (x3 : Int32) (x4 : Int32) (x5 : Int32) (z : km_S) : Option ((Int32 × km_S) ⊕ km_S) :=
  kj_it (fun (s : (Int32 × Int32 × Int32 × Int32 × Int32 × km_S)) => fm_cubeAt_3 (s.1) (s.2.1) (s.2.2.1) (s.2.2.2.1) (s.2.2.2.2.1) (s.2.2.2.2.2)) n (x1, x2, x3, x4, x5, z)
def fm_cubeAt (x1 : Int32) (x2 : Int32) (x3 : Int32) (x4 : Int32) (z : km_S) : Option (Int32 × km_S) :=
  (lm_cubeAt_3 5000 x1 x2 x3 x4 (0 : Int32) z).bind fun r1 => kj_se r1 (fun a2 => some (((1 : Int32) <<< ((a2.1) &&& 31)), (a2.2))) (fun b3 => some ((0 : Int32), (b3)))
set_option maxRecDepth 20000 in
theorem jm_cubeAt_3 {p : Program} {l : Launch} {e : Env} {s : State} {m : MethodId} {args : Array Value} {below : List Frame} {meth : Method} {c : Code} {A : Nat → Prop} {D : va_G} {cA : Nat → ClassId} {h0 : Nat} {q : Nat → Nat} {Q : State → Prop} (F : kj_Fx p s m args meth c cX8_cubeAt 6 wsX8_cubeAt RX8 (some .int) D (km_T cA) A) {x1 : Int32} {x2 : Int32} {x3 : Int32} {x4 : Int32} {x5 : Int32} {z : km_S} {o : ((Int32 × Int32 × Int32 × Int32 × Int32 × km_S) ⊕ ((Int32 × km_S) ⊕ km_S))} (h : fm_cubeAt_3 x1 x2 x3 x4 x5 z = some o) (kb : ∀ (a0' : Int32) (a1' : Int32) (a2' : Int32) (a3' : Int32) (a4' : Int32) (a5' : km_S), o = .inl (a0', a1', a2', a3', a4', a5') → kj_J p l e rm_X8_cubeAt s m args below meth c 0 0 Q 6 D A ((km_w cA h0 q) a5') 3 [(0, .ref h0), (1, .int a0'), (2, .int a1'), (3, .int a2'), (4, .int a3'), (5, .int a4')] []) (ke0 : ∀ (a0' : Int32) (a1' : km_S), o = .inr (.inl (a0', a1')) → kj_J p l e rm_X8_cubeAt s m args below meth c 0 0 Q 6 D A ((km_w cA h0 q) a1') 31 [(5, .int a0')] []) (ke1 : ∀ (a0' : km_S), o = .inr (.inr a0') → kj_J p l e rm_X8_cubeAt s m args below meth c 0 0 Q 6 D A ((km_w cA h0 q) a0') 42 [] []) : kj_J p l e rm_X8_cubeAt s m args below meth c 0 0 Q 6 D A ((km_w cA h0 q) z) 3 [(0, .ref h0), (1, .int x1), (2, .int x2), (3, .int x3), (4, .int x4), (5, .int x5)] [] := by
  unfold fm_cubeAt_3 at h
  refine kj_iload F dX8_cubeAt_3 5 rfl ?_
  refine kj_iload_n F dX8_cubeAt_5 1 rfl rfl ?_
  refine kj_icmp_ge F dX8_cubeAt_6 (tgt := 42) (by decide) h (fun hc h => ?_) (fun hc h => ?_)
  · refine kj_J.sub [] rfl ?_
    exact ke1 z (Option.some.inj h).symm
  · refine kj_aload_n F dX8_cubeAt_9 0 rfl rfl ?_
    refine km_get F dX8_cubeAt_10 in_X8_cubeAt 19 (by decide) (by decide +kernel) rfl rfl ?_
    refine kj_iload F dX8_cubeAt_13 5 rfl ?_
    refine km_iald F dX8_cubeAt_15 10 (by decide) h (fun v1 h => ?_)
    refine kj_bipush F dX8_cubeAt_16 (v := 100) (by decide) ?_
    refine kj_iload_n F dX8_cubeAt_18 2 rfl rfl ?_
    refine kj_imul F dX8_cubeAt_19 ?_
    refine kj_bipush F dX8_cubeAt_20 (v := 10) (by decide) ?_
    refine kj_iload_n F dX8_cubeAt_22 3 rfl rfl ?_
    refine kj_imul F dX8_cubeAt_23 ?_
    refine kj_iadd F dX8_cubeAt_24 ?_
    refine kj_iload F dX8_cubeAt_25 4 rfl ?_
    refine kj_iadd F dX8_cubeAt_27 ?_
    refine kj_icmp_ne F dX8_cubeAt_28 (tgt := 36) (by decide) h (fun hc h => ?_) (fun hc h => ?_)
    · refine kj_J.sub [5] rfl ?_
      exact ke0 x5 z (Option.some.inj h).symm
    · refine kj_iinc F dX8_cubeAt_36 5 rfl (v := 1) (by decide) (by decide) (lv' := [(5, .int (x5 + 1)), (0, .ref h0), (1, .int x1), (2, .int x2), (3, .int x3), (4, .int x4)]) rfl ?_
      refine kj_goto F dX8_cubeAt_39 (tgt := 3) (by decide) ?_
      refine kj_J.sub [1, 2, 3, 4, 5, 0] rfl ?_
      exact kb x1 x2 x3 x4 (x5 + 1) z (Option.some.inj h).symm
theorem jlm_cubeAt_3 {p : Program} {l : Launch} {e : Env} {s : State} {m : MethodId} {args : Array Value} {below : List Frame} {meth : Method} {c : Code} {A : Nat → Prop} {D : va_G} {cA : Nat → ClassId} {h0 : Nat} {q : Nat → Nat} {Q : State → Prop} (F : kj_Fx p s m args meth c cX8_cubeAt 6 wsX8_cubeAt RX8 (some .int) D (km_T cA) A) {n : Nat} {x1 : Int32} {x2 : Int32} {x3 : Int32} {x4 : Int32} {x5 : Int32} {z : km_S} {r : ((Int32 × km_S) ⊕ km_S)} (h : lm_cubeAt_3 n x1 x2 x3 x4 x5 z = some r) (ke : (∀ a, r = (.inl a) → kj_J p l e rm_X8_cubeAt s m args below meth c 0 0 Q 6 D A ((km_w cA h0 q) (a.2)) 31 [(5, .int (a.1))] []) ∧ (∀ a, r = (.inr a) → kj_J p l e rm_X8_cubeAt s m args below meth c 0 0 Q 6 D A ((km_w cA h0 q) (a)) 42 [] [])) : kj_J p l e rm_X8_cubeAt s m args below meth c 0 0 Q 6 D A ((km_w cA h0 q) z) 3 [(0, .ref h0), (1, .int x1), (2, .int x2), (3, .int x3), (4, .int x4), (5, .int x5)] [] :=
  kj_it_J (Wh := fun (u : (Int32 × Int32 × Int32 × Int32 × Int32 × km_S)) => kj_J p l e rm_X8_cubeAt s m args below meth c 0 0 Q 6 D A ((km_w cA h0 q) (u.2.2.2.2.2)) 3 [(0, .ref h0), (1, .int (u.1)), (2, .int (u.2.1)), (3, .int (u.2.2.1)), (4, .int (u.2.2.2.1)), (5, .int (u.2.2.2.2.1))] []) (We := fun r => (∀ a, r = (.inl a) → kj_J p l e rm_X8_cubeAt s m args below meth c 0 0 Q 6 D A ((km_w cA h0 q) (a.2)) 31 [(5, .int (a.1))] []) ∧ (∀ a, r = (.inr a) → kj_J p l e rm_X8_cubeAt s m args below meth c 0 0 Q 6 D A ((km_w cA h0 q) (a)) 42 [] [])) (fun u o h kb ke => jm_cubeAt_3 F h (fun a0' a1' a2' a3' a4' a5' e => kb (a0', a1', a2', a3', a4', a5') e) (fun a0' a1' e => (ke (.inl (a0', a1')) e).1 (a0', a1') rfl) (fun a0' e => (ke (.inr a0') e).2 a0' rfl)) n (x1, x2, x3, x4, x5, z) r h ke
set_option maxRecDepth 20000 in
theorem jm_cubeAt {p : Program} {l : Launch} {e : Env} {s : State} {m : MethodId} {args : Array Value} {below : List Frame} {meth : Method} {c : Code} {A : Nat → Prop} {D : va_G} {cA : Nat → ClassId} {h0 : Nat} {q : Nat → Nat} (F : kj_Fx p s m args meth c cX8_cubeAt 6 wsX8_cubeAt RX8 (some .int) D (km_T cA) A) {x1 : Int32} {x2 : Int32} {x3 : Int32} {x4 : Int32} {z : km_S} {o : (Int32 × km_S)} (h : fm_cubeAt x1 x2 x3 x4 z = some o) : kj_J p l e rm_X8_cubeAt s m args below meth c 0 0 (MQ below (kj_Qi D (km_T cA) A (km_w cA h0 q) o) args s 0 0 A) 6 D A ((km_w cA h0 q) z) 0 [(0, .ref h0), (1, .int x1), (2, .int x2), (3, .int x3), (4, .int x4)] [] := by
  unfold fm_cubeAt at h
  refine kj_iconst F dX8_cubeAt_0 (v := 0) (by decide) ?_
  refine kj_istore F dX8_cubeAt_1 (lv' := [(5, .int (0 : Int32)), (0, .ref h0), (1, .int x1), (2, .int x2), (3, .int x3), (4, .int x4)]) (by decide) rfl ?_
  refine kj_J.sub [1, 2, 3, 4, 5, 0] rfl ?_
  refine kj_bn h (fun r1 h1 h => ?_)
  refine jlm_cubeAt_3 F h1 ?_
  refine ⟨fun a2 e => ?_, fun b3 e => ?_⟩
  · subst e
    refine kj_seL h (fun h => ?_)
    refine kj_iconst F dX8_cubeAt_31 (v := 1) (by decide) ?_
    refine kj_iload F dX8_cubeAt_32 0 rfl ?_
    refine kj_ishl F dX8_cubeAt_34 ?_
    exact kj_iret F dX8_cubeAt_35 h
  · subst e
    refine kj_seR h (fun h => ?_)
    refine kj_iconst F dX8_cubeAt_42 (v := 0) (by decide) ?_
    exact kj_iret F dX8_cubeAt_43 h
theorem cm_cubeAt {l : Launch} {D : va_G} {cA : Nat → ClassId} {h0 : Nat} {q : Nat → Nat} {x1 : Int32} {x2 : Int32} {x3 : Int32} {x4 : Int32} {z : km_S} {o : (Int32 × km_S)} (h : fm_cubeAt x1 x2 x3 x4 z = some o) : kj_Mi l yX8_cubeAt wsX8_cubeAt rm_X8_cubeAt D (km_T cA) (km_w cA h0 q) z [.ref h0, .int x1, .int x2, .int x3, .int x4] o :=
  fun sz => kj_start (by decide) rfl (Nat.le_of_ble_eq_true rfl) rfl fun p e s m args below meth c hsz F => jm_cubeAt F h
/-! X8_laysCubes -/
abbrev rm_X8_laysCubes : Room := { frames := 1, cells := 0, slots := 0, locals := 25 }
theorem in_X8_laysCubes : ∀ w ∈ u_ws RX8 TX8 29, w ∈ wsX8_laysCubes := by decide +kernel
def fm_laysCubes_35 (x1 : Int32) (x2 : Int32) (x3 : Int32) (x4 : Int32) (x5 : Int32) (z : km_S) : Option ((Int32 × Int32 × Int32 × Int32 × Int32 × km_S) ⊕ (Int32 × Int32 × Int32 × Int32 × km_S)) :=
  (fm_at x3 x4).bind fun o1 =>
  (km_rd z 0 (x1 + o1)).bind fun v2 =>
  if v2 ≤ x5 then
  some (.inr (x1, x2, x3, x4, z))
  else
  (km_wr z 10 x2 ((((100 : Int32) * x3) + ((10 : Int32) * x4)) + x5)).bind fun z3 =>
  (fm_cubeAt x2 (x3 - (1 : Int32)) x4 x5 z3).bind fun o4 =>
  (fm_cubeAt x2 x3 (x4 - (1 : Int32)) x5 (o4.2)).bind fun o5 =>
  (fm_cubeAt x2 x3 x4 (x5 - (1 : Int32)) (o5.2)).bind fun o6 =>
  (km_wr (o6.2) 11 x2 (((o4.1) ||| (o5.1)) ||| (o6.1))).bind fun z7 =>
  some (.inl (x1, (x2 + 1), x3, x4, (x5 + 1), z7))
def lm_laysCubes_35 (n : Nat) (x1 : Int32) (x2 : Int32) (x3 : Int32) (x4 : Int32) (x5 : Int32) (z : km_S) : Option (Int32 × Int32 × Int32 × Int32 × km_S) :=
  kj_it (fun (s : (Int32 × Int32 × Int32 × Int32 × Int32 × km_S)) => fm_laysCubes_35 (s.1) (s.2.1) (s.2.2.1) (s.2.2.2.1) (s.2.2.2.2.1) (s.2.2.2.2.2)) n (x1, x2, x3, x4, x5, z)
def fm_laysCubes_19 (x1 : Int32) (x2 : Int32) (x3 : Int32) (x4 : Int32) (z : km_S) : Option ((Int32 × Int32 × Int32 × Int32 × km_S) ⊕ (Int32 × Int32 × Int32 × km_S)) :=
  (km_rd z 0 (x1 + (2 : Int32))).bind fun v1 =>
  if v1 ≤ x4 then
  some (.inr (x1, x2, x3, z))
  else
  (lm_laysCubes_35 5000 x1 x2 x3 x4 (0 : Int32) z).bind fun r2 =>
  some (.inl ((r2.1), (r2.2.1), (r2.2.2.1), ((r2.2.2.2.1) + 1), (r2.2.2.2.2)))
def lm_laysCubes_19 (n : Nat) (x1 : Int32) (x2 : Int32) (x3 : Int32) (x4 : Int32) (z : km_S) : Option (Int32 × Int32 × Int32 × km_S) :=
  kj_it (fun (s : (Int32 × Int32 × Int32 × Int32 × km_S)) => fm_laysCubes_19 (s.1) (s.2.1) (s.2.2.1) (s.2.2.2.1) (s.2.2.2.2)) n (x1, x2, x3, x4, z)
def fm_laysCubes_4 (x1 : Int32) (x2 : Int32) (x3 : Int32) (z : km_S) : Option ((Int32 × Int32 × Int32 × km_S) ⊕ (Int32 × km_S)) :=
  (km_rd z 0 (x1 + (1 : Int32))).bind fun v1 =>
  if v1 ≤ x3 then
  some (.inr (x2, z))
  else
  (lm_laysCubes_19 5000 x1 x2 x3 (0 : Int32) z).bind fun r2 =>
  some (.inl ((r2.1), (r2.2.1), ((r2.2.2.1) + 1), (r2.2.2.2)))
def lm_laysCubes_4 (n : Nat) (x1 : Int32) (x2 : Int32) (x3 : Int32) (z : km_S) : Option (Int32 × km_S) :=
  kj_it (fun (s : (Int32 × Int32 × Int32 × km_S)) => fm_laysCubes_4 (s.1) (s.2.1) (s.2.2.1) (s.2.2.2)) n (x1, x2, x3, z)
def fm_laysCubes (x1 : Int32) (z : km_S) : Option (Int32 × km_S) :=
  (lm_laysCubes_4 5000 x1 (0 : Int32) (0 : Int32) z).bind fun r1 =>
  some ((r1.1), (r1.2))
set_option maxRecDepth 20000 in
theorem jm_laysCubes_35 {p : Program} {l : Launch} {e : Env} {s : State} {m : MethodId} {args : Array Value} {below : List Frame} {meth : Method} {c : Code} {A : Nat → Prop} {D : va_G} {cA : Nat → ClassId} {h0 : Nat} {q : Nat → Nat} {Q : State → Prop} (F : kj_Fx p s m args meth c cX8_laysCubes 6 wsX8_laysCubes RX8 (some .int) D (km_T cA) A) {x1 : Int32} {x2 : Int32} {x3 : Int32} {x4 : Int32} {x5 : Int32} {z : km_S} {o : ((Int32 × Int32 × Int32 × Int32 × Int32 × km_S) ⊕ (Int32 × Int32 × Int32 × Int32 × km_S))} (h : fm_laysCubes_35 x1 x2 x3 x4 x5 z = some o) (kb : ∀ (a0' : Int32) (a1' : Int32) (a2' : Int32) (a3' : Int32) (a4' : Int32) (a5' : km_S), o = .inl (a0', a1', a2', a3', a4', a5') → kj_J p l e rm_X8_laysCubes s m args below meth c 0 0 Q 6 D A ((km_w cA h0 q) a5') 35 [(0, .ref h0), (1, .int a0'), (2, .int a1'), (3, .int a2'), (4, .int a3'), (5, .int a4')] []) (ke0 : ∀ (a0' : Int32) (a1' : Int32) (a2' : Int32) (a3' : Int32) (a4' : km_S), o = .inr (a0', a1', a2', a3', a4') → kj_J p l e rm_X8_laysCubes s m args below meth c 0 0 Q 6 D A ((km_w cA h0 q) a4') 125 [(0, .ref h0), (1, .int a0'), (2, .int a1'), (3, .int a2'), (4, .int a3')] []) : kj_J p l e rm_X8_laysCubes s m args below meth c 0 0 Q 6 D A ((km_w cA h0 q) z) 35 [(0, .ref h0), (1, .int x1), (2, .int x2), (3, .int x3), (4, .int x4), (5, .int x5)] [] := by
  unfold fm_laysCubes_35 at h
  refine kj_iload F dX8_laysCubes_35 5 rfl ?_
  refine kj_aload_n F dX8_laysCubes_37 0 rfl rfl ?_
  refine km_get F dX8_laysCubes_38 in_X8_laysCubes 0 (by decide) (by decide +kernel) rfl rfl ?_
  refine kj_iload_n F dX8_laysCubes_41 1 rfl rfl ?_
  refine kj_iload_n F dX8_laysCubes_42 3 rfl rfl ?_
  refine kj_iload F dX8_laysCubes_43 4 rfl ?_
  refine kj_cSip (As := [.int x3, .int x4]) (rest := [.int x1, .ref (q 0), .int x5]) F dX8_laysCubes_45 h (fun o h1 => cm_at (w := (km_w cA h0 q)) h1) (va_cwS 2 F.2.2.2.2.1 gX8_laysCubes_X8_at rfl rfl rfl (by decide +kernel) ⟨Nat.le_of_ble_eq_true rfl, Nat.le_of_ble_eq_true rfl⟩) rfl rfl (Nat.le_of_ble_eq_true rfl) ⟨Nat.zero_le _, Nat.zero_le _⟩ (fun o1 h => ?_)
  refine kj_iadd F dX8_laysCubes_48 ?_
  refine km_iald F dX8_laysCubes_49 0 (by decide) h (fun v2 h => ?_)
  refine kj_icmp_ge F dX8_laysCubes_50 (tgt := 125) (by decide) h (fun hc h => ?_) (fun hc h => ?_)
  · refine kj_J.sub [0, 1, 2, 3, 4] rfl ?_
    exact ke0 x1 x2 x3 x4 z (Option.some.inj h).symm
  · refine kj_aload_n F dX8_laysCubes_53 0 rfl rfl ?_
    refine km_get F dX8_laysCubes_54 in_X8_laysCubes 19 (by decide) (by decide +kernel) rfl rfl ?_
    refine kj_iload_n F dX8_laysCubes_57 2 rfl rfl ?_
    refine kj_bipush F dX8_laysCubes_58 (v := 100) (by decide) ?_
    refine kj_iload_n F dX8_laysCubes_60 3 rfl rfl ?_
    refine kj_imul F dX8_laysCubes_61 ?_
    refine kj_bipush F dX8_laysCubes_62 (v := 10) (by decide) ?_
    refine kj_iload F dX8_laysCubes_64 4 rfl ?_
    refine kj_imul F dX8_laysCubes_66 ?_
    refine kj_iadd F dX8_laysCubes_67 ?_
    refine kj_iload F dX8_laysCubes_68 5 rfl ?_
    refine kj_iadd F dX8_laysCubes_70 ?_
    refine km_iast F dX8_laysCubes_71 10 (by decide) h (fun z3 h => ?_)
    refine kj_aload_n F dX8_laysCubes_72 0 rfl rfl ?_
    refine km_get F dX8_laysCubes_73 in_X8_laysCubes 20 (by decide) (by decide +kernel) rfl rfl ?_
    refine kj_iload_n F dX8_laysCubes_76 2 rfl rfl ?_
    refine kj_aload_n F dX8_laysCubes_77 0 rfl rfl ?_
    refine kj_iload_n F dX8_laysCubes_78 2 rfl rfl ?_
    refine kj_iload_n F dX8_laysCubes_79 3 rfl rfl ?_
    refine kj_iconst F dX8_laysCubes_80 (v := 1) (by decide) ?_
    refine kj_isub F dX8_laysCubes_81 ?_
    refine kj_iload F dX8_laysCubes_82 4 rfl ?_
    refine kj_iload F dX8_laysCubes_84 5 rfl ?_
    refine kj_cVi (As := [.int x2, .int (x3 - (1 : Int32)), .int x4, .int x5]) (rest := [.int x2, .ref (q 11)]) F dX8_laysCubes_86 h (fun o h1 => cm_cubeAt h1) (cwV 4 F.2.2.2.2.1 gX8_laysCubes_X8_cubeAt rfl rfl rfl (by decide +kernel) ⟨Nat.le_of_ble_eq_true rfl, Nat.le_of_ble_eq_true rfl⟩) 0 rfl rfl rfl rfl rfl (Nat.le_of_ble_eq_true rfl) ⟨Nat.zero_le _, Nat.zero_le _⟩ (fun o4 h => ?_)
    refine kj_aload_n F dX8_laysCubes_89 0 rfl rfl ?_
    refine kj_iload_n F dX8_laysCubes_90 2 rfl rfl ?_
    refine kj_iload_n F dX8_laysCubes_91 3 rfl rfl ?_
    refine kj_iload F dX8_laysCubes_92 4 rfl ?_
    refine kj_iconst F dX8_laysCubes_94 (v := 1) (by decide) ?_
    refine kj_isub F dX8_laysCubes_95 ?_
    refine kj_iload F dX8_laysCubes_96 5 rfl ?_
    refine kj_cVi (As := [.int x2, .int x3, .int (x4 - (1 : Int32)), .int x5]) (rest := [.int (o4.1), .int x2, .ref (q 11)]) F dX8_laysCubes_98 h (fun o h1 => cm_cubeAt h1) (cwV 4 F.2.2.2.2.1 gX8_laysCubes_X8_cubeAt rfl rfl rfl (by decide +kernel) ⟨Nat.le_of_ble_eq_true rfl, Nat.le_of_ble_eq_true rfl⟩) 0 rfl rfl rfl rfl rfl (Nat.le_of_ble_eq_true rfl) ⟨Nat.zero_le _, Nat.zero_le _⟩ (fun o5 h => ?_)
    refine kj_ior F dX8_laysCubes_101 ?_
    refine kj_aload_n F dX8_laysCubes_102 0 rfl rfl ?_
    refine kj_iload_n F dX8_laysCubes_103 2 rfl rfl ?_
    refine kj_iload_n F dX8_laysCubes_104 3 rfl rfl ?_
    refine kj_iload F dX8_laysCubes_105 4 rfl ?_
    refine kj_iload F dX8_laysCubes_107 5 rfl ?_
    refine kj_iconst F dX8_laysCubes_109 (v := 1) (by decide) ?_
    refine kj_isub F dX8_laysCubes_110 ?_
    refine kj_cVi (As := [.int x2, .int x3, .int x4, .int (x5 - (1 : Int32))]) (rest := [.int ((o4.1) ||| (o5.1)), .int x2, .ref (q 11)]) F dX8_laysCubes_111 h (fun o h1 => cm_cubeAt h1) (cwV 4 F.2.2.2.2.1 gX8_laysCubes_X8_cubeAt rfl rfl rfl (by decide +kernel) ⟨Nat.le_of_ble_eq_true rfl, Nat.le_of_ble_eq_true rfl⟩) 0 rfl rfl rfl rfl rfl (Nat.le_of_ble_eq_true rfl) ⟨Nat.zero_le _, Nat.zero_le _⟩ (fun o6 h => ?_)
    refine kj_ior F dX8_laysCubes_114 ?_
    refine km_iast F dX8_laysCubes_115 11 (by decide) h (fun z7 h => ?_)
    refine kj_iinc F dX8_laysCubes_116 2 rfl (v := 1) (by decide) (by decide) (lv' := [(2, .int (x2 + 1)), (0, .ref h0), (1, .int x1), (3, .int x3), (4, .int x4), (5, .int x5)]) rfl ?_
    refine kj_iinc F dX8_laysCubes_119 5 rfl (v := 1) (by decide) (by decide) (lv' := [(5, .int (x5 + 1)), (2, .int (x2 + 1)), (0, .ref h0), (1, .int x1), (3, .int x3), (4, .int x4)]) rfl ?_
    refine kj_goto F dX8_laysCubes_122 (tgt := 35) (by decide) ?_
    refine kj_J.sub [2, 3, 1, 4, 5, 0] rfl ?_
    exact kb x1 (x2 + 1) x3 x4 (x5 + 1) z7 (Option.some.inj h).symm
theorem jlm_laysCubes_35 {p : Program} {l : Launch} {e : Env} {s : State} {m : MethodId} {args : Array Value} {below : List Frame} {meth : Method} {c : Code} {A : Nat → Prop} {D : va_G} {cA : Nat → ClassId} {h0 : Nat} {q : Nat → Nat} {Q : State → Prop} (F : kj_Fx p s m args meth c cX8_laysCubes 6 wsX8_laysCubes RX8 (some .int) D (km_T cA) A) {n : Nat} {x1 : Int32} {x2 : Int32} {x3 : Int32} {x4 : Int32} {x5 : Int32} {z : km_S} {r : (Int32 × Int32 × Int32 × Int32 × km_S)} (h : lm_laysCubes_35 n x1 x2 x3 x4 x5 z = some r) (ke : kj_J p l e rm_X8_laysCubes s m args below meth c 0 0 Q 6 D A ((km_w cA h0 q) (r.2.2.2.2)) 125 [(0, .ref h0), (1, .int (r.1)), (2, .int (r.2.1)), (3, .int (r.2.2.1)), (4, .int (r.2.2.2.1))] []) : kj_J p l e rm_X8_laysCubes s m args below meth c 0 0 Q 6 D A ((km_w cA h0 q) z) 35 [(0, .ref h0), (1, .int x1), (2, .int x2), (3, .int x3), (4, .int x4), (5, .int x5)] [] :=
  kj_it_J (Wh := fun (u : (Int32 × Int32 × Int32 × Int32 × Int32 × km_S)) => kj_J p l e rm_X8_laysCubes s m args below meth c 0 0 Q 6 D A ((km_w cA h0 q) (u.2.2.2.2.2)) 35 [(0, .ref h0), (1, .int (u.1)), (2, .int (u.2.1)), (3, .int (u.2.2.1)), (4, .int (u.2.2.2.1)), (5, .int (u.2.2.2.2.1))] []) (We := fun r => kj_J p l e rm_X8_laysCubes s m args below meth c 0 0 Q 6 D A ((km_w cA h0 q) (r.2.2.2.2)) 125 [(0, .ref h0), (1, .int (r.1)), (2, .int (r.2.1)), (3, .int (r.2.2.1)), (4, .int (r.2.2.2.1))] []) (fun u o h kb ke => jm_laysCubes_35 F h (fun a0' a1' a2' a3' a4' a5' e => kb (a0', a1', a2', a3', a4', a5') e) (fun a0' a1' a2' a3' a4' e => ke (a0', a1', a2', a3', a4') e)) n (x1, x2, x3, x4, x5, z) r h ke
set_option maxRecDepth 20000 in
theorem jm_laysCubes_19 {p : Program} {l : Launch} {e : Env} {s : State} {m : MethodId} {args : Array Value} {below : List Frame} {meth : Method} {c : Code} {A : Nat → Prop} {D : va_G} {cA : Nat → ClassId} {h0 : Nat} {q : Nat → Nat} {Q : State → Prop} (F : kj_Fx p s m args meth c cX8_laysCubes 6 wsX8_laysCubes RX8 (some .int) D (km_T cA) A) {x1 : Int32} {x2 : Int32} {x3 : Int32} {x4 : Int32} {z : km_S} {o : ((Int32 × Int32 × Int32 × Int32 × km_S) ⊕ (Int32 × Int32 × Int32 × km_S))} (h : fm_laysCubes_19 x1 x2 x3 x4 z = some o) (kb : ∀ (a0' : Int32) (a1' : Int32) (a2' : Int32) (a3' : Int32) (a4' : km_S), o = .inl (a0', a1', a2', a3', a4') → kj_J p l e rm_X8_laysCubes s m args below meth c 0 0 Q 6 D A ((km_w cA h0 q) a4') 19 [(0, .ref h0), (1, .int a0'), (2, .int a1'), (3, .int a2'), (4, .int a3')] []) (ke0 : ∀ (a0' : Int32) (a1' : Int32) (a2' : Int32) (a3' : km_S), o = .inr (a0', a1', a2', a3') → kj_J p l e rm_X8_laysCubes s m args below meth c 0 0 Q 6 D A ((km_w cA h0 q) a3') 131 [(0, .ref h0), (1, .int a0'), (2, .int a1'), (3, .int a2')] []) : kj_J p l e rm_X8_laysCubes s m args below meth c 0 0 Q 6 D A ((km_w cA h0 q) z) 19 [(0, .ref h0), (1, .int x1), (2, .int x2), (3, .int x3), (4, .int x4)] [] := by
  unfold fm_laysCubes_19 at h
  refine kj_iload F dX8_laysCubes_19 4 rfl ?_
  refine kj_aload_n F dX8_laysCubes_21 0 rfl rfl ?_
  refine km_get F dX8_laysCubes_22 in_X8_laysCubes 0 (by decide) (by decide +kernel) rfl rfl ?_
  refine kj_iload_n F dX8_laysCubes_25 1 rfl rfl ?_
  refine kj_iconst F dX8_laysCubes_26 (v := 2) (by decide) ?_
  refine kj_iadd F dX8_laysCubes_27 ?_
  refine km_iald F dX8_laysCubes_28 0 (by decide) h (fun v1 h => ?_)
  refine kj_icmp_ge F dX8_laysCubes_29 (tgt := 131) (by decide) h (fun hc h => ?_) (fun hc h => ?_)
  · refine kj_J.sub [0, 1, 2, 3] rfl ?_
    exact ke0 x1 x2 x3 z (Option.some.inj h).symm
  · refine kj_iconst F dX8_laysCubes_32 (v := 0) (by decide) ?_
    refine kj_istore F dX8_laysCubes_33 (lv' := [(5, .int (0 : Int32)), (0, .ref h0), (1, .int x1), (2, .int x2), (3, .int x3), (4, .int x4)]) (by decide) rfl ?_
    refine kj_J.sub [1, 2, 3, 4, 5, 0] rfl ?_
    refine kj_bn h (fun r2 h1 h => ?_)
    refine jlm_laysCubes_35 F h1 ?_
    refine kj_iinc F dX8_laysCubes_125 4 rfl (v := 1) (by decide) (by decide) (lv' := [(4, .int ((r2.2.2.2.1) + 1)), (0, .ref h0), (1, .int (r2.1)), (2, .int (r2.2.1)), (3, .int (r2.2.2.1))]) rfl ?_
    refine kj_goto F dX8_laysCubes_128 (tgt := 19) (by decide) ?_
    refine kj_J.sub [1, 2, 3, 4, 0] rfl ?_
    exact kb (r2.1) (r2.2.1) (r2.2.2.1) ((r2.2.2.2.1) + 1) (r2.2.2.2.2) (Option.some.inj h).symm
theorem jlm_laysCubes_19 {p : Program} {l : Launch} {e : Env} {s : State} {m : MethodId} {args : Array Value} {below : List Frame} {meth : Method} {c : Code} {A : Nat → Prop} {D : va_G} {cA : Nat → ClassId} {h0 : Nat} {q : Nat → Nat} {Q : State → Prop} (F : kj_Fx p s m args meth c cX8_laysCubes 6 wsX8_laysCubes RX8 (some .int) D (km_T cA) A) {n : Nat} {x1 : Int32} {x2 : Int32} {x3 : Int32} {x4 : Int32} {z : km_S} {r : (Int32 × Int32 × Int32 × km_S)} (h : lm_laysCubes_19 n x1 x2 x3 x4 z = some r) (ke : kj_J p l e rm_X8_laysCubes s m args below meth c 0 0 Q 6 D A ((km_w cA h0 q) (r.2.2.2)) 131 [(0, .ref h0), (1, .int (r.1)), (2, .int (r.2.1)), (3, .int (r.2.2.1))] []) : kj_J p l e rm_X8_laysCubes s m args below meth c 0 0 Q 6 D A ((km_w cA h0 q) z) 19 [(0, .ref h0), (1, .int x1), (2, .int x2), (3, .int x3), (4, .int x4)] [] :=
  kj_it_J (Wh := fun (u : (Int32 × Int32 × Int32 × Int32 × km_S)) => kj_J p l e rm_X8_laysCubes s m args below meth c 0 0 Q 6 D A ((km_w cA h0 q) (u.2.2.2.2)) 19 [(0, .ref h0), (1, .int (u.1)), (2, .int (u.2.1)), (3, .int (u.2.2.1)), (4, .int (u.2.2.2.1))] []) (We := fun r => kj_J p l e rm_X8_laysCubes s m args below meth c 0 0 Q 6 D A ((km_w cA h0 q) (r.2.2.2)) 131 [(0, .ref h0), (1, .int (r.1)), (2, .int (r.2.1)), (3, .int (r.2.2.1))] []) (fun u o h kb ke => jm_laysCubes_19 F h (fun a0' a1' a2' a3' a4' e => kb (a0', a1', a2', a3', a4') e) (fun a0' a1' a2' a3' e => ke (a0', a1', a2', a3') e)) n (x1, x2, x3, x4, z) r h ke
set_option maxRecDepth 20000 in
theorem jm_laysCubes_4 {p : Program} {l : Launch} {e : Env} {s : State} {m : MethodId} {args : Array Value} {below : List Frame} {meth : Method} {c : Code} {A : Nat → Prop} {D : va_G} {cA : Nat → ClassId} {h0 : Nat} {q : Nat → Nat} {Q : State → Prop} (F : kj_Fx p s m args meth c cX8_laysCubes 6 wsX8_laysCubes RX8 (some .int) D (km_T cA) A) {x1 : Int32} {x2 : Int32} {x3 : Int32} {z : km_S} {o : ((Int32 × Int32 × Int32 × km_S) ⊕ (Int32 × km_S))} (h : fm_laysCubes_4 x1 x2 x3 z = some o) (kb : ∀ (a0' : Int32) (a1' : Int32) (a2' : Int32) (a3' : km_S), o = .inl (a0', a1', a2', a3') → kj_J p l e rm_X8_laysCubes s m args below meth c 0 0 Q 6 D A ((km_w cA h0 q) a3') 4 [(0, .ref h0), (1, .int a0'), (2, .int a1'), (3, .int a2')] []) (ke0 : ∀ (a0' : Int32) (a1' : km_S), o = .inr (a0', a1') → kj_J p l e rm_X8_laysCubes s m args below meth c 0 0 Q 6 D A ((km_w cA h0 q) a1') 137 [(2, .int a0')] []) : kj_J p l e rm_X8_laysCubes s m args below meth c 0 0 Q 6 D A ((km_w cA h0 q) z) 4 [(0, .ref h0), (1, .int x1), (2, .int x2), (3, .int x3)] [] := by
  unfold fm_laysCubes_4 at h
  refine kj_iload_n F dX8_laysCubes_4 3 rfl rfl ?_
  refine kj_aload_n F dX8_laysCubes_5 0 rfl rfl ?_
  refine km_get F dX8_laysCubes_6 in_X8_laysCubes 0 (by decide) (by decide +kernel) rfl rfl ?_
  refine kj_iload_n F dX8_laysCubes_9 1 rfl rfl ?_
  refine kj_iconst F dX8_laysCubes_10 (v := 1) (by decide) ?_
  refine kj_iadd F dX8_laysCubes_11 ?_
  refine km_iald F dX8_laysCubes_12 0 (by decide) h (fun v1 h => ?_)
  refine kj_icmp_ge F dX8_laysCubes_13 (tgt := 137) (by decide) h (fun hc h => ?_) (fun hc h => ?_)
  · refine kj_J.sub [2] rfl ?_
    exact ke0 x2 z (Option.some.inj h).symm
  · refine kj_iconst F dX8_laysCubes_16 (v := 0) (by decide) ?_
    refine kj_istore F dX8_laysCubes_17 (lv' := [(4, .int (0 : Int32)), (0, .ref h0), (1, .int x1), (2, .int x2), (3, .int x3)]) (by decide) rfl ?_
    refine kj_J.sub [1, 2, 3, 4, 0] rfl ?_
    refine kj_bn h (fun r2 h1 h => ?_)
    refine jlm_laysCubes_19 F h1 ?_
    refine kj_iinc F dX8_laysCubes_131 3 rfl (v := 1) (by decide) (by decide) (lv' := [(3, .int ((r2.2.2.1) + 1)), (0, .ref h0), (1, .int (r2.1)), (2, .int (r2.2.1))]) rfl ?_
    refine kj_goto F dX8_laysCubes_134 (tgt := 4) (by decide) ?_
    refine kj_J.sub [1, 2, 3, 0] rfl ?_
    exact kb (r2.1) (r2.2.1) ((r2.2.2.1) + 1) (r2.2.2.2) (Option.some.inj h).symm
theorem jlm_laysCubes_4 {p : Program} {l : Launch} {e : Env} {s : State} {m : MethodId} {args : Array Value} {below : List Frame} {meth : Method} {c : Code} {A : Nat → Prop} {D : va_G} {cA : Nat → ClassId} {h0 : Nat} {q : Nat → Nat} {Q : State → Prop} (F : kj_Fx p s m args meth c cX8_laysCubes 6 wsX8_laysCubes RX8 (some .int) D (km_T cA) A) {n : Nat} {x1 : Int32} {x2 : Int32} {x3 : Int32} {z : km_S} {r : (Int32 × km_S)} (h : lm_laysCubes_4 n x1 x2 x3 z = some r) (ke : kj_J p l e rm_X8_laysCubes s m args below meth c 0 0 Q 6 D A ((km_w cA h0 q) (r.2)) 137 [(2, .int (r.1))] []) : kj_J p l e rm_X8_laysCubes s m args below meth c 0 0 Q 6 D A ((km_w cA h0 q) z) 4 [(0, .ref h0), (1, .int x1), (2, .int x2), (3, .int x3)] [] :=
  kj_it_J (Wh := fun (u : (Int32 × Int32 × Int32 × km_S)) => kj_J p l e rm_X8_laysCubes s m args below meth c 0 0 Q 6 D A ((km_w cA h0 q) (u.2.2.2)) 4 [(0, .ref h0), (1, .int (u.1)), (2, .int (u.2.1)), (3, .int (u.2.2.1))] []) (We := fun r => kj_J p l e rm_X8_laysCubes s m args below meth c 0 0 Q 6 D A ((km_w cA h0 q) (r.2)) 137 [(2, .int (r.1))] []) (fun u o h kb ke => jm_laysCubes_4 F h (fun a0' a1' a2' a3' e => kb (a0', a1', a2', a3') e) (fun a0' a1' e => ke (a0', a1') e)) n (x1, x2, x3, z) r h ke
set_option maxRecDepth 20000 in
theorem jm_laysCubes {p : Program} {l : Launch} {e : Env} {s : State} {m : MethodId} {args : Array Value} {below : List Frame} {meth : Method} {c : Code} {A : Nat → Prop} {D : va_G} {cA : Nat → ClassId} {h0 : Nat} {q : Nat → Nat} (F : kj_Fx p s m args meth c cX8_laysCubes 6 wsX8_laysCubes RX8 (some .int) D (km_T cA) A) {x1 : Int32} {z : km_S} {o : (Int32 × km_S)} (h : fm_laysCubes x1 z = some o) : kj_J p l e rm_X8_laysCubes s m args below meth c 0 0 (MQ below (kj_Qi D (km_T cA) A (km_w cA h0 q) o) args s 0 0 A) 6 D A ((km_w cA h0 q) z) 0 [(0, .ref h0), (1, .int x1)] [] := by
  unfold fm_laysCubes at h
  refine kj_iconst F dX8_laysCubes_0 (v := 0) (by decide) ?_
  refine kj_istore_n F dX8_laysCubes_1 (lv' := [(2, .int (0 : Int32)), (0, .ref h0), (1, .int x1)]) rfl (by decide) rfl ?_
  refine kj_iconst F dX8_laysCubes_2 (v := 0) (by decide) ?_
  refine kj_istore_n F dX8_laysCubes_3 (lv' := [(3, .int (0 : Int32)), (2, .int (0 : Int32)), (0, .ref h0), (1, .int x1)]) rfl (by decide) rfl ?_
  refine kj_J.sub [2, 3, 1, 0] rfl ?_
  refine kj_bn h (fun r1 h1 h => ?_)
  refine jlm_laysCubes_4 F h1 ?_
  refine kj_iload_n F dX8_laysCubes_137 0 rfl rfl ?_
  exact kj_iret F dX8_laysCubes_138 h
theorem cm_laysCubes {l : Launch} {D : va_G} {cA : Nat → ClassId} {h0 : Nat} {q : Nat → Nat} {x1 : Int32} {z : km_S} {o : (Int32 × km_S)} (h : fm_laysCubes x1 z = some o) : kj_Mi l yX8_laysCubes wsX8_laysCubes rm_X8_laysCubes D (km_T cA) (km_w cA h0 q) z [.ref h0, .int x1] o :=
  fun sz => kj_start (by decide) rfl (Nat.le_of_ble_eq_true rfl) rfl fun p e s m args below meth c hsz F => jm_laysCubes F h
/-! X8_orders -/
abbrev rm_X8_orders : Room := { frames := 3, cells := 0, slots := 0, locals := 63 }
theorem in_X8_orders : ∀ w ∈ u_ws RX8 TX8 29, w ∈ wsX8_orders := by decide +kernel
def fm_orders_132 (x2 : Int32) (x3 : Int32) (x4 : Int32) (t0 : Int32) (t1 : Int32) (t2 : Int32) (z : km_S) : Option ((Int32 × Int32 × Int32 × km_S) ⊕ (Int32 × Int32 × km_S)) :=
  (km_wr z 12 t2 (t1 + t0)).bind fun z1 =>
  some (.inl (x2, x3, (x4 + 1), z1))
def fm_orders_101 (x2 : Int32) (x3 : Int32) (x4 : Int32) (t0 : Int32) (z : km_S) : Option ((Int32 × Int32 × Int32 × km_S) ⊕ (Int32 × Int32 × km_S)) :=
  (km_rd z 12 x3).bind fun v1 =>
  if t0 = 0 then
  fm_orders_132 x2 x3 x4 (0 : Int32) v1 x3 z
  else
  (km_rd z 12 (x3 &&& (((1 : Int32) <<< (x4 &&& 31)) ^^^ (-1 : Int32)))).bind fun v2 =>
  fm_orders_132 x2 x3 x4 v2 v1 x3 z
def fm_orders_100 (x2 : Int32) (x3 : Int32) (x4 : Int32) (z : km_S) : Option ((Int32 × Int32 × Int32 × km_S) ⊕ (Int32 × Int32 × km_S)) :=
  fm_orders_101 x2 x3 x4 (0 : Int32) z
def fm_orders_66 (x2 : Int32) (x3 : Int32) (x4 : Int32) (z : km_S) : Option ((Int32 × Int32 × Int32 × km_S) ⊕ (Int32 × Int32 × km_S)) :=
  if x2 ≤ x4 then
  some (.inr (x2, x3, z))
  else
  if ((x3 >>> (x4 &&& 31)) &&& (1 : Int32)) = (1 : Int32) then
  (km_rd z 11 x4).bind fun v1 =>
  if (v1 &&& (x3 ^^^ (-1 : Int32))) = 0 then
  fm_orders_101 x2 x3 x4 (1 : Int32) z
  else
  fm_orders_100 x2 x3 x4 z
  else
  fm_orders_100 x2 x3 x4 z
def lm_orders_66 (n : Nat) (x2 : Int32) (x3 : Int32) (x4 : Int32) (z : km_S) : Option (Int32 × Int32 × km_S) :=
  kj_it (fun (s : (Int32 × Int32 × Int32 × km_S)) => fm_orders_66 (s.1) (s.2.1) (s.2.2.1) (s.2.2.2)) n (x2, x3, x4, z)
def fm_orders_62 (x2 : Int32) (x3 : Int32) (t0 : Int32) (t1 : Int32) (z : km_S) : Option ((Int32 × Int32 × km_S) ⊕ (Int32 × km_S)) :=
  (km_wr z 12 t1 t0).bind fun z1 =>
  (lm_orders_66 5000 x2 x3 (0 : Int32) z1).bind fun r2 =>
  some (.inl ((r2.1), ((r2.2.1) + 1), (r2.2.2)))
def fm_orders_41 (x2 : Int32) (x3 : Int32) (z : km_S) : Option ((Int32 × Int32 × km_S) ⊕ (Int32 × km_S)) :=
  if ((1 : Int32) <<< (x2 &&& 31)) ≤ x3 then
  some (.inr (x2, z))
  else
  if x3 = 0 then
  fm_orders_62 x2 x3 (1 : Int32) x3 z
  else
  fm_orders_62 x2 x3 (0 : Int32) x3 z
def lm_orders_41 (n : Nat) (x2 : Int32) (x3 : Int32) (z : km_S) : Option (Int32 × km_S) :=
  kj_it (fun (s : (Int32 × Int32 × km_S)) => fm_orders_41 (s.1) (s.2.1) (s.2.2)) n (x2, x3, z)
def fm_orders (x1 : Int32) (z : km_S) : Option (Int32 × km_S) :=
  (fm_isHeap x1 z).bind fun o1 =>
  if (o1.1) = 0 then
  some (((-1000001) : Int32), (o1.2))
  else
  (fm_volume 0 ((20 : Int32) * x1) (o1.2)).bind fun o2 =>
  if (o2.1) ≤ (8 : Int32) then
  (fm_laysCubes ((20 : Int32) * x1) (o2.2)).bind fun o3 =>
  (lm_orders_41 5000 (o3.1) (0 : Int32) (o3.2)).bind fun r4 =>
  (km_rd (r4.2) 12 (((1 : Int32) <<< ((r4.1) &&& 31)) - (1 : Int32))).bind fun v5 =>
  some (v5, (r4.2))
  else
  some (((-1000003) : Int32), (o2.2))
set_option maxRecDepth 20000 in
theorem jm_orders_132 {p : Program} {l : Launch} {e : Env} {s : State} {m : MethodId} {args : Array Value} {below : List Frame} {meth : Method} {c : Code} {A : Nat → Prop} {D : va_G} {cA : Nat → ClassId} {h0 : Nat} {q : Nat → Nat} {Q : State → Prop} (F : kj_Fx p s m args meth c cX8_orders 6 wsX8_orders RX8 (some .int) D (km_T cA) A) {x2 : Int32} {x3 : Int32} {x4 : Int32} {t0 : Int32} {t1 : Int32} {t2 : Int32} {z : km_S} {o : ((Int32 × Int32 × Int32 × km_S) ⊕ (Int32 × Int32 × km_S))} (h : fm_orders_132 x2 x3 x4 t0 t1 t2 z = some o) (kb : ∀ (a0' : Int32) (a1' : Int32) (a2' : Int32) (a3' : km_S), o = .inl (a0', a1', a2', a3') → kj_J p l e rm_X8_orders s m args below meth c 0 0 Q 6 D A ((km_w cA h0 q) a3') 66 [(0, .ref h0), (2, .int a0'), (3, .int a1'), (4, .int a2')] []) (ke0 : ∀ (a0' : Int32) (a1' : Int32) (a2' : km_S), o = .inr (a0', a1', a2') → kj_J p l e rm_X8_orders s m args below meth c 0 0 Q 6 D A ((km_w cA h0 q) a2') 140 [(0, .ref h0), (2, .int a0'), (3, .int a1')] []) : kj_J p l e rm_X8_orders s m args below meth c 0 0 Q 6 D A ((km_w cA h0 q) z) 132 [(0, .ref h0), (2, .int x2), (3, .int x3), (4, .int x4)] [.int t0, .int t1, .int t2, .ref (q 12)] := by
  unfold fm_orders_132 at h
  refine kj_iadd F dX8_orders_132 ?_
  refine km_iast F dX8_orders_133 12 (by decide) h (fun z1 h => ?_)
  refine kj_iinc F dX8_orders_134 3 rfl (v := 1) (by decide) (by decide) (lv' := [(4, .int (x4 + 1)), (0, .ref h0), (2, .int x2), (3, .int x3)]) rfl ?_
  refine kj_goto F dX8_orders_137 (tgt := 66) (by decide) ?_
  refine kj_J.sub [1, 2, 3, 0] rfl ?_
  exact kb x2 x3 (x4 + 1) z1 (Option.some.inj h).symm
set_option maxRecDepth 20000 in
theorem jm_orders_101 {p : Program} {l : Launch} {e : Env} {s : State} {m : MethodId} {args : Array Value} {below : List Frame} {meth : Method} {c : Code} {A : Nat → Prop} {D : va_G} {cA : Nat → ClassId} {h0 : Nat} {q : Nat → Nat} {Q : State → Prop} (F : kj_Fx p s m args meth c cX8_orders 6 wsX8_orders RX8 (some .int) D (km_T cA) A) {x2 : Int32} {x3 : Int32} {x4 : Int32} {t0 : Int32} {z : km_S} {o : ((Int32 × Int32 × Int32 × km_S) ⊕ (Int32 × Int32 × km_S))} (h : fm_orders_101 x2 x3 x4 t0 z = some o) (kb : ∀ (a0' : Int32) (a1' : Int32) (a2' : Int32) (a3' : km_S), o = .inl (a0', a1', a2', a3') → kj_J p l e rm_X8_orders s m args below meth c 0 0 Q 6 D A ((km_w cA h0 q) a3') 66 [(0, .ref h0), (2, .int a0'), (3, .int a1'), (4, .int a2')] []) (ke0 : ∀ (a0' : Int32) (a1' : Int32) (a2' : km_S), o = .inr (a0', a1', a2') → kj_J p l e rm_X8_orders s m args below meth c 0 0 Q 6 D A ((km_w cA h0 q) a2') 140 [(0, .ref h0), (2, .int a0'), (3, .int a1')] []) : kj_J p l e rm_X8_orders s m args below meth c 0 0 Q 6 D A ((km_w cA h0 q) z) 101 [(0, .ref h0), (2, .int x2), (3, .int x3), (4, .int x4)] [.int t0] := by
  unfold fm_orders_101 at h
  refine kj_istore F dX8_orders_101 (lv' := [(5, .int t0), (0, .ref h0), (2, .int x2), (3, .int x3), (4, .int x4)]) (by decide) rfl ?_
  refine kj_aload_n F dX8_orders_103 1 rfl rfl ?_
  refine km_get F dX8_orders_104 in_X8_orders 21 (by decide) (by decide +kernel) rfl rfl ?_
  refine kj_iload_n F dX8_orders_107 3 rfl rfl ?_
  refine kj_dup2_11 F dX8_orders_108 rfl rfl ?_
  refine km_iald F dX8_orders_109 12 (by decide) h (fun v1 h => ?_)
  refine kj_iload F dX8_orders_110 0 rfl ?_
  refine kj_if_eq F dX8_orders_112 (tgt := 131) (by decide) h (fun hc h => ?_) (fun hc h => ?_)
  · refine kj_iconst F dX8_orders_131 (v := 0) (by decide) ?_
    refine kj_J.sub [1, 2, 3, 4] rfl ?_
    exact jm_orders_132 F h kb ke0
  · refine kj_aload_n F dX8_orders_115 1 rfl rfl ?_
    refine km_get F dX8_orders_116 in_X8_orders 21 (by decide) (by decide +kernel) rfl rfl ?_
    refine kj_iload_n F dX8_orders_119 3 rfl rfl ?_
    refine kj_iconst F dX8_orders_120 (v := 1) (by decide) ?_
    refine kj_iload F dX8_orders_121 4 rfl ?_
    refine kj_ishl F dX8_orders_123 ?_
    refine kj_iconst F dX8_orders_124 (v := (-1)) (by decide) ?_
    refine kj_ixor F dX8_orders_125 ?_
    refine kj_iand F dX8_orders_126 ?_
    refine km_iald F dX8_orders_127 12 (by decide) h (fun v2 h => ?_)
    refine kj_goto F dX8_orders_128 (tgt := 132) (by decide) ?_
    refine kj_J.sub [1, 2, 3, 4] rfl ?_
    exact jm_orders_132 F h kb ke0
set_option maxRecDepth 20000 in
theorem jm_orders_100 {p : Program} {l : Launch} {e : Env} {s : State} {m : MethodId} {args : Array Value} {below : List Frame} {meth : Method} {c : Code} {A : Nat → Prop} {D : va_G} {cA : Nat → ClassId} {h0 : Nat} {q : Nat → Nat} {Q : State → Prop} (F : kj_Fx p s m args meth c cX8_orders 6 wsX8_orders RX8 (some .int) D (km_T cA) A) {x2 : Int32} {x3 : Int32} {x4 : Int32} {z : km_S} {o : ((Int32 × Int32 × Int32 × km_S) ⊕ (Int32 × Int32 × km_S))} (h : fm_orders_100 x2 x3 x4 z = some o) (kb : ∀ (a0' : Int32) (a1' : Int32) (a2' : Int32) (a3' : km_S), o = .inl (a0', a1', a2', a3') → kj_J p l e rm_X8_orders s m args below meth c 0 0 Q 6 D A ((km_w cA h0 q) a3') 66 [(0, .ref h0), (2, .int a0'), (3, .int a1'), (4, .int a2')] []) (ke0 : ∀ (a0' : Int32) (a1' : Int32) (a2' : km_S), o = .inr (a0', a1', a2') → kj_J p l e rm_X8_orders s m args below meth c 0 0 Q 6 D A ((km_w cA h0 q) a2') 140 [(0, .ref h0), (2, .int a0'), (3, .int a1')] []) : kj_J p l e rm_X8_orders s m args below meth c 0 0 Q 6 D A ((km_w cA h0 q) z) 100 [(0, .ref h0), (2, .int x2), (3, .int x3), (4, .int x4)] [] := by
  unfold fm_orders_100 at h
  refine kj_iconst F dX8_orders_100 (v := 0) (by decide) ?_
  exact jm_orders_101 F h kb ke0
set_option maxRecDepth 20000 in
theorem jm_orders_66 {p : Program} {l : Launch} {e : Env} {s : State} {m : MethodId} {args : Array Value} {below : List Frame} {meth : Method} {c : Code} {A : Nat → Prop} {D : va_G} {cA : Nat → ClassId} {h0 : Nat} {q : Nat → Nat} {Q : State → Prop} (F : kj_Fx p s m args meth c cX8_orders 6 wsX8_orders RX8 (some .int) D (km_T cA) A) {x2 : Int32} {x3 : Int32} {x4 : Int32} {z : km_S} {o : ((Int32 × Int32 × Int32 × km_S) ⊕ (Int32 × Int32 × km_S))} (h : fm_orders_66 x2 x3 x4 z = some o) (kb : ∀ (a0' : Int32) (a1' : Int32) (a2' : Int32) (a3' : km_S), o = .inl (a0', a1', a2', a3') → kj_J p l e rm_X8_orders s m args below meth c 0 0 Q 6 D A ((km_w cA h0 q) a3') 66 [(0, .ref h0), (2, .int a0'), (3, .int a1'), (4, .int a2')] []) (ke0 : ∀ (a0' : Int32) (a1' : Int32) (a2' : km_S), o = .inr (a0', a1', a2') → kj_J p l e rm_X8_orders s m args below meth c 0 0 Q 6 D A ((km_w cA h0 q) a2') 140 [(0, .ref h0), (2, .int a0'), (3, .int a1')] []) : kj_J p l e rm_X8_orders s m args below meth c 0 0 Q 6 D A ((km_w cA h0 q) z) 66 [(0, .ref h0), (2, .int x2), (3, .int x3), (4, .int x4)] [] := by
  unfold fm_orders_66 at h
  refine kj_iload F dX8_orders_66 3 rfl ?_
  refine kj_iload_n F dX8_orders_68 1 rfl rfl ?_
  refine kj_icmp_ge F dX8_orders_69 (tgt := 140) (by decide) h (fun hc h => ?_) (fun hc h => ?_)
  · refine kj_J.sub [0, 1, 2] rfl ?_
    exact ke0 x2 x3 z (Option.some.inj h).symm
  · refine kj_iload_n F dX8_orders_72 2 rfl rfl ?_
    refine kj_iload F dX8_orders_73 3 rfl ?_
    refine kj_ishr F dX8_orders_75 ?_
    refine kj_iconst F dX8_orders_76 (v := 1) (by decide) ?_
    refine kj_iand F dX8_orders_77 ?_
    refine kj_iconst F dX8_orders_78 (v := 1) (by decide) ?_
    refine kj_icmp_ne F dX8_orders_79 (tgt := 100) (by decide) h (fun hc h => ?_) (fun hc h => ?_)
    · refine kj_aload_n F dX8_orders_82 0 rfl rfl ?_
      refine km_get F dX8_orders_83 in_X8_orders 20 (by decide) (by decide +kernel) rfl rfl ?_
      refine kj_iload F dX8_orders_86 3 rfl ?_
      refine km_iald F dX8_orders_88 11 (by decide) h (fun v1 h => ?_)
      refine kj_iload_n F dX8_orders_89 2 rfl rfl ?_
      refine kj_iconst F dX8_orders_90 (v := (-1)) (by decide) ?_
      refine kj_ixor F dX8_orders_91 ?_
      refine kj_iand F dX8_orders_92 ?_
      refine kj_if_ne F dX8_orders_93 (tgt := 100) (by decide) h (fun hc h => ?_) (fun hc h => ?_)
      · refine kj_iconst F dX8_orders_96 (v := 1) (by decide) ?_
        refine kj_goto F dX8_orders_97 (tgt := 101) (by decide) ?_
        exact jm_orders_101 F h kb ke0
      · exact jm_orders_100 F h kb ke0
    · exact jm_orders_100 F h kb ke0
theorem jlm_orders_66 {p : Program} {l : Launch} {e : Env} {s : State} {m : MethodId} {args : Array Value} {below : List Frame} {meth : Method} {c : Code} {A : Nat → Prop} {D : va_G} {cA : Nat → ClassId} {h0 : Nat} {q : Nat → Nat} {Q : State → Prop} (F : kj_Fx p s m args meth c cX8_orders 6 wsX8_orders RX8 (some .int) D (km_T cA) A) {n : Nat} {x2 : Int32} {x3 : Int32} {x4 : Int32} {z : km_S} {r : (Int32 × Int32 × km_S)} (h : lm_orders_66 n x2 x3 x4 z = some r) (ke : kj_J p l e rm_X8_orders s m args below meth c 0 0 Q 6 D A ((km_w cA h0 q) (r.2.2)) 140 [(0, .ref h0), (2, .int (r.1)), (3, .int (r.2.1))] []) : kj_J p l e rm_X8_orders s m args below meth c 0 0 Q 6 D A ((km_w cA h0 q) z) 66 [(0, .ref h0), (2, .int x2), (3, .int x3), (4, .int x4)] [] :=
  kj_it_J (Wh := fun (u : (Int32 × Int32 × Int32 × km_S)) => kj_J p l e rm_X8_orders s m args below meth c 0 0 Q 6 D A ((km_w cA h0 q) (u.2.2.2)) 66 [(0, .ref h0), (2, .int (u.1)), (3, .int (u.2.1)), (4, .int (u.2.2.1))] []) (We := fun r => kj_J p l e rm_X8_orders s m args below meth c 0 0 Q 6 D A ((km_w cA h0 q) (r.2.2)) 140 [(0, .ref h0), (2, .int (r.1)), (3, .int (r.2.1))] []) (fun u o h kb ke => jm_orders_66 F h (fun a0' a1' a2' a3' e => kb (a0', a1', a2', a3') e) (fun a0' a1' a2' e => ke (a0', a1', a2') e)) n (x2, x3, x4, z) r h ke
set_option maxRecDepth 20000 in
theorem jm_orders_62 {p : Program} {l : Launch} {e : Env} {s : State} {m : MethodId} {args : Array Value} {below : List Frame} {meth : Method} {c : Code} {A : Nat → Prop} {D : va_G} {cA : Nat → ClassId} {h0 : Nat} {q : Nat → Nat} {Q : State → Prop} (F : kj_Fx p s m args meth c cX8_orders 6 wsX8_orders RX8 (some .int) D (km_T cA) A) {x2 : Int32} {x3 : Int32} {t0 : Int32} {t1 : Int32} {z : km_S} {o : ((Int32 × Int32 × km_S) ⊕ (Int32 × km_S))} (h : fm_orders_62 x2 x3 t0 t1 z = some o) (kb : ∀ (a0' : Int32) (a1' : Int32) (a2' : km_S), o = .inl (a0', a1', a2') → kj_J p l e rm_X8_orders s m args below meth c 0 0 Q 6 D A ((km_w cA h0 q) a2') 41 [(0, .ref h0), (2, .int a0'), (3, .int a1')] []) (ke0 : ∀ (a0' : Int32) (a1' : km_S), o = .inr (a0', a1') → kj_J p l e rm_X8_orders s m args below meth c 0 0 Q 6 D A ((km_w cA h0 q) a1') 146 [(0, .ref h0), (2, .int a0')] []) : kj_J p l e rm_X8_orders s m args below meth c 0 0 Q 6 D A ((km_w cA h0 q) z) 62 [(0, .ref h0), (2, .int x2), (3, .int x3)] [.int t0, .int t1, .ref (q 12)] := by
  unfold fm_orders_62 at h
  refine km_iast F dX8_orders_62 12 (by decide) h (fun z1 h => ?_)
  refine kj_iconst F dX8_orders_63 (v := 0) (by decide) ?_
  refine kj_istore F dX8_orders_64 (lv' := [(4, .int (0 : Int32)), (0, .ref h0), (2, .int x2), (3, .int x3)]) (by decide) rfl ?_
  refine kj_J.sub [1, 2, 3, 0] rfl ?_
  refine kj_bn h (fun r2 h1 h => ?_)
  refine jlm_orders_66 F h1 ?_
  refine kj_iinc F dX8_orders_140 2 rfl (v := 1) (by decide) (by decide) (lv' := [(3, .int ((r2.2.1) + 1)), (0, .ref h0), (2, .int (r2.1))]) rfl ?_
  refine kj_goto F dX8_orders_143 (tgt := 41) (by decide) ?_
  refine kj_J.sub [1, 2, 0] rfl ?_
  exact kb (r2.1) ((r2.2.1) + 1) (r2.2.2) (Option.some.inj h).symm
set_option maxRecDepth 20000 in
theorem jm_orders_41 {p : Program} {l : Launch} {e : Env} {s : State} {m : MethodId} {args : Array Value} {below : List Frame} {meth : Method} {c : Code} {A : Nat → Prop} {D : va_G} {cA : Nat → ClassId} {h0 : Nat} {q : Nat → Nat} {Q : State → Prop} (F : kj_Fx p s m args meth c cX8_orders 6 wsX8_orders RX8 (some .int) D (km_T cA) A) {x2 : Int32} {x3 : Int32} {z : km_S} {o : ((Int32 × Int32 × km_S) ⊕ (Int32 × km_S))} (h : fm_orders_41 x2 x3 z = some o) (kb : ∀ (a0' : Int32) (a1' : Int32) (a2' : km_S), o = .inl (a0', a1', a2') → kj_J p l e rm_X8_orders s m args below meth c 0 0 Q 6 D A ((km_w cA h0 q) a2') 41 [(0, .ref h0), (2, .int a0'), (3, .int a1')] []) (ke0 : ∀ (a0' : Int32) (a1' : km_S), o = .inr (a0', a1') → kj_J p l e rm_X8_orders s m args below meth c 0 0 Q 6 D A ((km_w cA h0 q) a1') 146 [(0, .ref h0), (2, .int a0')] []) : kj_J p l e rm_X8_orders s m args below meth c 0 0 Q 6 D A ((km_w cA h0 q) z) 41 [(0, .ref h0), (2, .int x2), (3, .int x3)] [] := by
  unfold fm_orders_41 at h
  refine kj_iload_n F dX8_orders_41 2 rfl rfl ?_
  refine kj_iconst F dX8_orders_42 (v := 1) (by decide) ?_
  refine kj_iload_n F dX8_orders_43 1 rfl rfl ?_
  refine kj_ishl F dX8_orders_44 ?_
  refine kj_icmp_ge F dX8_orders_45 (tgt := 146) (by decide) h (fun hc h => ?_) (fun hc h => ?_)
  · refine kj_J.sub [0, 1] rfl ?_
    exact ke0 x2 z (Option.some.inj h).symm
  · refine kj_aload_n F dX8_orders_48 0 rfl rfl ?_
    refine km_get F dX8_orders_49 in_X8_orders 21 (by decide) (by decide +kernel) rfl rfl ?_
    refine kj_iload_n F dX8_orders_52 2 rfl rfl ?_
    refine kj_iload_n F dX8_orders_53 2 rfl rfl ?_
    refine kj_if_ne F dX8_orders_54 (tgt := 61) (by decide) h (fun hc h => ?_) (fun hc h => ?_)
    · refine kj_iconst F dX8_orders_57 (v := 1) (by decide) ?_
      refine kj_goto F dX8_orders_58 (tgt := 62) (by decide) ?_
      exact jm_orders_62 F h kb ke0
    · refine kj_iconst F dX8_orders_61 (v := 0) (by decide) ?_
      exact jm_orders_62 F h kb ke0
theorem jlm_orders_41 {p : Program} {l : Launch} {e : Env} {s : State} {m : MethodId} {args : Array Value} {below : List Frame} {meth : Method} {c : Code} {A : Nat → Prop} {D : va_G} {cA : Nat → ClassId} {h0 : Nat} {q : Nat → Nat} {Q : State → Prop} (F : kj_Fx p s m args meth c cX8_orders 6 wsX8_orders RX8 (some .int) D (km_T cA) A) {n : Nat} {x2 : Int32} {x3 : Int32} {z : km_S} {r : (Int32 × km_S)} (h : lm_orders_41 n x2 x3 z = some r) (ke : kj_J p l e rm_X8_orders s m args below meth c 0 0 Q 6 D A ((km_w cA h0 q) (r.2)) 146 [(0, .ref h0), (2, .int (r.1))] []) : kj_J p l e rm_X8_orders s m args below meth c 0 0 Q 6 D A ((km_w cA h0 q) z) 41 [(0, .ref h0), (2, .int x2), (3, .int x3)] [] :=
  kj_it_J (Wh := fun (u : (Int32 × Int32 × km_S)) => kj_J p l e rm_X8_orders s m args below meth c 0 0 Q 6 D A ((km_w cA h0 q) (u.2.2)) 41 [(0, .ref h0), (2, .int (u.1)), (3, .int (u.2.1))] []) (We := fun r => kj_J p l e rm_X8_orders s m args below meth c 0 0 Q 6 D A ((km_w cA h0 q) (r.2)) 146 [(0, .ref h0), (2, .int (r.1))] []) (fun u o h kb ke => jm_orders_41 F h (fun a0' a1' a2' e => kb (a0', a1', a2') e) (fun a0' a1' e => ke (a0', a1') e)) n (x2, x3, z) r h ke
set_option maxRecDepth 20000 in
theorem jm_orders {p : Program} {l : Launch} {e : Env} {s : State} {m : MethodId} {args : Array Value} {below : List Frame} {meth : Method} {c : Code} {A : Nat → Prop} {D : va_G} {cA : Nat → ClassId} {h0 : Nat} {q : Nat → Nat} (F : kj_Fx p s m args meth c cX8_orders 6 wsX8_orders RX8 (some .int) D (km_T cA) A) {x1 : Int32} {z : km_S} {o : (Int32 × km_S)} (h : fm_orders x1 z = some o) : kj_J p l e rm_X8_orders s m args below meth c 0 0 (MQ below (kj_Qi D (km_T cA) A (km_w cA h0 q) o) args s 0 0 A) 6 D A ((km_w cA h0 q) z) 0 [(0, .ref h0), (1, .int x1)] [] := by
  unfold fm_orders at h
  refine kj_aload_n F dX8_orders_0 0 rfl rfl ?_
  refine kj_iload_n F dX8_orders_1 1 rfl rfl ?_
  refine kj_cVi (As := [.int x1]) (rest := []) F dX8_orders_2 h (fun o h1 => cm_isHeap h1) (cwV 1 F.2.2.2.2.1 gX8_orders_X8_isHeap rfl rfl rfl (by decide +kernel) ⟨Nat.le_of_ble_eq_true rfl, Nat.le_of_ble_eq_true rfl⟩) 0 rfl rfl rfl rfl rfl (Nat.le_of_ble_eq_true rfl) ⟨Nat.zero_le _, Nat.zero_le _⟩ (fun o1 h => ?_)
  refine kj_if_ne F dX8_orders_5 (tgt := 11) (by decide) h (fun hc h => ?_) (fun hc h => ?_)
  · refine kj_ldc F dX8_orders_8 (v := (-1000001)) (by decide +kernel) ?_
    exact kj_iret F dX8_orders_10 h
  · refine kj_aload_n F dX8_orders_11 0 rfl rfl ?_
    refine km_get F dX8_orders_12 in_X8_orders 0 (by decide) (by decide +kernel) rfl rfl ?_
    refine kj_bipush F dX8_orders_15 (v := 20) (by decide) ?_
    refine kj_iload_n F dX8_orders_17 1 rfl rfl ?_
    refine kj_imul F dX8_orders_18 ?_
    refine kj_cSi (As := [.ref (q 0), .int ((20 : Int32) * x1)]) (rest := []) F dX8_orders_19 h (fun o h1 => cm_volume (by decide) h1) (va_cwS 2 F.2.2.2.2.1 gX8_orders_X8_volume rfl rfl rfl (by decide +kernel) ⟨Nat.le_of_ble_eq_true rfl, Nat.le_of_ble_eq_true rfl⟩) rfl rfl (Nat.le_of_ble_eq_true rfl) ⟨Nat.zero_le _, Nat.zero_le _⟩ (fun o2 h => ?_)
    refine kj_bipush F dX8_orders_22 (v := 8) (by decide) ?_
    refine kj_icmp_le F dX8_orders_24 (tgt := 30) (by decide) h (fun hc h => ?_) (fun hc h => ?_)
    · refine kj_aload_n F dX8_orders_30 0 rfl rfl ?_
      refine kj_bipush F dX8_orders_31 (v := 20) (by decide) ?_
      refine kj_iload_n F dX8_orders_33 1 rfl rfl ?_
      refine kj_imul F dX8_orders_34 ?_
      refine kj_cVi (As := [.int ((20 : Int32) * x1)]) (rest := []) F dX8_orders_35 h (fun o h1 => cm_laysCubes h1) (cwV 1 F.2.2.2.2.1 gX8_orders_X8_laysCubes rfl rfl rfl (by decide +kernel) ⟨Nat.le_of_ble_eq_true rfl, Nat.le_of_ble_eq_true rfl⟩) 0 rfl rfl rfl rfl rfl (Nat.le_of_ble_eq_true rfl) ⟨Nat.zero_le _, Nat.zero_le _⟩ (fun o3 h => ?_)
      refine kj_istore_n F dX8_orders_38 (lv' := [(2, .int (o3.1)), (0, .ref h0), (1, .int x1)]) rfl (by decide) rfl ?_
      refine kj_iconst F dX8_orders_39 (v := 0) (by decide) ?_
      refine kj_istore_n F dX8_orders_40 (lv' := [(3, .int (0 : Int32)), (2, .int (o3.1)), (0, .ref h0), (1, .int x1)]) rfl (by decide) rfl ?_
      refine kj_J.sub [2, 1, 0] rfl ?_
      refine kj_bn h (fun r4 h1 h => ?_)
      refine jlm_orders_41 F h1 ?_
      refine kj_aload_n F dX8_orders_146 0 rfl rfl ?_
      refine km_get F dX8_orders_147 in_X8_orders 21 (by decide) (by decide +kernel) rfl rfl ?_
      refine kj_iconst F dX8_orders_150 (v := 1) (by decide) ?_
      refine kj_iload_n F dX8_orders_151 1 rfl rfl ?_
      refine kj_ishl F dX8_orders_152 ?_
      refine kj_iconst F dX8_orders_153 (v := 1) (by decide) ?_
      refine kj_isub F dX8_orders_154 ?_
      refine km_iald F dX8_orders_155 12 (by decide) h (fun v5 h => ?_)
      exact kj_iret F dX8_orders_156 h
    · refine kj_ldc F dX8_orders_27 (v := (-1000003)) (by decide +kernel) ?_
      exact kj_iret F dX8_orders_29 h
theorem cm_orders {l : Launch} {D : va_G} {cA : Nat → ClassId} {h0 : Nat} {q : Nat → Nat} {x1 : Int32} {z : km_S} {o : (Int32 × km_S)} (h : fm_orders x1 z = some o) : kj_Mi l yX8_orders wsX8_orders rm_X8_orders D (km_T cA) (km_w cA h0 q) z [.ref h0, .int x1] o :=
  fun sz => kj_start (by decide) rfl (Nat.le_of_ble_eq_true rfl) rfl fun p e s m args below meth c hsz F => jm_orders F h
/-! X8_many -/
abbrev rm_X8_many : Room := { frames := 2, cells := 0, slots := 0, locals := 54 }
def fm_many (x1 : Int32) (x2 : Int32) (x3 : Int32) (z : km_S) : Option (Int32 × km_S) :=
  (fm_isBox x1 x2 x3).bind fun o1 =>
  if o1 = 0 then
  some (((-1000001) : Int32), z)
  else
  (fm_lays x1 x2 x3 z).bind fun o2 =>
  some ((o2.1), (o2.2))
set_option maxRecDepth 20000 in
theorem jm_many {p : Program} {l : Launch} {e : Env} {s : State} {m : MethodId} {args : Array Value} {below : List Frame} {meth : Method} {c : Code} {A : Nat → Prop} {D : va_G} {cA : Nat → ClassId} {h0 : Nat} {q : Nat → Nat} (F : kj_Fx p s m args meth c cX8_many 4 wsX8_many RX8 (some .int) D (km_T cA) A) {x1 : Int32} {x2 : Int32} {x3 : Int32} {z : km_S} {o : (Int32 × km_S)} (h : fm_many x1 x2 x3 z = some o) : kj_J p l e rm_X8_many s m args below meth c 0 0 (MQ below (kj_Qi D (km_T cA) A (km_w cA h0 q) o) args s 0 0 A) 4 D A ((km_w cA h0 q) z) 0 [(0, .ref h0), (1, .int x1), (2, .int x2), (3, .int x3)] [] := by
  unfold fm_many at h
  refine kj_iload_n F dX8_many_0 1 rfl rfl ?_
  refine kj_iload_n F dX8_many_1 2 rfl rfl ?_
  refine kj_iload_n F dX8_many_2 3 rfl rfl ?_
  refine kj_cSip (As := [.int x1, .int x2, .int x3]) (rest := []) F dX8_many_3 h (fun o h1 => cm_isBox (w := (km_w cA h0 q)) h1) (va_cwS 3 F.2.2.2.2.1 gX8_many_X8_isBox rfl rfl rfl (by decide +kernel) ⟨Nat.le_of_ble_eq_true rfl, Nat.le_of_ble_eq_true rfl⟩) rfl rfl (Nat.le_of_ble_eq_true rfl) ⟨Nat.zero_le _, Nat.zero_le _⟩ (fun o1 h => ?_)
  refine kj_if_eq F dX8_many_6 (tgt := 19) (by decide) h (fun hc h => ?_) (fun hc h => ?_)
  · refine kj_ldc F dX8_many_19 (v := (-1000001)) (by decide +kernel) ?_
    exact kj_iret F dX8_many_21 h
  · refine kj_aload_n F dX8_many_9 0 rfl rfl ?_
    refine kj_iload_n F dX8_many_10 1 rfl rfl ?_
    refine kj_iload_n F dX8_many_11 2 rfl rfl ?_
    refine kj_iload_n F dX8_many_12 3 rfl rfl ?_
    refine kj_cVi (As := [.int x1, .int x2, .int x3]) (rest := []) F dX8_many_13 h (fun o h1 => cm_lays h1) (cwV 3 F.2.2.2.2.1 gX8_many_X8_lays rfl rfl rfl (by decide +kernel) ⟨Nat.le_of_ble_eq_true rfl, Nat.le_of_ble_eq_true rfl⟩) 0 rfl rfl rfl rfl rfl (Nat.le_of_ble_eq_true rfl) ⟨Nat.zero_le _, Nat.zero_le _⟩ (fun o2 h => ?_)
    refine kj_goto F dX8_many_16 (tgt := 21) (by decide) ?_
    exact kj_iret F dX8_many_21 h
theorem cm_many {l : Launch} {D : va_G} {cA : Nat → ClassId} {h0 : Nat} {q : Nat → Nat} {x1 : Int32} {x2 : Int32} {x3 : Int32} {z : km_S} {o : (Int32 × km_S)} (h : fm_many x1 x2 x3 z = some o) : kj_Mi l yX8_many wsX8_many rm_X8_many D (km_T cA) (km_w cA h0 q) z [.ref h0, .int x1, .int x2, .int x3] o :=
  fun sz => kj_start (by decide) rfl (Nat.le_of_ble_eq_true rfl) rfl fun p e s m args below meth c hsz F => jm_many F h
/-! X8_chosen -/
abbrev rm_X8_chosen : Room := { frames := 0, cells := 0, slots := 0, locals := 0 }
def fm_chosen_18 (x0 : Int32) (x1 : Int32) (x2 : Int64) (x4 : Int32) : Option ((Int32 × Int32 × Int64 × Int32) ⊕ Int64) :=
  if x1 ≤ x4 then
  some (.inr x2)
  else
  if (lg_cmp x2 (0 : Int64)) ≤ 0 then
  some (.inr x2)
  else
  if ((x4 + (1 : Int32))).toInt64 = 0 then none else
  some (.inl (x0, x1, ((x2 * ((x0 - x4)).toInt64) / ((x4 + (1 : Int32))).toInt64), (x4 + 1)))
def lm_chosen_18 (n : Nat) (x0 : Int32) (x1 : Int32) (x2 : Int64) (x4 : Int32) : Option Int64 :=
  kj_it (fun (s : (Int32 × Int32 × Int64 × Int32)) => fm_chosen_18 (s.1) (s.2.1) (s.2.2.1) (s.2.2.2)) n (x0, x1, x2, x4)
def fm_chosen_14 (x0 : Int32) (x1 : Int32) (t0 : Int64) : Option Int64 :=
  (lm_chosen_18 5000 x0 x1 t0 (0 : Int32)).bind fun r1 =>
  some (r1)
def fm_chosen_9 (x0 : Int32) (x1 : Int32) : Option Int64 :=
  fm_chosen_14 x0 x1 (0 : Int64)
def fm_chosen (x0 : Int32) (x1 : Int32) : Option Int64 :=
  if x1 < 0 then
  fm_chosen_9 x0 x1
  else
  if x1 ≤ x0 then
  fm_chosen_14 x0 x1 (1 : Int64)
  else
  fm_chosen_9 x0 x1
set_option maxRecDepth 20000 in
theorem jm_chosen_18 {p : Program} {l : Launch} {e : Env} {s : State} {m : MethodId} {args : Array Value} {below : List Frame} {meth : Method} {c : Code} {A : Nat → Prop} {D : va_G} {tys : List (ClassId × FieldType)} {S : Type} {w : S → va_W} {z : S} {Q : State → Prop} (F : kj_Fx p s m args meth c cX8_chosen 5 wsX8_chosen RX8 (some .long) D tys A) {x0 : Int32} {x1 : Int32} {x2 : Int64} {x4 : Int32} {o : ((Int32 × Int32 × Int64 × Int32) ⊕ Int64)} (h : fm_chosen_18 x0 x1 x2 x4 = some o) (kb : ∀ (a0' : Int32) (a1' : Int32) (a2' : Int64) (a3' : Int32), o = .inl (a0', a1', a2', a3') → kj_J p l e rm_X8_chosen s m args below meth c 0 0 Q 5 D A (w z) 18 [(0, .int a0'), (1, .int a1'), (2, .long a2'), (4, .int a3')] []) (ke0 : ∀ (a0' : Int64), o = .inr a0' → kj_J p l e rm_X8_chosen s m args below meth c 0 0 Q 5 D A (w z) 50 [(2, .long a0')] []) : kj_J p l e rm_X8_chosen s m args below meth c 0 0 Q 5 D A (w z) 18 [(0, .int x0), (1, .int x1), (2, .long x2), (4, .int x4)] [] := by
  unfold fm_chosen_18 at h
  refine kj_iload F dX8_chosen_18 3 rfl ?_
  refine kj_iload_n F dX8_chosen_20 1 rfl rfl ?_
  refine kj_icmp_ge F dX8_chosen_21 (tgt := 50) (by decide) h (fun hc h => ?_) (fun hc h => ?_)
  · refine kj_J.sub [2] rfl ?_
    exact ke0 x2 (Option.some.inj h).symm
  · refine kj_lload_n F dX8_chosen_24 2 rfl rfl ?_
    refine kj_lconst F dX8_chosen_25 (v := 0) (by decide) ?_
    refine kj_lcmp F dX8_chosen_26 ?_
    refine kj_if_le F dX8_chosen_27 (tgt := 50) (by decide) h (fun hc h => ?_) (fun hc h => ?_)
    · refine kj_J.sub [2] rfl ?_
      exact ke0 x2 (Option.some.inj h).symm
    · refine kj_lload_n F dX8_chosen_30 2 rfl rfl ?_
      refine kj_iload_n F dX8_chosen_31 0 rfl rfl ?_
      refine kj_iload F dX8_chosen_32 3 rfl ?_
      refine kj_isub F dX8_chosen_34 ?_
      refine kj_i2l F dX8_chosen_35 ?_
      refine kj_lmul F dX8_chosen_36 ?_
      refine kj_iload F dX8_chosen_37 3 rfl ?_
      refine kj_iconst F dX8_chosen_39 (v := 1) (by decide) ?_
      refine kj_iadd F dX8_chosen_40 ?_
      refine kj_i2l F dX8_chosen_41 ?_
      refine kj_ldiv F dX8_chosen_42 h (fun h => ?_)
      refine kj_lstore_n F dX8_chosen_43 (lv' := [(2, .long ((x2 * ((x0 - x4)).toInt64) / ((x4 + (1 : Int32))).toInt64)), (0, .int x0), (1, .int x1), (4, .int x4)]) rfl (by decide) rfl ?_
      refine kj_iinc F dX8_chosen_44 3 rfl (v := 1) (by decide) (by decide) (lv' := [(4, .int (x4 + 1)), (2, .long ((x2 * ((x0 - x4)).toInt64) / ((x4 + (1 : Int32))).toInt64)), (0, .int x0), (1, .int x1)]) rfl ?_
      refine kj_goto F dX8_chosen_47 (tgt := 18) (by decide) ?_
      refine kj_J.sub [2, 3, 1, 0] rfl ?_
      exact kb x0 x1 ((x2 * ((x0 - x4)).toInt64) / ((x4 + (1 : Int32))).toInt64) (x4 + 1) (Option.some.inj h).symm
theorem jlm_chosen_18 {p : Program} {l : Launch} {e : Env} {s : State} {m : MethodId} {args : Array Value} {below : List Frame} {meth : Method} {c : Code} {A : Nat → Prop} {D : va_G} {tys : List (ClassId × FieldType)} {S : Type} {w : S → va_W} {z : S} {Q : State → Prop} (F : kj_Fx p s m args meth c cX8_chosen 5 wsX8_chosen RX8 (some .long) D tys A) {n : Nat} {x0 : Int32} {x1 : Int32} {x2 : Int64} {x4 : Int32} {r : Int64} (h : lm_chosen_18 n x0 x1 x2 x4 = some r) (ke : kj_J p l e rm_X8_chosen s m args below meth c 0 0 Q 5 D A (w z) 50 [(2, .long (r))] []) : kj_J p l e rm_X8_chosen s m args below meth c 0 0 Q 5 D A (w z) 18 [(0, .int x0), (1, .int x1), (2, .long x2), (4, .int x4)] [] :=
  kj_it_J (Wh := fun (u : (Int32 × Int32 × Int64 × Int32)) => kj_J p l e rm_X8_chosen s m args below meth c 0 0 Q 5 D A (w z) 18 [(0, .int (u.1)), (1, .int (u.2.1)), (2, .long (u.2.2.1)), (4, .int (u.2.2.2))] []) (We := fun r => kj_J p l e rm_X8_chosen s m args below meth c 0 0 Q 5 D A (w z) 50 [(2, .long (r))] []) (fun u o h kb ke => jm_chosen_18 F h (fun a0' a1' a2' a3' e => kb (a0', a1', a2', a3') e) (fun a0' e => ke a0' e)) n (x0, x1, x2, x4) r h ke
set_option maxRecDepth 20000 in
theorem jm_chosen_14 {p : Program} {l : Launch} {e : Env} {s : State} {m : MethodId} {args : Array Value} {below : List Frame} {meth : Method} {c : Code} {A : Nat → Prop} {D : va_G} {tys : List (ClassId × FieldType)} {S : Type} {w : S → va_W} {z : S} (F : kj_Fx p s m args meth c cX8_chosen 5 wsX8_chosen RX8 (some .long) D tys A) {x0 : Int32} {x1 : Int32} {t0 : Int64} {o : Int64} (h : fm_chosen_14 x0 x1 t0 = some o) : kj_J p l e rm_X8_chosen s m args below meth c 0 0 (MQ below (kj_Ql D tys A w (o, z)) args s 0 0 A) 5 D A (w z) 14 [(0, .int x0), (1, .int x1)] [.long t0] := by
  unfold fm_chosen_14 at h
  refine kj_lstore_n F dX8_chosen_14 (lv' := [(2, .long t0), (0, .int x0), (1, .int x1)]) rfl (by decide) rfl ?_
  refine kj_iconst F dX8_chosen_15 (v := 0) (by decide) ?_
  refine kj_istore F dX8_chosen_16 (lv' := [(4, .int (0 : Int32)), (2, .long t0), (0, .int x0), (1, .int x1)]) (by decide) rfl ?_
  refine kj_J.sub [2, 3, 1, 0] rfl ?_
  refine kj_bn h (fun r1 h1 h => ?_)
  refine jlm_chosen_18 F h1 ?_
  refine kj_lload_n F dX8_chosen_50 0 rfl rfl ?_
  exact kj_lret F dX8_chosen_51 (kj_pr h)
set_option maxRecDepth 20000 in
theorem jm_chosen_9 {p : Program} {l : Launch} {e : Env} {s : State} {m : MethodId} {args : Array Value} {below : List Frame} {meth : Method} {c : Code} {A : Nat → Prop} {D : va_G} {tys : List (ClassId × FieldType)} {S : Type} {w : S → va_W} {z : S} (F : kj_Fx p s m args meth c cX8_chosen 5 wsX8_chosen RX8 (some .long) D tys A) {x0 : Int32} {x1 : Int32} {o : Int64} (h : fm_chosen_9 x0 x1 = some o) : kj_J p l e rm_X8_chosen s m args below meth c 0 0 (MQ below (kj_Ql D tys A w (o, z)) args s 0 0 A) 5 D A (w z) 9 [(0, .int x0), (1, .int x1)] [] := by
  unfold fm_chosen_9 at h
  refine kj_lconst F dX8_chosen_9 (v := 0) (by decide) ?_
  refine kj_goto F dX8_chosen_10 (tgt := 14) (by decide) ?_
  exact jm_chosen_14 F h
set_option maxRecDepth 20000 in
theorem jm_chosen {p : Program} {l : Launch} {e : Env} {s : State} {m : MethodId} {args : Array Value} {below : List Frame} {meth : Method} {c : Code} {A : Nat → Prop} {D : va_G} {tys : List (ClassId × FieldType)} {S : Type} {w : S → va_W} {z : S} (F : kj_Fx p s m args meth c cX8_chosen 5 wsX8_chosen RX8 (some .long) D tys A) {x0 : Int32} {x1 : Int32} {o : Int64} (h : fm_chosen x0 x1 = some o) : kj_J p l e rm_X8_chosen s m args below meth c 0 0 (MQ below (kj_Ql D tys A w (o, z)) args s 0 0 A) 5 D A (w z) 0 [(0, .int x0), (1, .int x1)] [] := by
  unfold fm_chosen at h
  refine kj_iload_n F dX8_chosen_0 1 rfl rfl ?_
  refine kj_if_lt F dX8_chosen_1 (tgt := 9) (by decide) h (fun hc h => ?_) (fun hc h => ?_)
  · exact jm_chosen_9 F h
  · refine kj_iload_n F dX8_chosen_4 1 rfl rfl ?_
    refine kj_iload_n F dX8_chosen_5 0 rfl rfl ?_
    refine kj_icmp_le F dX8_chosen_6 (tgt := 13) (by decide) h (fun hc h => ?_) (fun hc h => ?_)
    · refine kj_lconst F dX8_chosen_13 (v := 1) (by decide) ?_
      exact jm_chosen_14 F h
    · exact jm_chosen_9 F h
theorem cm_chosen {l : Launch} {D : va_G} {tys : List (ClassId × FieldType)} {S : Type} {w : S → va_W} {z : S} {x0 : Int32} {x1 : Int32} {o : Int64} (h : fm_chosen x0 x1 = some o) : kj_Ml l yX8_chosen wsX8_chosen rm_X8_chosen D tys w z [.int x0, .int x1] (o, z) :=
  fun sz => kj_start (by decide) rfl (Nat.le_of_ble_eq_true rfl) rfl fun p e s m args below meth c hsz F => jm_chosen F h
