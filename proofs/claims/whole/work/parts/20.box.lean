/-! X0_isSide -/
abbrev rm_X0_isSide : Room := { frames := 0, cells := 0, slots := 0, locals := 0 }
def fx_isSide (x0 : Int32) : Option Int32 :=
  if x0 < (1 : Int32) then
  some (0 : Int32)
  else
  if (4 : Int32) < x0 then
  some (0 : Int32)
  else
  some (1 : Int32)
set_option maxRecDepth 20000 in
theorem jx_isSide {p : Program} {l : Launch} {e : Env} {s : State} {m : MethodId} {args : Array Value} {below : List Frame} {meth : Method} {c : Code} {A : Nat → Prop} {D : va_G} {tys : List (ClassId × FieldType)} {S : Type} {w : S → va_W} {z : S} (F : kj_Fx p s m args meth c cX0_isSide 1 wsX0_isSide RX0 (some .boolean) D tys A) {x0 : Int32} {o : Int32} (h : fx_isSide x0 = some o) : kj_J p l e rm_X0_isSide s m args below meth c 0 0 (MQ below (kj_Qi D tys A w (o, z)) args s 0 0 A) 1 D A (w z) 0 [(0, .int x0)] [] := by
  unfold fx_isSide at h
  refine kj_iload_n F dX0_isSide_0 0 rfl rfl ?_
  refine kj_iconst F dX0_isSide_1 (v := 1) (by decide) ?_
  refine kj_icmp_lt F dX0_isSide_2 (tgt := 14) (by decide) h (fun hc h => ?_) (fun hc h => ?_)
  · refine kj_iconst F dX0_isSide_14 (v := 0) (by decide) ?_
    exact kj_zret F dX0_isSide_15 (by decide) (kj_pr h)
  · refine kj_iload_n F dX0_isSide_5 0 rfl rfl ?_
    refine kj_iconst F dX0_isSide_6 (v := 4) (by decide) ?_
    refine kj_icmp_gt F dX0_isSide_7 (tgt := 14) (by decide) h (fun hc h => ?_) (fun hc h => ?_)
    · refine kj_iconst F dX0_isSide_14 (v := 0) (by decide) ?_
      exact kj_zret F dX0_isSide_15 (by decide) (kj_pr h)
    · refine kj_iconst F dX0_isSide_10 (v := 1) (by decide) ?_
      refine kj_goto F dX0_isSide_11 (tgt := 15) (by decide) ?_
      exact kj_zret F dX0_isSide_15 (by decide) (kj_pr h)
theorem cx_isSide {l : Launch} {D : va_G} {tys : List (ClassId × FieldType)} {S : Type} {w : S → va_W} {z : S} {x0 : Int32} {o : Int32} (h : fx_isSide x0 = some o) : kj_Mi l yX0_isSide wsX0_isSide rm_X0_isSide D tys w z [.int x0] (o, z) :=
  fun sz => kj_start (by decide) rfl (Nat.le_of_ble_eq_true rfl) rfl fun p e s m args below meth c hsz F => jx_isSide F h
/-! X0_inRange -/
abbrev rm_X0_inRange : Room := { frames := 1, cells := 0, slots := 0, locals := 20 }
def fx_inRange (x0 : Int32) (x1 : Int32) (x2 : Int32) : Option Int32 :=
  (fx_isSide x0).bind fun o1 =>
  if o1 = 0 then
  some (0 : Int32)
  else
  (fx_isSide x1).bind fun o2 =>
  if o2 = 0 then
  some (0 : Int32)
  else
  (fx_isSide x2).bind fun o3 =>
  if o3 = 0 then
  some (0 : Int32)
  else
  if (48 : Int32) < ((x0 * x1) * x2) then
  some (0 : Int32)
  else
  some (1 : Int32)
set_option maxRecDepth 20000 in
theorem jx_inRange {p : Program} {l : Launch} {e : Env} {s : State} {m : MethodId} {args : Array Value} {below : List Frame} {meth : Method} {c : Code} {A : Nat → Prop} {D : va_G} {tys : List (ClassId × FieldType)} {S : Type} {w : S → va_W} {z : S} (F : kj_Fx p s m args meth c cX0_inRange 3 wsX0_inRange RX0 (some .boolean) D tys A) {x0 : Int32} {x1 : Int32} {x2 : Int32} {o : Int32} (h : fx_inRange x0 x1 x2 = some o) : kj_J p l e rm_X0_inRange s m args below meth c 0 0 (MQ below (kj_Qi D tys A w (o, z)) args s 0 0 A) 3 D A (w z) 0 [(0, .int x0), (1, .int x1), (2, .int x2)] [] := by
  unfold fx_inRange at h
  refine kj_iload_n F dX0_inRange_0 0 rfl rfl ?_
  refine kj_cSip (As := [.int x0]) (rest := []) F dX0_inRange_1 h (fun o h1 => cx_isSide (w := w) h1) (va_cwS 1 F.2.2.2.2.1 gX0_inRange_X0_isSide rfl rfl rfl (by decide +kernel) ⟨Nat.le_of_ble_eq_true rfl, Nat.le_of_ble_eq_true rfl⟩) rfl rfl (Nat.le_of_ble_eq_true rfl) ⟨Nat.zero_le _, Nat.zero_le _⟩ (fun o1 h => ?_)
  refine kj_if_eq F dX0_inRange_4 (tgt := 35) (by decide) h (fun hc h => ?_) (fun hc h => ?_)
  · refine kj_iconst F dX0_inRange_35 (v := 0) (by decide) ?_
    exact kj_zret F dX0_inRange_36 (by decide) (kj_pr h)
  · refine kj_iload_n F dX0_inRange_7 1 rfl rfl ?_
    refine kj_cSip (As := [.int x1]) (rest := []) F dX0_inRange_8 h (fun o h1 => cx_isSide (w := w) h1) (va_cwS 1 F.2.2.2.2.1 gX0_inRange_X0_isSide rfl rfl rfl (by decide +kernel) ⟨Nat.le_of_ble_eq_true rfl, Nat.le_of_ble_eq_true rfl⟩) rfl rfl (Nat.le_of_ble_eq_true rfl) ⟨Nat.zero_le _, Nat.zero_le _⟩ (fun o2 h => ?_)
    refine kj_if_eq F dX0_inRange_11 (tgt := 35) (by decide) h (fun hc h => ?_) (fun hc h => ?_)
    · refine kj_iconst F dX0_inRange_35 (v := 0) (by decide) ?_
      exact kj_zret F dX0_inRange_36 (by decide) (kj_pr h)
    · refine kj_iload_n F dX0_inRange_14 2 rfl rfl ?_
      refine kj_cSip (As := [.int x2]) (rest := []) F dX0_inRange_15 h (fun o h1 => cx_isSide (w := w) h1) (va_cwS 1 F.2.2.2.2.1 gX0_inRange_X0_isSide rfl rfl rfl (by decide +kernel) ⟨Nat.le_of_ble_eq_true rfl, Nat.le_of_ble_eq_true rfl⟩) rfl rfl (Nat.le_of_ble_eq_true rfl) ⟨Nat.zero_le _, Nat.zero_le _⟩ (fun o3 h => ?_)
      refine kj_if_eq F dX0_inRange_18 (tgt := 35) (by decide) h (fun hc h => ?_) (fun hc h => ?_)
      · refine kj_iconst F dX0_inRange_35 (v := 0) (by decide) ?_
        exact kj_zret F dX0_inRange_36 (by decide) (kj_pr h)
      · refine kj_iload_n F dX0_inRange_21 0 rfl rfl ?_
        refine kj_iload_n F dX0_inRange_22 1 rfl rfl ?_
        refine kj_imul F dX0_inRange_23 ?_
        refine kj_iload_n F dX0_inRange_24 2 rfl rfl ?_
        refine kj_imul F dX0_inRange_25 ?_
        refine kj_bipush F dX0_inRange_26 (v := 48) (by decide) ?_
        refine kj_icmp_gt F dX0_inRange_28 (tgt := 35) (by decide) h (fun hc h => ?_) (fun hc h => ?_)
        · refine kj_iconst F dX0_inRange_35 (v := 0) (by decide) ?_
          exact kj_zret F dX0_inRange_36 (by decide) (kj_pr h)
        · refine kj_iconst F dX0_inRange_31 (v := 1) (by decide) ?_
          refine kj_goto F dX0_inRange_32 (tgt := 36) (by decide) ?_
          exact kj_zret F dX0_inRange_36 (by decide) (kj_pr h)
theorem cx_inRange {l : Launch} {D : va_G} {tys : List (ClassId × FieldType)} {S : Type} {w : S → va_W} {z : S} {x0 : Int32} {x1 : Int32} {x2 : Int32} {o : Int32} (h : fx_inRange x0 x1 x2 = some o) : kj_Mi l yX0_inRange wsX0_inRange rm_X0_inRange D tys w z [.int x0, .int x1, .int x2] (o, z) :=
  fun sz => kj_start (by decide) rfl (Nat.le_of_ble_eq_true rfl) rfl fun p e s m args below meth c hsz F => jx_inRange F h
/-! X0_cube -/
abbrev rm_X0_cube : Room := { frames := 0, cells := 0, slots := 0, locals := 0 }
def fx_cube (x0 : Int32) (x1 : Int32) : Option Int64 :=
  some ((1 : Int64) <<< (((((60 : Int32) - ((16 : Int32) * x0)) - ((4 : Int32) * x1))).toInt64 &&& 63))
set_option maxRecDepth 20000 in
theorem jx_cube {p : Program} {l : Launch} {e : Env} {s : State} {m : MethodId} {args : Array Value} {below : List Frame} {meth : Method} {c : Code} {A : Nat → Prop} {D : va_G} {tys : List (ClassId × FieldType)} {S : Type} {w : S → va_W} {z : S} (F : kj_Fx p s m args meth c cX0_cube 2 wsX0_cube RX0 (some .long) D tys A) {x0 : Int32} {x1 : Int32} {o : Int64} (h : fx_cube x0 x1 = some o) : kj_J p l e rm_X0_cube s m args below meth c 0 0 (MQ below (kj_Ql D tys A w (o, z)) args s 0 0 A) 2 D A (w z) 0 [(0, .int x0), (1, .int x1)] [] := by
  unfold fx_cube at h
  refine kj_lconst F dX0_cube_0 (v := 1) (by decide) ?_
  refine kj_bipush F dX0_cube_1 (v := 60) (by decide) ?_
  refine kj_bipush F dX0_cube_3 (v := 16) (by decide) ?_
  refine kj_iload_n F dX0_cube_5 0 rfl rfl ?_
  refine kj_imul F dX0_cube_6 ?_
  refine kj_isub F dX0_cube_7 ?_
  refine kj_iconst F dX0_cube_8 (v := 4) (by decide) ?_
  refine kj_iload_n F dX0_cube_9 1 rfl rfl ?_
  refine kj_imul F dX0_cube_10 ?_
  refine kj_isub F dX0_cube_11 ?_
  refine kj_lshl F dX0_cube_12 ?_
  exact kj_lret F dX0_cube_13 (kj_pr h)
theorem cx_cube {l : Launch} {D : va_G} {tys : List (ClassId × FieldType)} {S : Type} {w : S → va_W} {z : S} {x0 : Int32} {x1 : Int32} {o : Int64} (h : fx_cube x0 x1 = some o) : kj_Ml l yX0_cube wsX0_cube rm_X0_cube D tys w z [.int x0, .int x1] (o, z) :=
  fun sz => kj_start (by decide) rfl (Nat.le_of_ble_eq_true rfl) rfl fun p e s m args below meth c hsz F => jx_cube F h
/-! X0_rowIn -/
abbrev rm_X0_rowIn : Room := { frames := 0, cells := 0, slots := 0, locals := 0 }
def fx_rowIn (x0 : Int64) (x2 : Int32) : Option Int32 :=
  some (((kj_ushr x0 ((48 : Int32) - ((16 : Int32) * x2)))).toInt32 &&& ((65535) : Int32))
set_option maxRecDepth 20000 in
theorem jx_rowIn {p : Program} {l : Launch} {e : Env} {s : State} {m : MethodId} {args : Array Value} {below : List Frame} {meth : Method} {c : Code} {A : Nat → Prop} {D : va_G} {tys : List (ClassId × FieldType)} {S : Type} {w : S → va_W} {z : S} (F : kj_Fx p s m args meth c cX0_rowIn 3 wsX0_rowIn RX0 (some .int) D tys A) {x0 : Int64} {x2 : Int32} {o : Int32} (h : fx_rowIn x0 x2 = some o) : kj_J p l e rm_X0_rowIn s m args below meth c 0 0 (MQ below (kj_Qi D tys A w (o, z)) args s 0 0 A) 3 D A (w z) 0 [(0, .long x0), (2, .int x2)] [] := by
  unfold fx_rowIn at h
  refine kj_lload_n F dX0_rowIn_0 0 rfl rfl ?_
  refine kj_bipush F dX0_rowIn_1 (v := 48) (by decide) ?_
  refine kj_bipush F dX0_rowIn_3 (v := 16) (by decide) ?_
  refine kj_iload_n F dX0_rowIn_5 1 rfl rfl ?_
  refine kj_imul F dX0_rowIn_6 ?_
  refine kj_isub F dX0_rowIn_7 ?_
  refine kj_lushr F dX0_rowIn_8 ?_
  refine kj_l2i F dX0_rowIn_9 ?_
  refine kj_ldc F dX0_rowIn_10 (v := (65535)) (by decide +kernel) ?_
  refine kj_iand F dX0_rowIn_12 ?_
  exact kj_iret F dX0_rowIn_13 (kj_pr h)
theorem cx_rowIn {l : Launch} {D : va_G} {tys : List (ClassId × FieldType)} {S : Type} {w : S → va_W} {z : S} {x0 : Int64} {x2 : Int32} {o : Int32} (h : fx_rowIn x0 x2 = some o) : kj_Mi l yX0_rowIn wsX0_rowIn rm_X0_rowIn D tys w z [.long x0, .int x2] (o, z) :=
  fun sz => kj_start (by decide) rfl (Nat.le_of_ble_eq_true rfl) rfl fun p e s m args below meth c hsz F => jx_rowIn F h
/-! X0_withRow -/
abbrev rm_X0_withRow : Room := { frames := 0, cells := 0, slots := 0, locals := 0 }
def fx_withRow (x0 : Int64) (x2 : Int32) (x3 : Int32) : Option Int64 :=
  some (x0 ||| ((x3).toInt64 <<< ((((48 : Int32) - ((16 : Int32) * x2))).toInt64 &&& 63)))
set_option maxRecDepth 20000 in
theorem jx_withRow {p : Program} {l : Launch} {e : Env} {s : State} {m : MethodId} {args : Array Value} {below : List Frame} {meth : Method} {c : Code} {A : Nat → Prop} {D : va_G} {tys : List (ClassId × FieldType)} {S : Type} {w : S → va_W} {z : S} (F : kj_Fx p s m args meth c cX0_withRow 4 wsX0_withRow RX0 (some .long) D tys A) {x0 : Int64} {x2 : Int32} {x3 : Int32} {o : Int64} (h : fx_withRow x0 x2 x3 = some o) : kj_J p l e rm_X0_withRow s m args below meth c 0 0 (MQ below (kj_Ql D tys A w (o, z)) args s 0 0 A) 4 D A (w z) 0 [(0, .long x0), (2, .int x2), (3, .int x3)] [] := by
  unfold fx_withRow at h
  refine kj_lload_n F dX0_withRow_0 0 rfl rfl ?_
  refine kj_iload_n F dX0_withRow_1 2 rfl rfl ?_
  refine kj_i2l F dX0_withRow_2 ?_
  refine kj_bipush F dX0_withRow_3 (v := 48) (by decide) ?_
  refine kj_bipush F dX0_withRow_5 (v := 16) (by decide) ?_
  refine kj_iload_n F dX0_withRow_7 1 rfl rfl ?_
  refine kj_imul F dX0_withRow_8 ?_
  refine kj_isub F dX0_withRow_9 ?_
  refine kj_lshl F dX0_withRow_10 ?_
  refine kj_lor F dX0_withRow_11 ?_
  exact kj_lret F dX0_withRow_12 (kj_pr h)
theorem cx_withRow {l : Launch} {D : va_G} {tys : List (ClassId × FieldType)} {S : Type} {w : S → va_W} {z : S} {x0 : Int64} {x2 : Int32} {x3 : Int32} {o : Int64} (h : fx_withRow x0 x2 x3 = some o) : kj_Ml l yX0_withRow wsX0_withRow rm_X0_withRow D tys w z [.long x0, .int x2, .int x3] (o, z) :=
  fun sz => kj_start (by decide) rfl (Nat.le_of_ble_eq_true rfl) rfl fun p e s m args below meth c hsz F => jx_withRow F h
/-! X0_heightInRow -/
abbrev rm_X0_heightInRow : Room := { frames := 0, cells := 0, slots := 0, locals := 0 }
def fx_heightInRow (x0 : Int32) (x1 : Int32) : Option Int32 :=
  some ((x0 >>> (((12 : Int32) - ((4 : Int32) * x1)) &&& 31)) &&& (15 : Int32))
set_option maxRecDepth 20000 in
theorem jx_heightInRow {p : Program} {l : Launch} {e : Env} {s : State} {m : MethodId} {args : Array Value} {below : List Frame} {meth : Method} {c : Code} {A : Nat → Prop} {D : va_G} {tys : List (ClassId × FieldType)} {S : Type} {w : S → va_W} {z : S} (F : kj_Fx p s m args meth c cX0_heightInRow 2 wsX0_heightInRow RX0 (some .int) D tys A) {x0 : Int32} {x1 : Int32} {o : Int32} (h : fx_heightInRow x0 x1 = some o) : kj_J p l e rm_X0_heightInRow s m args below meth c 0 0 (MQ below (kj_Qi D tys A w (o, z)) args s 0 0 A) 2 D A (w z) 0 [(0, .int x0), (1, .int x1)] [] := by
  unfold fx_heightInRow at h
  refine kj_iload_n F dX0_heightInRow_0 0 rfl rfl ?_
  refine kj_bipush F dX0_heightInRow_1 (v := 12) (by decide) ?_
  refine kj_iconst F dX0_heightInRow_3 (v := 4) (by decide) ?_
  refine kj_iload_n F dX0_heightInRow_4 1 rfl rfl ?_
  refine kj_imul F dX0_heightInRow_5 ?_
  refine kj_isub F dX0_heightInRow_6 ?_
  refine kj_ishr F dX0_heightInRow_7 ?_
  refine kj_bipush F dX0_heightInRow_8 (v := 15) (by decide) ?_
  refine kj_iand F dX0_heightInRow_10 ?_
  exact kj_iret F dX0_heightInRow_11 (kj_pr h)
theorem cx_heightInRow {l : Launch} {D : va_G} {tys : List (ClassId × FieldType)} {S : Type} {w : S → va_W} {z : S} {x0 : Int32} {x1 : Int32} {o : Int32} (h : fx_heightInRow x0 x1 = some o) : kj_Mi l yX0_heightInRow wsX0_heightInRow rm_X0_heightInRow D tys w z [.int x0, .int x1] (o, z) :=
  fun sz => kj_start (by decide) rfl (Nat.le_of_ble_eq_true rfl) rfl fun p e s m args below meth c hsz F => jx_heightInRow F h
/-! X0_volume -/
abbrev rm_X0_volume : Room := { frames := 0, cells := 0, slots := 0, locals := 0 }
def fx_volume_4 (x0 : Int64) (x2 : Int32) (x3 : Int32) : Option ((Int64 × Int32 × Int32) ⊕ Int32) :=
  if (64 : Int32) ≤ x3 then
  some (.inr x2)
  else
  some (.inl (x0, (x2 + (((kj_ushr x0 x3)).toInt32 &&& (15 : Int32))), (x3 + 4)))
def lx_volume_4 (n : Nat) (x0 : Int64) (x2 : Int32) (x3 : Int32) : Option Int32 :=
  kj_it (fun (s : (Int64 × Int32 × Int32)) => fx_volume_4 (s.1) (s.2.1) (s.2.2)) n (x0, x2, x3)
def fx_volume (x0 : Int64) : Option Int32 :=
  (lx_volume_4 5000 x0 (0 : Int32) (0 : Int32)).bind fun r1 =>
  some (r1)
set_option maxRecDepth 20000 in
theorem jx_volume_4 {p : Program} {l : Launch} {e : Env} {s : State} {m : MethodId} {args : Array Value} {below : List Frame} {meth : Method} {c : Code} {A : Nat → Prop} {D : va_G} {tys : List (ClassId × FieldType)} {S : Type} {w : S → va_W} {z : S} {Q : State → Prop} (F : kj_Fx p s m args meth c cX0_volume 4 wsX0_volume RX0 (some .int) D tys A) {x0 : Int64} {x2 : Int32} {x3 : Int32} {o : ((Int64 × Int32 × Int32) ⊕ Int32)} (h : fx_volume_4 x0 x2 x3 = some o) (kb : ∀ (a0' : Int64) (a1' : Int32) (a2' : Int32), o = .inl (a0', a1', a2') → kj_J p l e rm_X0_volume s m args below meth c 0 0 Q 4 D A (w z) 4 [(0, .long a0'), (2, .int a1'), (3, .int a2')] []) (ke0 : ∀ (a0' : Int32), o = .inr a0' → kj_J p l e rm_X0_volume s m args below meth c 0 0 Q 4 D A (w z) 26 [(2, .int a0')] []) : kj_J p l e rm_X0_volume s m args below meth c 0 0 Q 4 D A (w z) 4 [(0, .long x0), (2, .int x2), (3, .int x3)] [] := by
  unfold fx_volume_4 at h
  refine kj_iload_n F dX0_volume_4 2 rfl rfl ?_
  refine kj_bipush F dX0_volume_5 (v := 64) (by decide) ?_
  refine kj_icmp_ge F dX0_volume_7 (tgt := 26) (by decide) h (fun hc h => ?_) (fun hc h => ?_)
  · refine kj_J.sub [1] rfl ?_
    exact ke0 x2 (Option.some.inj h).symm
  · refine kj_iload_n F dX0_volume_10 1 rfl rfl ?_
    refine kj_lload_n F dX0_volume_11 0 rfl rfl ?_
    refine kj_iload_n F dX0_volume_12 2 rfl rfl ?_
    refine kj_lushr F dX0_volume_13 ?_
    refine kj_l2i F dX0_volume_14 ?_
    refine kj_bipush F dX0_volume_15 (v := 15) (by decide) ?_
    refine kj_iand F dX0_volume_17 ?_
    refine kj_iadd F dX0_volume_18 ?_
    refine kj_istore_n F dX0_volume_19 (lv' := [(2, .int (x2 + (((kj_ushr x0 x3)).toInt32 &&& (15 : Int32)))), (0, .long x0), (3, .int x3)]) rfl (by decide) rfl ?_
    refine kj_iinc F dX0_volume_20 2 rfl (v := 4) (by decide) (by decide) (lv' := [(3, .int (x3 + 4)), (2, .int (x2 + (((kj_ushr x0 x3)).toInt32 &&& (15 : Int32)))), (0, .long x0)]) rfl ?_
    refine kj_goto F dX0_volume_23 (tgt := 4) (by decide) ?_
    refine kj_J.sub [2, 1, 0] rfl ?_
    exact kb x0 (x2 + (((kj_ushr x0 x3)).toInt32 &&& (15 : Int32))) (x3 + 4) (Option.some.inj h).symm
theorem jlx_volume_4 {p : Program} {l : Launch} {e : Env} {s : State} {m : MethodId} {args : Array Value} {below : List Frame} {meth : Method} {c : Code} {A : Nat → Prop} {D : va_G} {tys : List (ClassId × FieldType)} {S : Type} {w : S → va_W} {z : S} {Q : State → Prop} (F : kj_Fx p s m args meth c cX0_volume 4 wsX0_volume RX0 (some .int) D tys A) {n : Nat} {x0 : Int64} {x2 : Int32} {x3 : Int32} {r : Int32} (h : lx_volume_4 n x0 x2 x3 = some r) (ke : kj_J p l e rm_X0_volume s m args below meth c 0 0 Q 4 D A (w z) 26 [(2, .int (r))] []) : kj_J p l e rm_X0_volume s m args below meth c 0 0 Q 4 D A (w z) 4 [(0, .long x0), (2, .int x2), (3, .int x3)] [] :=
  kj_it_J (Wh := fun (u : (Int64 × Int32 × Int32)) => kj_J p l e rm_X0_volume s m args below meth c 0 0 Q 4 D A (w z) 4 [(0, .long (u.1)), (2, .int (u.2.1)), (3, .int (u.2.2))] []) (We := fun r => kj_J p l e rm_X0_volume s m args below meth c 0 0 Q 4 D A (w z) 26 [(2, .int (r))] []) (fun u o h kb ke => jx_volume_4 F h (fun a0' a1' a2' e => kb (a0', a1', a2') e) (fun a0' e => ke a0' e)) n (x0, x2, x3) r h ke
set_option maxRecDepth 20000 in
theorem jx_volume {p : Program} {l : Launch} {e : Env} {s : State} {m : MethodId} {args : Array Value} {below : List Frame} {meth : Method} {c : Code} {A : Nat → Prop} {D : va_G} {tys : List (ClassId × FieldType)} {S : Type} {w : S → va_W} {z : S} (F : kj_Fx p s m args meth c cX0_volume 4 wsX0_volume RX0 (some .int) D tys A) {x0 : Int64} {o : Int32} (h : fx_volume x0 = some o) : kj_J p l e rm_X0_volume s m args below meth c 0 0 (MQ below (kj_Qi D tys A w (o, z)) args s 0 0 A) 4 D A (w z) 0 [(0, .long x0)] [] := by
  unfold fx_volume at h
  refine kj_iconst F dX0_volume_0 (v := 0) (by decide) ?_
  refine kj_istore_n F dX0_volume_1 (lv' := [(2, .int (0 : Int32)), (0, .long x0)]) rfl (by decide) rfl ?_
  refine kj_iconst F dX0_volume_2 (v := 0) (by decide) ?_
  refine kj_istore_n F dX0_volume_3 (lv' := [(3, .int (0 : Int32)), (2, .int (0 : Int32)), (0, .long x0)]) rfl (by decide) rfl ?_
  refine kj_J.sub [2, 1, 0] rfl ?_
  refine kj_bn h (fun r1 h1 h => ?_)
  refine jlx_volume_4 F h1 ?_
  refine kj_iload_n F dX0_volume_26 0 rfl rfl ?_
  exact kj_iret F dX0_volume_27 (kj_pr h)
theorem cx_volume {l : Launch} {D : va_G} {tys : List (ClassId × FieldType)} {S : Type} {w : S → va_W} {z : S} {x0 : Int64} {o : Int32} (h : fx_volume x0 = some o) : kj_Mi l yX0_volume wsX0_volume rm_X0_volume D tys w z [.long x0] (o, z) :=
  fun sz => kj_start (by decide) rfl (Nat.le_of_ble_eq_true rfl) rfl fun p e s m args below meth c hsz F => jx_volume F h
/-! X0_sameAs -/
abbrev rm_X0_sameAs : Room := { frames := 0, cells := 0, slots := 0, locals := 0 }
theorem in_X0_sameAs : ∀ w ∈ u_ws RX0 TX0 3, w ∈ wsX0_sameAs := by decide +kernel
def fx_sameAs (ba bb bc : Int32) (ba' bb' bc' : Int32) : Option Int32 :=
  if ba = ba' then
  if bb = bb' then
  if bc = bc' then
  some (1 : Int32)
  else
  some (0 : Int32)
  else
  some (0 : Int32)
  else
  some (0 : Int32)
set_option maxRecDepth 20000 in
theorem jx_sameAs {p : Program} {l : Launch} {e : Env} {s : State} {m : MethodId} {args : Array Value} {below : List Frame} {meth : Method} {c : Code} {A : Nat → Prop} {D : va_G} {tys : List (ClassId × FieldType)} {S : Type} {w : S → va_W} {z : S} (F : kj_Fx p s m args meth c cX0_sameAs 2 wsX0_sameAs RX0 (some .boolean) D tys A) {ba bb bc : Int32} {b0 q0 : Nat} (hb : (w z)[q0]? = some (b0, .inr (0, [.int ba, .int bb, .int bc]))) {ba' bb' bc' : Int32} {b1 q1 : Nat} (hb1 : (w z)[q1]? = some (b1, .inr (0, [.int ba', .int bb', .int bc']))) {o : Int32} (h : fx_sameAs ba bb bc ba' bb' bc' = some o) : kj_J p l e rm_X0_sameAs s m args below meth c 0 0 (MQ below (kj_Qi D tys A w (o, z)) args s 0 0 A) 2 D A (w z) 0 [(0, .ref b0), (1, .ref b1)] [] := by
  unfold fx_sameAs at h
  refine kj_aload_n F dX0_sameAs_0 0 rfl rfl ?_
  refine kj_get F dX0_sameAs_1 in_X0_sameAs _ hb rfl 0 (by decide) (by decide +kernel) rfl rfl ?_
  refine kj_aload_n F dX0_sameAs_4 1 rfl rfl ?_
  refine kj_get F dX0_sameAs_5 in_X0_sameAs _ hb1 rfl 0 (by decide) (by decide +kernel) rfl rfl ?_
  refine kj_icmp_ne F dX0_sameAs_8 (tgt := 37) (by decide) h (fun hc h => ?_) (fun hc h => ?_)
  · refine kj_aload_n F dX0_sameAs_11 0 rfl rfl ?_
    refine kj_get F dX0_sameAs_12 in_X0_sameAs _ hb rfl 1 (by decide) (by decide +kernel) rfl rfl ?_
    refine kj_aload_n F dX0_sameAs_15 1 rfl rfl ?_
    refine kj_get F dX0_sameAs_16 in_X0_sameAs _ hb1 rfl 1 (by decide) (by decide +kernel) rfl rfl ?_
    refine kj_icmp_ne F dX0_sameAs_19 (tgt := 37) (by decide) h (fun hc h => ?_) (fun hc h => ?_)
    · refine kj_aload_n F dX0_sameAs_22 0 rfl rfl ?_
      refine kj_get F dX0_sameAs_23 in_X0_sameAs _ hb rfl 2 (by decide) (by decide +kernel) rfl rfl ?_
      refine kj_aload_n F dX0_sameAs_26 1 rfl rfl ?_
      refine kj_get F dX0_sameAs_27 in_X0_sameAs _ hb1 rfl 2 (by decide) (by decide +kernel) rfl rfl ?_
      refine kj_icmp_ne F dX0_sameAs_30 (tgt := 37) (by decide) h (fun hc h => ?_) (fun hc h => ?_)
      · refine kj_iconst F dX0_sameAs_33 (v := 1) (by decide) ?_
        refine kj_goto F dX0_sameAs_34 (tgt := 38) (by decide) ?_
        exact kj_zret F dX0_sameAs_38 (by decide) (kj_pr h)
      · refine kj_iconst F dX0_sameAs_37 (v := 0) (by decide) ?_
        exact kj_zret F dX0_sameAs_38 (by decide) (kj_pr h)
    · refine kj_iconst F dX0_sameAs_37 (v := 0) (by decide) ?_
      exact kj_zret F dX0_sameAs_38 (by decide) (kj_pr h)
  · refine kj_iconst F dX0_sameAs_37 (v := 0) (by decide) ?_
    exact kj_zret F dX0_sameAs_38 (by decide) (kj_pr h)
theorem cx_sameAs {l : Launch} {D : va_G} {tys : List (ClassId × FieldType)} {S : Type} {w : S → va_W} {z : S} {ba bb bc : Int32} {b0 q0 : Nat} (hb : (w z)[q0]? = some (b0, .inr (0, [.int ba, .int bb, .int bc]))) {ba' bb' bc' : Int32} {b1 q1 : Nat} (hb1 : (w z)[q1]? = some (b1, .inr (0, [.int ba', .int bb', .int bc']))) {o : Int32} (h : fx_sameAs ba bb bc ba' bb' bc' = some o) : kj_Mi l yX0_sameAs wsX0_sameAs rm_X0_sameAs D tys w z [.ref b0, .ref b1] (o, z) :=
  fun sz => kj_start (by decide) rfl (Nat.le_of_ble_eq_true rfl) rfl fun p e s m args below meth c hsz F => jx_sameAs F hb hb1 h
/-! X0_hasCell -/
abbrev rm_X0_hasCell : Room := { frames := 0, cells := 0, slots := 0, locals := 0 }
theorem in_X0_hasCell : ∀ w ∈ u_ws RX0 TX0 3, w ∈ wsX0_hasCell := by decide +kernel
def fx_hasCell (ba bb bc : Int32) (x1 : Int32) (x2 : Int32) : Option Int32 :=
  if x1 < 0 then
  some (0 : Int32)
  else
  if ba ≤ x1 then
  some (0 : Int32)
  else
  if x2 < 0 then
  some (0 : Int32)
  else
  if bb ≤ x2 then
  some (0 : Int32)
  else
  some (1 : Int32)
set_option maxRecDepth 20000 in
theorem jx_hasCell {p : Program} {l : Launch} {e : Env} {s : State} {m : MethodId} {args : Array Value} {below : List Frame} {meth : Method} {c : Code} {A : Nat → Prop} {D : va_G} {tys : List (ClassId × FieldType)} {S : Type} {w : S → va_W} {z : S} (F : kj_Fx p s m args meth c cX0_hasCell 3 wsX0_hasCell RX0 (some .boolean) D tys A) {ba bb bc : Int32} {b0 q0 : Nat} (hb : (w z)[q0]? = some (b0, .inr (0, [.int ba, .int bb, .int bc]))) {x1 : Int32} {x2 : Int32} {o : Int32} (h : fx_hasCell ba bb bc x1 x2 = some o) : kj_J p l e rm_X0_hasCell s m args below meth c 0 0 (MQ below (kj_Qi D tys A w (o, z)) args s 0 0 A) 3 D A (w z) 0 [(0, .ref b0), (1, .int x1), (2, .int x2)] [] := by
  unfold fx_hasCell at h
  refine kj_iload_n F dX0_hasCell_0 1 rfl rfl ?_
  refine kj_if_lt F dX0_hasCell_1 (tgt := 28) (by decide) h (fun hc h => ?_) (fun hc h => ?_)
  · refine kj_iconst F dX0_hasCell_28 (v := 0) (by decide) ?_
    exact kj_zret F dX0_hasCell_29 (by decide) (kj_pr h)
  · refine kj_iload_n F dX0_hasCell_4 1 rfl rfl ?_
    refine kj_aload_n F dX0_hasCell_5 0 rfl rfl ?_
    refine kj_get F dX0_hasCell_6 in_X0_hasCell _ hb rfl 0 (by decide) (by decide +kernel) rfl rfl ?_
    refine kj_icmp_ge F dX0_hasCell_9 (tgt := 28) (by decide) h (fun hc h => ?_) (fun hc h => ?_)
    · refine kj_iconst F dX0_hasCell_28 (v := 0) (by decide) ?_
      exact kj_zret F dX0_hasCell_29 (by decide) (kj_pr h)
    · refine kj_iload_n F dX0_hasCell_12 2 rfl rfl ?_
      refine kj_if_lt F dX0_hasCell_13 (tgt := 28) (by decide) h (fun hc h => ?_) (fun hc h => ?_)
      · refine kj_iconst F dX0_hasCell_28 (v := 0) (by decide) ?_
        exact kj_zret F dX0_hasCell_29 (by decide) (kj_pr h)
      · refine kj_iload_n F dX0_hasCell_16 2 rfl rfl ?_
        refine kj_aload_n F dX0_hasCell_17 0 rfl rfl ?_
        refine kj_get F dX0_hasCell_18 in_X0_hasCell _ hb rfl 1 (by decide) (by decide +kernel) rfl rfl ?_
        refine kj_icmp_ge F dX0_hasCell_21 (tgt := 28) (by decide) h (fun hc h => ?_) (fun hc h => ?_)
        · refine kj_iconst F dX0_hasCell_28 (v := 0) (by decide) ?_
          exact kj_zret F dX0_hasCell_29 (by decide) (kj_pr h)
        · refine kj_iconst F dX0_hasCell_24 (v := 1) (by decide) ?_
          refine kj_goto F dX0_hasCell_25 (tgt := 29) (by decide) ?_
          exact kj_zret F dX0_hasCell_29 (by decide) (kj_pr h)
theorem cx_hasCell {l : Launch} {D : va_G} {tys : List (ClassId × FieldType)} {S : Type} {w : S → va_W} {z : S} {ba bb bc : Int32} {b0 q0 : Nat} (hb : (w z)[q0]? = some (b0, .inr (0, [.int ba, .int bb, .int bc]))) {x1 : Int32} {x2 : Int32} {o : Int32} (h : fx_hasCell ba bb bc x1 x2 = some o) : kj_Mi l yX0_hasCell wsX0_hasCell rm_X0_hasCell D tys w z [.ref b0, .int x1, .int x2] (o, z) :=
  fun sz => kj_start (by decide) rfl (Nat.le_of_ble_eq_true rfl) rfl fun p e s m args below meth c hsz F => jx_hasCell F hb h
/-! X0_level -/
abbrev rm_X0_level : Room := { frames := 0, cells := 0, slots := 0, locals := 0 }
theorem in_X0_level : ∀ w ∈ u_ws RX0 TX0 3, w ∈ wsX0_level := by decide +kernel
def fx_level_9 (ba bb bc : Int32) : Option Int32 :=
  some bc
def fx_level (ba bb bc : Int32) (x1 : Int64) (x3 : Int32) (x4 : Int32) : Option Int32 :=
  if x3 < 0 then
  fx_level_9 ba bb bc
  else
  if 0 ≤ x4 then
  if ba ≤ x3 then
  some (0 : Int32)
  else
  if x4 < bb then
  some (((kj_ushr x1 (((60 : Int32) - ((16 : Int32) * x3)) - ((4 : Int32) * x4)))).toInt32 &&& (15 : Int32))
  else
  some (0 : Int32)
  else
  fx_level_9 ba bb bc
set_option maxRecDepth 20000 in
theorem jx_level_9 {p : Program} {l : Launch} {e : Env} {s : State} {m : MethodId} {args : Array Value} {below : List Frame} {meth : Method} {c : Code} {A : Nat → Prop} {D : va_G} {tys : List (ClassId × FieldType)} {S : Type} {w : S → va_W} {z : S} (F : kj_Fx p s m args meth c cX0_level 5 wsX0_level RX0 (some .int) D tys A) {ba bb bc : Int32} {b0 q0 : Nat} (hb : (w z)[q0]? = some (b0, .inr (0, [.int ba, .int bb, .int bc]))) {o : Int32} (h : fx_level_9 ba bb bc = some o) : kj_J p l e rm_X0_level s m args below meth c 0 0 (MQ below (kj_Qi D tys A w (o, z)) args s 0 0 A) 5 D A (w z) 9 [(0, .ref b0)] [] := by
  unfold fx_level_9 at h
  refine kj_aload_n F dX0_level_9 0 rfl rfl ?_
  refine kj_get F dX0_level_10 in_X0_level _ hb rfl 2 (by decide) (by decide +kernel) rfl rfl ?_
  exact kj_iret F dX0_level_13 (kj_pr h)
set_option maxRecDepth 20000 in
theorem jx_level {p : Program} {l : Launch} {e : Env} {s : State} {m : MethodId} {args : Array Value} {below : List Frame} {meth : Method} {c : Code} {A : Nat → Prop} {D : va_G} {tys : List (ClassId × FieldType)} {S : Type} {w : S → va_W} {z : S} (F : kj_Fx p s m args meth c cX0_level 5 wsX0_level RX0 (some .int) D tys A) {ba bb bc : Int32} {b0 q0 : Nat} (hb : (w z)[q0]? = some (b0, .inr (0, [.int ba, .int bb, .int bc]))) {x1 : Int64} {x3 : Int32} {x4 : Int32} {o : Int32} (h : fx_level ba bb bc x1 x3 x4 = some o) : kj_J p l e rm_X0_level s m args below meth c 0 0 (MQ below (kj_Qi D tys A w (o, z)) args s 0 0 A) 5 D A (w z) 0 [(0, .ref b0), (1, .long x1), (3, .int x3), (4, .int x4)] [] := by
  unfold fx_level at h
  refine kj_iload_n F dX0_level_0 2 rfl rfl ?_
  refine kj_if_lt F dX0_level_1 (tgt := 9) (by decide) h (fun hc h => ?_) (fun hc h => ?_)
  · refine kj_J.sub [0] rfl ?_
    exact jx_level_9 F hb h
  · refine kj_iload F dX0_level_4 3 rfl ?_
    refine kj_if_ge F dX0_level_6 (tgt := 14) (by decide) h (fun hc h => ?_) (fun hc h => ?_)
    · refine kj_iload_n F dX0_level_14 2 rfl rfl ?_
      refine kj_aload_n F dX0_level_15 0 rfl rfl ?_
      refine kj_get F dX0_level_16 in_X0_level _ hb rfl 0 (by decide) (by decide +kernel) rfl rfl ?_
      refine kj_icmp_ge F dX0_level_19 (tgt := 31) (by decide) h (fun hc h => ?_) (fun hc h => ?_)
      · refine kj_iconst F dX0_level_31 (v := 0) (by decide) ?_
        exact kj_iret F dX0_level_32 (kj_pr h)
      · refine kj_iload F dX0_level_22 3 rfl ?_
        refine kj_aload_n F dX0_level_24 0 rfl rfl ?_
        refine kj_get F dX0_level_25 in_X0_level _ hb rfl 1 (by decide) (by decide +kernel) rfl rfl ?_
        refine kj_icmp_lt F dX0_level_28 (tgt := 33) (by decide) h (fun hc h => ?_) (fun hc h => ?_)
        · refine kj_lload_n F dX0_level_33 1 rfl rfl ?_
          refine kj_bipush F dX0_level_34 (v := 60) (by decide) ?_
          refine kj_bipush F dX0_level_36 (v := 16) (by decide) ?_
          refine kj_iload_n F dX0_level_38 2 rfl rfl ?_
          refine kj_imul F dX0_level_39 ?_
          refine kj_isub F dX0_level_40 ?_
          refine kj_iconst F dX0_level_41 (v := 4) (by decide) ?_
          refine kj_iload F dX0_level_42 3 rfl ?_
          refine kj_imul F dX0_level_44 ?_
          refine kj_isub F dX0_level_45 ?_
          refine kj_lushr F dX0_level_46 ?_
          refine kj_l2i F dX0_level_47 ?_
          refine kj_bipush F dX0_level_48 (v := 15) (by decide) ?_
          refine kj_iand F dX0_level_50 ?_
          exact kj_iret F dX0_level_51 (kj_pr h)
        · refine kj_iconst F dX0_level_31 (v := 0) (by decide) ?_
          exact kj_iret F dX0_level_32 (kj_pr h)
    · refine kj_J.sub [0] rfl ?_
      exact jx_level_9 F hb h
theorem cx_level {l : Launch} {D : va_G} {tys : List (ClassId × FieldType)} {S : Type} {w : S → va_W} {z : S} {ba bb bc : Int32} {b0 q0 : Nat} (hb : (w z)[q0]? = some (b0, .inr (0, [.int ba, .int bb, .int bc]))) {x1 : Int64} {x3 : Int32} {x4 : Int32} {o : Int32} (h : fx_level ba bb bc x1 x3 x4 = some o) : kj_Mi l yX0_level wsX0_level rm_X0_level D tys w z [.ref b0, .long x1, .int x3, .int x4] (o, z) :=
  fun sz => kj_start (by decide) rfl (Nat.le_of_ble_eq_true rfl) rfl fun p e s m args below meth c hsz F => jx_level F hb h
/-! X0_growsAt -/
abbrev rm_X0_growsAt : Room := { frames := 1, cells := 0, slots := 0, locals := 24 }
def fx_growsAt (ba bb bc : Int32) (x1 : Int64) (x3 : Int32) (x4 : Int32) : Option Int32 :=
  (fx_level ba bb bc x1 x3 x4).bind fun o1 =>
  (fx_level ba bb bc x1 (x3 - (1 : Int32)) x4).bind fun o2 =>
  if o2 ≤ o1 then
  some (0 : Int32)
  else
  (fx_level ba bb bc x1 x3 (x4 - (1 : Int32))).bind fun o3 =>
  if o3 ≤ o1 then
  some (0 : Int32)
  else
  some (1 : Int32)
set_option maxRecDepth 20000 in
theorem jx_growsAt {p : Program} {l : Launch} {e : Env} {s : State} {m : MethodId} {args : Array Value} {below : List Frame} {meth : Method} {c : Code} {A : Nat → Prop} {D : va_G} {tys : List (ClassId × FieldType)} {S : Type} {w : S → va_W} {z : S} (F : kj_Fx p s m args meth c cX0_growsAt 6 wsX0_growsAt RX0 (some .boolean) D tys A) {ba bb bc : Int32} {b0 q0 : Nat} (hb : (w z)[q0]? = some (b0, .inr (0, [.int ba, .int bb, .int bc]))) {x1 : Int64} {x3 : Int32} {x4 : Int32} {o : Int32} (h : fx_growsAt ba bb bc x1 x3 x4 = some o) : kj_J p l e rm_X0_growsAt s m args below meth c 0 0 (MQ below (kj_Qi D tys A w (o, z)) args s 0 0 A) 6 D A (w z) 0 [(0, .ref b0), (1, .long x1), (3, .int x3), (4, .int x4)] [] := by
  unfold fx_growsAt at h
  refine kj_aload_n F dX0_growsAt_0 0 rfl rfl ?_
  refine kj_lload_n F dX0_growsAt_1 1 rfl rfl ?_
  refine kj_iload_n F dX0_growsAt_2 2 rfl rfl ?_
  refine kj_iload F dX0_growsAt_3 3 rfl ?_
  refine kj_cVip (As := [.long x1, .int x3, .int x4]) (rest := []) F dX0_growsAt_5 h (fun o h1 => cx_level (w := w) hb h1) (cwV 3 F.2.2.2.2.1 gX0_growsAt_X0_level rfl rfl rfl (by decide +kernel) ⟨Nat.le_of_ble_eq_true rfl, Nat.le_of_ble_eq_true rfl⟩) _ hb rfl rfl rfl rfl (Nat.le_of_ble_eq_true rfl) ⟨Nat.zero_le _, Nat.zero_le _⟩ (fun o1 h => ?_)
  refine kj_istore F dX0_growsAt_8 (lv' := [(5, .int o1), (0, .ref b0), (1, .long x1), (3, .int x3), (4, .int x4)]) (by decide) rfl ?_
  refine kj_iload F dX0_growsAt_10 0 rfl ?_
  refine kj_aload_n F dX0_growsAt_12 1 rfl rfl ?_
  refine kj_lload_n F dX0_growsAt_13 2 rfl rfl ?_
  refine kj_iload_n F dX0_growsAt_14 3 rfl rfl ?_
  refine kj_iconst F dX0_growsAt_15 (v := 1) (by decide) ?_
  refine kj_isub F dX0_growsAt_16 ?_
  refine kj_iload F dX0_growsAt_17 4 rfl ?_
  refine kj_cVip (As := [.long x1, .int (x3 - (1 : Int32)), .int x4]) (rest := [.int o1]) F dX0_growsAt_19 h (fun o h1 => cx_level (w := w) hb h1) (cwV 3 F.2.2.2.2.1 gX0_growsAt_X0_level rfl rfl rfl (by decide +kernel) ⟨Nat.le_of_ble_eq_true rfl, Nat.le_of_ble_eq_true rfl⟩) _ hb rfl rfl rfl rfl (Nat.le_of_ble_eq_true rfl) ⟨Nat.zero_le _, Nat.zero_le _⟩ (fun o2 h => ?_)
  refine kj_icmp_ge F dX0_growsAt_22 (tgt := 44) (by decide) h (fun hc h => ?_) (fun hc h => ?_)
  · refine kj_iconst F dX0_growsAt_44 (v := 0) (by decide) ?_
    exact kj_zret F dX0_growsAt_45 (by decide) (kj_pr h)
  · refine kj_iload F dX0_growsAt_25 0 rfl ?_
    refine kj_aload_n F dX0_growsAt_27 1 rfl rfl ?_
    refine kj_lload_n F dX0_growsAt_28 2 rfl rfl ?_
    refine kj_iload_n F dX0_growsAt_29 3 rfl rfl ?_
    refine kj_iload F dX0_growsAt_30 4 rfl ?_
    refine kj_iconst F dX0_growsAt_32 (v := 1) (by decide) ?_
    refine kj_isub F dX0_growsAt_33 ?_
    refine kj_cVip (As := [.long x1, .int x3, .int (x4 - (1 : Int32))]) (rest := [.int o1]) F dX0_growsAt_34 h (fun o h1 => cx_level (w := w) hb h1) (cwV 3 F.2.2.2.2.1 gX0_growsAt_X0_level rfl rfl rfl (by decide +kernel) ⟨Nat.le_of_ble_eq_true rfl, Nat.le_of_ble_eq_true rfl⟩) _ hb rfl rfl rfl rfl (Nat.le_of_ble_eq_true rfl) ⟨Nat.zero_le _, Nat.zero_le _⟩ (fun o3 h => ?_)
    refine kj_icmp_ge F dX0_growsAt_37 (tgt := 44) (by decide) h (fun hc h => ?_) (fun hc h => ?_)
    · refine kj_iconst F dX0_growsAt_44 (v := 0) (by decide) ?_
      exact kj_zret F dX0_growsAt_45 (by decide) (kj_pr h)
    · refine kj_iconst F dX0_growsAt_40 (v := 1) (by decide) ?_
      refine kj_goto F dX0_growsAt_41 (tgt := 45) (by decide) ?_
      exact kj_zret F dX0_growsAt_45 (by decide) (kj_pr h)
theorem cx_growsAt {l : Launch} {D : va_G} {tys : List (ClassId × FieldType)} {S : Type} {w : S → va_W} {z : S} {ba bb bc : Int32} {b0 q0 : Nat} (hb : (w z)[q0]? = some (b0, .inr (0, [.int ba, .int bb, .int bc]))) {x1 : Int64} {x3 : Int32} {x4 : Int32} {o : Int32} (h : fx_growsAt ba bb bc x1 x3 x4 = some o) : kj_Mi l yX0_growsAt wsX0_growsAt rm_X0_growsAt D tys w z [.ref b0, .long x1, .int x3, .int x4] (o, z) :=
  fun sz => kj_start (by decide) rfl (Nat.le_of_ble_eq_true rfl) rfl fun p e s m args below meth c hsz F => jx_growsAt F hb h
/-! X0_shrinksAt -/
abbrev rm_X0_shrinksAt : Room := { frames := 1, cells := 0, slots := 0, locals := 24 }
def fx_shrinksAt (ba bb bc : Int32) (x1 : Int64) (x3 : Int32) (x4 : Int32) : Option Int32 :=
  (fx_level ba bb bc x1 x3 x4).bind fun o1 =>
  (fx_level ba bb bc x1 (x3 + (1 : Int32)) x4).bind fun o2 =>
  if o1 ≤ o2 then
  some (0 : Int32)
  else
  (fx_level ba bb bc x1 x3 (x4 + (1 : Int32))).bind fun o3 =>
  if o1 ≤ o3 then
  some (0 : Int32)
  else
  some (1 : Int32)
set_option maxRecDepth 20000 in
theorem jx_shrinksAt {p : Program} {l : Launch} {e : Env} {s : State} {m : MethodId} {args : Array Value} {below : List Frame} {meth : Method} {c : Code} {A : Nat → Prop} {D : va_G} {tys : List (ClassId × FieldType)} {S : Type} {w : S → va_W} {z : S} (F : kj_Fx p s m args meth c cX0_shrinksAt 6 wsX0_shrinksAt RX0 (some .boolean) D tys A) {ba bb bc : Int32} {b0 q0 : Nat} (hb : (w z)[q0]? = some (b0, .inr (0, [.int ba, .int bb, .int bc]))) {x1 : Int64} {x3 : Int32} {x4 : Int32} {o : Int32} (h : fx_shrinksAt ba bb bc x1 x3 x4 = some o) : kj_J p l e rm_X0_shrinksAt s m args below meth c 0 0 (MQ below (kj_Qi D tys A w (o, z)) args s 0 0 A) 6 D A (w z) 0 [(0, .ref b0), (1, .long x1), (3, .int x3), (4, .int x4)] [] := by
  unfold fx_shrinksAt at h
  refine kj_aload_n F dX0_shrinksAt_0 0 rfl rfl ?_
  refine kj_lload_n F dX0_shrinksAt_1 1 rfl rfl ?_
  refine kj_iload_n F dX0_shrinksAt_2 2 rfl rfl ?_
  refine kj_iload F dX0_shrinksAt_3 3 rfl ?_
  refine kj_cVip (As := [.long x1, .int x3, .int x4]) (rest := []) F dX0_shrinksAt_5 h (fun o h1 => cx_level (w := w) hb h1) (cwV 3 F.2.2.2.2.1 gX0_shrinksAt_X0_level rfl rfl rfl (by decide +kernel) ⟨Nat.le_of_ble_eq_true rfl, Nat.le_of_ble_eq_true rfl⟩) _ hb rfl rfl rfl rfl (Nat.le_of_ble_eq_true rfl) ⟨Nat.zero_le _, Nat.zero_le _⟩ (fun o1 h => ?_)
  refine kj_istore F dX0_shrinksAt_8 (lv' := [(5, .int o1), (0, .ref b0), (1, .long x1), (3, .int x3), (4, .int x4)]) (by decide) rfl ?_
  refine kj_iload F dX0_shrinksAt_10 0 rfl ?_
  refine kj_aload_n F dX0_shrinksAt_12 1 rfl rfl ?_
  refine kj_lload_n F dX0_shrinksAt_13 2 rfl rfl ?_
  refine kj_iload_n F dX0_shrinksAt_14 3 rfl rfl ?_
  refine kj_iconst F dX0_shrinksAt_15 (v := 1) (by decide) ?_
  refine kj_iadd F dX0_shrinksAt_16 ?_
  refine kj_iload F dX0_shrinksAt_17 4 rfl ?_
  refine kj_cVip (As := [.long x1, .int (x3 + (1 : Int32)), .int x4]) (rest := [.int o1]) F dX0_shrinksAt_19 h (fun o h1 => cx_level (w := w) hb h1) (cwV 3 F.2.2.2.2.1 gX0_shrinksAt_X0_level rfl rfl rfl (by decide +kernel) ⟨Nat.le_of_ble_eq_true rfl, Nat.le_of_ble_eq_true rfl⟩) _ hb rfl rfl rfl rfl (Nat.le_of_ble_eq_true rfl) ⟨Nat.zero_le _, Nat.zero_le _⟩ (fun o2 h => ?_)
  refine kj_icmp_le F dX0_shrinksAt_22 (tgt := 44) (by decide) h (fun hc h => ?_) (fun hc h => ?_)
  · refine kj_iconst F dX0_shrinksAt_44 (v := 0) (by decide) ?_
    exact kj_zret F dX0_shrinksAt_45 (by decide) (kj_pr h)
  · refine kj_iload F dX0_shrinksAt_25 0 rfl ?_
    refine kj_aload_n F dX0_shrinksAt_27 1 rfl rfl ?_
    refine kj_lload_n F dX0_shrinksAt_28 2 rfl rfl ?_
    refine kj_iload_n F dX0_shrinksAt_29 3 rfl rfl ?_
    refine kj_iload F dX0_shrinksAt_30 4 rfl ?_
    refine kj_iconst F dX0_shrinksAt_32 (v := 1) (by decide) ?_
    refine kj_iadd F dX0_shrinksAt_33 ?_
    refine kj_cVip (As := [.long x1, .int x3, .int (x4 + (1 : Int32))]) (rest := [.int o1]) F dX0_shrinksAt_34 h (fun o h1 => cx_level (w := w) hb h1) (cwV 3 F.2.2.2.2.1 gX0_shrinksAt_X0_level rfl rfl rfl (by decide +kernel) ⟨Nat.le_of_ble_eq_true rfl, Nat.le_of_ble_eq_true rfl⟩) _ hb rfl rfl rfl rfl (Nat.le_of_ble_eq_true rfl) ⟨Nat.zero_le _, Nat.zero_le _⟩ (fun o3 h => ?_)
    refine kj_icmp_le F dX0_shrinksAt_37 (tgt := 44) (by decide) h (fun hc h => ?_) (fun hc h => ?_)
    · refine kj_iconst F dX0_shrinksAt_44 (v := 0) (by decide) ?_
      exact kj_zret F dX0_shrinksAt_45 (by decide) (kj_pr h)
    · refine kj_iconst F dX0_shrinksAt_40 (v := 1) (by decide) ?_
      refine kj_goto F dX0_shrinksAt_41 (tgt := 45) (by decide) ?_
      exact kj_zret F dX0_shrinksAt_45 (by decide) (kj_pr h)
theorem cx_shrinksAt {l : Launch} {D : va_G} {tys : List (ClassId × FieldType)} {S : Type} {w : S → va_W} {z : S} {ba bb bc : Int32} {b0 q0 : Nat} (hb : (w z)[q0]? = some (b0, .inr (0, [.int ba, .int bb, .int bc]))) {x1 : Int64} {x3 : Int32} {x4 : Int32} {o : Int32} (h : fx_shrinksAt ba bb bc x1 x3 x4 = some o) : kj_Mi l yX0_shrinksAt wsX0_shrinksAt rm_X0_shrinksAt D tys w z [.ref b0, .long x1, .int x3, .int x4] (o, z) :=
  fun sz => kj_start (by decide) rfl (Nat.le_of_ble_eq_true rfl) rfl fun p e s m args below meth c hsz F => jx_shrinksAt F hb h
/-! X0_changesAt -/
abbrev rm_X0_changesAt : Room := { frames := 2, cells := 0, slots := 0, locals := 49 }
def fx_changesAt (ba bb bc : Int32) (x1 : Int64) (x3 : Int32) (x4 : Int32) (x5 : Int32) : Option Int32 :=
  if x5 = 0 then
  (fx_shrinksAt ba bb bc x1 x3 x4).bind fun o1 =>
  if o1 = 0 ∨ o1 = 1 then some o1 else none
  else
  (fx_growsAt ba bb bc x1 x3 x4).bind fun o2 =>
  if o2 = 0 ∨ o2 = 1 then some o2 else none
set_option maxRecDepth 20000 in
theorem jx_changesAt {p : Program} {l : Launch} {e : Env} {s : State} {m : MethodId} {args : Array Value} {below : List Frame} {meth : Method} {c : Code} {A : Nat → Prop} {D : va_G} {tys : List (ClassId × FieldType)} {S : Type} {w : S → va_W} {z : S} (F : kj_Fx p s m args meth c cX0_changesAt 6 wsX0_changesAt RX0 (some .boolean) D tys A) {ba bb bc : Int32} {b0 q0 : Nat} (hb : (w z)[q0]? = some (b0, .inr (0, [.int ba, .int bb, .int bc]))) {x1 : Int64} {x3 : Int32} {x4 : Int32} {x5 : Int32} {o : Int32} (h : fx_changesAt ba bb bc x1 x3 x4 x5 = some o) : kj_J p l e rm_X0_changesAt s m args below meth c 0 0 (MQ below (kj_Qi D tys A w (o, z)) args s 0 0 A) 6 D A (w z) 0 [(0, .ref b0), (1, .long x1), (3, .int x3), (4, .int x4), (5, .int x5)] [] := by
  unfold fx_changesAt at h
  refine kj_iload F dX0_changesAt_0 4 rfl ?_
  refine kj_if_eq F dX0_changesAt_2 (tgt := 16) (by decide) h (fun hc h => ?_) (fun hc h => ?_)
  · refine kj_aload_n F dX0_changesAt_16 0 rfl rfl ?_
    refine kj_lload_n F dX0_changesAt_17 1 rfl rfl ?_
    refine kj_iload_n F dX0_changesAt_18 2 rfl rfl ?_
    refine kj_iload F dX0_changesAt_19 3 rfl ?_
    refine kj_cVip (As := [.long x1, .int x3, .int x4]) (rest := []) F dX0_changesAt_21 h (fun o h1 => cx_shrinksAt (w := w) hb h1) (cwV 3 F.2.2.2.2.1 gX0_changesAt_X0_shrinksAt rfl rfl rfl (by decide +kernel) ⟨Nat.le_of_ble_eq_true rfl, Nat.le_of_ble_eq_true rfl⟩) _ hb rfl rfl rfl rfl (Nat.le_of_ble_eq_true rfl) ⟨Nat.zero_le _, Nat.zero_le _⟩ (fun o1 h => ?_)
    exact kj_zretB F dX0_changesAt_24 (kj_prB h)
  · refine kj_aload_n F dX0_changesAt_5 0 rfl rfl ?_
    refine kj_lload_n F dX0_changesAt_6 1 rfl rfl ?_
    refine kj_iload_n F dX0_changesAt_7 2 rfl rfl ?_
    refine kj_iload F dX0_changesAt_8 3 rfl ?_
    refine kj_cVip (As := [.long x1, .int x3, .int x4]) (rest := []) F dX0_changesAt_10 h (fun o h1 => cx_growsAt (w := w) hb h1) (cwV 3 F.2.2.2.2.1 gX0_changesAt_X0_growsAt rfl rfl rfl (by decide +kernel) ⟨Nat.le_of_ble_eq_true rfl, Nat.le_of_ble_eq_true rfl⟩) _ hb rfl rfl rfl rfl (Nat.le_of_ble_eq_true rfl) ⟨Nat.zero_le _, Nat.zero_le _⟩ (fun o2 h => ?_)
    refine kj_goto F dX0_changesAt_13 (tgt := 24) (by decide) ?_
    exact kj_zretB F dX0_changesAt_24 (kj_prB h)
theorem cx_changesAt {l : Launch} {D : va_G} {tys : List (ClassId × FieldType)} {S : Type} {w : S → va_W} {z : S} {ba bb bc : Int32} {b0 q0 : Nat} (hb : (w z)[q0]? = some (b0, .inr (0, [.int ba, .int bb, .int bc]))) {x1 : Int64} {x3 : Int32} {x4 : Int32} {x5 : Int32} {o : Int32} (h : fx_changesAt ba bb bc x1 x3 x4 x5 = some o) : kj_Mi l yX0_changesAt wsX0_changesAt rm_X0_changesAt D tys w z [.ref b0, .long x1, .int x3, .int x4, .int x5] (o, z) :=
  fun sz => kj_start (by decide) rfl (Nat.le_of_ble_eq_true rfl) rfl fun p e s m args below meth c hsz F => jx_changesAt F hb h
/-! X0_changingCells -/
abbrev rm_X0_changingCells : Room := { frames := 3, cells := 0, slots := 0, locals := 74 }
theorem in_X0_changingCells : ∀ w ∈ u_ws RX0 TX0 3, w ∈ wsX0_changingCells := by decide +kernel
def fx_changingCells_43 (ba bb bc : Int32) (x1 : Int64) (x3 : Int32) (x4 : Int32) (x5 : Int32) (x6 : Int32) : Option ((Int64 × Int32 × Int32 × Int32 × Int32) ⊕ (Int64 × Int32 × Int32 × Int32)) :=
  some (.inl (x1, x3, x4, x5, (x6 + 1)))
def fx_changingCells_18 (ba bb bc : Int32) (x1 : Int64) (x3 : Int32) (x4 : Int32) (x5 : Int32) (x6 : Int32) : Option ((Int64 × Int32 × Int32 × Int32 × Int32) ⊕ (Int64 × Int32 × Int32 × Int32)) :=
  if bb ≤ x6 then
  some (.inr (x1, x3, x4, x5))
  else
  (fx_changesAt ba bb bc x1 x5 x6 x3).bind fun o1 =>
  if o1 = 0 then
  fx_changingCells_43 ba bb bc x1 x3 x4 x5 x6
  else
  fx_changingCells_43 ba bb bc x1 x3 (x4 + 1) x5 x6
def lx_changingCells_18 (ba bb bc : Int32) (n : Nat) (x1 : Int64) (x3 : Int32) (x4 : Int32) (x5 : Int32) (x6 : Int32) : Option (Int64 × Int32 × Int32 × Int32) :=
  kj_it (fun (s : (Int64 × Int32 × Int32 × Int32 × Int32)) => fx_changingCells_18 ba bb bc (s.1) (s.2.1) (s.2.2.1) (s.2.2.2.1) (s.2.2.2.2)) n (x1, x3, x4, x5, x6)
def fx_changingCells_6 (ba bb bc : Int32) (x1 : Int64) (x3 : Int32) (x4 : Int32) (x5 : Int32) : Option ((Int64 × Int32 × Int32 × Int32) ⊕ Int32) :=
  if ba ≤ x5 then
  some (.inr x4)
  else
  (lx_changingCells_18 ba bb bc 5000 x1 x3 x4 x5 (0 : Int32)).bind fun r1 =>
  some (.inl ((r1.1), (r1.2.1), (r1.2.2.1), ((r1.2.2.2) + 1)))
def lx_changingCells_6 (ba bb bc : Int32) (n : Nat) (x1 : Int64) (x3 : Int32) (x4 : Int32) (x5 : Int32) : Option Int32 :=
  kj_it (fun (s : (Int64 × Int32 × Int32 × Int32)) => fx_changingCells_6 ba bb bc (s.1) (s.2.1) (s.2.2.1) (s.2.2.2)) n (x1, x3, x4, x5)
def fx_changingCells (ba bb bc : Int32) (x1 : Int64) (x3 : Int32) : Option Int32 :=
  (lx_changingCells_6 ba bb bc 5000 x1 x3 (0 : Int32) (0 : Int32)).bind fun r1 =>
  some (r1)
set_option maxRecDepth 20000 in
theorem jx_changingCells_43 {p : Program} {l : Launch} {e : Env} {s : State} {m : MethodId} {args : Array Value} {below : List Frame} {meth : Method} {c : Code} {A : Nat → Prop} {D : va_G} {tys : List (ClassId × FieldType)} {S : Type} {w : S → va_W} {z : S} {Q : State → Prop} (F : kj_Fx p s m args meth c cX0_changingCells 7 wsX0_changingCells RX0 (some .int) D tys A) {ba bb bc : Int32} {b0 q0 : Nat} (hb : (w z)[q0]? = some (b0, .inr (0, [.int ba, .int bb, .int bc]))) {x1 : Int64} {x3 : Int32} {x4 : Int32} {x5 : Int32} {x6 : Int32} {o : ((Int64 × Int32 × Int32 × Int32 × Int32) ⊕ (Int64 × Int32 × Int32 × Int32))} (h : fx_changingCells_43 ba bb bc x1 x3 x4 x5 x6 = some o) (kb : ∀ (a0' : Int64) (a1' : Int32) (a2' : Int32) (a3' : Int32) (a4' : Int32), o = .inl (a0', a1', a2', a3', a4') → kj_J p l e rm_X0_changingCells s m args below meth c 0 0 Q 7 D A (w z) 18 [(0, .ref b0), (1, .long a0'), (3, .int a1'), (4, .int a2'), (5, .int a3'), (6, .int a4')] []) (ke0 : ∀ (a0' : Int64) (a1' : Int32) (a2' : Int32) (a3' : Int32), o = .inr (a0', a1', a2', a3') → kj_J p l e rm_X0_changingCells s m args below meth c 0 0 Q 7 D A (w z) 49 [(0, .ref b0), (1, .long a0'), (3, .int a1'), (4, .int a2'), (5, .int a3')] []) : kj_J p l e rm_X0_changingCells s m args below meth c 0 0 Q 7 D A (w z) 43 [(0, .ref b0), (1, .long x1), (3, .int x3), (4, .int x4), (5, .int x5), (6, .int x6)] [] := by
  unfold fx_changingCells_43 at h
  refine kj_iinc F dX0_changingCells_43 5 rfl (v := 1) (by decide) (by decide) (lv' := [(6, .int (x6 + 1)), (0, .ref b0), (1, .long x1), (3, .int x3), (4, .int x4), (5, .int x5)]) rfl ?_
  refine kj_goto F dX0_changingCells_46 (tgt := 18) (by decide) ?_
  refine kj_J.sub [1, 2, 3, 4, 5, 0] rfl ?_
  exact kb x1 x3 x4 x5 (x6 + 1) (Option.some.inj h).symm
set_option maxRecDepth 20000 in
theorem jx_changingCells_18 {p : Program} {l : Launch} {e : Env} {s : State} {m : MethodId} {args : Array Value} {below : List Frame} {meth : Method} {c : Code} {A : Nat → Prop} {D : va_G} {tys : List (ClassId × FieldType)} {S : Type} {w : S → va_W} {z : S} {Q : State → Prop} (F : kj_Fx p s m args meth c cX0_changingCells 7 wsX0_changingCells RX0 (some .int) D tys A) {ba bb bc : Int32} {b0 q0 : Nat} (hb : (w z)[q0]? = some (b0, .inr (0, [.int ba, .int bb, .int bc]))) {x1 : Int64} {x3 : Int32} {x4 : Int32} {x5 : Int32} {x6 : Int32} {o : ((Int64 × Int32 × Int32 × Int32 × Int32) ⊕ (Int64 × Int32 × Int32 × Int32))} (h : fx_changingCells_18 ba bb bc x1 x3 x4 x5 x6 = some o) (kb : ∀ (a0' : Int64) (a1' : Int32) (a2' : Int32) (a3' : Int32) (a4' : Int32), o = .inl (a0', a1', a2', a3', a4') → kj_J p l e rm_X0_changingCells s m args below meth c 0 0 Q 7 D A (w z) 18 [(0, .ref b0), (1, .long a0'), (3, .int a1'), (4, .int a2'), (5, .int a3'), (6, .int a4')] []) (ke0 : ∀ (a0' : Int64) (a1' : Int32) (a2' : Int32) (a3' : Int32), o = .inr (a0', a1', a2', a3') → kj_J p l e rm_X0_changingCells s m args below meth c 0 0 Q 7 D A (w z) 49 [(0, .ref b0), (1, .long a0'), (3, .int a1'), (4, .int a2'), (5, .int a3')] []) : kj_J p l e rm_X0_changingCells s m args below meth c 0 0 Q 7 D A (w z) 18 [(0, .ref b0), (1, .long x1), (3, .int x3), (4, .int x4), (5, .int x5), (6, .int x6)] [] := by
  unfold fx_changingCells_18 at h
  refine kj_iload F dX0_changingCells_18 5 rfl ?_
  refine kj_aload_n F dX0_changingCells_20 0 rfl rfl ?_
  refine kj_get F dX0_changingCells_21 in_X0_changingCells _ hb rfl 1 (by decide) (by decide +kernel) rfl rfl ?_
  refine kj_icmp_ge F dX0_changingCells_24 (tgt := 49) (by decide) h (fun hc h => ?_) (fun hc h => ?_)
  · refine kj_J.sub [0, 1, 2, 3, 4] rfl ?_
    exact ke0 x1 x3 x4 x5 (Option.some.inj h).symm
  · refine kj_aload_n F dX0_changingCells_27 0 rfl rfl ?_
    refine kj_lload_n F dX0_changingCells_28 1 rfl rfl ?_
    refine kj_iload F dX0_changingCells_29 4 rfl ?_
    refine kj_iload F dX0_changingCells_31 5 rfl ?_
    refine kj_iload_n F dX0_changingCells_33 2 rfl rfl ?_
    refine kj_cVip (As := [.long x1, .int x5, .int x6, .int x3]) (rest := []) F dX0_changingCells_34 h (fun o h1 => cx_changesAt (w := w) hb h1) (cwV 4 F.2.2.2.2.1 gX0_changingCells_X0_changesAt rfl rfl rfl (by decide +kernel) ⟨Nat.le_of_ble_eq_true rfl, Nat.le_of_ble_eq_true rfl⟩) _ hb rfl rfl rfl rfl (Nat.le_of_ble_eq_true rfl) ⟨Nat.zero_le _, Nat.zero_le _⟩ (fun o1 h => ?_)
    refine kj_if_eq F dX0_changingCells_37 (tgt := 43) (by decide) h (fun hc h => ?_) (fun hc h => ?_)
    · exact jx_changingCells_43 F hb h kb ke0
    · refine kj_iinc F dX0_changingCells_40 3 rfl (v := 1) (by decide) (by decide) (lv' := [(4, .int (x4 + 1)), (0, .ref b0), (1, .long x1), (3, .int x3), (5, .int x5), (6, .int x6)]) rfl ?_
      refine kj_J.sub [1, 2, 3, 0, 4, 5] rfl ?_
      exact jx_changingCells_43 F hb h kb ke0
theorem jlx_changingCells_18 {p : Program} {l : Launch} {e : Env} {s : State} {m : MethodId} {args : Array Value} {below : List Frame} {meth : Method} {c : Code} {A : Nat → Prop} {D : va_G} {tys : List (ClassId × FieldType)} {S : Type} {w : S → va_W} {z : S} {Q : State → Prop} (F : kj_Fx p s m args meth c cX0_changingCells 7 wsX0_changingCells RX0 (some .int) D tys A) {ba bb bc : Int32} {b0 q0 : Nat} (hb : (w z)[q0]? = some (b0, .inr (0, [.int ba, .int bb, .int bc]))) {n : Nat} {x1 : Int64} {x3 : Int32} {x4 : Int32} {x5 : Int32} {x6 : Int32} {r : (Int64 × Int32 × Int32 × Int32)} (h : lx_changingCells_18 ba bb bc n x1 x3 x4 x5 x6 = some r) (ke : kj_J p l e rm_X0_changingCells s m args below meth c 0 0 Q 7 D A (w z) 49 [(0, .ref b0), (1, .long (r.1)), (3, .int (r.2.1)), (4, .int (r.2.2.1)), (5, .int (r.2.2.2))] []) : kj_J p l e rm_X0_changingCells s m args below meth c 0 0 Q 7 D A (w z) 18 [(0, .ref b0), (1, .long x1), (3, .int x3), (4, .int x4), (5, .int x5), (6, .int x6)] [] :=
  kj_it_J (Wh := fun (u : (Int64 × Int32 × Int32 × Int32 × Int32)) => kj_J p l e rm_X0_changingCells s m args below meth c 0 0 Q 7 D A (w z) 18 [(0, .ref b0), (1, .long (u.1)), (3, .int (u.2.1)), (4, .int (u.2.2.1)), (5, .int (u.2.2.2.1)), (6, .int (u.2.2.2.2))] []) (We := fun r => kj_J p l e rm_X0_changingCells s m args below meth c 0 0 Q 7 D A (w z) 49 [(0, .ref b0), (1, .long (r.1)), (3, .int (r.2.1)), (4, .int (r.2.2.1)), (5, .int (r.2.2.2))] []) (fun u o h kb ke => jx_changingCells_18 F hb h (fun a0' a1' a2' a3' a4' e => kb (a0', a1', a2', a3', a4') e) (fun a0' a1' a2' a3' e => ke (a0', a1', a2', a3') e)) n (x1, x3, x4, x5, x6) r h ke
set_option maxRecDepth 20000 in
theorem jx_changingCells_6 {p : Program} {l : Launch} {e : Env} {s : State} {m : MethodId} {args : Array Value} {below : List Frame} {meth : Method} {c : Code} {A : Nat → Prop} {D : va_G} {tys : List (ClassId × FieldType)} {S : Type} {w : S → va_W} {z : S} {Q : State → Prop} (F : kj_Fx p s m args meth c cX0_changingCells 7 wsX0_changingCells RX0 (some .int) D tys A) {ba bb bc : Int32} {b0 q0 : Nat} (hb : (w z)[q0]? = some (b0, .inr (0, [.int ba, .int bb, .int bc]))) {x1 : Int64} {x3 : Int32} {x4 : Int32} {x5 : Int32} {o : ((Int64 × Int32 × Int32 × Int32) ⊕ Int32)} (h : fx_changingCells_6 ba bb bc x1 x3 x4 x5 = some o) (kb : ∀ (a0' : Int64) (a1' : Int32) (a2' : Int32) (a3' : Int32), o = .inl (a0', a1', a2', a3') → kj_J p l e rm_X0_changingCells s m args below meth c 0 0 Q 7 D A (w z) 6 [(0, .ref b0), (1, .long a0'), (3, .int a1'), (4, .int a2'), (5, .int a3')] []) (ke0 : ∀ (a0' : Int32), o = .inr a0' → kj_J p l e rm_X0_changingCells s m args below meth c 0 0 Q 7 D A (w z) 55 [(4, .int a0')] []) : kj_J p l e rm_X0_changingCells s m args below meth c 0 0 Q 7 D A (w z) 6 [(0, .ref b0), (1, .long x1), (3, .int x3), (4, .int x4), (5, .int x5)] [] := by
  unfold fx_changingCells_6 at h
  refine kj_iload F dX0_changingCells_6 4 rfl ?_
  refine kj_aload_n F dX0_changingCells_8 0 rfl rfl ?_
  refine kj_get F dX0_changingCells_9 in_X0_changingCells _ hb rfl 0 (by decide) (by decide +kernel) rfl rfl ?_
  refine kj_icmp_ge F dX0_changingCells_12 (tgt := 55) (by decide) h (fun hc h => ?_) (fun hc h => ?_)
  · refine kj_J.sub [3] rfl ?_
    exact ke0 x4 (Option.some.inj h).symm
  · refine kj_iconst F dX0_changingCells_15 (v := 0) (by decide) ?_
    refine kj_istore F dX0_changingCells_16 (lv' := [(6, .int (0 : Int32)), (0, .ref b0), (1, .long x1), (3, .int x3), (4, .int x4), (5, .int x5)]) (by decide) rfl ?_
    refine kj_J.sub [1, 2, 3, 4, 5, 0] rfl ?_
    refine kj_bn h (fun r1 h1 h => ?_)
    refine jlx_changingCells_18 F hb h1 ?_
    refine kj_iinc F dX0_changingCells_49 4 rfl (v := 1) (by decide) (by decide) (lv' := [(5, .int ((r1.2.2.2) + 1)), (0, .ref b0), (1, .long (r1.1)), (3, .int (r1.2.1)), (4, .int (r1.2.2.1))]) rfl ?_
    refine kj_goto F dX0_changingCells_52 (tgt := 6) (by decide) ?_
    refine kj_J.sub [1, 2, 3, 4, 0] rfl ?_
    exact kb (r1.1) (r1.2.1) (r1.2.2.1) ((r1.2.2.2) + 1) (Option.some.inj h).symm
theorem jlx_changingCells_6 {p : Program} {l : Launch} {e : Env} {s : State} {m : MethodId} {args : Array Value} {below : List Frame} {meth : Method} {c : Code} {A : Nat → Prop} {D : va_G} {tys : List (ClassId × FieldType)} {S : Type} {w : S → va_W} {z : S} {Q : State → Prop} (F : kj_Fx p s m args meth c cX0_changingCells 7 wsX0_changingCells RX0 (some .int) D tys A) {ba bb bc : Int32} {b0 q0 : Nat} (hb : (w z)[q0]? = some (b0, .inr (0, [.int ba, .int bb, .int bc]))) {n : Nat} {x1 : Int64} {x3 : Int32} {x4 : Int32} {x5 : Int32} {r : Int32} (h : lx_changingCells_6 ba bb bc n x1 x3 x4 x5 = some r) (ke : kj_J p l e rm_X0_changingCells s m args below meth c 0 0 Q 7 D A (w z) 55 [(4, .int (r))] []) : kj_J p l e rm_X0_changingCells s m args below meth c 0 0 Q 7 D A (w z) 6 [(0, .ref b0), (1, .long x1), (3, .int x3), (4, .int x4), (5, .int x5)] [] :=
  kj_it_J (Wh := fun (u : (Int64 × Int32 × Int32 × Int32)) => kj_J p l e rm_X0_changingCells s m args below meth c 0 0 Q 7 D A (w z) 6 [(0, .ref b0), (1, .long (u.1)), (3, .int (u.2.1)), (4, .int (u.2.2.1)), (5, .int (u.2.2.2))] []) (We := fun r => kj_J p l e rm_X0_changingCells s m args below meth c 0 0 Q 7 D A (w z) 55 [(4, .int (r))] []) (fun u o h kb ke => jx_changingCells_6 F hb h (fun a0' a1' a2' a3' e => kb (a0', a1', a2', a3') e) (fun a0' e => ke a0' e)) n (x1, x3, x4, x5) r h ke
set_option maxRecDepth 20000 in
theorem jx_changingCells {p : Program} {l : Launch} {e : Env} {s : State} {m : MethodId} {args : Array Value} {below : List Frame} {meth : Method} {c : Code} {A : Nat → Prop} {D : va_G} {tys : List (ClassId × FieldType)} {S : Type} {w : S → va_W} {z : S} (F : kj_Fx p s m args meth c cX0_changingCells 7 wsX0_changingCells RX0 (some .int) D tys A) {ba bb bc : Int32} {b0 q0 : Nat} (hb : (w z)[q0]? = some (b0, .inr (0, [.int ba, .int bb, .int bc]))) {x1 : Int64} {x3 : Int32} {o : Int32} (h : fx_changingCells ba bb bc x1 x3 = some o) : kj_J p l e rm_X0_changingCells s m args below meth c 0 0 (MQ below (kj_Qi D tys A w (o, z)) args s 0 0 A) 7 D A (w z) 0 [(0, .ref b0), (1, .long x1), (3, .int x3)] [] := by
  unfold fx_changingCells at h
  refine kj_iconst F dX0_changingCells_0 (v := 0) (by decide) ?_
  refine kj_istore F dX0_changingCells_1 (lv' := [(4, .int (0 : Int32)), (0, .ref b0), (1, .long x1), (3, .int x3)]) (by decide) rfl ?_
  refine kj_iconst F dX0_changingCells_3 (v := 0) (by decide) ?_
  refine kj_istore F dX0_changingCells_4 (lv' := [(5, .int (0 : Int32)), (4, .int (0 : Int32)), (0, .ref b0), (1, .long x1), (3, .int x3)]) (by decide) rfl ?_
  refine kj_J.sub [2, 3, 4, 1, 0] rfl ?_
  refine kj_bn h (fun r1 h1 h => ?_)
  refine jlx_changingCells_6 F hb h1 ?_
  refine kj_iload F dX0_changingCells_55 0 rfl ?_
  exact kj_iret F dX0_changingCells_57 (kj_pr h)
theorem cx_changingCells {l : Launch} {D : va_G} {tys : List (ClassId × FieldType)} {S : Type} {w : S → va_W} {z : S} {ba bb bc : Int32} {b0 q0 : Nat} (hb : (w z)[q0]? = some (b0, .inr (0, [.int ba, .int bb, .int bc]))) {x1 : Int64} {x3 : Int32} {o : Int32} (h : fx_changingCells ba bb bc x1 x3 = some o) : kj_Mi l yX0_changingCells wsX0_changingCells rm_X0_changingCells D tys w z [.ref b0, .long x1, .int x3] (o, z) :=
  fun sz => kj_start (by decide) rfl (Nat.le_of_ble_eq_true rfl) rfl fun p e s m args below meth c hsz F => jx_changingCells F hb h
/-! X0_trace -/
abbrev rm_X0_trace : Room := { frames := 1, cells := 0, slots := 0, locals := 24 }
theorem in_X0_trace : ∀ w ∈ u_ws RX0 TX0 3, w ∈ wsX0_trace := by decide +kernel
def fx_trace_5 (ba bb bc : Int32) (x1 : Int64) (x3 : Int32) (x4 : Int32) : Option ((Int64 × Int32 × Int32) ⊕ Int32) :=
  if ba ≤ x4 then
  some (.inr x3)
  else
  if bb ≤ x4 then
  some (.inr x3)
  else
  (fx_level ba bb bc x1 x4 x4).bind fun o1 =>
  some (.inl (x1, (x3 + o1), (x4 + 1)))
def lx_trace_5 (ba bb bc : Int32) (n : Nat) (x1 : Int64) (x3 : Int32) (x4 : Int32) : Option Int32 :=
  kj_it (fun (s : (Int64 × Int32 × Int32)) => fx_trace_5 ba bb bc (s.1) (s.2.1) (s.2.2)) n (x1, x3, x4)
def fx_trace (ba bb bc : Int32) (x1 : Int64) : Option Int32 :=
  (lx_trace_5 ba bb bc 5000 x1 (0 : Int32) (0 : Int32)).bind fun r1 =>
  some (r1)
set_option maxRecDepth 20000 in
theorem jx_trace_5 {p : Program} {l : Launch} {e : Env} {s : State} {m : MethodId} {args : Array Value} {below : List Frame} {meth : Method} {c : Code} {A : Nat → Prop} {D : va_G} {tys : List (ClassId × FieldType)} {S : Type} {w : S → va_W} {z : S} {Q : State → Prop} (F : kj_Fx p s m args meth c cX0_trace 5 wsX0_trace RX0 (some .int) D tys A) {ba bb bc : Int32} {b0 q0 : Nat} (hb : (w z)[q0]? = some (b0, .inr (0, [.int ba, .int bb, .int bc]))) {x1 : Int64} {x3 : Int32} {x4 : Int32} {o : ((Int64 × Int32 × Int32) ⊕ Int32)} (h : fx_trace_5 ba bb bc x1 x3 x4 = some o) (kb : ∀ (a0' : Int64) (a1' : Int32) (a2' : Int32), o = .inl (a0', a1', a2') → kj_J p l e rm_X0_trace s m args below meth c 0 0 Q 5 D A (w z) 5 [(0, .ref b0), (1, .long a0'), (3, .int a1'), (4, .int a2')] []) (ke0 : ∀ (a0' : Int32), o = .inr a0' → kj_J p l e rm_X0_trace s m args below meth c 0 0 Q 5 D A (w z) 41 [(3, .int a0')] []) : kj_J p l e rm_X0_trace s m args below meth c 0 0 Q 5 D A (w z) 5 [(0, .ref b0), (1, .long x1), (3, .int x3), (4, .int x4)] [] := by
  unfold fx_trace_5 at h
  refine kj_iload F dX0_trace_5 3 rfl ?_
  refine kj_aload_n F dX0_trace_7 0 rfl rfl ?_
  refine kj_get F dX0_trace_8 in_X0_trace _ hb rfl 0 (by decide) (by decide +kernel) rfl rfl ?_
  refine kj_icmp_ge F dX0_trace_11 (tgt := 41) (by decide) h (fun hc h => ?_) (fun hc h => ?_)
  · refine kj_J.sub [2] rfl ?_
    exact ke0 x3 (Option.some.inj h).symm
  · refine kj_iload F dX0_trace_14 3 rfl ?_
    refine kj_aload_n F dX0_trace_16 0 rfl rfl ?_
    refine kj_get F dX0_trace_17 in_X0_trace _ hb rfl 1 (by decide) (by decide +kernel) rfl rfl ?_
    refine kj_icmp_ge F dX0_trace_20 (tgt := 41) (by decide) h (fun hc h => ?_) (fun hc h => ?_)
    · refine kj_J.sub [2] rfl ?_
      exact ke0 x3 (Option.some.inj h).symm
    · refine kj_iload_n F dX0_trace_23 2 rfl rfl ?_
      refine kj_aload_n F dX0_trace_24 0 rfl rfl ?_
      refine kj_lload_n F dX0_trace_25 1 rfl rfl ?_
      refine kj_iload F dX0_trace_26 3 rfl ?_
      refine kj_iload F dX0_trace_28 3 rfl ?_
      refine kj_cVip (As := [.long x1, .int x4, .int x4]) (rest := [.int x3]) F dX0_trace_30 h (fun o h1 => cx_level (w := w) hb h1) (cwV 3 F.2.2.2.2.1 gX0_trace_X0_level rfl rfl rfl (by decide +kernel) ⟨Nat.le_of_ble_eq_true rfl, Nat.le_of_ble_eq_true rfl⟩) _ hb rfl rfl rfl rfl (Nat.le_of_ble_eq_true rfl) ⟨Nat.zero_le _, Nat.zero_le _⟩ (fun o1 h => ?_)
      refine kj_iadd F dX0_trace_33 ?_
      refine kj_istore_n F dX0_trace_34 (lv' := [(3, .int (x3 + o1)), (0, .ref b0), (1, .long x1), (4, .int x4)]) rfl (by decide) rfl ?_
      refine kj_iinc F dX0_trace_35 3 rfl (v := 1) (by decide) (by decide) (lv' := [(4, .int (x4 + 1)), (3, .int (x3 + o1)), (0, .ref b0), (1, .long x1)]) rfl ?_
      refine kj_goto F dX0_trace_38 (tgt := 5) (by decide) ?_
      refine kj_J.sub [2, 3, 1, 0] rfl ?_
      exact kb x1 (x3 + o1) (x4 + 1) (Option.some.inj h).symm
theorem jlx_trace_5 {p : Program} {l : Launch} {e : Env} {s : State} {m : MethodId} {args : Array Value} {below : List Frame} {meth : Method} {c : Code} {A : Nat → Prop} {D : va_G} {tys : List (ClassId × FieldType)} {S : Type} {w : S → va_W} {z : S} {Q : State → Prop} (F : kj_Fx p s m args meth c cX0_trace 5 wsX0_trace RX0 (some .int) D tys A) {ba bb bc : Int32} {b0 q0 : Nat} (hb : (w z)[q0]? = some (b0, .inr (0, [.int ba, .int bb, .int bc]))) {n : Nat} {x1 : Int64} {x3 : Int32} {x4 : Int32} {r : Int32} (h : lx_trace_5 ba bb bc n x1 x3 x4 = some r) (ke : kj_J p l e rm_X0_trace s m args below meth c 0 0 Q 5 D A (w z) 41 [(3, .int (r))] []) : kj_J p l e rm_X0_trace s m args below meth c 0 0 Q 5 D A (w z) 5 [(0, .ref b0), (1, .long x1), (3, .int x3), (4, .int x4)] [] :=
  kj_it_J (Wh := fun (u : (Int64 × Int32 × Int32)) => kj_J p l e rm_X0_trace s m args below meth c 0 0 Q 5 D A (w z) 5 [(0, .ref b0), (1, .long (u.1)), (3, .int (u.2.1)), (4, .int (u.2.2))] []) (We := fun r => kj_J p l e rm_X0_trace s m args below meth c 0 0 Q 5 D A (w z) 41 [(3, .int (r))] []) (fun u o h kb ke => jx_trace_5 F hb h (fun a0' a1' a2' e => kb (a0', a1', a2') e) (fun a0' e => ke a0' e)) n (x1, x3, x4) r h ke
set_option maxRecDepth 20000 in
theorem jx_trace {p : Program} {l : Launch} {e : Env} {s : State} {m : MethodId} {args : Array Value} {below : List Frame} {meth : Method} {c : Code} {A : Nat → Prop} {D : va_G} {tys : List (ClassId × FieldType)} {S : Type} {w : S → va_W} {z : S} (F : kj_Fx p s m args meth c cX0_trace 5 wsX0_trace RX0 (some .int) D tys A) {ba bb bc : Int32} {b0 q0 : Nat} (hb : (w z)[q0]? = some (b0, .inr (0, [.int ba, .int bb, .int bc]))) {x1 : Int64} {o : Int32} (h : fx_trace ba bb bc x1 = some o) : kj_J p l e rm_X0_trace s m args below meth c 0 0 (MQ below (kj_Qi D tys A w (o, z)) args s 0 0 A) 5 D A (w z) 0 [(0, .ref b0), (1, .long x1)] [] := by
  unfold fx_trace at h
  refine kj_iconst F dX0_trace_0 (v := 0) (by decide) ?_
  refine kj_istore_n F dX0_trace_1 (lv' := [(3, .int (0 : Int32)), (0, .ref b0), (1, .long x1)]) rfl (by decide) rfl ?_
  refine kj_iconst F dX0_trace_2 (v := 0) (by decide) ?_
  refine kj_istore F dX0_trace_3 (lv' := [(4, .int (0 : Int32)), (3, .int (0 : Int32)), (0, .ref b0), (1, .long x1)]) (by decide) rfl ?_
  refine kj_J.sub [2, 3, 1, 0] rfl ?_
  refine kj_bn h (fun r1 h1 h => ?_)
  refine jlx_trace_5 F hb h1 ?_
  refine kj_iload_n F dX0_trace_41 0 rfl rfl ?_
  exact kj_iret F dX0_trace_42 (kj_pr h)
theorem cx_trace {l : Launch} {D : va_G} {tys : List (ClassId × FieldType)} {S : Type} {w : S → va_W} {z : S} {ba bb bc : Int32} {b0 q0 : Nat} (hb : (w z)[q0]? = some (b0, .inr (0, [.int ba, .int bb, .int bc]))) {x1 : Int64} {o : Int32} (h : fx_trace ba bb bc x1 = some o) : kj_Mi l yX0_trace wsX0_trace rm_X0_trace D tys w z [.ref b0, .long x1] (o, z) :=
  fun sz => kj_start (by decide) rfl (Nat.le_of_ble_eq_true rfl) rfl fun p e s m args below meth c hsz F => jx_trace F hb h
/-! X0_following -/
abbrev rm_X0_following : Room := { frames := 2, cells := 0, slots := 0, locals := 49 }
theorem in_X0_following : ∀ w ∈ u_ws RX0 TX0 3, w ∈ wsX0_following := by decide +kernel
def fx_following_19 (ba bb bc : Int32) (x1 : Int64) (x3 : Int32) (x4 : Int32) : Option ((Int64 × Int32 × Int32) ⊕ ((Int64 × Int32 × Int32) ⊕ (Int64 × Int32))) :=
  if x4 < 0 then
  some (.inr (.inr (x1, x3)))
  else
  (fx_growsAt ba bb bc x1 x3 x4).bind fun o1 =>
  if o1 = 0 then
  some (.inl (x1, x3, (x4 + (-1))))
  else
  some (.inr (.inl (x1, x3, x4)))
def lx_following_19 (ba bb bc : Int32) (n : Nat) (x1 : Int64) (x3 : Int32) (x4 : Int32) : Option ((Int64 × Int32 × Int32) ⊕ (Int64 × Int32)) :=
  kj_it (fun (s : (Int64 × Int32 × Int32)) => fx_following_19 ba bb bc (s.1) (s.2.1) (s.2.2)) n (x1, x3, x4)
def fx_following_7 (ba bb bc : Int32) (x1 : Int64) (x3 : Int32) : Option ((Int64 × Int32) ⊕ ((Int64 × Int32 × Int32) ⊕ Int64)) :=
  if x3 < 0 then
  some (.inr (.inr x1))
  else
  (lx_following_19 ba bb bc 5000 x1 x3 (bb - (1 : Int32))).bind fun r1 => kj_se r1 (fun a2 => some (.inr (.inl ((a2.1), (a2.2.1), (a2.2.2))))) (fun b3 => some (.inl ((b3.1), ((b3.2) + (-1)))))
def lx_following_7 (ba bb bc : Int32) (n : Nat) (x1 : Int64) (x3 : Int32) : Option ((Int64 × Int32 × Int32) ⊕ Int64) :=
  kj_it (fun (s : (Int64 × Int32)) => fx_following_7 ba bb bc (s.1) (s.2)) n (x1, x3)
def fx_following (ba bb bc : Int32) (x1 : Int64) : Option Int64 :=
  (lx_following_7 ba bb bc 5000 x1 (ba - (1 : Int32))).bind fun r1 => kj_se r1 (fun a2 => (fx_cube (a2.2.1) (a2.2.2)).bind fun o4 =>
  some (((a2.1) &&& (-o4)) + o4)) (fun b3 => some (b3))
set_option maxRecDepth 20000 in
theorem jx_following_19 {p : Program} {l : Launch} {e : Env} {s : State} {m : MethodId} {args : Array Value} {below : List Frame} {meth : Method} {c : Code} {A : Nat → Prop} {D : va_G} {tys : List (ClassId × FieldType)} {S : Type} {w : S → va_W} {z : S} {Q : State → Prop} (F : kj_Fx p s m args meth c cX0_following 7 wsX0_following RX0 (some .long) D tys A) {ba bb bc : Int32} {b0 q0 : Nat} (hb : (w z)[q0]? = some (b0, .inr (0, [.int ba, .int bb, .int bc]))) {x1 : Int64} {x3 : Int32} {x4 : Int32} {o : ((Int64 × Int32 × Int32) ⊕ ((Int64 × Int32 × Int32) ⊕ (Int64 × Int32)))} (h : fx_following_19 ba bb bc x1 x3 x4 = some o) (kb : ∀ (a0' : Int64) (a1' : Int32) (a2' : Int32), o = .inl (a0', a1', a2') → kj_J p l e rm_X0_following s m args below meth c 0 0 Q 7 D A (w z) 19 [(0, .ref b0), (1, .long a0'), (3, .int a1'), (4, .int a2')] []) (ke0 : ∀ (a0' : Int64) (a1' : Int32) (a2' : Int32), o = .inr (.inl (a0', a1', a2')) → kj_J p l e rm_X0_following s m args below meth c 0 0 Q 7 D A (w z) 35 [(1, .long a0'), (3, .int a1'), (4, .int a2')] []) (ke1 : ∀ (a0' : Int64) (a1' : Int32), o = .inr (.inr (a0', a1')) → kj_J p l e rm_X0_following s m args below meth c 0 0 Q 7 D A (w z) 58 [(0, .ref b0), (1, .long a0'), (3, .int a1')] []) : kj_J p l e rm_X0_following s m args below meth c 0 0 Q 7 D A (w z) 19 [(0, .ref b0), (1, .long x1), (3, .int x3), (4, .int x4)] [] := by
  unfold fx_following_19 at h
  refine kj_iload F dX0_following_19 3 rfl ?_
  refine kj_if_lt F dX0_following_21 (tgt := 58) (by decide) h (fun hc h => ?_) (fun hc h => ?_)
  · refine kj_J.sub [0, 1, 2] rfl ?_
    exact ke1 x1 x3 (Option.some.inj h).symm
  · refine kj_aload_n F dX0_following_24 0 rfl rfl ?_
    refine kj_lload_n F dX0_following_25 1 rfl rfl ?_
    refine kj_iload_n F dX0_following_26 2 rfl rfl ?_
    refine kj_iload F dX0_following_27 3 rfl ?_
    refine kj_cVip (As := [.long x1, .int x3, .int x4]) (rest := []) F dX0_following_29 h (fun o h1 => cx_growsAt (w := w) hb h1) (cwV 3 F.2.2.2.2.1 gX0_following_X0_growsAt rfl rfl rfl (by decide +kernel) ⟨Nat.le_of_ble_eq_true rfl, Nat.le_of_ble_eq_true rfl⟩) _ hb rfl rfl rfl rfl (Nat.le_of_ble_eq_true rfl) ⟨Nat.zero_le _, Nat.zero_le _⟩ (fun o1 h => ?_)
    refine kj_if_eq F dX0_following_32 (tgt := 52) (by decide) h (fun hc h => ?_) (fun hc h => ?_)
    · refine kj_iinc F dX0_following_52 3 rfl (v := (-1)) (by decide) (by decide) (lv' := [(4, .int (x4 + (-1))), (0, .ref b0), (1, .long x1), (3, .int x3)]) rfl ?_
      refine kj_goto F dX0_following_55 (tgt := 19) (by decide) ?_
      refine kj_J.sub [1, 2, 3, 0] rfl ?_
      exact kb x1 x3 (x4 + (-1)) (Option.some.inj h).symm
    · refine kj_J.sub [1, 2, 3] rfl ?_
      exact ke0 x1 x3 x4 (Option.some.inj h).symm
theorem jlx_following_19 {p : Program} {l : Launch} {e : Env} {s : State} {m : MethodId} {args : Array Value} {below : List Frame} {meth : Method} {c : Code} {A : Nat → Prop} {D : va_G} {tys : List (ClassId × FieldType)} {S : Type} {w : S → va_W} {z : S} {Q : State → Prop} (F : kj_Fx p s m args meth c cX0_following 7 wsX0_following RX0 (some .long) D tys A) {ba bb bc : Int32} {b0 q0 : Nat} (hb : (w z)[q0]? = some (b0, .inr (0, [.int ba, .int bb, .int bc]))) {n : Nat} {x1 : Int64} {x3 : Int32} {x4 : Int32} {r : ((Int64 × Int32 × Int32) ⊕ (Int64 × Int32))} (h : lx_following_19 ba bb bc n x1 x3 x4 = some r) (ke : (∀ a, r = (.inl a) → kj_J p l e rm_X0_following s m args below meth c 0 0 Q 7 D A (w z) 35 [(1, .long (a.1)), (3, .int (a.2.1)), (4, .int (a.2.2))] []) ∧ (∀ a, r = (.inr a) → kj_J p l e rm_X0_following s m args below meth c 0 0 Q 7 D A (w z) 58 [(0, .ref b0), (1, .long (a.1)), (3, .int (a.2))] [])) : kj_J p l e rm_X0_following s m args below meth c 0 0 Q 7 D A (w z) 19 [(0, .ref b0), (1, .long x1), (3, .int x3), (4, .int x4)] [] :=
  kj_it_J (Wh := fun (u : (Int64 × Int32 × Int32)) => kj_J p l e rm_X0_following s m args below meth c 0 0 Q 7 D A (w z) 19 [(0, .ref b0), (1, .long (u.1)), (3, .int (u.2.1)), (4, .int (u.2.2))] []) (We := fun r => (∀ a, r = (.inl a) → kj_J p l e rm_X0_following s m args below meth c 0 0 Q 7 D A (w z) 35 [(1, .long (a.1)), (3, .int (a.2.1)), (4, .int (a.2.2))] []) ∧ (∀ a, r = (.inr a) → kj_J p l e rm_X0_following s m args below meth c 0 0 Q 7 D A (w z) 58 [(0, .ref b0), (1, .long (a.1)), (3, .int (a.2))] [])) (fun u o h kb ke => jx_following_19 F hb h (fun a0' a1' a2' e => kb (a0', a1', a2') e) (fun a0' a1' a2' e => (ke (.inl (a0', a1', a2')) e).1 (a0', a1', a2') rfl) (fun a0' a1' e => (ke (.inr (a0', a1')) e).2 (a0', a1') rfl)) n (x1, x3, x4) r h ke
set_option maxRecDepth 20000 in
theorem jx_following_7 {p : Program} {l : Launch} {e : Env} {s : State} {m : MethodId} {args : Array Value} {below : List Frame} {meth : Method} {c : Code} {A : Nat → Prop} {D : va_G} {tys : List (ClassId × FieldType)} {S : Type} {w : S → va_W} {z : S} {Q : State → Prop} (F : kj_Fx p s m args meth c cX0_following 7 wsX0_following RX0 (some .long) D tys A) {ba bb bc : Int32} {b0 q0 : Nat} (hb : (w z)[q0]? = some (b0, .inr (0, [.int ba, .int bb, .int bc]))) {x1 : Int64} {x3 : Int32} {o : ((Int64 × Int32) ⊕ ((Int64 × Int32 × Int32) ⊕ Int64))} (h : fx_following_7 ba bb bc x1 x3 = some o) (kb : ∀ (a0' : Int64) (a1' : Int32), o = .inl (a0', a1') → kj_J p l e rm_X0_following s m args below meth c 0 0 Q 7 D A (w z) 7 [(0, .ref b0), (1, .long a0'), (3, .int a1')] []) (ke0 : ∀ (a0' : Int64) (a1' : Int32) (a2' : Int32), o = .inr (.inl (a0', a1', a2')) → kj_J p l e rm_X0_following s m args below meth c 0 0 Q 7 D A (w z) 35 [(1, .long a0'), (3, .int a1'), (4, .int a2')] []) (ke1 : ∀ (a0' : Int64), o = .inr (.inr a0') → kj_J p l e rm_X0_following s m args below meth c 0 0 Q 7 D A (w z) 64 [(1, .long a0')] []) : kj_J p l e rm_X0_following s m args below meth c 0 0 Q 7 D A (w z) 7 [(0, .ref b0), (1, .long x1), (3, .int x3)] [] := by
  unfold fx_following_7 at h
  refine kj_iload_n F dX0_following_7 2 rfl rfl ?_
  refine kj_if_lt F dX0_following_8 (tgt := 64) (by decide) h (fun hc h => ?_) (fun hc h => ?_)
  · refine kj_J.sub [1] rfl ?_
    exact ke1 x1 (Option.some.inj h).symm
  · refine kj_aload_n F dX0_following_11 0 rfl rfl ?_
    refine kj_get F dX0_following_12 in_X0_following _ hb rfl 1 (by decide) (by decide +kernel) rfl rfl ?_
    refine kj_iconst F dX0_following_15 (v := 1) (by decide) ?_
    refine kj_isub F dX0_following_16 ?_
    refine kj_istore F dX0_following_17 (lv' := [(4, .int (bb - (1 : Int32))), (0, .ref b0), (1, .long x1), (3, .int x3)]) (by decide) rfl ?_
    refine kj_J.sub [1, 2, 3, 0] rfl ?_
    refine kj_bn h (fun r1 h1 h => ?_)
    refine jlx_following_19 F hb h1 ?_
    refine ⟨fun a2 e => ?_, fun b3 e => ?_⟩
    · subst e
      refine kj_seL h (fun h => ?_)
      exact ke0 (a2.1) (a2.2.1) (a2.2.2) (Option.some.inj h).symm
    · subst e
      refine kj_seR h (fun h => ?_)
      refine kj_iinc F dX0_following_58 2 rfl (v := (-1)) (by decide) (by decide) (lv' := [(3, .int ((b3.2) + (-1))), (0, .ref b0), (1, .long (b3.1))]) rfl ?_
      refine kj_goto F dX0_following_61 (tgt := 7) (by decide) ?_
      refine kj_J.sub [1, 2, 0] rfl ?_
      exact kb (b3.1) ((b3.2) + (-1)) (Option.some.inj h).symm
theorem jlx_following_7 {p : Program} {l : Launch} {e : Env} {s : State} {m : MethodId} {args : Array Value} {below : List Frame} {meth : Method} {c : Code} {A : Nat → Prop} {D : va_G} {tys : List (ClassId × FieldType)} {S : Type} {w : S → va_W} {z : S} {Q : State → Prop} (F : kj_Fx p s m args meth c cX0_following 7 wsX0_following RX0 (some .long) D tys A) {ba bb bc : Int32} {b0 q0 : Nat} (hb : (w z)[q0]? = some (b0, .inr (0, [.int ba, .int bb, .int bc]))) {n : Nat} {x1 : Int64} {x3 : Int32} {r : ((Int64 × Int32 × Int32) ⊕ Int64)} (h : lx_following_7 ba bb bc n x1 x3 = some r) (ke : (∀ a, r = (.inl a) → kj_J p l e rm_X0_following s m args below meth c 0 0 Q 7 D A (w z) 35 [(1, .long (a.1)), (3, .int (a.2.1)), (4, .int (a.2.2))] []) ∧ (∀ a, r = (.inr a) → kj_J p l e rm_X0_following s m args below meth c 0 0 Q 7 D A (w z) 64 [(1, .long (a))] [])) : kj_J p l e rm_X0_following s m args below meth c 0 0 Q 7 D A (w z) 7 [(0, .ref b0), (1, .long x1), (3, .int x3)] [] :=
  kj_it_J (Wh := fun (u : (Int64 × Int32)) => kj_J p l e rm_X0_following s m args below meth c 0 0 Q 7 D A (w z) 7 [(0, .ref b0), (1, .long (u.1)), (3, .int (u.2))] []) (We := fun r => (∀ a, r = (.inl a) → kj_J p l e rm_X0_following s m args below meth c 0 0 Q 7 D A (w z) 35 [(1, .long (a.1)), (3, .int (a.2.1)), (4, .int (a.2.2))] []) ∧ (∀ a, r = (.inr a) → kj_J p l e rm_X0_following s m args below meth c 0 0 Q 7 D A (w z) 64 [(1, .long (a))] [])) (fun u o h kb ke => jx_following_7 F hb h (fun a0' a1' e => kb (a0', a1') e) (fun a0' a1' a2' e => (ke (.inl (a0', a1', a2')) e).1 (a0', a1', a2') rfl) (fun a0' e => (ke (.inr a0') e).2 a0' rfl)) n (x1, x3) r h ke
set_option maxRecDepth 20000 in
theorem jx_following {p : Program} {l : Launch} {e : Env} {s : State} {m : MethodId} {args : Array Value} {below : List Frame} {meth : Method} {c : Code} {A : Nat → Prop} {D : va_G} {tys : List (ClassId × FieldType)} {S : Type} {w : S → va_W} {z : S} (F : kj_Fx p s m args meth c cX0_following 7 wsX0_following RX0 (some .long) D tys A) {ba bb bc : Int32} {b0 q0 : Nat} (hb : (w z)[q0]? = some (b0, .inr (0, [.int ba, .int bb, .int bc]))) {x1 : Int64} {o : Int64} (h : fx_following ba bb bc x1 = some o) : kj_J p l e rm_X0_following s m args below meth c 0 0 (MQ below (kj_Ql D tys A w (o, z)) args s 0 0 A) 7 D A (w z) 0 [(0, .ref b0), (1, .long x1)] [] := by
  unfold fx_following at h
  refine kj_aload_n F dX0_following_0 0 rfl rfl ?_
  refine kj_get F dX0_following_1 in_X0_following _ hb rfl 0 (by decide) (by decide +kernel) rfl rfl ?_
  refine kj_iconst F dX0_following_4 (v := 1) (by decide) ?_
  refine kj_isub F dX0_following_5 ?_
  refine kj_istore_n F dX0_following_6 (lv' := [(3, .int (ba - (1 : Int32))), (0, .ref b0), (1, .long x1)]) rfl (by decide) rfl ?_
  refine kj_J.sub [1, 2, 0] rfl ?_
  refine kj_bn h (fun r1 h1 h => ?_)
  refine jlx_following_7 F hb h1 ?_
  refine ⟨fun a2 e => ?_, fun b3 e => ?_⟩
  · subst e
    refine kj_seL h (fun h => ?_)
    refine kj_iload_n F dX0_following_35 1 rfl rfl ?_
    refine kj_iload F dX0_following_36 2 rfl ?_
    refine kj_cSlp (As := [.int (a2.2.1), .int (a2.2.2)]) (rest := []) F dX0_following_38 h (fun o h1 => cx_cube (w := w) h1) (va_cwS 2 F.2.2.2.2.1 gX0_following_X0_cube rfl rfl rfl (by decide +kernel) ⟨Nat.le_of_ble_eq_true rfl, Nat.le_of_ble_eq_true rfl⟩) rfl rfl (Nat.le_of_ble_eq_true rfl) ⟨Nat.zero_le _, Nat.zero_le _⟩ (fun o4 h => ?_)
    refine kj_lstore F dX0_following_41 (lv' := [(5, .long o4), (1, .long (a2.1)), (3, .int (a2.2.1)), (4, .int (a2.2.2))]) (by decide) rfl ?_
    refine kj_lload_n F dX0_following_43 1 rfl rfl ?_
    refine kj_lload F dX0_following_44 0 rfl ?_
    refine kj_lneg F dX0_following_46 ?_
    refine kj_land F dX0_following_47 ?_
    refine kj_lload F dX0_following_48 0 rfl ?_
    refine kj_ladd F dX0_following_50 ?_
    exact kj_lret F dX0_following_51 (kj_pr h)
  · subst e
    refine kj_seR h (fun h => ?_)
    refine kj_lload_n F dX0_following_64 0 rfl rfl ?_
    exact kj_lret F dX0_following_65 (kj_pr h)
theorem cx_following {l : Launch} {D : va_G} {tys : List (ClassId × FieldType)} {S : Type} {w : S → va_W} {z : S} {ba bb bc : Int32} {b0 q0 : Nat} (hb : (w z)[q0]? = some (b0, .inr (0, [.int ba, .int bb, .int bc]))) {x1 : Int64} {o : Int64} (h : fx_following ba bb bc x1 = some o) : kj_Ml l yX0_following wsX0_following rm_X0_following D tys w z [.ref b0, .long x1] (o, z) :=
  fun sz => kj_start (by decide) rfl (Nat.le_of_ble_eq_true rfl) rfl fun p e s m args below meth c hsz F => jx_following F hb h
/-! X0_joined -/
abbrev rm_X0_joined : Room := { frames := 1, cells := 0, slots := 0, locals := 24 }
theorem in_X0_joined : ∀ w ∈ u_ws RX0 TX0 3, w ∈ wsX0_joined := by decide +kernel
def fx_joined_80 (ba bb bc : Int32) (x1 : Int64) (x3 : Int64) (x5 : Int32) (x8 : Int32) (x9 : Int32) (t0 : Int32) (t1 : Int64) (t2 : Int64) : Option ((Int64 × Int64 × Int32 × Int64 × Int32 × Int32) ⊕ (Int64 × Int64 × Int32 × Int64 × Int32)) :=
  some (.inl (x1, x3, x5, (t2 + (t1 * (t0).toInt64)), x8, (x9 + 1)))
def fx_joined_18 (ba bb bc : Int32) (x1 : Int64) (x3 : Int64) (x5 : Int32) (x6 : Int64) (x8 : Int32) (x9 : Int32) : Option ((Int64 × Int64 × Int32 × Int64 × Int32 × Int32) ⊕ (Int64 × Int64 × Int32 × Int64 × Int32)) :=
  if bb ≤ x9 then
  some (.inr (x1, x3, x5, x6, x8))
  else
  (fx_level ba bb bc x1 x8 x9).bind fun o1 =>
  (fx_level ba bb bc x3 x8 x9).bind fun o2 =>
  (fx_cube x8 x9).bind fun o3 =>
  if x5 = 0 then
  fx_joined_80 ba bb bc x1 x3 x5 x8 x9 (if o2 < o1 then o2 else o1) o3 x6
  else
  fx_joined_80 ba bb bc x1 x3 x5 x8 x9 (if o1 < o2 then o2 else o1) o3 x6
def lx_joined_18 (ba bb bc : Int32) (n : Nat) (x1 : Int64) (x3 : Int64) (x5 : Int32) (x6 : Int64) (x8 : Int32) (x9 : Int32) : Option (Int64 × Int64 × Int32 × Int64 × Int32) :=
  kj_it (fun (s : (Int64 × Int64 × Int32 × Int64 × Int32 × Int32)) => fx_joined_18 ba bb bc (s.1) (s.2.1) (s.2.2.1) (s.2.2.2.1) (s.2.2.2.2.1) (s.2.2.2.2.2)) n (x1, x3, x5, x6, x8, x9)
def fx_joined_6 (ba bb bc : Int32) (x1 : Int64) (x3 : Int64) (x5 : Int32) (x6 : Int64) (x8 : Int32) : Option ((Int64 × Int64 × Int32 × Int64 × Int32) ⊕ Int64) :=
  if ba ≤ x8 then
  some (.inr x6)
  else
  (lx_joined_18 ba bb bc 5000 x1 x3 x5 x6 x8 (0 : Int32)).bind fun r1 =>
  some (.inl ((r1.1), (r1.2.1), (r1.2.2.1), (r1.2.2.2.1), ((r1.2.2.2.2) + 1)))
def lx_joined_6 (ba bb bc : Int32) (n : Nat) (x1 : Int64) (x3 : Int64) (x5 : Int32) (x6 : Int64) (x8 : Int32) : Option Int64 :=
  kj_it (fun (s : (Int64 × Int64 × Int32 × Int64 × Int32)) => fx_joined_6 ba bb bc (s.1) (s.2.1) (s.2.2.1) (s.2.2.2.1) (s.2.2.2.2)) n (x1, x3, x5, x6, x8)
def fx_joined (ba bb bc : Int32) (x1 : Int64) (x3 : Int64) (x5 : Int32) : Option Int64 :=
  (lx_joined_6 ba bb bc 5000 x1 x3 x5 (0 : Int64) (0 : Int32)).bind fun r1 =>
  some (r1)
set_option maxRecDepth 20000 in
theorem jx_joined_80 {p : Program} {l : Launch} {e : Env} {s : State} {m : MethodId} {args : Array Value} {below : List Frame} {meth : Method} {c : Code} {A : Nat → Prop} {D : va_G} {tys : List (ClassId × FieldType)} {S : Type} {w : S → va_W} {z : S} {Q : State → Prop} (F : kj_Fx p s m args meth c cX0_joined 12 wsX0_joined RX0 (some .long) D tys A) {ba bb bc : Int32} {b0 q0 : Nat} (hb : (w z)[q0]? = some (b0, .inr (0, [.int ba, .int bb, .int bc]))) {x1 : Int64} {x3 : Int64} {x5 : Int32} {x8 : Int32} {x9 : Int32} {t0 : Int32} {t1 : Int64} {t2 : Int64} {o : ((Int64 × Int64 × Int32 × Int64 × Int32 × Int32) ⊕ (Int64 × Int64 × Int32 × Int64 × Int32))} (h : fx_joined_80 ba bb bc x1 x3 x5 x8 x9 t0 t1 t2 = some o) (kb : ∀ (a0' : Int64) (a1' : Int64) (a2' : Int32) (a3' : Int64) (a4' : Int32) (a5' : Int32), o = .inl (a0', a1', a2', a3', a4', a5') → kj_J p l e rm_X0_joined s m args below meth c 0 0 Q 12 D A (w z) 18 [(0, .ref b0), (1, .long a0'), (3, .long a1'), (5, .int a2'), (6, .long a3'), (8, .int a4'), (9, .int a5')] []) (ke0 : ∀ (a0' : Int64) (a1' : Int64) (a2' : Int32) (a3' : Int64) (a4' : Int32), o = .inr (a0', a1', a2', a3', a4') → kj_J p l e rm_X0_joined s m args below meth c 0 0 Q 12 D A (w z) 91 [(0, .ref b0), (1, .long a0'), (3, .long a1'), (5, .int a2'), (6, .long a3'), (8, .int a4')] []) : kj_J p l e rm_X0_joined s m args below meth c 0 0 Q 12 D A (w z) 80 [(0, .ref b0), (1, .long x1), (3, .long x3), (5, .int x5), (8, .int x8), (9, .int x9)] [.int t0, .long t1, .long t2] := by
  unfold fx_joined_80 at h
  refine kj_i2l F dX0_joined_80 ?_
  refine kj_lmul F dX0_joined_81 ?_
  refine kj_ladd F dX0_joined_82 ?_
  refine kj_lstore F dX0_joined_83 (lv' := [(6, .long (t2 + (t1 * (t0).toInt64))), (0, .ref b0), (1, .long x1), (3, .long x3), (5, .int x5), (8, .int x8), (9, .int x9)]) (by decide) rfl ?_
  refine kj_iinc F dX0_joined_85 6 rfl (v := 1) (by decide) (by decide) (lv' := [(9, .int (x9 + 1)), (6, .long (t2 + (t1 * (t0).toInt64))), (0, .ref b0), (1, .long x1), (3, .long x3), (5, .int x5), (8, .int x8)]) rfl ?_
  refine kj_goto F dX0_joined_88 (tgt := 18) (by decide) ?_
  refine kj_J.sub [2, 3, 4, 5, 1, 6, 0] rfl ?_
  exact kb x1 x3 x5 (t2 + (t1 * (t0).toInt64)) x8 (x9 + 1) (Option.some.inj h).symm
set_option maxRecDepth 20000 in
theorem jx_joined_18 {p : Program} {l : Launch} {e : Env} {s : State} {m : MethodId} {args : Array Value} {below : List Frame} {meth : Method} {c : Code} {A : Nat → Prop} {D : va_G} {tys : List (ClassId × FieldType)} {S : Type} {w : S → va_W} {z : S} {Q : State → Prop} (F : kj_Fx p s m args meth c cX0_joined 12 wsX0_joined RX0 (some .long) D tys A) {ba bb bc : Int32} {b0 q0 : Nat} (hb : (w z)[q0]? = some (b0, .inr (0, [.int ba, .int bb, .int bc]))) {x1 : Int64} {x3 : Int64} {x5 : Int32} {x6 : Int64} {x8 : Int32} {x9 : Int32} {o : ((Int64 × Int64 × Int32 × Int64 × Int32 × Int32) ⊕ (Int64 × Int64 × Int32 × Int64 × Int32))} (h : fx_joined_18 ba bb bc x1 x3 x5 x6 x8 x9 = some o) (kb : ∀ (a0' : Int64) (a1' : Int64) (a2' : Int32) (a3' : Int64) (a4' : Int32) (a5' : Int32), o = .inl (a0', a1', a2', a3', a4', a5') → kj_J p l e rm_X0_joined s m args below meth c 0 0 Q 12 D A (w z) 18 [(0, .ref b0), (1, .long a0'), (3, .long a1'), (5, .int a2'), (6, .long a3'), (8, .int a4'), (9, .int a5')] []) (ke0 : ∀ (a0' : Int64) (a1' : Int64) (a2' : Int32) (a3' : Int64) (a4' : Int32), o = .inr (a0', a1', a2', a3', a4') → kj_J p l e rm_X0_joined s m args below meth c 0 0 Q 12 D A (w z) 91 [(0, .ref b0), (1, .long a0'), (3, .long a1'), (5, .int a2'), (6, .long a3'), (8, .int a4')] []) : kj_J p l e rm_X0_joined s m args below meth c 0 0 Q 12 D A (w z) 18 [(0, .ref b0), (1, .long x1), (3, .long x3), (5, .int x5), (6, .long x6), (8, .int x8), (9, .int x9)] [] := by
  unfold fx_joined_18 at h
  refine kj_iload F dX0_joined_18 6 rfl ?_
  refine kj_aload_n F dX0_joined_20 0 rfl rfl ?_
  refine kj_get F dX0_joined_21 in_X0_joined _ hb rfl 1 (by decide) (by decide +kernel) rfl rfl ?_
  refine kj_icmp_ge F dX0_joined_24 (tgt := 91) (by decide) h (fun hc h => ?_) (fun hc h => ?_)
  · refine kj_J.sub [0, 1, 2, 3, 4, 5] rfl ?_
    exact ke0 x1 x3 x5 x6 x8 (Option.some.inj h).symm
  · refine kj_aload_n F dX0_joined_27 0 rfl rfl ?_
    refine kj_lload_n F dX0_joined_28 1 rfl rfl ?_
    refine kj_iload F dX0_joined_29 5 rfl ?_
    refine kj_iload F dX0_joined_31 6 rfl ?_
    refine kj_cVip (As := [.long x1, .int x8, .int x9]) (rest := []) F dX0_joined_33 h (fun o h1 => cx_level (w := w) hb h1) (cwV 3 F.2.2.2.2.1 gX0_joined_X0_level rfl rfl rfl (by decide +kernel) ⟨Nat.le_of_ble_eq_true rfl, Nat.le_of_ble_eq_true rfl⟩) _ hb rfl rfl rfl rfl (Nat.le_of_ble_eq_true rfl) ⟨Nat.zero_le _, Nat.zero_le _⟩ (fun o1 h => ?_)
    refine kj_istore F dX0_joined_36 (lv' := [(10, .int o1), (0, .ref b0), (1, .long x1), (3, .long x3), (5, .int x5), (6, .long x6), (8, .int x8), (9, .int x9)]) (by decide) rfl ?_
    refine kj_aload_n F dX0_joined_38 1 rfl rfl ?_
    refine kj_lload_n F dX0_joined_39 3 rfl rfl ?_
    refine kj_iload F dX0_joined_40 6 rfl ?_
    refine kj_iload F dX0_joined_42 7 rfl ?_
    refine kj_cVip (As := [.long x3, .int x8, .int x9]) (rest := []) F dX0_joined_44 h (fun o h1 => cx_level (w := w) hb h1) (cwV 3 F.2.2.2.2.1 gX0_joined_X0_level rfl rfl rfl (by decide +kernel) ⟨Nat.le_of_ble_eq_true rfl, Nat.le_of_ble_eq_true rfl⟩) _ hb rfl rfl rfl rfl (Nat.le_of_ble_eq_true rfl) ⟨Nat.zero_le _, Nat.zero_le _⟩ (fun o2 h => ?_)
    refine kj_istore F dX0_joined_47 (lv' := [(11, .int o2), (10, .int o1), (0, .ref b0), (1, .long x1), (3, .long x3), (5, .int x5), (6, .long x6), (8, .int x8), (9, .int x9)]) (by decide) rfl ?_
    refine kj_lload F dX0_joined_49 6 rfl ?_
    refine kj_iload F dX0_joined_51 7 rfl ?_
    refine kj_iload F dX0_joined_53 8 rfl ?_
    refine kj_cSlp (As := [.int x8, .int x9]) (rest := [.long x6]) F dX0_joined_55 h (fun o h1 => cx_cube (w := w) h1) (va_cwS 2 F.2.2.2.2.1 gX0_joined_X0_cube rfl rfl rfl (by decide +kernel) ⟨Nat.le_of_ble_eq_true rfl, Nat.le_of_ble_eq_true rfl⟩) rfl rfl (Nat.le_of_ble_eq_true rfl) ⟨Nat.zero_le _, Nat.zero_le _⟩ (fun o3 h => ?_)
    refine kj_iload F dX0_joined_58 5 rfl ?_
    refine kj_if_eq F dX0_joined_60 (tgt := 73) (by decide) h (fun hc h => ?_) (fun hc h => ?_)
    · refine kj_iload F dX0_joined_73 1 rfl ?_
      refine kj_iload F dX0_joined_75 0 rfl ?_
      refine kj_mmin F dX0_joined_77 (by decide +kernel) (by decide +kernel) (by decide +kernel) (by decide +kernel) (Nat.le_of_ble_eq_true rfl) (Nat.le_of_ble_eq_true rfl) ⟨Nat.zero_le _, Nat.zero_le _⟩ ?_
      refine kj_J.sub [2, 3, 4, 5, 7, 8] rfl ?_
      exact jx_joined_80 F hb h kb ke0
    · refine kj_iload F dX0_joined_63 1 rfl ?_
      refine kj_iload F dX0_joined_65 0 rfl ?_
      refine kj_mmax F dX0_joined_67 (by decide +kernel) (by decide +kernel) (by decide +kernel) (by decide +kernel) (Nat.le_of_ble_eq_true rfl) (Nat.le_of_ble_eq_true rfl) ⟨Nat.zero_le _, Nat.zero_le _⟩ ?_
      refine kj_goto F dX0_joined_70 (tgt := 80) (by decide) ?_
      refine kj_J.sub [2, 3, 4, 5, 7, 8] rfl ?_
      exact jx_joined_80 F hb h kb ke0
theorem jlx_joined_18 {p : Program} {l : Launch} {e : Env} {s : State} {m : MethodId} {args : Array Value} {below : List Frame} {meth : Method} {c : Code} {A : Nat → Prop} {D : va_G} {tys : List (ClassId × FieldType)} {S : Type} {w : S → va_W} {z : S} {Q : State → Prop} (F : kj_Fx p s m args meth c cX0_joined 12 wsX0_joined RX0 (some .long) D tys A) {ba bb bc : Int32} {b0 q0 : Nat} (hb : (w z)[q0]? = some (b0, .inr (0, [.int ba, .int bb, .int bc]))) {n : Nat} {x1 : Int64} {x3 : Int64} {x5 : Int32} {x6 : Int64} {x8 : Int32} {x9 : Int32} {r : (Int64 × Int64 × Int32 × Int64 × Int32)} (h : lx_joined_18 ba bb bc n x1 x3 x5 x6 x8 x9 = some r) (ke : kj_J p l e rm_X0_joined s m args below meth c 0 0 Q 12 D A (w z) 91 [(0, .ref b0), (1, .long (r.1)), (3, .long (r.2.1)), (5, .int (r.2.2.1)), (6, .long (r.2.2.2.1)), (8, .int (r.2.2.2.2))] []) : kj_J p l e rm_X0_joined s m args below meth c 0 0 Q 12 D A (w z) 18 [(0, .ref b0), (1, .long x1), (3, .long x3), (5, .int x5), (6, .long x6), (8, .int x8), (9, .int x9)] [] :=
  kj_it_J (Wh := fun (u : (Int64 × Int64 × Int32 × Int64 × Int32 × Int32)) => kj_J p l e rm_X0_joined s m args below meth c 0 0 Q 12 D A (w z) 18 [(0, .ref b0), (1, .long (u.1)), (3, .long (u.2.1)), (5, .int (u.2.2.1)), (6, .long (u.2.2.2.1)), (8, .int (u.2.2.2.2.1)), (9, .int (u.2.2.2.2.2))] []) (We := fun r => kj_J p l e rm_X0_joined s m args below meth c 0 0 Q 12 D A (w z) 91 [(0, .ref b0), (1, .long (r.1)), (3, .long (r.2.1)), (5, .int (r.2.2.1)), (6, .long (r.2.2.2.1)), (8, .int (r.2.2.2.2))] []) (fun u o h kb ke => jx_joined_18 F hb h (fun a0' a1' a2' a3' a4' a5' e => kb (a0', a1', a2', a3', a4', a5') e) (fun a0' a1' a2' a3' a4' e => ke (a0', a1', a2', a3', a4') e)) n (x1, x3, x5, x6, x8, x9) r h ke
set_option maxRecDepth 20000 in
theorem jx_joined_6 {p : Program} {l : Launch} {e : Env} {s : State} {m : MethodId} {args : Array Value} {below : List Frame} {meth : Method} {c : Code} {A : Nat → Prop} {D : va_G} {tys : List (ClassId × FieldType)} {S : Type} {w : S → va_W} {z : S} {Q : State → Prop} (F : kj_Fx p s m args meth c cX0_joined 12 wsX0_joined RX0 (some .long) D tys A) {ba bb bc : Int32} {b0 q0 : Nat} (hb : (w z)[q0]? = some (b0, .inr (0, [.int ba, .int bb, .int bc]))) {x1 : Int64} {x3 : Int64} {x5 : Int32} {x6 : Int64} {x8 : Int32} {o : ((Int64 × Int64 × Int32 × Int64 × Int32) ⊕ Int64)} (h : fx_joined_6 ba bb bc x1 x3 x5 x6 x8 = some o) (kb : ∀ (a0' : Int64) (a1' : Int64) (a2' : Int32) (a3' : Int64) (a4' : Int32), o = .inl (a0', a1', a2', a3', a4') → kj_J p l e rm_X0_joined s m args below meth c 0 0 Q 12 D A (w z) 6 [(0, .ref b0), (1, .long a0'), (3, .long a1'), (5, .int a2'), (6, .long a3'), (8, .int a4')] []) (ke0 : ∀ (a0' : Int64), o = .inr a0' → kj_J p l e rm_X0_joined s m args below meth c 0 0 Q 12 D A (w z) 97 [(6, .long a0')] []) : kj_J p l e rm_X0_joined s m args below meth c 0 0 Q 12 D A (w z) 6 [(0, .ref b0), (1, .long x1), (3, .long x3), (5, .int x5), (6, .long x6), (8, .int x8)] [] := by
  unfold fx_joined_6 at h
  refine kj_iload F dX0_joined_6 5 rfl ?_
  refine kj_aload_n F dX0_joined_8 0 rfl rfl ?_
  refine kj_get F dX0_joined_9 in_X0_joined _ hb rfl 0 (by decide) (by decide +kernel) rfl rfl ?_
  refine kj_icmp_ge F dX0_joined_12 (tgt := 97) (by decide) h (fun hc h => ?_) (fun hc h => ?_)
  · refine kj_J.sub [4] rfl ?_
    exact ke0 x6 (Option.some.inj h).symm
  · refine kj_iconst F dX0_joined_15 (v := 0) (by decide) ?_
    refine kj_istore F dX0_joined_16 (lv' := [(9, .int (0 : Int32)), (0, .ref b0), (1, .long x1), (3, .long x3), (5, .int x5), (6, .long x6), (8, .int x8)]) (by decide) rfl ?_
    refine kj_J.sub [1, 2, 3, 4, 5, 6, 0] rfl ?_
    refine kj_bn h (fun r1 h1 h => ?_)
    refine jlx_joined_18 F hb h1 ?_
    refine kj_iinc F dX0_joined_91 5 rfl (v := 1) (by decide) (by decide) (lv' := [(8, .int ((r1.2.2.2.2) + 1)), (0, .ref b0), (1, .long (r1.1)), (3, .long (r1.2.1)), (5, .int (r1.2.2.1)), (6, .long (r1.2.2.2.1))]) rfl ?_
    refine kj_goto F dX0_joined_94 (tgt := 6) (by decide) ?_
    refine kj_J.sub [1, 2, 3, 4, 5, 0] rfl ?_
    exact kb (r1.1) (r1.2.1) (r1.2.2.1) (r1.2.2.2.1) ((r1.2.2.2.2) + 1) (Option.some.inj h).symm
theorem jlx_joined_6 {p : Program} {l : Launch} {e : Env} {s : State} {m : MethodId} {args : Array Value} {below : List Frame} {meth : Method} {c : Code} {A : Nat → Prop} {D : va_G} {tys : List (ClassId × FieldType)} {S : Type} {w : S → va_W} {z : S} {Q : State → Prop} (F : kj_Fx p s m args meth c cX0_joined 12 wsX0_joined RX0 (some .long) D tys A) {ba bb bc : Int32} {b0 q0 : Nat} (hb : (w z)[q0]? = some (b0, .inr (0, [.int ba, .int bb, .int bc]))) {n : Nat} {x1 : Int64} {x3 : Int64} {x5 : Int32} {x6 : Int64} {x8 : Int32} {r : Int64} (h : lx_joined_6 ba bb bc n x1 x3 x5 x6 x8 = some r) (ke : kj_J p l e rm_X0_joined s m args below meth c 0 0 Q 12 D A (w z) 97 [(6, .long (r))] []) : kj_J p l e rm_X0_joined s m args below meth c 0 0 Q 12 D A (w z) 6 [(0, .ref b0), (1, .long x1), (3, .long x3), (5, .int x5), (6, .long x6), (8, .int x8)] [] :=
  kj_it_J (Wh := fun (u : (Int64 × Int64 × Int32 × Int64 × Int32)) => kj_J p l e rm_X0_joined s m args below meth c 0 0 Q 12 D A (w z) 6 [(0, .ref b0), (1, .long (u.1)), (3, .long (u.2.1)), (5, .int (u.2.2.1)), (6, .long (u.2.2.2.1)), (8, .int (u.2.2.2.2))] []) (We := fun r => kj_J p l e rm_X0_joined s m args below meth c 0 0 Q 12 D A (w z) 97 [(6, .long (r))] []) (fun u o h kb ke => jx_joined_6 F hb h (fun a0' a1' a2' a3' a4' e => kb (a0', a1', a2', a3', a4') e) (fun a0' e => ke a0' e)) n (x1, x3, x5, x6, x8) r h ke
set_option maxRecDepth 20000 in
theorem jx_joined {p : Program} {l : Launch} {e : Env} {s : State} {m : MethodId} {args : Array Value} {below : List Frame} {meth : Method} {c : Code} {A : Nat → Prop} {D : va_G} {tys : List (ClassId × FieldType)} {S : Type} {w : S → va_W} {z : S} (F : kj_Fx p s m args meth c cX0_joined 12 wsX0_joined RX0 (some .long) D tys A) {ba bb bc : Int32} {b0 q0 : Nat} (hb : (w z)[q0]? = some (b0, .inr (0, [.int ba, .int bb, .int bc]))) {x1 : Int64} {x3 : Int64} {x5 : Int32} {o : Int64} (h : fx_joined ba bb bc x1 x3 x5 = some o) : kj_J p l e rm_X0_joined s m args below meth c 0 0 (MQ below (kj_Ql D tys A w (o, z)) args s 0 0 A) 12 D A (w z) 0 [(0, .ref b0), (1, .long x1), (3, .long x3), (5, .int x5)] [] := by
  unfold fx_joined at h
  refine kj_lconst F dX0_joined_0 (v := 0) (by decide) ?_
  refine kj_lstore F dX0_joined_1 (lv' := [(6, .long (0 : Int64)), (0, .ref b0), (1, .long x1), (3, .long x3), (5, .int x5)]) (by decide) rfl ?_
  refine kj_iconst F dX0_joined_3 (v := 0) (by decide) ?_
  refine kj_istore F dX0_joined_4 (lv' := [(8, .int (0 : Int32)), (6, .long (0 : Int64)), (0, .ref b0), (1, .long x1), (3, .long x3), (5, .int x5)]) (by decide) rfl ?_
  refine kj_J.sub [2, 3, 4, 5, 1, 0] rfl ?_
  refine kj_bn h (fun r1 h1 h => ?_)
  refine jlx_joined_6 F hb h1 ?_
  refine kj_lload F dX0_joined_97 0 rfl ?_
  exact kj_lret F dX0_joined_99 (kj_pr h)
theorem cx_joined {l : Launch} {D : va_G} {tys : List (ClassId × FieldType)} {S : Type} {w : S → va_W} {z : S} {ba bb bc : Int32} {b0 q0 : Nat} (hb : (w z)[q0]? = some (b0, .inr (0, [.int ba, .int bb, .int bc]))) {x1 : Int64} {x3 : Int64} {x5 : Int32} {o : Int64} (h : fx_joined ba bb bc x1 x3 x5 = some o) : kj_Ml l yX0_joined wsX0_joined rm_X0_joined D tys w z [.ref b0, .long x1, .long x3, .int x5] (o, z) :=
  fun sz => kj_start (by decide) rfl (Nat.le_of_ble_eq_true rfl) rfl fun p e s m args below meth c hsz F => jx_joined F hb h
/-! X0_transposed -/
abbrev rm_X0_transposed : Room := { frames := 1, cells := 0, slots := 0, locals := 24 }
theorem in_X0_transposed : ∀ w ∈ u_ws RX0 TX0 3, w ∈ wsX0_transposed := by decide +kernel
def fx_transposed_17 (ba bb bc : Int32) (x1 : Int64) (x3 : Int64) (x5 : Int32) (x6 : Int32) : Option ((Int64 × Int64 × Int32 × Int32) ⊕ (Int64 × Int64 × Int32)) :=
  if bb ≤ x6 then
  some (.inr (x1, x3, x5))
  else
  (fx_cube x6 x5).bind fun o1 =>
  (fx_level ba bb bc x1 x5 x6).bind fun o2 =>
  some (.inl (x1, (x3 + (o1 * (o2).toInt64)), x5, (x6 + 1)))
def lx_transposed_17 (ba bb bc : Int32) (n : Nat) (x1 : Int64) (x3 : Int64) (x5 : Int32) (x6 : Int32) : Option (Int64 × Int64 × Int32) :=
  kj_it (fun (s : (Int64 × Int64 × Int32 × Int32)) => fx_transposed_17 ba bb bc (s.1) (s.2.1) (s.2.2.1) (s.2.2.2)) n (x1, x3, x5, x6)
def fx_transposed_5 (ba bb bc : Int32) (x1 : Int64) (x3 : Int64) (x5 : Int32) : Option ((Int64 × Int64 × Int32) ⊕ Int64) :=
  if ba ≤ x5 then
  some (.inr x3)
  else
  (lx_transposed_17 ba bb bc 5000 x1 x3 x5 (0 : Int32)).bind fun r1 =>
  some (.inl ((r1.1), (r1.2.1), ((r1.2.2) + 1)))
def lx_transposed_5 (ba bb bc : Int32) (n : Nat) (x1 : Int64) (x3 : Int64) (x5 : Int32) : Option Int64 :=
  kj_it (fun (s : (Int64 × Int64 × Int32)) => fx_transposed_5 ba bb bc (s.1) (s.2.1) (s.2.2)) n (x1, x3, x5)
def fx_transposed (ba bb bc : Int32) (x1 : Int64) : Option Int64 :=
  (lx_transposed_5 ba bb bc 5000 x1 (0 : Int64) (0 : Int32)).bind fun r1 =>
  some (r1)
set_option maxRecDepth 20000 in
theorem jx_transposed_17 {p : Program} {l : Launch} {e : Env} {s : State} {m : MethodId} {args : Array Value} {below : List Frame} {meth : Method} {c : Code} {A : Nat → Prop} {D : va_G} {tys : List (ClassId × FieldType)} {S : Type} {w : S → va_W} {z : S} {Q : State → Prop} (F : kj_Fx p s m args meth c cX0_transposed 7 wsX0_transposed RX0 (some .long) D tys A) {ba bb bc : Int32} {b0 q0 : Nat} (hb : (w z)[q0]? = some (b0, .inr (0, [.int ba, .int bb, .int bc]))) {x1 : Int64} {x3 : Int64} {x5 : Int32} {x6 : Int32} {o : ((Int64 × Int64 × Int32 × Int32) ⊕ (Int64 × Int64 × Int32))} (h : fx_transposed_17 ba bb bc x1 x3 x5 x6 = some o) (kb : ∀ (a0' : Int64) (a1' : Int64) (a2' : Int32) (a3' : Int32), o = .inl (a0', a1', a2', a3') → kj_J p l e rm_X0_transposed s m args below meth c 0 0 Q 7 D A (w z) 17 [(0, .ref b0), (1, .long a0'), (3, .long a1'), (5, .int a2'), (6, .int a3')] []) (ke0 : ∀ (a0' : Int64) (a1' : Int64) (a2' : Int32), o = .inr (a0', a1', a2') → kj_J p l e rm_X0_transposed s m args below meth c 0 0 Q 7 D A (w z) 53 [(0, .ref b0), (1, .long a0'), (3, .long a1'), (5, .int a2')] []) : kj_J p l e rm_X0_transposed s m args below meth c 0 0 Q 7 D A (w z) 17 [(0, .ref b0), (1, .long x1), (3, .long x3), (5, .int x5), (6, .int x6)] [] := by
  unfold fx_transposed_17 at h
  refine kj_iload F dX0_transposed_17 4 rfl ?_
  refine kj_aload_n F dX0_transposed_19 0 rfl rfl ?_
  refine kj_get F dX0_transposed_20 in_X0_transposed _ hb rfl 1 (by decide) (by decide +kernel) rfl rfl ?_
  refine kj_icmp_ge F dX0_transposed_23 (tgt := 53) (by decide) h (fun hc h => ?_) (fun hc h => ?_)
  · refine kj_J.sub [0, 1, 2, 3] rfl ?_
    exact ke0 x1 x3 x5 (Option.some.inj h).symm
  · refine kj_lload_n F dX0_transposed_26 2 rfl rfl ?_
    refine kj_iload F dX0_transposed_27 4 rfl ?_
    refine kj_iload F dX0_transposed_29 3 rfl ?_
    refine kj_cSlp (As := [.int x6, .int x5]) (rest := [.long x3]) F dX0_transposed_31 h (fun o h1 => cx_cube (w := w) h1) (va_cwS 2 F.2.2.2.2.1 gX0_transposed_X0_cube rfl rfl rfl (by decide +kernel) ⟨Nat.le_of_ble_eq_true rfl, Nat.le_of_ble_eq_true rfl⟩) rfl rfl (Nat.le_of_ble_eq_true rfl) ⟨Nat.zero_le _, Nat.zero_le _⟩ (fun o1 h => ?_)
    refine kj_aload_n F dX0_transposed_34 0 rfl rfl ?_
    refine kj_lload_n F dX0_transposed_35 1 rfl rfl ?_
    refine kj_iload F dX0_transposed_36 3 rfl ?_
    refine kj_iload F dX0_transposed_38 4 rfl ?_
    refine kj_cVip (As := [.long x1, .int x5, .int x6]) (rest := [.long o1, .long x3]) F dX0_transposed_40 h (fun o h1 => cx_level (w := w) hb h1) (cwV 3 F.2.2.2.2.1 gX0_transposed_X0_level rfl rfl rfl (by decide +kernel) ⟨Nat.le_of_ble_eq_true rfl, Nat.le_of_ble_eq_true rfl⟩) _ hb rfl rfl rfl rfl (Nat.le_of_ble_eq_true rfl) ⟨Nat.zero_le _, Nat.zero_le _⟩ (fun o2 h => ?_)
    refine kj_i2l F dX0_transposed_43 ?_
    refine kj_lmul F dX0_transposed_44 ?_
    refine kj_ladd F dX0_transposed_45 ?_
    refine kj_lstore_n F dX0_transposed_46 (lv' := [(3, .long (x3 + (o1 * (o2).toInt64))), (0, .ref b0), (1, .long x1), (5, .int x5), (6, .int x6)]) rfl (by decide) rfl ?_
    refine kj_iinc F dX0_transposed_47 4 rfl (v := 1) (by decide) (by decide) (lv' := [(6, .int (x6 + 1)), (3, .long (x3 + (o1 * (o2).toInt64))), (0, .ref b0), (1, .long x1), (5, .int x5)]) rfl ?_
    refine kj_goto F dX0_transposed_50 (tgt := 17) (by decide) ?_
    refine kj_J.sub [2, 3, 1, 4, 0] rfl ?_
    exact kb x1 (x3 + (o1 * (o2).toInt64)) x5 (x6 + 1) (Option.some.inj h).symm
theorem jlx_transposed_17 {p : Program} {l : Launch} {e : Env} {s : State} {m : MethodId} {args : Array Value} {below : List Frame} {meth : Method} {c : Code} {A : Nat → Prop} {D : va_G} {tys : List (ClassId × FieldType)} {S : Type} {w : S → va_W} {z : S} {Q : State → Prop} (F : kj_Fx p s m args meth c cX0_transposed 7 wsX0_transposed RX0 (some .long) D tys A) {ba bb bc : Int32} {b0 q0 : Nat} (hb : (w z)[q0]? = some (b0, .inr (0, [.int ba, .int bb, .int bc]))) {n : Nat} {x1 : Int64} {x3 : Int64} {x5 : Int32} {x6 : Int32} {r : (Int64 × Int64 × Int32)} (h : lx_transposed_17 ba bb bc n x1 x3 x5 x6 = some r) (ke : kj_J p l e rm_X0_transposed s m args below meth c 0 0 Q 7 D A (w z) 53 [(0, .ref b0), (1, .long (r.1)), (3, .long (r.2.1)), (5, .int (r.2.2))] []) : kj_J p l e rm_X0_transposed s m args below meth c 0 0 Q 7 D A (w z) 17 [(0, .ref b0), (1, .long x1), (3, .long x3), (5, .int x5), (6, .int x6)] [] :=
  kj_it_J (Wh := fun (u : (Int64 × Int64 × Int32 × Int32)) => kj_J p l e rm_X0_transposed s m args below meth c 0 0 Q 7 D A (w z) 17 [(0, .ref b0), (1, .long (u.1)), (3, .long (u.2.1)), (5, .int (u.2.2.1)), (6, .int (u.2.2.2))] []) (We := fun r => kj_J p l e rm_X0_transposed s m args below meth c 0 0 Q 7 D A (w z) 53 [(0, .ref b0), (1, .long (r.1)), (3, .long (r.2.1)), (5, .int (r.2.2))] []) (fun u o h kb ke => jx_transposed_17 F hb h (fun a0' a1' a2' a3' e => kb (a0', a1', a2', a3') e) (fun a0' a1' a2' e => ke (a0', a1', a2') e)) n (x1, x3, x5, x6) r h ke
set_option maxRecDepth 20000 in
theorem jx_transposed_5 {p : Program} {l : Launch} {e : Env} {s : State} {m : MethodId} {args : Array Value} {below : List Frame} {meth : Method} {c : Code} {A : Nat → Prop} {D : va_G} {tys : List (ClassId × FieldType)} {S : Type} {w : S → va_W} {z : S} {Q : State → Prop} (F : kj_Fx p s m args meth c cX0_transposed 7 wsX0_transposed RX0 (some .long) D tys A) {ba bb bc : Int32} {b0 q0 : Nat} (hb : (w z)[q0]? = some (b0, .inr (0, [.int ba, .int bb, .int bc]))) {x1 : Int64} {x3 : Int64} {x5 : Int32} {o : ((Int64 × Int64 × Int32) ⊕ Int64)} (h : fx_transposed_5 ba bb bc x1 x3 x5 = some o) (kb : ∀ (a0' : Int64) (a1' : Int64) (a2' : Int32), o = .inl (a0', a1', a2') → kj_J p l e rm_X0_transposed s m args below meth c 0 0 Q 7 D A (w z) 5 [(0, .ref b0), (1, .long a0'), (3, .long a1'), (5, .int a2')] []) (ke0 : ∀ (a0' : Int64), o = .inr a0' → kj_J p l e rm_X0_transposed s m args below meth c 0 0 Q 7 D A (w z) 59 [(3, .long a0')] []) : kj_J p l e rm_X0_transposed s m args below meth c 0 0 Q 7 D A (w z) 5 [(0, .ref b0), (1, .long x1), (3, .long x3), (5, .int x5)] [] := by
  unfold fx_transposed_5 at h
  refine kj_iload F dX0_transposed_5 3 rfl ?_
  refine kj_aload_n F dX0_transposed_7 0 rfl rfl ?_
  refine kj_get F dX0_transposed_8 in_X0_transposed _ hb rfl 0 (by decide) (by decide +kernel) rfl rfl ?_
  refine kj_icmp_ge F dX0_transposed_11 (tgt := 59) (by decide) h (fun hc h => ?_) (fun hc h => ?_)
  · refine kj_J.sub [2] rfl ?_
    exact ke0 x3 (Option.some.inj h).symm
  · refine kj_iconst F dX0_transposed_14 (v := 0) (by decide) ?_
    refine kj_istore F dX0_transposed_15 (lv' := [(6, .int (0 : Int32)), (0, .ref b0), (1, .long x1), (3, .long x3), (5, .int x5)]) (by decide) rfl ?_
    refine kj_J.sub [1, 2, 3, 4, 0] rfl ?_
    refine kj_bn h (fun r1 h1 h => ?_)
    refine jlx_transposed_17 F hb h1 ?_
    refine kj_iinc F dX0_transposed_53 3 rfl (v := 1) (by decide) (by decide) (lv' := [(5, .int ((r1.2.2) + 1)), (0, .ref b0), (1, .long (r1.1)), (3, .long (r1.2.1))]) rfl ?_
    refine kj_goto F dX0_transposed_56 (tgt := 5) (by decide) ?_
    refine kj_J.sub [1, 2, 3, 0] rfl ?_
    exact kb (r1.1) (r1.2.1) ((r1.2.2) + 1) (Option.some.inj h).symm
theorem jlx_transposed_5 {p : Program} {l : Launch} {e : Env} {s : State} {m : MethodId} {args : Array Value} {below : List Frame} {meth : Method} {c : Code} {A : Nat → Prop} {D : va_G} {tys : List (ClassId × FieldType)} {S : Type} {w : S → va_W} {z : S} {Q : State → Prop} (F : kj_Fx p s m args meth c cX0_transposed 7 wsX0_transposed RX0 (some .long) D tys A) {ba bb bc : Int32} {b0 q0 : Nat} (hb : (w z)[q0]? = some (b0, .inr (0, [.int ba, .int bb, .int bc]))) {n : Nat} {x1 : Int64} {x3 : Int64} {x5 : Int32} {r : Int64} (h : lx_transposed_5 ba bb bc n x1 x3 x5 = some r) (ke : kj_J p l e rm_X0_transposed s m args below meth c 0 0 Q 7 D A (w z) 59 [(3, .long (r))] []) : kj_J p l e rm_X0_transposed s m args below meth c 0 0 Q 7 D A (w z) 5 [(0, .ref b0), (1, .long x1), (3, .long x3), (5, .int x5)] [] :=
  kj_it_J (Wh := fun (u : (Int64 × Int64 × Int32)) => kj_J p l e rm_X0_transposed s m args below meth c 0 0 Q 7 D A (w z) 5 [(0, .ref b0), (1, .long (u.1)), (3, .long (u.2.1)), (5, .int (u.2.2))] []) (We := fun r => kj_J p l e rm_X0_transposed s m args below meth c 0 0 Q 7 D A (w z) 59 [(3, .long (r))] []) (fun u o h kb ke => jx_transposed_5 F hb h (fun a0' a1' a2' e => kb (a0', a1', a2') e) (fun a0' e => ke a0' e)) n (x1, x3, x5) r h ke
set_option maxRecDepth 20000 in
theorem jx_transposed {p : Program} {l : Launch} {e : Env} {s : State} {m : MethodId} {args : Array Value} {below : List Frame} {meth : Method} {c : Code} {A : Nat → Prop} {D : va_G} {tys : List (ClassId × FieldType)} {S : Type} {w : S → va_W} {z : S} (F : kj_Fx p s m args meth c cX0_transposed 7 wsX0_transposed RX0 (some .long) D tys A) {ba bb bc : Int32} {b0 q0 : Nat} (hb : (w z)[q0]? = some (b0, .inr (0, [.int ba, .int bb, .int bc]))) {x1 : Int64} {o : Int64} (h : fx_transposed ba bb bc x1 = some o) : kj_J p l e rm_X0_transposed s m args below meth c 0 0 (MQ below (kj_Ql D tys A w (o, z)) args s 0 0 A) 7 D A (w z) 0 [(0, .ref b0), (1, .long x1)] [] := by
  unfold fx_transposed at h
  refine kj_lconst F dX0_transposed_0 (v := 0) (by decide) ?_
  refine kj_lstore_n F dX0_transposed_1 (lv' := [(3, .long (0 : Int64)), (0, .ref b0), (1, .long x1)]) rfl (by decide) rfl ?_
  refine kj_iconst F dX0_transposed_2 (v := 0) (by decide) ?_
  refine kj_istore F dX0_transposed_3 (lv' := [(5, .int (0 : Int32)), (3, .long (0 : Int64)), (0, .ref b0), (1, .long x1)]) (by decide) rfl ?_
  refine kj_J.sub [2, 3, 1, 0] rfl ?_
  refine kj_bn h (fun r1 h1 h => ?_)
  refine jlx_transposed_5 F hb h1 ?_
  refine kj_lload_n F dX0_transposed_59 0 rfl rfl ?_
  exact kj_lret F dX0_transposed_60 (kj_pr h)
theorem cx_transposed {l : Launch} {D : va_G} {tys : List (ClassId × FieldType)} {S : Type} {w : S → va_W} {z : S} {ba bb bc : Int32} {b0 q0 : Nat} (hb : (w z)[q0]? = some (b0, .inr (0, [.int ba, .int bb, .int bc]))) {x1 : Int64} {o : Int64} (h : fx_transposed ba bb bc x1 = some o) : kj_Ml l yX0_transposed wsX0_transposed rm_X0_transposed D tys w z [.ref b0, .long x1] (o, z) :=
  fun sz => kj_start (by decide) rfl (Nat.le_of_ble_eq_true rfl) rfl fun p e s m args below meth c hsz F => jx_transposed F hb h
/-! X0_rotated -/
abbrev rm_X0_rotated : Room := { frames := 1, cells := 0, slots := 0, locals := 24 }
theorem in_X0_rotated : ∀ w ∈ u_ws RX0 TX0 3, w ∈ wsX0_rotated := by decide +kernel
def fx_rotated_40 (ba bb bc : Int32) (x1 : Int64) (x3 : Int64) (x5 : Int32) (x6 : Int32) (x7 : Int32) (x8 : Int32) : Option ((Int64 × Int64 × Int32 × Int32 × Int32 × Int32) ⊕ (Int64 × Int64 × Int32 × Int32)) :=
  if x7 ≤ x8 then
  some (.inr (x1, x3, x5, x6))
  else
  (fx_cube x6 x8).bind fun o1 =>
  some (.inl (x1, (x3 + o1), x5, x6, x7, (x8 + 1)))
def lx_rotated_40 (ba bb bc : Int32) (n : Nat) (x1 : Int64) (x3 : Int64) (x5 : Int32) (x6 : Int32) (x7 : Int32) (x8 : Int32) : Option (Int64 × Int64 × Int32 × Int32) :=
  kj_it (fun (s : (Int64 × Int64 × Int32 × Int32 × Int32 × Int32)) => fx_rotated_40 ba bb bc (s.1) (s.2.1) (s.2.2.1) (s.2.2.2.1) (s.2.2.2.2.1) (s.2.2.2.2.2)) n (x1, x3, x5, x6, x7, x8)
def fx_rotated_17 (ba bb bc : Int32) (x1 : Int64) (x3 : Int64) (x5 : Int32) (x6 : Int32) : Option ((Int64 × Int64 × Int32 × Int32) ⊕ (Int64 × Int64 × Int32)) :=
  if bb ≤ x6 then
  some (.inr (x1, x3, x5))
  else
  (fx_level ba bb bc x1 x5 x6).bind fun o1 =>
  (lx_rotated_40 ba bb bc 5000 x1 x3 x5 x6 o1 (0 : Int32)).bind fun r2 =>
  some (.inl ((r2.1), (r2.2.1), (r2.2.2.1), ((r2.2.2.2) + 1)))
def lx_rotated_17 (ba bb bc : Int32) (n : Nat) (x1 : Int64) (x3 : Int64) (x5 : Int32) (x6 : Int32) : Option (Int64 × Int64 × Int32) :=
  kj_it (fun (s : (Int64 × Int64 × Int32 × Int32)) => fx_rotated_17 ba bb bc (s.1) (s.2.1) (s.2.2.1) (s.2.2.2)) n (x1, x3, x5, x6)
def fx_rotated_5 (ba bb bc : Int32) (x1 : Int64) (x3 : Int64) (x5 : Int32) : Option ((Int64 × Int64 × Int32) ⊕ Int64) :=
  if ba ≤ x5 then
  some (.inr x3)
  else
  (lx_rotated_17 ba bb bc 5000 x1 x3 x5 (0 : Int32)).bind fun r1 =>
  some (.inl ((r1.1), (r1.2.1), ((r1.2.2) + 1)))
def lx_rotated_5 (ba bb bc : Int32) (n : Nat) (x1 : Int64) (x3 : Int64) (x5 : Int32) : Option Int64 :=
  kj_it (fun (s : (Int64 × Int64 × Int32)) => fx_rotated_5 ba bb bc (s.1) (s.2.1) (s.2.2)) n (x1, x3, x5)
def fx_rotated (ba bb bc : Int32) (x1 : Int64) : Option Int64 :=
  (lx_rotated_5 ba bb bc 5000 x1 (0 : Int64) (0 : Int32)).bind fun r1 =>
  some (r1)
set_option maxRecDepth 20000 in
theorem jx_rotated_40 {p : Program} {l : Launch} {e : Env} {s : State} {m : MethodId} {args : Array Value} {below : List Frame} {meth : Method} {c : Code} {A : Nat → Prop} {D : va_G} {tys : List (ClassId × FieldType)} {S : Type} {w : S → va_W} {z : S} {Q : State → Prop} (F : kj_Fx p s m args meth c cX0_rotated 9 wsX0_rotated RX0 (some .long) D tys A) {ba bb bc : Int32} {b0 q0 : Nat} (hb : (w z)[q0]? = some (b0, .inr (0, [.int ba, .int bb, .int bc]))) {x1 : Int64} {x3 : Int64} {x5 : Int32} {x6 : Int32} {x7 : Int32} {x8 : Int32} {o : ((Int64 × Int64 × Int32 × Int32 × Int32 × Int32) ⊕ (Int64 × Int64 × Int32 × Int32))} (h : fx_rotated_40 ba bb bc x1 x3 x5 x6 x7 x8 = some o) (kb : ∀ (a0' : Int64) (a1' : Int64) (a2' : Int32) (a3' : Int32) (a4' : Int32) (a5' : Int32), o = .inl (a0', a1', a2', a3', a4', a5') → kj_J p l e rm_X0_rotated s m args below meth c 0 0 Q 9 D A (w z) 40 [(0, .ref b0), (1, .long a0'), (3, .long a1'), (5, .int a2'), (6, .int a3'), (7, .int a4'), (8, .int a5')] []) (ke0 : ∀ (a0' : Int64) (a1' : Int64) (a2' : Int32) (a3' : Int32), o = .inr (a0', a1', a2', a3') → kj_J p l e rm_X0_rotated s m args below meth c 0 0 Q 9 D A (w z) 63 [(0, .ref b0), (1, .long a0'), (3, .long a1'), (5, .int a2'), (6, .int a3')] []) : kj_J p l e rm_X0_rotated s m args below meth c 0 0 Q 9 D A (w z) 40 [(0, .ref b0), (1, .long x1), (3, .long x3), (5, .int x5), (6, .int x6), (7, .int x7), (8, .int x8)] [] := by
  unfold fx_rotated_40 at h
  refine kj_iload F dX0_rotated_40 6 rfl ?_
  refine kj_iload F dX0_rotated_42 5 rfl ?_
  refine kj_icmp_ge F dX0_rotated_44 (tgt := 63) (by decide) h (fun hc h => ?_) (fun hc h => ?_)
  · refine kj_J.sub [0, 1, 2, 3, 4] rfl ?_
    exact ke0 x1 x3 x5 x6 (Option.some.inj h).symm
  · refine kj_lload_n F dX0_rotated_47 2 rfl rfl ?_
    refine kj_iload F dX0_rotated_48 4 rfl ?_
    refine kj_iload F dX0_rotated_50 6 rfl ?_
    refine kj_cSlp (As := [.int x6, .int x8]) (rest := [.long x3]) F dX0_rotated_52 h (fun o h1 => cx_cube (w := w) h1) (va_cwS 2 F.2.2.2.2.1 gX0_rotated_X0_cube rfl rfl rfl (by decide +kernel) ⟨Nat.le_of_ble_eq_true rfl, Nat.le_of_ble_eq_true rfl⟩) rfl rfl (Nat.le_of_ble_eq_true rfl) ⟨Nat.zero_le _, Nat.zero_le _⟩ (fun o1 h => ?_)
    refine kj_ladd F dX0_rotated_55 ?_
    refine kj_lstore_n F dX0_rotated_56 (lv' := [(3, .long (x3 + o1)), (0, .ref b0), (1, .long x1), (5, .int x5), (6, .int x6), (7, .int x7), (8, .int x8)]) rfl (by decide) rfl ?_
    refine kj_iinc F dX0_rotated_57 6 rfl (v := 1) (by decide) (by decide) (lv' := [(8, .int (x8 + 1)), (3, .long (x3 + o1)), (0, .ref b0), (1, .long x1), (5, .int x5), (6, .int x6), (7, .int x7)]) rfl ?_
    refine kj_goto F dX0_rotated_60 (tgt := 40) (by decide) ?_
    refine kj_J.sub [2, 3, 1, 4, 5, 6, 0] rfl ?_
    exact kb x1 (x3 + o1) x5 x6 x7 (x8 + 1) (Option.some.inj h).symm
theorem jlx_rotated_40 {p : Program} {l : Launch} {e : Env} {s : State} {m : MethodId} {args : Array Value} {below : List Frame} {meth : Method} {c : Code} {A : Nat → Prop} {D : va_G} {tys : List (ClassId × FieldType)} {S : Type} {w : S → va_W} {z : S} {Q : State → Prop} (F : kj_Fx p s m args meth c cX0_rotated 9 wsX0_rotated RX0 (some .long) D tys A) {ba bb bc : Int32} {b0 q0 : Nat} (hb : (w z)[q0]? = some (b0, .inr (0, [.int ba, .int bb, .int bc]))) {n : Nat} {x1 : Int64} {x3 : Int64} {x5 : Int32} {x6 : Int32} {x7 : Int32} {x8 : Int32} {r : (Int64 × Int64 × Int32 × Int32)} (h : lx_rotated_40 ba bb bc n x1 x3 x5 x6 x7 x8 = some r) (ke : kj_J p l e rm_X0_rotated s m args below meth c 0 0 Q 9 D A (w z) 63 [(0, .ref b0), (1, .long (r.1)), (3, .long (r.2.1)), (5, .int (r.2.2.1)), (6, .int (r.2.2.2))] []) : kj_J p l e rm_X0_rotated s m args below meth c 0 0 Q 9 D A (w z) 40 [(0, .ref b0), (1, .long x1), (3, .long x3), (5, .int x5), (6, .int x6), (7, .int x7), (8, .int x8)] [] :=
  kj_it_J (Wh := fun (u : (Int64 × Int64 × Int32 × Int32 × Int32 × Int32)) => kj_J p l e rm_X0_rotated s m args below meth c 0 0 Q 9 D A (w z) 40 [(0, .ref b0), (1, .long (u.1)), (3, .long (u.2.1)), (5, .int (u.2.2.1)), (6, .int (u.2.2.2.1)), (7, .int (u.2.2.2.2.1)), (8, .int (u.2.2.2.2.2))] []) (We := fun r => kj_J p l e rm_X0_rotated s m args below meth c 0 0 Q 9 D A (w z) 63 [(0, .ref b0), (1, .long (r.1)), (3, .long (r.2.1)), (5, .int (r.2.2.1)), (6, .int (r.2.2.2))] []) (fun u o h kb ke => jx_rotated_40 F hb h (fun a0' a1' a2' a3' a4' a5' e => kb (a0', a1', a2', a3', a4', a5') e) (fun a0' a1' a2' a3' e => ke (a0', a1', a2', a3') e)) n (x1, x3, x5, x6, x7, x8) r h ke
set_option maxRecDepth 20000 in
theorem jx_rotated_17 {p : Program} {l : Launch} {e : Env} {s : State} {m : MethodId} {args : Array Value} {below : List Frame} {meth : Method} {c : Code} {A : Nat → Prop} {D : va_G} {tys : List (ClassId × FieldType)} {S : Type} {w : S → va_W} {z : S} {Q : State → Prop} (F : kj_Fx p s m args meth c cX0_rotated 9 wsX0_rotated RX0 (some .long) D tys A) {ba bb bc : Int32} {b0 q0 : Nat} (hb : (w z)[q0]? = some (b0, .inr (0, [.int ba, .int bb, .int bc]))) {x1 : Int64} {x3 : Int64} {x5 : Int32} {x6 : Int32} {o : ((Int64 × Int64 × Int32 × Int32) ⊕ (Int64 × Int64 × Int32))} (h : fx_rotated_17 ba bb bc x1 x3 x5 x6 = some o) (kb : ∀ (a0' : Int64) (a1' : Int64) (a2' : Int32) (a3' : Int32), o = .inl (a0', a1', a2', a3') → kj_J p l e rm_X0_rotated s m args below meth c 0 0 Q 9 D A (w z) 17 [(0, .ref b0), (1, .long a0'), (3, .long a1'), (5, .int a2'), (6, .int a3')] []) (ke0 : ∀ (a0' : Int64) (a1' : Int64) (a2' : Int32), o = .inr (a0', a1', a2') → kj_J p l e rm_X0_rotated s m args below meth c 0 0 Q 9 D A (w z) 69 [(0, .ref b0), (1, .long a0'), (3, .long a1'), (5, .int a2')] []) : kj_J p l e rm_X0_rotated s m args below meth c 0 0 Q 9 D A (w z) 17 [(0, .ref b0), (1, .long x1), (3, .long x3), (5, .int x5), (6, .int x6)] [] := by
  unfold fx_rotated_17 at h
  refine kj_iload F dX0_rotated_17 4 rfl ?_
  refine kj_aload_n F dX0_rotated_19 0 rfl rfl ?_
  refine kj_get F dX0_rotated_20 in_X0_rotated _ hb rfl 1 (by decide) (by decide +kernel) rfl rfl ?_
  refine kj_icmp_ge F dX0_rotated_23 (tgt := 69) (by decide) h (fun hc h => ?_) (fun hc h => ?_)
  · refine kj_J.sub [0, 1, 2, 3] rfl ?_
    exact ke0 x1 x3 x5 (Option.some.inj h).symm
  · refine kj_aload_n F dX0_rotated_26 0 rfl rfl ?_
    refine kj_lload_n F dX0_rotated_27 1 rfl rfl ?_
    refine kj_iload F dX0_rotated_28 3 rfl ?_
    refine kj_iload F dX0_rotated_30 4 rfl ?_
    refine kj_cVip (As := [.long x1, .int x5, .int x6]) (rest := []) F dX0_rotated_32 h (fun o h1 => cx_level (w := w) hb h1) (cwV 3 F.2.2.2.2.1 gX0_rotated_X0_level rfl rfl rfl (by decide +kernel) ⟨Nat.le_of_ble_eq_true rfl, Nat.le_of_ble_eq_true rfl⟩) _ hb rfl rfl rfl rfl (Nat.le_of_ble_eq_true rfl) ⟨Nat.zero_le _, Nat.zero_le _⟩ (fun o1 h => ?_)
    refine kj_istore F dX0_rotated_35 (lv' := [(7, .int o1), (0, .ref b0), (1, .long x1), (3, .long x3), (5, .int x5), (6, .int x6)]) (by decide) rfl ?_
    refine kj_iconst F dX0_rotated_37 (v := 0) (by decide) ?_
    refine kj_istore F dX0_rotated_38 (lv' := [(8, .int (0 : Int32)), (7, .int o1), (0, .ref b0), (1, .long x1), (3, .long x3), (5, .int x5), (6, .int x6)]) (by decide) rfl ?_
    refine kj_J.sub [2, 3, 4, 5, 6, 1, 0] rfl ?_
    refine kj_bn h (fun r2 h1 h => ?_)
    refine jlx_rotated_40 F hb h1 ?_
    refine kj_iinc F dX0_rotated_63 4 rfl (v := 1) (by decide) (by decide) (lv' := [(6, .int ((r2.2.2.2) + 1)), (0, .ref b0), (1, .long (r2.1)), (3, .long (r2.2.1)), (5, .int (r2.2.2.1))]) rfl ?_
    refine kj_goto F dX0_rotated_66 (tgt := 17) (by decide) ?_
    refine kj_J.sub [1, 2, 3, 4, 0] rfl ?_
    exact kb (r2.1) (r2.2.1) (r2.2.2.1) ((r2.2.2.2) + 1) (Option.some.inj h).symm
theorem jlx_rotated_17 {p : Program} {l : Launch} {e : Env} {s : State} {m : MethodId} {args : Array Value} {below : List Frame} {meth : Method} {c : Code} {A : Nat → Prop} {D : va_G} {tys : List (ClassId × FieldType)} {S : Type} {w : S → va_W} {z : S} {Q : State → Prop} (F : kj_Fx p s m args meth c cX0_rotated 9 wsX0_rotated RX0 (some .long) D tys A) {ba bb bc : Int32} {b0 q0 : Nat} (hb : (w z)[q0]? = some (b0, .inr (0, [.int ba, .int bb, .int bc]))) {n : Nat} {x1 : Int64} {x3 : Int64} {x5 : Int32} {x6 : Int32} {r : (Int64 × Int64 × Int32)} (h : lx_rotated_17 ba bb bc n x1 x3 x5 x6 = some r) (ke : kj_J p l e rm_X0_rotated s m args below meth c 0 0 Q 9 D A (w z) 69 [(0, .ref b0), (1, .long (r.1)), (3, .long (r.2.1)), (5, .int (r.2.2))] []) : kj_J p l e rm_X0_rotated s m args below meth c 0 0 Q 9 D A (w z) 17 [(0, .ref b0), (1, .long x1), (3, .long x3), (5, .int x5), (6, .int x6)] [] :=
  kj_it_J (Wh := fun (u : (Int64 × Int64 × Int32 × Int32)) => kj_J p l e rm_X0_rotated s m args below meth c 0 0 Q 9 D A (w z) 17 [(0, .ref b0), (1, .long (u.1)), (3, .long (u.2.1)), (5, .int (u.2.2.1)), (6, .int (u.2.2.2))] []) (We := fun r => kj_J p l e rm_X0_rotated s m args below meth c 0 0 Q 9 D A (w z) 69 [(0, .ref b0), (1, .long (r.1)), (3, .long (r.2.1)), (5, .int (r.2.2))] []) (fun u o h kb ke => jx_rotated_17 F hb h (fun a0' a1' a2' a3' e => kb (a0', a1', a2', a3') e) (fun a0' a1' a2' e => ke (a0', a1', a2') e)) n (x1, x3, x5, x6) r h ke
set_option maxRecDepth 20000 in
theorem jx_rotated_5 {p : Program} {l : Launch} {e : Env} {s : State} {m : MethodId} {args : Array Value} {below : List Frame} {meth : Method} {c : Code} {A : Nat → Prop} {D : va_G} {tys : List (ClassId × FieldType)} {S : Type} {w : S → va_W} {z : S} {Q : State → Prop} (F : kj_Fx p s m args meth c cX0_rotated 9 wsX0_rotated RX0 (some .long) D tys A) {ba bb bc : Int32} {b0 q0 : Nat} (hb : (w z)[q0]? = some (b0, .inr (0, [.int ba, .int bb, .int bc]))) {x1 : Int64} {x3 : Int64} {x5 : Int32} {o : ((Int64 × Int64 × Int32) ⊕ Int64)} (h : fx_rotated_5 ba bb bc x1 x3 x5 = some o) (kb : ∀ (a0' : Int64) (a1' : Int64) (a2' : Int32), o = .inl (a0', a1', a2') → kj_J p l e rm_X0_rotated s m args below meth c 0 0 Q 9 D A (w z) 5 [(0, .ref b0), (1, .long a0'), (3, .long a1'), (5, .int a2')] []) (ke0 : ∀ (a0' : Int64), o = .inr a0' → kj_J p l e rm_X0_rotated s m args below meth c 0 0 Q 9 D A (w z) 75 [(3, .long a0')] []) : kj_J p l e rm_X0_rotated s m args below meth c 0 0 Q 9 D A (w z) 5 [(0, .ref b0), (1, .long x1), (3, .long x3), (5, .int x5)] [] := by
  unfold fx_rotated_5 at h
  refine kj_iload F dX0_rotated_5 3 rfl ?_
  refine kj_aload_n F dX0_rotated_7 0 rfl rfl ?_
  refine kj_get F dX0_rotated_8 in_X0_rotated _ hb rfl 0 (by decide) (by decide +kernel) rfl rfl ?_
  refine kj_icmp_ge F dX0_rotated_11 (tgt := 75) (by decide) h (fun hc h => ?_) (fun hc h => ?_)
  · refine kj_J.sub [2] rfl ?_
    exact ke0 x3 (Option.some.inj h).symm
  · refine kj_iconst F dX0_rotated_14 (v := 0) (by decide) ?_
    refine kj_istore F dX0_rotated_15 (lv' := [(6, .int (0 : Int32)), (0, .ref b0), (1, .long x1), (3, .long x3), (5, .int x5)]) (by decide) rfl ?_
    refine kj_J.sub [1, 2, 3, 4, 0] rfl ?_
    refine kj_bn h (fun r1 h1 h => ?_)
    refine jlx_rotated_17 F hb h1 ?_
    refine kj_iinc F dX0_rotated_69 3 rfl (v := 1) (by decide) (by decide) (lv' := [(5, .int ((r1.2.2) + 1)), (0, .ref b0), (1, .long (r1.1)), (3, .long (r1.2.1))]) rfl ?_
    refine kj_goto F dX0_rotated_72 (tgt := 5) (by decide) ?_
    refine kj_J.sub [1, 2, 3, 0] rfl ?_
    exact kb (r1.1) (r1.2.1) ((r1.2.2) + 1) (Option.some.inj h).symm
theorem jlx_rotated_5 {p : Program} {l : Launch} {e : Env} {s : State} {m : MethodId} {args : Array Value} {below : List Frame} {meth : Method} {c : Code} {A : Nat → Prop} {D : va_G} {tys : List (ClassId × FieldType)} {S : Type} {w : S → va_W} {z : S} {Q : State → Prop} (F : kj_Fx p s m args meth c cX0_rotated 9 wsX0_rotated RX0 (some .long) D tys A) {ba bb bc : Int32} {b0 q0 : Nat} (hb : (w z)[q0]? = some (b0, .inr (0, [.int ba, .int bb, .int bc]))) {n : Nat} {x1 : Int64} {x3 : Int64} {x5 : Int32} {r : Int64} (h : lx_rotated_5 ba bb bc n x1 x3 x5 = some r) (ke : kj_J p l e rm_X0_rotated s m args below meth c 0 0 Q 9 D A (w z) 75 [(3, .long (r))] []) : kj_J p l e rm_X0_rotated s m args below meth c 0 0 Q 9 D A (w z) 5 [(0, .ref b0), (1, .long x1), (3, .long x3), (5, .int x5)] [] :=
  kj_it_J (Wh := fun (u : (Int64 × Int64 × Int32)) => kj_J p l e rm_X0_rotated s m args below meth c 0 0 Q 9 D A (w z) 5 [(0, .ref b0), (1, .long (u.1)), (3, .long (u.2.1)), (5, .int (u.2.2))] []) (We := fun r => kj_J p l e rm_X0_rotated s m args below meth c 0 0 Q 9 D A (w z) 75 [(3, .long (r))] []) (fun u o h kb ke => jx_rotated_5 F hb h (fun a0' a1' a2' e => kb (a0', a1', a2') e) (fun a0' e => ke a0' e)) n (x1, x3, x5) r h ke
set_option maxRecDepth 20000 in
theorem jx_rotated {p : Program} {l : Launch} {e : Env} {s : State} {m : MethodId} {args : Array Value} {below : List Frame} {meth : Method} {c : Code} {A : Nat → Prop} {D : va_G} {tys : List (ClassId × FieldType)} {S : Type} {w : S → va_W} {z : S} (F : kj_Fx p s m args meth c cX0_rotated 9 wsX0_rotated RX0 (some .long) D tys A) {ba bb bc : Int32} {b0 q0 : Nat} (hb : (w z)[q0]? = some (b0, .inr (0, [.int ba, .int bb, .int bc]))) {x1 : Int64} {o : Int64} (h : fx_rotated ba bb bc x1 = some o) : kj_J p l e rm_X0_rotated s m args below meth c 0 0 (MQ below (kj_Ql D tys A w (o, z)) args s 0 0 A) 9 D A (w z) 0 [(0, .ref b0), (1, .long x1)] [] := by
  unfold fx_rotated at h
  refine kj_lconst F dX0_rotated_0 (v := 0) (by decide) ?_
  refine kj_lstore_n F dX0_rotated_1 (lv' := [(3, .long (0 : Int64)), (0, .ref b0), (1, .long x1)]) rfl (by decide) rfl ?_
  refine kj_iconst F dX0_rotated_2 (v := 0) (by decide) ?_
  refine kj_istore F dX0_rotated_3 (lv' := [(5, .int (0 : Int32)), (3, .long (0 : Int64)), (0, .ref b0), (1, .long x1)]) (by decide) rfl ?_
  refine kj_J.sub [2, 3, 1, 0] rfl ?_
  refine kj_bn h (fun r1 h1 h => ?_)
  refine jlx_rotated_5 F hb h1 ?_
  refine kj_lload_n F dX0_rotated_75 0 rfl rfl ?_
  exact kj_lret F dX0_rotated_76 (kj_pr h)
theorem cx_rotated {l : Launch} {D : va_G} {tys : List (ClassId × FieldType)} {S : Type} {w : S → va_W} {z : S} {ba bb bc : Int32} {b0 q0 : Nat} (hb : (w z)[q0]? = some (b0, .inr (0, [.int ba, .int bb, .int bc]))) {x1 : Int64} {o : Int64} (h : fx_rotated ba bb bc x1 = some o) : kj_Ml l yX0_rotated wsX0_rotated rm_X0_rotated D tys w z [.ref b0, .long x1] (o, z) :=
  fun sz => kj_start (by decide) rfl (Nat.le_of_ble_eq_true rfl) rfl fun p e s m args below meth c hsz F => jx_rotated F hb h
/-! X0_complemented -/
abbrev rm_X0_complemented : Room := { frames := 1, cells := 0, slots := 0, locals := 24 }
theorem in_X0_complemented : ∀ w ∈ u_ws RX0 TX0 3, w ∈ wsX0_complemented := by decide +kernel
def fx_complemented_17 (ba bb bc : Int32) (x1 : Int64) (x3 : Int64) (x5 : Int32) (x6 : Int32) : Option ((Int64 × Int64 × Int32 × Int32) ⊕ (Int64 × Int64 × Int32)) :=
  if bb ≤ x6 then
  some (.inr (x1, x3, x5))
  else
  (fx_cube x5 x6).bind fun o1 =>
  (fx_level ba bb bc x1 ((ba - (1 : Int32)) - x5) ((bb - (1 : Int32)) - x6)).bind fun o2 =>
  some (.inl (x1, (x3 + (o1 * ((bc - o2)).toInt64)), x5, (x6 + 1)))
def lx_complemented_17 (ba bb bc : Int32) (n : Nat) (x1 : Int64) (x3 : Int64) (x5 : Int32) (x6 : Int32) : Option (Int64 × Int64 × Int32) :=
  kj_it (fun (s : (Int64 × Int64 × Int32 × Int32)) => fx_complemented_17 ba bb bc (s.1) (s.2.1) (s.2.2.1) (s.2.2.2)) n (x1, x3, x5, x6)
def fx_complemented_5 (ba bb bc : Int32) (x1 : Int64) (x3 : Int64) (x5 : Int32) : Option ((Int64 × Int64 × Int32) ⊕ Int64) :=
  if ba ≤ x5 then
  some (.inr x3)
  else
  (lx_complemented_17 ba bb bc 5000 x1 x3 x5 (0 : Int32)).bind fun r1 =>
  some (.inl ((r1.1), (r1.2.1), ((r1.2.2) + 1)))
def lx_complemented_5 (ba bb bc : Int32) (n : Nat) (x1 : Int64) (x3 : Int64) (x5 : Int32) : Option Int64 :=
  kj_it (fun (s : (Int64 × Int64 × Int32)) => fx_complemented_5 ba bb bc (s.1) (s.2.1) (s.2.2)) n (x1, x3, x5)
def fx_complemented (ba bb bc : Int32) (x1 : Int64) : Option Int64 :=
  (lx_complemented_5 ba bb bc 5000 x1 (0 : Int64) (0 : Int32)).bind fun r1 =>
  some (r1)
set_option maxRecDepth 20000 in
theorem jx_complemented_17 {p : Program} {l : Launch} {e : Env} {s : State} {m : MethodId} {args : Array Value} {below : List Frame} {meth : Method} {c : Code} {A : Nat → Prop} {D : va_G} {tys : List (ClassId × FieldType)} {S : Type} {w : S → va_W} {z : S} {Q : State → Prop} (F : kj_Fx p s m args meth c cX0_complemented 7 wsX0_complemented RX0 (some .long) D tys A) {ba bb bc : Int32} {b0 q0 : Nat} (hb : (w z)[q0]? = some (b0, .inr (0, [.int ba, .int bb, .int bc]))) {x1 : Int64} {x3 : Int64} {x5 : Int32} {x6 : Int32} {o : ((Int64 × Int64 × Int32 × Int32) ⊕ (Int64 × Int64 × Int32))} (h : fx_complemented_17 ba bb bc x1 x3 x5 x6 = some o) (kb : ∀ (a0' : Int64) (a1' : Int64) (a2' : Int32) (a3' : Int32), o = .inl (a0', a1', a2', a3') → kj_J p l e rm_X0_complemented s m args below meth c 0 0 Q 7 D A (w z) 17 [(0, .ref b0), (1, .long a0'), (3, .long a1'), (5, .int a2'), (6, .int a3')] []) (ke0 : ∀ (a0' : Int64) (a1' : Int64) (a2' : Int32), o = .inr (a0', a1', a2') → kj_J p l e rm_X0_complemented s m args below meth c 0 0 Q 7 D A (w z) 72 [(0, .ref b0), (1, .long a0'), (3, .long a1'), (5, .int a2')] []) : kj_J p l e rm_X0_complemented s m args below meth c 0 0 Q 7 D A (w z) 17 [(0, .ref b0), (1, .long x1), (3, .long x3), (5, .int x5), (6, .int x6)] [] := by
  unfold fx_complemented_17 at h
  refine kj_iload F dX0_complemented_17 4 rfl ?_
  refine kj_aload_n F dX0_complemented_19 0 rfl rfl ?_
  refine kj_get F dX0_complemented_20 in_X0_complemented _ hb rfl 1 (by decide) (by decide +kernel) rfl rfl ?_
  refine kj_icmp_ge F dX0_complemented_23 (tgt := 72) (by decide) h (fun hc h => ?_) (fun hc h => ?_)
  · refine kj_J.sub [0, 1, 2, 3] rfl ?_
    exact ke0 x1 x3 x5 (Option.some.inj h).symm
  · refine kj_lload_n F dX0_complemented_26 2 rfl rfl ?_
    refine kj_iload F dX0_complemented_27 3 rfl ?_
    refine kj_iload F dX0_complemented_29 4 rfl ?_
    refine kj_cSlp (As := [.int x5, .int x6]) (rest := [.long x3]) F dX0_complemented_31 h (fun o h1 => cx_cube (w := w) h1) (va_cwS 2 F.2.2.2.2.1 gX0_complemented_X0_cube rfl rfl rfl (by decide +kernel) ⟨Nat.le_of_ble_eq_true rfl, Nat.le_of_ble_eq_true rfl⟩) rfl rfl (Nat.le_of_ble_eq_true rfl) ⟨Nat.zero_le _, Nat.zero_le _⟩ (fun o1 h => ?_)
    refine kj_aload_n F dX0_complemented_34 0 rfl rfl ?_
    refine kj_get F dX0_complemented_35 in_X0_complemented _ hb rfl 2 (by decide) (by decide +kernel) rfl rfl ?_
    refine kj_aload_n F dX0_complemented_38 0 rfl rfl ?_
    refine kj_lload_n F dX0_complemented_39 1 rfl rfl ?_
    refine kj_aload_n F dX0_complemented_40 0 rfl rfl ?_
    refine kj_get F dX0_complemented_41 in_X0_complemented _ hb rfl 0 (by decide) (by decide +kernel) rfl rfl ?_
    refine kj_iconst F dX0_complemented_44 (v := 1) (by decide) ?_
    refine kj_isub F dX0_complemented_45 ?_
    refine kj_iload F dX0_complemented_46 3 rfl ?_
    refine kj_isub F dX0_complemented_48 ?_
    refine kj_aload_n F dX0_complemented_49 0 rfl rfl ?_
    refine kj_get F dX0_complemented_50 in_X0_complemented _ hb rfl 1 (by decide) (by decide +kernel) rfl rfl ?_
    refine kj_iconst F dX0_complemented_53 (v := 1) (by decide) ?_
    refine kj_isub F dX0_complemented_54 ?_
    refine kj_iload F dX0_complemented_55 4 rfl ?_
    refine kj_isub F dX0_complemented_57 ?_
    refine kj_cVip (As := [.long x1, .int ((ba - (1 : Int32)) - x5), .int ((bb - (1 : Int32)) - x6)]) (rest := [.int bc, .long o1, .long x3]) F dX0_complemented_58 h (fun o h1 => cx_level (w := w) hb h1) (cwV 3 F.2.2.2.2.1 gX0_complemented_X0_level rfl rfl rfl (by decide +kernel) ⟨Nat.le_of_ble_eq_true rfl, Nat.le_of_ble_eq_true rfl⟩) _ hb rfl rfl rfl rfl (Nat.le_of_ble_eq_true rfl) ⟨Nat.zero_le _, Nat.zero_le _⟩ (fun o2 h => ?_)
    refine kj_isub F dX0_complemented_61 ?_
    refine kj_i2l F dX0_complemented_62 ?_
    refine kj_lmul F dX0_complemented_63 ?_
    refine kj_ladd F dX0_complemented_64 ?_
    refine kj_lstore_n F dX0_complemented_65 (lv' := [(3, .long (x3 + (o1 * ((bc - o2)).toInt64))), (0, .ref b0), (1, .long x1), (5, .int x5), (6, .int x6)]) rfl (by decide) rfl ?_
    refine kj_iinc F dX0_complemented_66 4 rfl (v := 1) (by decide) (by decide) (lv' := [(6, .int (x6 + 1)), (3, .long (x3 + (o1 * ((bc - o2)).toInt64))), (0, .ref b0), (1, .long x1), (5, .int x5)]) rfl ?_
    refine kj_goto F dX0_complemented_69 (tgt := 17) (by decide) ?_
    refine kj_J.sub [2, 3, 1, 4, 0] rfl ?_
    exact kb x1 (x3 + (o1 * ((bc - o2)).toInt64)) x5 (x6 + 1) (Option.some.inj h).symm
theorem jlx_complemented_17 {p : Program} {l : Launch} {e : Env} {s : State} {m : MethodId} {args : Array Value} {below : List Frame} {meth : Method} {c : Code} {A : Nat → Prop} {D : va_G} {tys : List (ClassId × FieldType)} {S : Type} {w : S → va_W} {z : S} {Q : State → Prop} (F : kj_Fx p s m args meth c cX0_complemented 7 wsX0_complemented RX0 (some .long) D tys A) {ba bb bc : Int32} {b0 q0 : Nat} (hb : (w z)[q0]? = some (b0, .inr (0, [.int ba, .int bb, .int bc]))) {n : Nat} {x1 : Int64} {x3 : Int64} {x5 : Int32} {x6 : Int32} {r : (Int64 × Int64 × Int32)} (h : lx_complemented_17 ba bb bc n x1 x3 x5 x6 = some r) (ke : kj_J p l e rm_X0_complemented s m args below meth c 0 0 Q 7 D A (w z) 72 [(0, .ref b0), (1, .long (r.1)), (3, .long (r.2.1)), (5, .int (r.2.2))] []) : kj_J p l e rm_X0_complemented s m args below meth c 0 0 Q 7 D A (w z) 17 [(0, .ref b0), (1, .long x1), (3, .long x3), (5, .int x5), (6, .int x6)] [] :=
  kj_it_J (Wh := fun (u : (Int64 × Int64 × Int32 × Int32)) => kj_J p l e rm_X0_complemented s m args below meth c 0 0 Q 7 D A (w z) 17 [(0, .ref b0), (1, .long (u.1)), (3, .long (u.2.1)), (5, .int (u.2.2.1)), (6, .int (u.2.2.2))] []) (We := fun r => kj_J p l e rm_X0_complemented s m args below meth c 0 0 Q 7 D A (w z) 72 [(0, .ref b0), (1, .long (r.1)), (3, .long (r.2.1)), (5, .int (r.2.2))] []) (fun u o h kb ke => jx_complemented_17 F hb h (fun a0' a1' a2' a3' e => kb (a0', a1', a2', a3') e) (fun a0' a1' a2' e => ke (a0', a1', a2') e)) n (x1, x3, x5, x6) r h ke
set_option maxRecDepth 20000 in
theorem jx_complemented_5 {p : Program} {l : Launch} {e : Env} {s : State} {m : MethodId} {args : Array Value} {below : List Frame} {meth : Method} {c : Code} {A : Nat → Prop} {D : va_G} {tys : List (ClassId × FieldType)} {S : Type} {w : S → va_W} {z : S} {Q : State → Prop} (F : kj_Fx p s m args meth c cX0_complemented 7 wsX0_complemented RX0 (some .long) D tys A) {ba bb bc : Int32} {b0 q0 : Nat} (hb : (w z)[q0]? = some (b0, .inr (0, [.int ba, .int bb, .int bc]))) {x1 : Int64} {x3 : Int64} {x5 : Int32} {o : ((Int64 × Int64 × Int32) ⊕ Int64)} (h : fx_complemented_5 ba bb bc x1 x3 x5 = some o) (kb : ∀ (a0' : Int64) (a1' : Int64) (a2' : Int32), o = .inl (a0', a1', a2') → kj_J p l e rm_X0_complemented s m args below meth c 0 0 Q 7 D A (w z) 5 [(0, .ref b0), (1, .long a0'), (3, .long a1'), (5, .int a2')] []) (ke0 : ∀ (a0' : Int64), o = .inr a0' → kj_J p l e rm_X0_complemented s m args below meth c 0 0 Q 7 D A (w z) 78 [(3, .long a0')] []) : kj_J p l e rm_X0_complemented s m args below meth c 0 0 Q 7 D A (w z) 5 [(0, .ref b0), (1, .long x1), (3, .long x3), (5, .int x5)] [] := by
  unfold fx_complemented_5 at h
  refine kj_iload F dX0_complemented_5 3 rfl ?_
  refine kj_aload_n F dX0_complemented_7 0 rfl rfl ?_
  refine kj_get F dX0_complemented_8 in_X0_complemented _ hb rfl 0 (by decide) (by decide +kernel) rfl rfl ?_
  refine kj_icmp_ge F dX0_complemented_11 (tgt := 78) (by decide) h (fun hc h => ?_) (fun hc h => ?_)
  · refine kj_J.sub [2] rfl ?_
    exact ke0 x3 (Option.some.inj h).symm
  · refine kj_iconst F dX0_complemented_14 (v := 0) (by decide) ?_
    refine kj_istore F dX0_complemented_15 (lv' := [(6, .int (0 : Int32)), (0, .ref b0), (1, .long x1), (3, .long x3), (5, .int x5)]) (by decide) rfl ?_
    refine kj_J.sub [1, 2, 3, 4, 0] rfl ?_
    refine kj_bn h (fun r1 h1 h => ?_)
    refine jlx_complemented_17 F hb h1 ?_
    refine kj_iinc F dX0_complemented_72 3 rfl (v := 1) (by decide) (by decide) (lv' := [(5, .int ((r1.2.2) + 1)), (0, .ref b0), (1, .long (r1.1)), (3, .long (r1.2.1))]) rfl ?_
    refine kj_goto F dX0_complemented_75 (tgt := 5) (by decide) ?_
    refine kj_J.sub [1, 2, 3, 0] rfl ?_
    exact kb (r1.1) (r1.2.1) ((r1.2.2) + 1) (Option.some.inj h).symm
theorem jlx_complemented_5 {p : Program} {l : Launch} {e : Env} {s : State} {m : MethodId} {args : Array Value} {below : List Frame} {meth : Method} {c : Code} {A : Nat → Prop} {D : va_G} {tys : List (ClassId × FieldType)} {S : Type} {w : S → va_W} {z : S} {Q : State → Prop} (F : kj_Fx p s m args meth c cX0_complemented 7 wsX0_complemented RX0 (some .long) D tys A) {ba bb bc : Int32} {b0 q0 : Nat} (hb : (w z)[q0]? = some (b0, .inr (0, [.int ba, .int bb, .int bc]))) {n : Nat} {x1 : Int64} {x3 : Int64} {x5 : Int32} {r : Int64} (h : lx_complemented_5 ba bb bc n x1 x3 x5 = some r) (ke : kj_J p l e rm_X0_complemented s m args below meth c 0 0 Q 7 D A (w z) 78 [(3, .long (r))] []) : kj_J p l e rm_X0_complemented s m args below meth c 0 0 Q 7 D A (w z) 5 [(0, .ref b0), (1, .long x1), (3, .long x3), (5, .int x5)] [] :=
  kj_it_J (Wh := fun (u : (Int64 × Int64 × Int32)) => kj_J p l e rm_X0_complemented s m args below meth c 0 0 Q 7 D A (w z) 5 [(0, .ref b0), (1, .long (u.1)), (3, .long (u.2.1)), (5, .int (u.2.2))] []) (We := fun r => kj_J p l e rm_X0_complemented s m args below meth c 0 0 Q 7 D A (w z) 78 [(3, .long (r))] []) (fun u o h kb ke => jx_complemented_5 F hb h (fun a0' a1' a2' e => kb (a0', a1', a2') e) (fun a0' e => ke a0' e)) n (x1, x3, x5) r h ke
set_option maxRecDepth 20000 in
theorem jx_complemented {p : Program} {l : Launch} {e : Env} {s : State} {m : MethodId} {args : Array Value} {below : List Frame} {meth : Method} {c : Code} {A : Nat → Prop} {D : va_G} {tys : List (ClassId × FieldType)} {S : Type} {w : S → va_W} {z : S} (F : kj_Fx p s m args meth c cX0_complemented 7 wsX0_complemented RX0 (some .long) D tys A) {ba bb bc : Int32} {b0 q0 : Nat} (hb : (w z)[q0]? = some (b0, .inr (0, [.int ba, .int bb, .int bc]))) {x1 : Int64} {o : Int64} (h : fx_complemented ba bb bc x1 = some o) : kj_J p l e rm_X0_complemented s m args below meth c 0 0 (MQ below (kj_Ql D tys A w (o, z)) args s 0 0 A) 7 D A (w z) 0 [(0, .ref b0), (1, .long x1)] [] := by
  unfold fx_complemented at h
  refine kj_lconst F dX0_complemented_0 (v := 0) (by decide) ?_
  refine kj_lstore_n F dX0_complemented_1 (lv' := [(3, .long (0 : Int64)), (0, .ref b0), (1, .long x1)]) rfl (by decide) rfl ?_
  refine kj_iconst F dX0_complemented_2 (v := 0) (by decide) ?_
  refine kj_istore F dX0_complemented_3 (lv' := [(5, .int (0 : Int32)), (3, .long (0 : Int64)), (0, .ref b0), (1, .long x1)]) (by decide) rfl ?_
  refine kj_J.sub [2, 3, 1, 0] rfl ?_
  refine kj_bn h (fun r1 h1 h => ?_)
  refine jlx_complemented_5 F hb h1 ?_
  refine kj_lload_n F dX0_complemented_78 0 rfl rfl ?_
  exact kj_lret F dX0_complemented_79 (kj_pr h)
theorem cx_complemented {l : Launch} {D : va_G} {tys : List (ClassId × FieldType)} {S : Type} {w : S → va_W} {z : S} {ba bb bc : Int32} {b0 q0 : Nat} (hb : (w z)[q0]? = some (b0, .inr (0, [.int ba, .int bb, .int bc]))) {x1 : Int64} {o : Int64} (h : fx_complemented ba bb bc x1 = some o) : kj_Ml l yX0_complemented wsX0_complemented rm_X0_complemented D tys w z [.ref b0, .long x1] (o, z) :=
  fun sz => kj_start (by decide) rfl (Nat.le_of_ble_eq_true rfl) rfl fun p e s m args below meth c hsz F => jx_complemented F hb h
/-! X0_hasSymmetry -/
abbrev rm_X0_hasSymmetry : Room := { frames := 2, cells := 0, slots := 0, locals := 52 }
theorem in_X0_hasSymmetry : ∀ w ∈ u_ws RX0 TX0 3, w ∈ wsX0_hasSymmetry := by decide +kernel
def fx_hasSymmetry (ba bb bc : Int32) (x1 : Int64) (x3 : Int32) : Option Int32 :=
  if x3 = 0 then
  if ba = bb then
  (fx_transposed ba bb bc x1).bind fun o1 =>
  if (lg_cmp x1 o1) = 0 then
  some (1 : Int32)
  else
  some (0 : Int32)
  else
  some (0 : Int32)
  else
  if x3 = 1 then
  if ba = bb then
  if bb = bc then
  (fx_rotated ba bb bc x1).bind fun o2 =>
  if (lg_cmp x1 o2) = 0 then
  some (1 : Int32)
  else
  some (0 : Int32)
  else
  some (0 : Int32)
  else
  some (0 : Int32)
  else
  if x3 = 2 then
  (fx_complemented ba bb bc x1).bind fun o3 =>
  if (lg_cmp x1 o3) = 0 then
  some (1 : Int32)
  else
  some (0 : Int32)
  else
  if ba = bb then
  (fx_transposed ba bb bc x1).bind fun o4 =>
  (fx_complemented ba bb bc o4).bind fun o5 =>
  if (lg_cmp x1 o5) = 0 then
  some (1 : Int32)
  else
  some (0 : Int32)
  else
  some (0 : Int32)
set_option maxRecDepth 20000 in
theorem jx_hasSymmetry {p : Program} {l : Launch} {e : Env} {s : State} {m : MethodId} {args : Array Value} {below : List Frame} {meth : Method} {c : Code} {A : Nat → Prop} {D : va_G} {tys : List (ClassId × FieldType)} {S : Type} {w : S → va_W} {z : S} (F : kj_Fx p s m args meth c cX0_hasSymmetry 4 wsX0_hasSymmetry RX0 (some .boolean) D tys A) {ba bb bc : Int32} {b0 q0 : Nat} (hb : (w z)[q0]? = some (b0, .inr (0, [.int ba, .int bb, .int bc]))) {x1 : Int64} {x3 : Int32} {o : Int32} (h : fx_hasSymmetry ba bb bc x1 x3 = some o) : kj_J p l e rm_X0_hasSymmetry s m args below meth c 0 0 (MQ below (kj_Qi D tys A w (o, z)) args s 0 0 A) 4 D A (w z) 0 [(0, .ref b0), (1, .long x1), (3, .int x3)] [] := by
  unfold fx_hasSymmetry at h
  refine kj_iload_n F dX0_hasSymmetry_0 2 rfl rfl ?_
  refine kj_if h (fun hc h => ?_) (fun hn1_0 h => ?_)
  · refine kj_tableIn F dX0_hasSymmetry_1 (off := 27) (tgt := 28) (by rw [hc]; decide) (by rw [hc]; decide) (by rw [hc]; rfl) (by decide) ?_
    refine kj_aload_n F dX0_hasSymmetry_28 0 rfl rfl ?_
    refine kj_get F dX0_hasSymmetry_29 in_X0_hasSymmetry _ hb rfl 0 (by decide) (by decide +kernel) rfl rfl ?_
    refine kj_aload_n F dX0_hasSymmetry_32 0 rfl rfl ?_
    refine kj_get F dX0_hasSymmetry_33 in_X0_hasSymmetry _ hb rfl 1 (by decide) (by decide +kernel) rfl rfl ?_
    refine kj_icmp_ne F dX0_hasSymmetry_36 (tgt := 53) (by decide) h (fun hc h => ?_) (fun hc h => ?_)
    · refine kj_lload_n F dX0_hasSymmetry_39 1 rfl rfl ?_
      refine kj_aload_n F dX0_hasSymmetry_40 0 rfl rfl ?_
      refine kj_lload_n F dX0_hasSymmetry_41 1 rfl rfl ?_
      refine kj_cVlp (As := [.long x1]) (rest := [.long x1]) F dX0_hasSymmetry_42 h (fun o h1 => cx_transposed (w := w) hb h1) (cwV 1 F.2.2.2.2.1 gX0_hasSymmetry_X0_transposed rfl rfl rfl (by decide +kernel) ⟨Nat.le_of_ble_eq_true rfl, Nat.le_of_ble_eq_true rfl⟩) _ hb rfl rfl rfl rfl (Nat.le_of_ble_eq_true rfl) ⟨Nat.zero_le _, Nat.zero_le _⟩ (fun o1 h => ?_)
      refine kj_lcmp F dX0_hasSymmetry_45 ?_
      refine kj_if_ne F dX0_hasSymmetry_46 (tgt := 53) (by decide) h (fun hc h => ?_) (fun hc h => ?_)
      · refine kj_iconst F dX0_hasSymmetry_49 (v := 1) (by decide) ?_
        refine kj_goto F dX0_hasSymmetry_50 (tgt := 54) (by decide) ?_
        exact kj_zret F dX0_hasSymmetry_54 (by decide) (kj_pr h)
      · refine kj_iconst F dX0_hasSymmetry_53 (v := 0) (by decide) ?_
        exact kj_zret F dX0_hasSymmetry_54 (by decide) (kj_pr h)
    · refine kj_iconst F dX0_hasSymmetry_53 (v := 0) (by decide) ?_
      exact kj_zret F dX0_hasSymmetry_54 (by decide) (kj_pr h)
  refine kj_if h (fun hc h => ?_) (fun hn1_1 h => ?_)
  · refine kj_tableIn F dX0_hasSymmetry_1 (off := 54) (tgt := 55) (by rw [hc]; decide) (by rw [hc]; decide) (by rw [hc]; rfl) (by decide) ?_
    refine kj_aload_n F dX0_hasSymmetry_55 0 rfl rfl ?_
    refine kj_get F dX0_hasSymmetry_56 in_X0_hasSymmetry _ hb rfl 0 (by decide) (by decide +kernel) rfl rfl ?_
    refine kj_aload_n F dX0_hasSymmetry_59 0 rfl rfl ?_
    refine kj_get F dX0_hasSymmetry_60 in_X0_hasSymmetry _ hb rfl 1 (by decide) (by decide +kernel) rfl rfl ?_
    refine kj_icmp_ne F dX0_hasSymmetry_63 (tgt := 91) (by decide) h (fun hc h => ?_) (fun hc h => ?_)
    · refine kj_aload_n F dX0_hasSymmetry_66 0 rfl rfl ?_
      refine kj_get F dX0_hasSymmetry_67 in_X0_hasSymmetry _ hb rfl 1 (by decide) (by decide +kernel) rfl rfl ?_
      refine kj_aload_n F dX0_hasSymmetry_70 0 rfl rfl ?_
      refine kj_get F dX0_hasSymmetry_71 in_X0_hasSymmetry _ hb rfl 2 (by decide) (by decide +kernel) rfl rfl ?_
      refine kj_icmp_ne F dX0_hasSymmetry_74 (tgt := 91) (by decide) h (fun hc h => ?_) (fun hc h => ?_)
      · refine kj_lload_n F dX0_hasSymmetry_77 1 rfl rfl ?_
        refine kj_aload_n F dX0_hasSymmetry_78 0 rfl rfl ?_
        refine kj_lload_n F dX0_hasSymmetry_79 1 rfl rfl ?_
        refine kj_cVlp (As := [.long x1]) (rest := [.long x1]) F dX0_hasSymmetry_80 h (fun o h1 => cx_rotated (w := w) hb h1) (cwV 1 F.2.2.2.2.1 gX0_hasSymmetry_X0_rotated rfl rfl rfl (by decide +kernel) ⟨Nat.le_of_ble_eq_true rfl, Nat.le_of_ble_eq_true rfl⟩) _ hb rfl rfl rfl rfl (Nat.le_of_ble_eq_true rfl) ⟨Nat.zero_le _, Nat.zero_le _⟩ (fun o2 h => ?_)
        refine kj_lcmp F dX0_hasSymmetry_83 ?_
        refine kj_if_ne F dX0_hasSymmetry_84 (tgt := 91) (by decide) h (fun hc h => ?_) (fun hc h => ?_)
        · refine kj_iconst F dX0_hasSymmetry_87 (v := 1) (by decide) ?_
          refine kj_goto F dX0_hasSymmetry_88 (tgt := 92) (by decide) ?_
          exact kj_zret F dX0_hasSymmetry_92 (by decide) (kj_pr h)
        · refine kj_iconst F dX0_hasSymmetry_91 (v := 0) (by decide) ?_
          exact kj_zret F dX0_hasSymmetry_92 (by decide) (kj_pr h)
      · refine kj_iconst F dX0_hasSymmetry_91 (v := 0) (by decide) ?_
        exact kj_zret F dX0_hasSymmetry_92 (by decide) (kj_pr h)
    · refine kj_iconst F dX0_hasSymmetry_91 (v := 0) (by decide) ?_
      exact kj_zret F dX0_hasSymmetry_92 (by decide) (kj_pr h)
  refine kj_if h (fun hc h => ?_) (fun hn1_2 h => ?_)
  · refine kj_tableIn F dX0_hasSymmetry_1 (off := 92) (tgt := 93) (by rw [hc]; decide) (by rw [hc]; decide) (by rw [hc]; rfl) (by decide) ?_
    refine kj_lload_n F dX0_hasSymmetry_93 1 rfl rfl ?_
    refine kj_aload_n F dX0_hasSymmetry_94 0 rfl rfl ?_
    refine kj_lload_n F dX0_hasSymmetry_95 1 rfl rfl ?_
    refine kj_cVlp (As := [.long x1]) (rest := [.long x1]) F dX0_hasSymmetry_96 h (fun o h1 => cx_complemented (w := w) hb h1) (cwV 1 F.2.2.2.2.1 gX0_hasSymmetry_X0_complemented rfl rfl rfl (by decide +kernel) ⟨Nat.le_of_ble_eq_true rfl, Nat.le_of_ble_eq_true rfl⟩) _ hb rfl rfl rfl rfl (Nat.le_of_ble_eq_true rfl) ⟨Nat.zero_le _, Nat.zero_le _⟩ (fun o3 h => ?_)
    refine kj_lcmp F dX0_hasSymmetry_99 ?_
    refine kj_if_ne F dX0_hasSymmetry_100 (tgt := 107) (by decide) h (fun hc h => ?_) (fun hc h => ?_)
    · refine kj_iconst F dX0_hasSymmetry_103 (v := 1) (by decide) ?_
      refine kj_goto F dX0_hasSymmetry_104 (tgt := 108) (by decide) ?_
      exact kj_zret F dX0_hasSymmetry_108 (by decide) (kj_pr h)
    · refine kj_iconst F dX0_hasSymmetry_107 (v := 0) (by decide) ?_
      exact kj_zret F dX0_hasSymmetry_108 (by decide) (kj_pr h)
  refine kj_tableOut F dX0_hasSymmetry_1 (tgt := 109) (by have e0 : Int32.toInt x3 ≠ 0 := fun q => hn1_0 (Int32.toInt_inj.mp (q.trans (by decide))); have e1 : Int32.toInt x3 ≠ 1 := fun q => hn1_1 (Int32.toInt_inj.mp (q.trans (by decide))); have e2 : Int32.toInt x3 ≠ 2 := fun q => hn1_2 (Int32.toInt_inj.mp (q.trans (by decide))); omega) (by decide) ?_
  refine kj_aload_n F dX0_hasSymmetry_109 0 rfl rfl ?_
  refine kj_get F dX0_hasSymmetry_110 in_X0_hasSymmetry _ hb rfl 0 (by decide) (by decide +kernel) rfl rfl ?_
  refine kj_aload_n F dX0_hasSymmetry_113 0 rfl rfl ?_
  refine kj_get F dX0_hasSymmetry_114 in_X0_hasSymmetry _ hb rfl 1 (by decide) (by decide +kernel) rfl rfl ?_
  refine kj_icmp_ne F dX0_hasSymmetry_117 (tgt := 138) (by decide) h (fun hc h => ?_) (fun hc h => ?_)
  · refine kj_lload_n F dX0_hasSymmetry_120 1 rfl rfl ?_
    refine kj_aload_n F dX0_hasSymmetry_121 0 rfl rfl ?_
    refine kj_aload_n F dX0_hasSymmetry_122 0 rfl rfl ?_
    refine kj_lload_n F dX0_hasSymmetry_123 1 rfl rfl ?_
    refine kj_cVlp (As := [.long x1]) (rest := [.ref b0, .long x1]) F dX0_hasSymmetry_124 h (fun o h1 => cx_transposed (w := w) hb h1) (cwV 1 F.2.2.2.2.1 gX0_hasSymmetry_X0_transposed rfl rfl rfl (by decide +kernel) ⟨Nat.le_of_ble_eq_true rfl, Nat.le_of_ble_eq_true rfl⟩) _ hb rfl rfl rfl rfl (Nat.le_of_ble_eq_true rfl) ⟨Nat.zero_le _, Nat.zero_le _⟩ (fun o4 h => ?_)
    refine kj_cVlp (As := [.long o4]) (rest := [.long x1]) F dX0_hasSymmetry_127 h (fun o h1 => cx_complemented (w := w) hb h1) (cwV 1 F.2.2.2.2.1 gX0_hasSymmetry_X0_complemented rfl rfl rfl (by decide +kernel) ⟨Nat.le_of_ble_eq_true rfl, Nat.le_of_ble_eq_true rfl⟩) _ hb rfl rfl rfl rfl (Nat.le_of_ble_eq_true rfl) ⟨Nat.zero_le _, Nat.zero_le _⟩ (fun o5 h => ?_)
    refine kj_lcmp F dX0_hasSymmetry_130 ?_
    refine kj_if_ne F dX0_hasSymmetry_131 (tgt := 138) (by decide) h (fun hc h => ?_) (fun hc h => ?_)
    · refine kj_iconst F dX0_hasSymmetry_134 (v := 1) (by decide) ?_
      refine kj_goto F dX0_hasSymmetry_135 (tgt := 139) (by decide) ?_
      exact kj_zret F dX0_hasSymmetry_139 (by decide) (kj_pr h)
    · refine kj_iconst F dX0_hasSymmetry_138 (v := 0) (by decide) ?_
      exact kj_zret F dX0_hasSymmetry_139 (by decide) (kj_pr h)
  · refine kj_iconst F dX0_hasSymmetry_138 (v := 0) (by decide) ?_
    exact kj_zret F dX0_hasSymmetry_139 (by decide) (kj_pr h)
theorem cx_hasSymmetry {l : Launch} {D : va_G} {tys : List (ClassId × FieldType)} {S : Type} {w : S → va_W} {z : S} {ba bb bc : Int32} {b0 q0 : Nat} (hb : (w z)[q0]? = some (b0, .inr (0, [.int ba, .int bb, .int bc]))) {x1 : Int64} {x3 : Int32} {o : Int32} (h : fx_hasSymmetry ba bb bc x1 x3 = some o) : kj_Mi l yX0_hasSymmetry wsX0_hasSymmetry rm_X0_hasSymmetry D tys w z [.ref b0, .long x1, .int x3] (o, z) :=
  fun sz => kj_start (by decide) rfl (Nat.le_of_ble_eq_true rfl) rfl fun p e s m args below meth c hsz F => jx_hasSymmetry F hb h
/-! X0_symmetries -/
abbrev rm_X0_symmetries : Room := { frames := 3, cells := 0, slots := 0, locals := 75 }
def fx_symmetries_28 (ba bb bc : Int32) (x1 : Int64) (x3 : Int32) (x4 : Int32) : Option ((Int64 × Int32 × Int32) ⊕ Int32) :=
  some (.inl (x1, x3, (x4 + 1)))
def fx_symmetries_5 (ba bb bc : Int32) (x1 : Int64) (x3 : Int32) (x4 : Int32) : Option ((Int64 × Int32 × Int32) ⊕ Int32) :=
  if (4 : Int32) ≤ x4 then
  some (.inr x3)
  else
  (fx_hasSymmetry ba bb bc x1 x4).bind fun o1 =>
  if o1 = 0 then
  fx_symmetries_28 ba bb bc x1 x3 x4
  else
  fx_symmetries_28 ba bb bc x1 (x3 ||| ((1 : Int32) <<< (x4 &&& 31))) x4
def lx_symmetries_5 (ba bb bc : Int32) (n : Nat) (x1 : Int64) (x3 : Int32) (x4 : Int32) : Option Int32 :=
  kj_it (fun (s : (Int64 × Int32 × Int32)) => fx_symmetries_5 ba bb bc (s.1) (s.2.1) (s.2.2)) n (x1, x3, x4)
def fx_symmetries (ba bb bc : Int32) (x1 : Int64) : Option Int32 :=
  (lx_symmetries_5 ba bb bc 5000 x1 (0 : Int32) (0 : Int32)).bind fun r1 =>
  some (r1)
set_option maxRecDepth 20000 in
theorem jx_symmetries_28 {p : Program} {l : Launch} {e : Env} {s : State} {m : MethodId} {args : Array Value} {below : List Frame} {meth : Method} {c : Code} {A : Nat → Prop} {D : va_G} {tys : List (ClassId × FieldType)} {S : Type} {w : S → va_W} {z : S} {Q : State → Prop} (F : kj_Fx p s m args meth c cX0_symmetries 5 wsX0_symmetries RX0 (some .int) D tys A) {ba bb bc : Int32} {b0 q0 : Nat} (hb : (w z)[q0]? = some (b0, .inr (0, [.int ba, .int bb, .int bc]))) {x1 : Int64} {x3 : Int32} {x4 : Int32} {o : ((Int64 × Int32 × Int32) ⊕ Int32)} (h : fx_symmetries_28 ba bb bc x1 x3 x4 = some o) (kb : ∀ (a0' : Int64) (a1' : Int32) (a2' : Int32), o = .inl (a0', a1', a2') → kj_J p l e rm_X0_symmetries s m args below meth c 0 0 Q 5 D A (w z) 5 [(0, .ref b0), (1, .long a0'), (3, .int a1'), (4, .int a2')] []) (ke0 : ∀ (a0' : Int32), o = .inr a0' → kj_J p l e rm_X0_symmetries s m args below meth c 0 0 Q 5 D A (w z) 34 [(3, .int a0')] []) : kj_J p l e rm_X0_symmetries s m args below meth c 0 0 Q 5 D A (w z) 28 [(0, .ref b0), (1, .long x1), (3, .int x3), (4, .int x4)] [] := by
  unfold fx_symmetries_28 at h
  refine kj_iinc F dX0_symmetries_28 3 rfl (v := 1) (by decide) (by decide) (lv' := [(4, .int (x4 + 1)), (0, .ref b0), (1, .long x1), (3, .int x3)]) rfl ?_
  refine kj_goto F dX0_symmetries_31 (tgt := 5) (by decide) ?_
  refine kj_J.sub [1, 2, 3, 0] rfl ?_
  exact kb x1 x3 (x4 + 1) (Option.some.inj h).symm
set_option maxRecDepth 20000 in
theorem jx_symmetries_5 {p : Program} {l : Launch} {e : Env} {s : State} {m : MethodId} {args : Array Value} {below : List Frame} {meth : Method} {c : Code} {A : Nat → Prop} {D : va_G} {tys : List (ClassId × FieldType)} {S : Type} {w : S → va_W} {z : S} {Q : State → Prop} (F : kj_Fx p s m args meth c cX0_symmetries 5 wsX0_symmetries RX0 (some .int) D tys A) {ba bb bc : Int32} {b0 q0 : Nat} (hb : (w z)[q0]? = some (b0, .inr (0, [.int ba, .int bb, .int bc]))) {x1 : Int64} {x3 : Int32} {x4 : Int32} {o : ((Int64 × Int32 × Int32) ⊕ Int32)} (h : fx_symmetries_5 ba bb bc x1 x3 x4 = some o) (kb : ∀ (a0' : Int64) (a1' : Int32) (a2' : Int32), o = .inl (a0', a1', a2') → kj_J p l e rm_X0_symmetries s m args below meth c 0 0 Q 5 D A (w z) 5 [(0, .ref b0), (1, .long a0'), (3, .int a1'), (4, .int a2')] []) (ke0 : ∀ (a0' : Int32), o = .inr a0' → kj_J p l e rm_X0_symmetries s m args below meth c 0 0 Q 5 D A (w z) 34 [(3, .int a0')] []) : kj_J p l e rm_X0_symmetries s m args below meth c 0 0 Q 5 D A (w z) 5 [(0, .ref b0), (1, .long x1), (3, .int x3), (4, .int x4)] [] := by
  unfold fx_symmetries_5 at h
  refine kj_iload F dX0_symmetries_5 3 rfl ?_
  refine kj_iconst F dX0_symmetries_7 (v := 4) (by decide) ?_
  refine kj_icmp_ge F dX0_symmetries_8 (tgt := 34) (by decide) h (fun hc h => ?_) (fun hc h => ?_)
  · refine kj_J.sub [2] rfl ?_
    exact ke0 x3 (Option.some.inj h).symm
  · refine kj_aload_n F dX0_symmetries_11 0 rfl rfl ?_
    refine kj_lload_n F dX0_symmetries_12 1 rfl rfl ?_
    refine kj_iload F dX0_symmetries_13 3 rfl ?_
    refine kj_cVip (As := [.long x1, .int x4]) (rest := []) F dX0_symmetries_15 h (fun o h1 => cx_hasSymmetry (w := w) hb h1) (cwV 2 F.2.2.2.2.1 gX0_symmetries_X0_hasSymmetry rfl rfl rfl (by decide +kernel) ⟨Nat.le_of_ble_eq_true rfl, Nat.le_of_ble_eq_true rfl⟩) _ hb rfl rfl rfl rfl (Nat.le_of_ble_eq_true rfl) ⟨Nat.zero_le _, Nat.zero_le _⟩ (fun o1 h => ?_)
    refine kj_if_eq F dX0_symmetries_18 (tgt := 28) (by decide) h (fun hc h => ?_) (fun hc h => ?_)
    · exact jx_symmetries_28 F hb h kb ke0
    · refine kj_iload_n F dX0_symmetries_21 2 rfl rfl ?_
      refine kj_iconst F dX0_symmetries_22 (v := 1) (by decide) ?_
      refine kj_iload F dX0_symmetries_23 3 rfl ?_
      refine kj_ishl F dX0_symmetries_25 ?_
      refine kj_ior F dX0_symmetries_26 ?_
      refine kj_istore_n F dX0_symmetries_27 (lv' := [(3, .int (x3 ||| ((1 : Int32) <<< (x4 &&& 31)))), (0, .ref b0), (1, .long x1), (4, .int x4)]) rfl (by decide) rfl ?_
      refine kj_J.sub [1, 2, 0, 3] rfl ?_
      exact jx_symmetries_28 F hb h kb ke0
theorem jlx_symmetries_5 {p : Program} {l : Launch} {e : Env} {s : State} {m : MethodId} {args : Array Value} {below : List Frame} {meth : Method} {c : Code} {A : Nat → Prop} {D : va_G} {tys : List (ClassId × FieldType)} {S : Type} {w : S → va_W} {z : S} {Q : State → Prop} (F : kj_Fx p s m args meth c cX0_symmetries 5 wsX0_symmetries RX0 (some .int) D tys A) {ba bb bc : Int32} {b0 q0 : Nat} (hb : (w z)[q0]? = some (b0, .inr (0, [.int ba, .int bb, .int bc]))) {n : Nat} {x1 : Int64} {x3 : Int32} {x4 : Int32} {r : Int32} (h : lx_symmetries_5 ba bb bc n x1 x3 x4 = some r) (ke : kj_J p l e rm_X0_symmetries s m args below meth c 0 0 Q 5 D A (w z) 34 [(3, .int (r))] []) : kj_J p l e rm_X0_symmetries s m args below meth c 0 0 Q 5 D A (w z) 5 [(0, .ref b0), (1, .long x1), (3, .int x3), (4, .int x4)] [] :=
  kj_it_J (Wh := fun (u : (Int64 × Int32 × Int32)) => kj_J p l e rm_X0_symmetries s m args below meth c 0 0 Q 5 D A (w z) 5 [(0, .ref b0), (1, .long (u.1)), (3, .int (u.2.1)), (4, .int (u.2.2))] []) (We := fun r => kj_J p l e rm_X0_symmetries s m args below meth c 0 0 Q 5 D A (w z) 34 [(3, .int (r))] []) (fun u o h kb ke => jx_symmetries_5 F hb h (fun a0' a1' a2' e => kb (a0', a1', a2') e) (fun a0' e => ke a0' e)) n (x1, x3, x4) r h ke
set_option maxRecDepth 20000 in
theorem jx_symmetries {p : Program} {l : Launch} {e : Env} {s : State} {m : MethodId} {args : Array Value} {below : List Frame} {meth : Method} {c : Code} {A : Nat → Prop} {D : va_G} {tys : List (ClassId × FieldType)} {S : Type} {w : S → va_W} {z : S} (F : kj_Fx p s m args meth c cX0_symmetries 5 wsX0_symmetries RX0 (some .int) D tys A) {ba bb bc : Int32} {b0 q0 : Nat} (hb : (w z)[q0]? = some (b0, .inr (0, [.int ba, .int bb, .int bc]))) {x1 : Int64} {o : Int32} (h : fx_symmetries ba bb bc x1 = some o) : kj_J p l e rm_X0_symmetries s m args below meth c 0 0 (MQ below (kj_Qi D tys A w (o, z)) args s 0 0 A) 5 D A (w z) 0 [(0, .ref b0), (1, .long x1)] [] := by
  unfold fx_symmetries at h
  refine kj_iconst F dX0_symmetries_0 (v := 0) (by decide) ?_
  refine kj_istore_n F dX0_symmetries_1 (lv' := [(3, .int (0 : Int32)), (0, .ref b0), (1, .long x1)]) rfl (by decide) rfl ?_
  refine kj_iconst F dX0_symmetries_2 (v := 0) (by decide) ?_
  refine kj_istore F dX0_symmetries_3 (lv' := [(4, .int (0 : Int32)), (3, .int (0 : Int32)), (0, .ref b0), (1, .long x1)]) (by decide) rfl ?_
  refine kj_J.sub [2, 3, 1, 0] rfl ?_
  refine kj_bn h (fun r1 h1 h => ?_)
  refine jlx_symmetries_5 F hb h1 ?_
  refine kj_iload_n F dX0_symmetries_34 0 rfl rfl ?_
  exact kj_iret F dX0_symmetries_35 (kj_pr h)
theorem cx_symmetries {l : Launch} {D : va_G} {tys : List (ClassId × FieldType)} {S : Type} {w : S → va_W} {z : S} {ba bb bc : Int32} {b0 q0 : Nat} (hb : (w z)[q0]? = some (b0, .inr (0, [.int ba, .int bb, .int bc]))) {x1 : Int64} {o : Int32} (h : fx_symmetries ba bb bc x1 = some o) : kj_Mi l yX0_symmetries wsX0_symmetries rm_X0_symmetries D tys w z [.ref b0, .long x1] (o, z) :=
  fun sz => kj_start (by decide) rfl (Nat.le_of_ble_eq_true rfl) rfl fun p e s m args below meth c hsz F => jx_symmetries F hb h
/-! X0_hasSymmetries -/
abbrev rm_X0_hasSymmetries : Room := { frames := 3, cells := 0, slots := 0, locals := 75 }
def fx_hasSymmetries_31 (ba bb bc : Int32) (x1 : Int64) (x3 : Int32) (x4 : Int32) : Option ((Int64 × Int32 × Int32) ⊕ (Unit ⊕ Unit)) :=
  some (.inl (x1, x3, (x4 + 1)))
def fx_hasSymmetries_3 (ba bb bc : Int32) (x1 : Int64) (x3 : Int32) (x4 : Int32) : Option ((Int64 × Int32 × Int32) ⊕ (Unit ⊕ Unit)) :=
  if (4 : Int32) ≤ x4 then
  some (.inr (.inr ()))
  else
  if ((x3 >>> (x4 &&& 31)) &&& (1 : Int32)) = (1 : Int32) then
  (fx_hasSymmetry ba bb bc x1 x4).bind fun o1 =>
  if o1 = 0 then
  some (.inr (.inl ()))
  else
  fx_hasSymmetries_31 ba bb bc x1 x3 x4
  else
  fx_hasSymmetries_31 ba bb bc x1 x3 x4
def lx_hasSymmetries_3 (ba bb bc : Int32) (n : Nat) (x1 : Int64) (x3 : Int32) (x4 : Int32) : Option (Unit ⊕ Unit) :=
  kj_it (fun (s : (Int64 × Int32 × Int32)) => fx_hasSymmetries_3 ba bb bc (s.1) (s.2.1) (s.2.2)) n (x1, x3, x4)
def fx_hasSymmetries (ba bb bc : Int32) (x1 : Int64) (x3 : Int32) : Option Int32 :=
  (lx_hasSymmetries_3 ba bb bc 5000 x1 x3 (0 : Int32)).bind fun r1 => kj_se r1 (fun a2 => some (0 : Int32)) (fun b3 => some (1 : Int32))
set_option maxRecDepth 20000 in
theorem jx_hasSymmetries_31 {p : Program} {l : Launch} {e : Env} {s : State} {m : MethodId} {args : Array Value} {below : List Frame} {meth : Method} {c : Code} {A : Nat → Prop} {D : va_G} {tys : List (ClassId × FieldType)} {S : Type} {w : S → va_W} {z : S} {Q : State → Prop} (F : kj_Fx p s m args meth c cX0_hasSymmetries 5 wsX0_hasSymmetries RX0 (some .boolean) D tys A) {ba bb bc : Int32} {b0 q0 : Nat} (hb : (w z)[q0]? = some (b0, .inr (0, [.int ba, .int bb, .int bc]))) {x1 : Int64} {x3 : Int32} {x4 : Int32} {o : ((Int64 × Int32 × Int32) ⊕ (Unit ⊕ Unit))} (h : fx_hasSymmetries_31 ba bb bc x1 x3 x4 = some o) (kb : ∀ (a0' : Int64) (a1' : Int32) (a2' : Int32), o = .inl (a0', a1', a2') → kj_J p l e rm_X0_hasSymmetries s m args below meth c 0 0 Q 5 D A (w z) 3 [(0, .ref b0), (1, .long a0'), (3, .int a1'), (4, .int a2')] []) (ke0 : o = .inr (.inl ()) → kj_J p l e rm_X0_hasSymmetries s m args below meth c 0 0 Q 5 D A (w z) 29 [] []) (ke1 : o = .inr (.inr ()) → kj_J p l e rm_X0_hasSymmetries s m args below meth c 0 0 Q 5 D A (w z) 37 [] []) : kj_J p l e rm_X0_hasSymmetries s m args below meth c 0 0 Q 5 D A (w z) 31 [(0, .ref b0), (1, .long x1), (3, .int x3), (4, .int x4)] [] := by
  unfold fx_hasSymmetries_31 at h
  refine kj_iinc F dX0_hasSymmetries_31 3 rfl (v := 1) (by decide) (by decide) (lv' := [(4, .int (x4 + 1)), (0, .ref b0), (1, .long x1), (3, .int x3)]) rfl ?_
  refine kj_goto F dX0_hasSymmetries_34 (tgt := 3) (by decide) ?_
  refine kj_J.sub [1, 2, 3, 0] rfl ?_
  exact kb x1 x3 (x4 + 1) (Option.some.inj h).symm
set_option maxRecDepth 20000 in
theorem jx_hasSymmetries_3 {p : Program} {l : Launch} {e : Env} {s : State} {m : MethodId} {args : Array Value} {below : List Frame} {meth : Method} {c : Code} {A : Nat → Prop} {D : va_G} {tys : List (ClassId × FieldType)} {S : Type} {w : S → va_W} {z : S} {Q : State → Prop} (F : kj_Fx p s m args meth c cX0_hasSymmetries 5 wsX0_hasSymmetries RX0 (some .boolean) D tys A) {ba bb bc : Int32} {b0 q0 : Nat} (hb : (w z)[q0]? = some (b0, .inr (0, [.int ba, .int bb, .int bc]))) {x1 : Int64} {x3 : Int32} {x4 : Int32} {o : ((Int64 × Int32 × Int32) ⊕ (Unit ⊕ Unit))} (h : fx_hasSymmetries_3 ba bb bc x1 x3 x4 = some o) (kb : ∀ (a0' : Int64) (a1' : Int32) (a2' : Int32), o = .inl (a0', a1', a2') → kj_J p l e rm_X0_hasSymmetries s m args below meth c 0 0 Q 5 D A (w z) 3 [(0, .ref b0), (1, .long a0'), (3, .int a1'), (4, .int a2')] []) (ke0 : o = .inr (.inl ()) → kj_J p l e rm_X0_hasSymmetries s m args below meth c 0 0 Q 5 D A (w z) 29 [] []) (ke1 : o = .inr (.inr ()) → kj_J p l e rm_X0_hasSymmetries s m args below meth c 0 0 Q 5 D A (w z) 37 [] []) : kj_J p l e rm_X0_hasSymmetries s m args below meth c 0 0 Q 5 D A (w z) 3 [(0, .ref b0), (1, .long x1), (3, .int x3), (4, .int x4)] [] := by
  unfold fx_hasSymmetries_3 at h
  refine kj_iload F dX0_hasSymmetries_3 3 rfl ?_
  refine kj_iconst F dX0_hasSymmetries_5 (v := 4) (by decide) ?_
  refine kj_icmp_ge F dX0_hasSymmetries_6 (tgt := 37) (by decide) h (fun hc h => ?_) (fun hc h => ?_)
  · refine kj_J.sub [] rfl ?_
    exact ke1 (Option.some.inj h).symm
  · refine kj_iload_n F dX0_hasSymmetries_9 2 rfl rfl ?_
    refine kj_iload F dX0_hasSymmetries_10 3 rfl ?_
    refine kj_ishr F dX0_hasSymmetries_12 ?_
    refine kj_iconst F dX0_hasSymmetries_13 (v := 1) (by decide) ?_
    refine kj_iand F dX0_hasSymmetries_14 ?_
    refine kj_iconst F dX0_hasSymmetries_15 (v := 1) (by decide) ?_
    refine kj_icmp_ne F dX0_hasSymmetries_16 (tgt := 31) (by decide) h (fun hc h => ?_) (fun hc h => ?_)
    · refine kj_aload_n F dX0_hasSymmetries_19 0 rfl rfl ?_
      refine kj_lload_n F dX0_hasSymmetries_20 1 rfl rfl ?_
      refine kj_iload F dX0_hasSymmetries_21 3 rfl ?_
      refine kj_cVip (As := [.long x1, .int x4]) (rest := []) F dX0_hasSymmetries_23 h (fun o h1 => cx_hasSymmetry (w := w) hb h1) (cwV 2 F.2.2.2.2.1 gX0_hasSymmetries_X0_hasSymmetry rfl rfl rfl (by decide +kernel) ⟨Nat.le_of_ble_eq_true rfl, Nat.le_of_ble_eq_true rfl⟩) _ hb rfl rfl rfl rfl (Nat.le_of_ble_eq_true rfl) ⟨Nat.zero_le _, Nat.zero_le _⟩ (fun o1 h => ?_)
      refine kj_if_ne F dX0_hasSymmetries_26 (tgt := 31) (by decide) h (fun hc h => ?_) (fun hc h => ?_)
      · refine kj_J.sub [] rfl ?_
        exact ke0 (Option.some.inj h).symm
      · exact jx_hasSymmetries_31 F hb h kb ke0 ke1
    · exact jx_hasSymmetries_31 F hb h kb ke0 ke1
theorem jlx_hasSymmetries_3 {p : Program} {l : Launch} {e : Env} {s : State} {m : MethodId} {args : Array Value} {below : List Frame} {meth : Method} {c : Code} {A : Nat → Prop} {D : va_G} {tys : List (ClassId × FieldType)} {S : Type} {w : S → va_W} {z : S} {Q : State → Prop} (F : kj_Fx p s m args meth c cX0_hasSymmetries 5 wsX0_hasSymmetries RX0 (some .boolean) D tys A) {ba bb bc : Int32} {b0 q0 : Nat} (hb : (w z)[q0]? = some (b0, .inr (0, [.int ba, .int bb, .int bc]))) {n : Nat} {x1 : Int64} {x3 : Int32} {x4 : Int32} {r : (Unit ⊕ Unit)} (h : lx_hasSymmetries_3 ba bb bc n x1 x3 x4 = some r) (ke : (∀ a, r = (.inl a) → kj_J p l e rm_X0_hasSymmetries s m args below meth c 0 0 Q 5 D A (w z) 29 [] []) ∧ (∀ a, r = (.inr a) → kj_J p l e rm_X0_hasSymmetries s m args below meth c 0 0 Q 5 D A (w z) 37 [] [])) : kj_J p l e rm_X0_hasSymmetries s m args below meth c 0 0 Q 5 D A (w z) 3 [(0, .ref b0), (1, .long x1), (3, .int x3), (4, .int x4)] [] :=
  kj_it_J (Wh := fun (u : (Int64 × Int32 × Int32)) => kj_J p l e rm_X0_hasSymmetries s m args below meth c 0 0 Q 5 D A (w z) 3 [(0, .ref b0), (1, .long (u.1)), (3, .int (u.2.1)), (4, .int (u.2.2))] []) (We := fun r => (∀ a, r = (.inl a) → kj_J p l e rm_X0_hasSymmetries s m args below meth c 0 0 Q 5 D A (w z) 29 [] []) ∧ (∀ a, r = (.inr a) → kj_J p l e rm_X0_hasSymmetries s m args below meth c 0 0 Q 5 D A (w z) 37 [] [])) (fun u o h kb ke => jx_hasSymmetries_3 F hb h (fun a0' a1' a2' e => kb (a0', a1', a2') e) (fun e => (ke (.inl ()) e).1 () rfl) (fun e => (ke (.inr ()) e).2 () rfl)) n (x1, x3, x4) r h ke
set_option maxRecDepth 20000 in
theorem jx_hasSymmetries {p : Program} {l : Launch} {e : Env} {s : State} {m : MethodId} {args : Array Value} {below : List Frame} {meth : Method} {c : Code} {A : Nat → Prop} {D : va_G} {tys : List (ClassId × FieldType)} {S : Type} {w : S → va_W} {z : S} (F : kj_Fx p s m args meth c cX0_hasSymmetries 5 wsX0_hasSymmetries RX0 (some .boolean) D tys A) {ba bb bc : Int32} {b0 q0 : Nat} (hb : (w z)[q0]? = some (b0, .inr (0, [.int ba, .int bb, .int bc]))) {x1 : Int64} {x3 : Int32} {o : Int32} (h : fx_hasSymmetries ba bb bc x1 x3 = some o) : kj_J p l e rm_X0_hasSymmetries s m args below meth c 0 0 (MQ below (kj_Qi D tys A w (o, z)) args s 0 0 A) 5 D A (w z) 0 [(0, .ref b0), (1, .long x1), (3, .int x3)] [] := by
  unfold fx_hasSymmetries at h
  refine kj_iconst F dX0_hasSymmetries_0 (v := 0) (by decide) ?_
  refine kj_istore F dX0_hasSymmetries_1 (lv' := [(4, .int (0 : Int32)), (0, .ref b0), (1, .long x1), (3, .int x3)]) (by decide) rfl ?_
  refine kj_J.sub [1, 2, 3, 0] rfl ?_
  refine kj_bn h (fun r1 h1 h => ?_)
  refine jlx_hasSymmetries_3 F hb h1 ?_
  refine ⟨fun a2 e => ?_, fun b3 e => ?_⟩
  · subst e
    refine kj_seL h (fun h => ?_)
    refine kj_iconst F dX0_hasSymmetries_29 (v := 0) (by decide) ?_
    exact kj_zret F dX0_hasSymmetries_30 (by decide) (kj_pr h)
  · subst e
    refine kj_seR h (fun h => ?_)
    refine kj_iconst F dX0_hasSymmetries_37 (v := 1) (by decide) ?_
    exact kj_zret F dX0_hasSymmetries_38 (by decide) (kj_pr h)
theorem cx_hasSymmetries {l : Launch} {D : va_G} {tys : List (ClassId × FieldType)} {S : Type} {w : S → va_W} {z : S} {ba bb bc : Int32} {b0 q0 : Nat} (hb : (w z)[q0]? = some (b0, .inr (0, [.int ba, .int bb, .int bc]))) {x1 : Int64} {x3 : Int32} {o : Int32} (h : fx_hasSymmetries ba bb bc x1 x3 = some o) : kj_Mi l yX0_hasSymmetries wsX0_hasSymmetries rm_X0_hasSymmetries D tys w z [.ref b0, .long x1, .int x3] (o, z) :=
  fun sz => kj_start (by decide) rfl (Nat.le_of_ble_eq_true rfl) rfl fun p e s m args below meth c hsz F => jx_hasSymmetries F hb h
/-! X0_isFlat -/
abbrev rm_X0_isFlat : Room := { frames := 1, cells := 0, slots := 0, locals := 24 }
theorem in_X0_isFlat : ∀ w ∈ u_ws RX0 TX0 3, w ∈ wsX0_isFlat := by decide +kernel
def fx_isFlat (ba bb bc : Int32) (x1 : Int64) (x3 : Int32) (x4 : Int32) (x5 : Int32) : Option Int32 :=
  if bb ≤ x4 then
  some (0 : Int32)
  else
  (fx_level ba bb bc x1 x3 x4).bind fun o1 =>
  if o1 = x5 then
  some (1 : Int32)
  else
  some (0 : Int32)
set_option maxRecDepth 20000 in
theorem jx_isFlat {p : Program} {l : Launch} {e : Env} {s : State} {m : MethodId} {args : Array Value} {below : List Frame} {meth : Method} {c : Code} {A : Nat → Prop} {D : va_G} {tys : List (ClassId × FieldType)} {S : Type} {w : S → va_W} {z : S} (F : kj_Fx p s m args meth c cX0_isFlat 6 wsX0_isFlat RX0 (some .boolean) D tys A) {ba bb bc : Int32} {b0 q0 : Nat} (hb : (w z)[q0]? = some (b0, .inr (0, [.int ba, .int bb, .int bc]))) {x1 : Int64} {x3 : Int32} {x4 : Int32} {x5 : Int32} {o : Int32} (h : fx_isFlat ba bb bc x1 x3 x4 x5 = some o) : kj_J p l e rm_X0_isFlat s m args below meth c 0 0 (MQ below (kj_Qi D tys A w (o, z)) args s 0 0 A) 6 D A (w z) 0 [(0, .ref b0), (1, .long x1), (3, .int x3), (4, .int x4), (5, .int x5)] [] := by
  unfold fx_isFlat at h
  refine kj_iload F dX0_isFlat_0 3 rfl ?_
  refine kj_aload_n F dX0_isFlat_2 0 rfl rfl ?_
  refine kj_get F dX0_isFlat_3 in_X0_isFlat _ hb rfl 1 (by decide) (by decide +kernel) rfl rfl ?_
  refine kj_icmp_ge F dX0_isFlat_6 (tgt := 26) (by decide) h (fun hc h => ?_) (fun hc h => ?_)
  · refine kj_iconst F dX0_isFlat_26 (v := 0) (by decide) ?_
    exact kj_zret F dX0_isFlat_27 (by decide) (kj_pr h)
  · refine kj_aload_n F dX0_isFlat_9 0 rfl rfl ?_
    refine kj_lload_n F dX0_isFlat_10 1 rfl rfl ?_
    refine kj_iload_n F dX0_isFlat_11 2 rfl rfl ?_
    refine kj_iload F dX0_isFlat_12 3 rfl ?_
    refine kj_cVip (As := [.long x1, .int x3, .int x4]) (rest := []) F dX0_isFlat_14 h (fun o h1 => cx_level (w := w) hb h1) (cwV 3 F.2.2.2.2.1 gX0_isFlat_X0_level rfl rfl rfl (by decide +kernel) ⟨Nat.le_of_ble_eq_true rfl, Nat.le_of_ble_eq_true rfl⟩) _ hb rfl rfl rfl rfl (Nat.le_of_ble_eq_true rfl) ⟨Nat.zero_le _, Nat.zero_le _⟩ (fun o1 h => ?_)
    refine kj_iload F dX0_isFlat_17 4 rfl ?_
    refine kj_icmp_ne F dX0_isFlat_19 (tgt := 26) (by decide) h (fun hc h => ?_) (fun hc h => ?_)
    · refine kj_iconst F dX0_isFlat_22 (v := 1) (by decide) ?_
      refine kj_goto F dX0_isFlat_23 (tgt := 27) (by decide) ?_
      exact kj_zret F dX0_isFlat_27 (by decide) (kj_pr h)
    · refine kj_iconst F dX0_isFlat_26 (v := 0) (by decide) ?_
      exact kj_zret F dX0_isFlat_27 (by decide) (kj_pr h)
theorem cx_isFlat {l : Launch} {D : va_G} {tys : List (ClassId × FieldType)} {S : Type} {w : S → va_W} {z : S} {ba bb bc : Int32} {b0 q0 : Nat} (hb : (w z)[q0]? = some (b0, .inr (0, [.int ba, .int bb, .int bc]))) {x1 : Int64} {x3 : Int32} {x4 : Int32} {x5 : Int32} {o : Int32} (h : fx_isFlat ba bb bc x1 x3 x4 x5 = some o) : kj_Mi l yX0_isFlat wsX0_isFlat rm_X0_isFlat D tys w z [.ref b0, .long x1, .int x3, .int x4, .int x5] (o, z) :=
  fun sz => kj_start (by decide) rfl (Nat.le_of_ble_eq_true rfl) rfl fun p e s m args below meth c hsz F => jx_isFlat F hb h
/-! X0_letter -/
abbrev rm_X0_letter : Room := { frames := 2, cells := 0, slots := 0, locals := 49 }
theorem in_X0_letter : ∀ w ∈ u_ws RX0 TX0 3, w ∈ wsX0_letter := by decide +kernel
def fx_letter_58 (ba bb bc : Int32) (x1 : Int64) (x3 : Int32) (x4 : Int32) (x5 : Int32) (x6 : Int32) (x7 : Int32) : Option ((Int64 × Int32 × Int32 × Int32 × Int32 × Int32) ⊕ (Int64 × Int32 × Int32 × Int32)) :=
  some (.inl (x1, x3, x4, x5, x6, (x7 + 1)))
def fx_letter_29 (ba bb bc : Int32) (x1 : Int64) (x3 : Int32) (x4 : Int32) (x5 : Int32) (x6 : Int32) (x7 : Int32) : Option ((Int64 × Int32 × Int32 × Int32 × Int32 × Int32) ⊕ (Int64 × Int32 × Int32 × Int32)) :=
  if x4 ≤ x7 then
  some (.inr (x1, x3, x5, x6))
  else
  (fx_isFlat ba bb bc x1 x3 x6 x5).bind fun o1 =>
  if o1 = 0 then
  fx_letter_58 ba bb bc x1 x3 x4 (x5 + (-1)) x6 x7
  else
  fx_letter_58 ba bb bc x1 x3 x4 x5 (x6 + 1) x7
def lx_letter_29 (ba bb bc : Int32) (n : Nat) (x1 : Int64) (x3 : Int32) (x4 : Int32) (x5 : Int32) (x6 : Int32) (x7 : Int32) : Option (Int64 × Int32 × Int32 × Int32) :=
  kj_it (fun (s : (Int64 × Int32 × Int32 × Int32 × Int32 × Int32)) => fx_letter_29 ba bb bc (s.1) (s.2.1) (s.2.2.1) (s.2.2.2.1) (s.2.2.2.2.1) (s.2.2.2.2.2)) n (x1, x3, x4, x5, x6, x7)
def fx_letter (ba bb bc : Int32) (x1 : Int64) (x3 : Int32) (x4 : Int32) : Option Int32 :=
  if x4 < (bb + bc) then
  (lx_letter_29 ba bb bc 5000 x1 x3 x4 bc (0 : Int32) (0 : Int32)).bind fun r1 =>
  (fx_isFlat ba bb bc (r1.1) (r1.2.1) (r1.2.2.2) (r1.2.2.1)).bind fun o2 =>
  if o2 = 0 then
  some (110 : Int32)
  else
  some (101 : Int32)
  else
  some ((-1000000) : Int32)
set_option maxRecDepth 20000 in
theorem jx_letter_58 {p : Program} {l : Launch} {e : Env} {s : State} {m : MethodId} {args : Array Value} {below : List Frame} {meth : Method} {c : Code} {A : Nat → Prop} {D : va_G} {tys : List (ClassId × FieldType)} {S : Type} {w : S → va_W} {z : S} {Q : State → Prop} (F : kj_Fx p s m args meth c cX0_letter 8 wsX0_letter RX0 (some .int) D tys A) {ba bb bc : Int32} {b0 q0 : Nat} (hb : (w z)[q0]? = some (b0, .inr (0, [.int ba, .int bb, .int bc]))) {x1 : Int64} {x3 : Int32} {x4 : Int32} {x5 : Int32} {x6 : Int32} {x7 : Int32} {o : ((Int64 × Int32 × Int32 × Int32 × Int32 × Int32) ⊕ (Int64 × Int32 × Int32 × Int32))} (h : fx_letter_58 ba bb bc x1 x3 x4 x5 x6 x7 = some o) (kb : ∀ (a0' : Int64) (a1' : Int32) (a2' : Int32) (a3' : Int32) (a4' : Int32) (a5' : Int32), o = .inl (a0', a1', a2', a3', a4', a5') → kj_J p l e rm_X0_letter s m args below meth c 0 0 Q 8 D A (w z) 29 [(0, .ref b0), (1, .long a0'), (3, .int a1'), (4, .int a2'), (5, .int a3'), (6, .int a4'), (7, .int a5')] []) (ke0 : ∀ (a0' : Int64) (a1' : Int32) (a2' : Int32) (a3' : Int32), o = .inr (a0', a1', a2', a3') → kj_J p l e rm_X0_letter s m args below meth c 0 0 Q 8 D A (w z) 64 [(0, .ref b0), (1, .long a0'), (3, .int a1'), (5, .int a2'), (6, .int a3')] []) : kj_J p l e rm_X0_letter s m args below meth c 0 0 Q 8 D A (w z) 58 [(0, .ref b0), (1, .long x1), (3, .int x3), (4, .int x4), (5, .int x5), (6, .int x6), (7, .int x7)] [] := by
  unfold fx_letter_58 at h
  refine kj_iinc F dX0_letter_58 6 rfl (v := 1) (by decide) (by decide) (lv' := [(7, .int (x7 + 1)), (0, .ref b0), (1, .long x1), (3, .int x3), (4, .int x4), (5, .int x5), (6, .int x6)]) rfl ?_
  refine kj_goto F dX0_letter_61 (tgt := 29) (by decide) ?_
  refine kj_J.sub [1, 2, 3, 4, 5, 6, 0] rfl ?_
  exact kb x1 x3 x4 x5 x6 (x7 + 1) (Option.some.inj h).symm
set_option maxRecDepth 20000 in
theorem jx_letter_29 {p : Program} {l : Launch} {e : Env} {s : State} {m : MethodId} {args : Array Value} {below : List Frame} {meth : Method} {c : Code} {A : Nat → Prop} {D : va_G} {tys : List (ClassId × FieldType)} {S : Type} {w : S → va_W} {z : S} {Q : State → Prop} (F : kj_Fx p s m args meth c cX0_letter 8 wsX0_letter RX0 (some .int) D tys A) {ba bb bc : Int32} {b0 q0 : Nat} (hb : (w z)[q0]? = some (b0, .inr (0, [.int ba, .int bb, .int bc]))) {x1 : Int64} {x3 : Int32} {x4 : Int32} {x5 : Int32} {x6 : Int32} {x7 : Int32} {o : ((Int64 × Int32 × Int32 × Int32 × Int32 × Int32) ⊕ (Int64 × Int32 × Int32 × Int32))} (h : fx_letter_29 ba bb bc x1 x3 x4 x5 x6 x7 = some o) (kb : ∀ (a0' : Int64) (a1' : Int32) (a2' : Int32) (a3' : Int32) (a4' : Int32) (a5' : Int32), o = .inl (a0', a1', a2', a3', a4', a5') → kj_J p l e rm_X0_letter s m args below meth c 0 0 Q 8 D A (w z) 29 [(0, .ref b0), (1, .long a0'), (3, .int a1'), (4, .int a2'), (5, .int a3'), (6, .int a4'), (7, .int a5')] []) (ke0 : ∀ (a0' : Int64) (a1' : Int32) (a2' : Int32) (a3' : Int32), o = .inr (a0', a1', a2', a3') → kj_J p l e rm_X0_letter s m args below meth c 0 0 Q 8 D A (w z) 64 [(0, .ref b0), (1, .long a0'), (3, .int a1'), (5, .int a2'), (6, .int a3')] []) : kj_J p l e rm_X0_letter s m args below meth c 0 0 Q 8 D A (w z) 29 [(0, .ref b0), (1, .long x1), (3, .int x3), (4, .int x4), (5, .int x5), (6, .int x6), (7, .int x7)] [] := by
  unfold fx_letter_29 at h
  refine kj_iload F dX0_letter_29 6 rfl ?_
  refine kj_iload F dX0_letter_31 3 rfl ?_
  refine kj_icmp_ge F dX0_letter_33 (tgt := 64) (by decide) h (fun hc h => ?_) (fun hc h => ?_)
  · refine kj_J.sub [0, 1, 2, 4, 5] rfl ?_
    exact ke0 x1 x3 x5 x6 (Option.some.inj h).symm
  · refine kj_aload_n F dX0_letter_36 0 rfl rfl ?_
    refine kj_lload_n F dX0_letter_37 1 rfl rfl ?_
    refine kj_iload_n F dX0_letter_38 2 rfl rfl ?_
    refine kj_iload F dX0_letter_39 5 rfl ?_
    refine kj_iload F dX0_letter_41 4 rfl ?_
    refine kj_cVip (As := [.long x1, .int x3, .int x6, .int x5]) (rest := []) F dX0_letter_43 h (fun o h1 => cx_isFlat (w := w) hb h1) (cwV 4 F.2.2.2.2.1 gX0_letter_X0_isFlat rfl rfl rfl (by decide +kernel) ⟨Nat.le_of_ble_eq_true rfl, Nat.le_of_ble_eq_true rfl⟩) _ hb rfl rfl rfl rfl (Nat.le_of_ble_eq_true rfl) ⟨Nat.zero_le _, Nat.zero_le _⟩ (fun o1 h => ?_)
    refine kj_if_eq F dX0_letter_46 (tgt := 55) (by decide) h (fun hc h => ?_) (fun hc h => ?_)
    · refine kj_iinc F dX0_letter_55 4 rfl (v := (-1)) (by decide) (by decide) (lv' := [(5, .int (x5 + (-1))), (0, .ref b0), (1, .long x1), (3, .int x3), (4, .int x4), (6, .int x6), (7, .int x7)]) rfl ?_
      refine kj_J.sub [1, 2, 3, 4, 0, 5, 6] rfl ?_
      exact jx_letter_58 F hb h kb ke0
    · refine kj_iinc F dX0_letter_49 5 rfl (v := 1) (by decide) (by decide) (lv' := [(6, .int (x6 + 1)), (0, .ref b0), (1, .long x1), (3, .int x3), (4, .int x4), (5, .int x5), (7, .int x7)]) rfl ?_
      refine kj_goto F dX0_letter_52 (tgt := 58) (by decide) ?_
      refine kj_J.sub [1, 2, 3, 4, 5, 0, 6] rfl ?_
      exact jx_letter_58 F hb h kb ke0
theorem jlx_letter_29 {p : Program} {l : Launch} {e : Env} {s : State} {m : MethodId} {args : Array Value} {below : List Frame} {meth : Method} {c : Code} {A : Nat → Prop} {D : va_G} {tys : List (ClassId × FieldType)} {S : Type} {w : S → va_W} {z : S} {Q : State → Prop} (F : kj_Fx p s m args meth c cX0_letter 8 wsX0_letter RX0 (some .int) D tys A) {ba bb bc : Int32} {b0 q0 : Nat} (hb : (w z)[q0]? = some (b0, .inr (0, [.int ba, .int bb, .int bc]))) {n : Nat} {x1 : Int64} {x3 : Int32} {x4 : Int32} {x5 : Int32} {x6 : Int32} {x7 : Int32} {r : (Int64 × Int32 × Int32 × Int32)} (h : lx_letter_29 ba bb bc n x1 x3 x4 x5 x6 x7 = some r) (ke : kj_J p l e rm_X0_letter s m args below meth c 0 0 Q 8 D A (w z) 64 [(0, .ref b0), (1, .long (r.1)), (3, .int (r.2.1)), (5, .int (r.2.2.1)), (6, .int (r.2.2.2))] []) : kj_J p l e rm_X0_letter s m args below meth c 0 0 Q 8 D A (w z) 29 [(0, .ref b0), (1, .long x1), (3, .int x3), (4, .int x4), (5, .int x5), (6, .int x6), (7, .int x7)] [] :=
  kj_it_J (Wh := fun (u : (Int64 × Int32 × Int32 × Int32 × Int32 × Int32)) => kj_J p l e rm_X0_letter s m args below meth c 0 0 Q 8 D A (w z) 29 [(0, .ref b0), (1, .long (u.1)), (3, .int (u.2.1)), (4, .int (u.2.2.1)), (5, .int (u.2.2.2.1)), (6, .int (u.2.2.2.2.1)), (7, .int (u.2.2.2.2.2))] []) (We := fun r => kj_J p l e rm_X0_letter s m args below meth c 0 0 Q 8 D A (w z) 64 [(0, .ref b0), (1, .long (r.1)), (3, .int (r.2.1)), (5, .int (r.2.2.1)), (6, .int (r.2.2.2))] []) (fun u o h kb ke => jx_letter_29 F hb h (fun a0' a1' a2' a3' a4' a5' e => kb (a0', a1', a2', a3', a4', a5') e) (fun a0' a1' a2' a3' e => ke (a0', a1', a2', a3') e)) n (x1, x3, x4, x5, x6, x7) r h ke
set_option maxRecDepth 20000 in
theorem jx_letter {p : Program} {l : Launch} {e : Env} {s : State} {m : MethodId} {args : Array Value} {below : List Frame} {meth : Method} {c : Code} {A : Nat → Prop} {D : va_G} {tys : List (ClassId × FieldType)} {S : Type} {w : S → va_W} {z : S} (F : kj_Fx p s m args meth c cX0_letter 8 wsX0_letter RX0 (some .int) D tys A) {ba bb bc : Int32} {b0 q0 : Nat} (hb : (w z)[q0]? = some (b0, .inr (0, [.int ba, .int bb, .int bc]))) {x1 : Int64} {x3 : Int32} {x4 : Int32} {o : Int32} (h : fx_letter ba bb bc x1 x3 x4 = some o) : kj_J p l e rm_X0_letter s m args below meth c 0 0 (MQ below (kj_Qi D tys A w (o, z)) args s 0 0 A) 8 D A (w z) 0 [(0, .ref b0), (1, .long x1), (3, .int x3), (4, .int x4)] [] := by
  unfold fx_letter at h
  refine kj_iload F dX0_letter_0 3 rfl ?_
  refine kj_aload_n F dX0_letter_2 0 rfl rfl ?_
  refine kj_get F dX0_letter_3 in_X0_letter _ hb rfl 1 (by decide) (by decide +kernel) rfl rfl ?_
  refine kj_aload_n F dX0_letter_6 0 rfl rfl ?_
  refine kj_get F dX0_letter_7 in_X0_letter _ hb rfl 2 (by decide) (by decide +kernel) rfl rfl ?_
  refine kj_iadd F dX0_letter_10 ?_
  refine kj_icmp_lt F dX0_letter_11 (tgt := 17) (by decide) h (fun hc h => ?_) (fun hc h => ?_)
  · refine kj_aload_n F dX0_letter_17 0 rfl rfl ?_
    refine kj_get F dX0_letter_18 in_X0_letter _ hb rfl 2 (by decide) (by decide +kernel) rfl rfl ?_
    refine kj_istore F dX0_letter_21 (lv' := [(5, .int bc), (0, .ref b0), (1, .long x1), (3, .int x3), (4, .int x4)]) (by decide) rfl ?_
    refine kj_iconst F dX0_letter_23 (v := 0) (by decide) ?_
    refine kj_istore F dX0_letter_24 (lv' := [(6, .int (0 : Int32)), (5, .int bc), (0, .ref b0), (1, .long x1), (3, .int x3), (4, .int x4)]) (by decide) rfl ?_
    refine kj_iconst F dX0_letter_26 (v := 0) (by decide) ?_
    refine kj_istore F dX0_letter_27 (lv' := [(7, .int (0 : Int32)), (6, .int (0 : Int32)), (5, .int bc), (0, .ref b0), (1, .long x1), (3, .int x3), (4, .int x4)]) (by decide) rfl ?_
    refine kj_J.sub [3, 4, 5, 6, 2, 1, 0] rfl ?_
    refine kj_bn h (fun r1 h1 h => ?_)
    refine jlx_letter_29 F hb h1 ?_
    refine kj_aload_n F dX0_letter_64 0 rfl rfl ?_
    refine kj_lload_n F dX0_letter_65 1 rfl rfl ?_
    refine kj_iload_n F dX0_letter_66 2 rfl rfl ?_
    refine kj_iload F dX0_letter_67 4 rfl ?_
    refine kj_iload F dX0_letter_69 3 rfl ?_
    refine kj_cVip (As := [.long (r1.1), .int (r1.2.1), .int (r1.2.2.2), .int (r1.2.2.1)]) (rest := []) F dX0_letter_71 h (fun o h1 => cx_isFlat (w := w) hb h1) (cwV 4 F.2.2.2.2.1 gX0_letter_X0_isFlat rfl rfl rfl (by decide +kernel) ⟨Nat.le_of_ble_eq_true rfl, Nat.le_of_ble_eq_true rfl⟩) _ hb rfl rfl rfl rfl (Nat.le_of_ble_eq_true rfl) ⟨Nat.zero_le _, Nat.zero_le _⟩ (fun o2 h => ?_)
    refine kj_if_eq F dX0_letter_74 (tgt := 82) (by decide) h (fun hc h => ?_) (fun hc h => ?_)
    · refine kj_bipush F dX0_letter_82 (v := 110) (by decide) ?_
      exact kj_iret F dX0_letter_84 (kj_pr h)
    · refine kj_bipush F dX0_letter_77 (v := 101) (by decide) ?_
      refine kj_goto F dX0_letter_79 (tgt := 84) (by decide) ?_
      exact kj_iret F dX0_letter_84 (kj_pr h)
  · refine kj_ldc F dX0_letter_14 (v := (-1000000)) (by decide +kernel) ?_
    exact kj_iret F dX0_letter_16 (kj_pr h)
theorem cx_letter {l : Launch} {D : va_G} {tys : List (ClassId × FieldType)} {S : Type} {w : S → va_W} {z : S} {ba bb bc : Int32} {b0 q0 : Nat} (hb : (w z)[q0]? = some (b0, .inr (0, [.int ba, .int bb, .int bc]))) {x1 : Int64} {x3 : Int32} {x4 : Int32} {o : Int32} (h : fx_letter ba bb bc x1 x3 x4 = some o) : kj_Mi l yX0_letter wsX0_letter rm_X0_letter D tys w z [.ref b0, .long x1, .int x3, .int x4] (o, z) :=
  fun sz => kj_start (by decide) rfl (Nat.le_of_ble_eq_true rfl) rfl fun p e s m args below meth c hsz F => jx_letter F hb h
/-! X0_isSideFace -/
abbrev rm_X0_isSideFace : Room := { frames := 0, cells := 0, slots := 0, locals := 0 }
def fx_isSideFace_5 (x0 : Int32) (x1 : Int32) (x3 : Int32) (x4 : Int32) : Option ((Int32 × Int32 × Int32 × Int32) ⊕ (Unit ⊕ Unit)) :=
  if x3 < x4 then
  some (.inr (.inr ()))
  else
  if x0 = ((((4 : Int32) * x4) - x1) - (5 : Int32)) then
  some (.inr (.inl ()))
  else
  some (.inl (x0, x1, x3, (x4 + 1)))
def lx_isSideFace_5 (n : Nat) (x0 : Int32) (x1 : Int32) (x3 : Int32) (x4 : Int32) : Option (Unit ⊕ Unit) :=
  kj_it (fun (s : (Int32 × Int32 × Int32 × Int32)) => fx_isSideFace_5 (s.1) (s.2.1) (s.2.2.1) (s.2.2.2)) n (x0, x1, x3, x4)
def fx_isSideFace (x0 : Int32) (x1 : Int32) (x2 : Int32) (x3 : Int32) : Option Int32 :=
  (lx_isSideFace_5 5000 x0 x1 x3 (x2 + (1 : Int32))).bind fun r1 => kj_se r1 (fun a2 => some (1 : Int32)) (fun b3 => some (0 : Int32))
set_option maxRecDepth 20000 in
theorem jx_isSideFace_5 {p : Program} {l : Launch} {e : Env} {s : State} {m : MethodId} {args : Array Value} {below : List Frame} {meth : Method} {c : Code} {A : Nat → Prop} {D : va_G} {tys : List (ClassId × FieldType)} {S : Type} {w : S → va_W} {z : S} {Q : State → Prop} (F : kj_Fx p s m args meth c cX0_isSideFace 5 wsX0_isSideFace RX0 (some .boolean) D tys A) {x0 : Int32} {x1 : Int32} {x3 : Int32} {x4 : Int32} {o : ((Int32 × Int32 × Int32 × Int32) ⊕ (Unit ⊕ Unit))} (h : fx_isSideFace_5 x0 x1 x3 x4 = some o) (kb : ∀ (a0' : Int32) (a1' : Int32) (a2' : Int32) (a3' : Int32), o = .inl (a0', a1', a2', a3') → kj_J p l e rm_X0_isSideFace s m args below meth c 0 0 Q 5 D A (w z) 5 [(0, .int a0'), (1, .int a1'), (3, .int a2'), (4, .int a3')] []) (ke0 : o = .inr (.inl ()) → kj_J p l e rm_X0_isSideFace s m args below meth c 0 0 Q 5 D A (w z) 23 [] []) (ke1 : o = .inr (.inr ()) → kj_J p l e rm_X0_isSideFace s m args below meth c 0 0 Q 5 D A (w z) 31 [] []) : kj_J p l e rm_X0_isSideFace s m args below meth c 0 0 Q 5 D A (w z) 5 [(0, .int x0), (1, .int x1), (3, .int x3), (4, .int x4)] [] := by
  unfold fx_isSideFace_5 at h
  refine kj_iload F dX0_isSideFace_5 3 rfl ?_
  refine kj_iload_n F dX0_isSideFace_7 2 rfl rfl ?_
  refine kj_icmp_gt F dX0_isSideFace_8 (tgt := 31) (by decide) h (fun hc h => ?_) (fun hc h => ?_)
  · refine kj_J.sub [] rfl ?_
    exact ke1 (Option.some.inj h).symm
  · refine kj_iload_n F dX0_isSideFace_11 0 rfl rfl ?_
    refine kj_iconst F dX0_isSideFace_12 (v := 4) (by decide) ?_
    refine kj_iload F dX0_isSideFace_13 3 rfl ?_
    refine kj_imul F dX0_isSideFace_15 ?_
    refine kj_iload_n F dX0_isSideFace_16 1 rfl rfl ?_
    refine kj_isub F dX0_isSideFace_17 ?_
    refine kj_iconst F dX0_isSideFace_18 (v := 5) (by decide) ?_
    refine kj_isub F dX0_isSideFace_19 ?_
    refine kj_icmp_ne F dX0_isSideFace_20 (tgt := 25) (by decide) h (fun hc h => ?_) (fun hc h => ?_)
    · refine kj_J.sub [] rfl ?_
      exact ke0 (Option.some.inj h).symm
    · refine kj_iinc F dX0_isSideFace_25 3 rfl (v := 1) (by decide) (by decide) (lv' := [(4, .int (x4 + 1)), (0, .int x0), (1, .int x1), (3, .int x3)]) rfl ?_
      refine kj_goto F dX0_isSideFace_28 (tgt := 5) (by decide) ?_
      refine kj_J.sub [1, 2, 3, 0] rfl ?_
      exact kb x0 x1 x3 (x4 + 1) (Option.some.inj h).symm
theorem jlx_isSideFace_5 {p : Program} {l : Launch} {e : Env} {s : State} {m : MethodId} {args : Array Value} {below : List Frame} {meth : Method} {c : Code} {A : Nat → Prop} {D : va_G} {tys : List (ClassId × FieldType)} {S : Type} {w : S → va_W} {z : S} {Q : State → Prop} (F : kj_Fx p s m args meth c cX0_isSideFace 5 wsX0_isSideFace RX0 (some .boolean) D tys A) {n : Nat} {x0 : Int32} {x1 : Int32} {x3 : Int32} {x4 : Int32} {r : (Unit ⊕ Unit)} (h : lx_isSideFace_5 n x0 x1 x3 x4 = some r) (ke : (∀ a, r = (.inl a) → kj_J p l e rm_X0_isSideFace s m args below meth c 0 0 Q 5 D A (w z) 23 [] []) ∧ (∀ a, r = (.inr a) → kj_J p l e rm_X0_isSideFace s m args below meth c 0 0 Q 5 D A (w z) 31 [] [])) : kj_J p l e rm_X0_isSideFace s m args below meth c 0 0 Q 5 D A (w z) 5 [(0, .int x0), (1, .int x1), (3, .int x3), (4, .int x4)] [] :=
  kj_it_J (Wh := fun (u : (Int32 × Int32 × Int32 × Int32)) => kj_J p l e rm_X0_isSideFace s m args below meth c 0 0 Q 5 D A (w z) 5 [(0, .int (u.1)), (1, .int (u.2.1)), (3, .int (u.2.2.1)), (4, .int (u.2.2.2))] []) (We := fun r => (∀ a, r = (.inl a) → kj_J p l e rm_X0_isSideFace s m args below meth c 0 0 Q 5 D A (w z) 23 [] []) ∧ (∀ a, r = (.inr a) → kj_J p l e rm_X0_isSideFace s m args below meth c 0 0 Q 5 D A (w z) 31 [] [])) (fun u o h kb ke => jx_isSideFace_5 F h (fun a0' a1' a2' a3' e => kb (a0', a1', a2', a3') e) (fun e => (ke (.inl ()) e).1 () rfl) (fun e => (ke (.inr ()) e).2 () rfl)) n (x0, x1, x3, x4) r h ke
set_option maxRecDepth 20000 in
theorem jx_isSideFace {p : Program} {l : Launch} {e : Env} {s : State} {m : MethodId} {args : Array Value} {below : List Frame} {meth : Method} {c : Code} {A : Nat → Prop} {D : va_G} {tys : List (ClassId × FieldType)} {S : Type} {w : S → va_W} {z : S} (F : kj_Fx p s m args meth c cX0_isSideFace 5 wsX0_isSideFace RX0 (some .boolean) D tys A) {x0 : Int32} {x1 : Int32} {x2 : Int32} {x3 : Int32} {o : Int32} (h : fx_isSideFace x0 x1 x2 x3 = some o) : kj_J p l e rm_X0_isSideFace s m args below meth c 0 0 (MQ below (kj_Qi D tys A w (o, z)) args s 0 0 A) 5 D A (w z) 0 [(0, .int x0), (1, .int x1), (2, .int x2), (3, .int x3)] [] := by
  unfold fx_isSideFace at h
  refine kj_iload_n F dX0_isSideFace_0 2 rfl rfl ?_
  refine kj_iconst F dX0_isSideFace_1 (v := 1) (by decide) ?_
  refine kj_iadd F dX0_isSideFace_2 ?_
  refine kj_istore F dX0_isSideFace_3 (lv' := [(4, .int (x2 + (1 : Int32))), (0, .int x0), (1, .int x1), (2, .int x2), (3, .int x3)]) (by decide) rfl ?_
  refine kj_J.sub [1, 2, 4, 0] rfl ?_
  refine kj_bn h (fun r1 h1 h => ?_)
  refine jlx_isSideFace_5 F h1 ?_
  refine ⟨fun a2 e => ?_, fun b3 e => ?_⟩
  · subst e
    refine kj_seL h (fun h => ?_)
    refine kj_iconst F dX0_isSideFace_23 (v := 1) (by decide) ?_
    exact kj_zret F dX0_isSideFace_24 (by decide) (kj_pr h)
  · subst e
    refine kj_seR h (fun h => ?_)
    refine kj_iconst F dX0_isSideFace_31 (v := 0) (by decide) ?_
    exact kj_zret F dX0_isSideFace_32 (by decide) (kj_pr h)
theorem cx_isSideFace {l : Launch} {D : va_G} {tys : List (ClassId × FieldType)} {S : Type} {w : S → va_W} {z : S} {x0 : Int32} {x1 : Int32} {x2 : Int32} {x3 : Int32} {o : Int32} (h : fx_isSideFace x0 x1 x2 x3 = some o) : kj_Mi l yX0_isSideFace wsX0_isSideFace rm_X0_isSideFace D tys w z [.int x0, .int x1, .int x2, .int x3] (o, z) :=
  fun sz => kj_start (by decide) rfl (Nat.le_of_ble_eq_true rfl) rfl fun p e s m args below meth c hsz F => jx_isSideFace F h
/-! X0_faceAt -/
abbrev rm_X0_faceAt : Room := { frames := 1, cells := 0, slots := 0, locals := 24 }
theorem in_X0_faceAt : ∀ w ∈ u_ws RX0 TX0 3, w ∈ wsX0_faceAt := by decide +kernel
def fx_faceAt_163 (ba bb bc : Int32) (x1 : Int64) (x3 : Int32) (x4 : Int32) (x5 : Int32) (x6 : Int32) : Option ((Int64 × Int32 × Int32 × Int32 × Int32) ⊕ (Unit ⊕ (Unit ⊕ (Unit ⊕ (Int64 × Int32 × Int32 × Int32))))) :=
  some (.inl (x1, x3, x4, x5, (x6 + 1)))
def fx_faceAt_125 (ba bb bc : Int32) (x1 : Int64) (x3 : Int32) (x4 : Int32) (x5 : Int32) (x6 : Int32) (x7 : Int32) (x8 : Int32) (x9 : Int32) : Option ((Int64 × Int32 × Int32 × Int32 × Int32) ⊕ (Unit ⊕ (Unit ⊕ (Unit ⊕ (Int64 × Int32 × Int32 × Int32))))) :=
  if x5 < 0 then
  fx_faceAt_163 ba bb bc x1 x3 x4 x5 x6
  else
  if x3 = (x7 + (1 : Int32)) then
  (fx_level ba bb bc x1 x5 (x6 + (1 : Int32))).bind fun o1 =>
  (fx_isSideFace x4 x8 o1 x9).bind fun o2 =>
  if o2 = 0 then
  fx_faceAt_163 ba bb bc x1 x3 x4 x5 x6
  else
  some (.inr (.inr (.inr (.inl ()))))
  else
  fx_faceAt_163 ba bb bc x1 x3 x4 x5 x6
def fx_faceAt_87 (ba bb bc : Int32) (x1 : Int64) (x3 : Int32) (x4 : Int32) (x5 : Int32) (x6 : Int32) (x7 : Int32) (x8 : Int32) (x9 : Int32) : Option ((Int64 × Int32 × Int32 × Int32 × Int32) ⊕ (Unit ⊕ (Unit ⊕ (Unit ⊕ (Int64 × Int32 × Int32 × Int32))))) :=
  if x6 < 0 then
  fx_faceAt_125 ba bb bc x1 x3 x4 x5 x6 x7 x8 x9
  else
  if x3 = (x7 - (1 : Int32)) then
  (fx_level ba bb bc x1 (x5 + (1 : Int32)) x6).bind fun o1 =>
  (fx_isSideFace x4 x8 o1 x9).bind fun o2 =>
  if o2 = 0 then
  fx_faceAt_125 ba bb bc x1 x3 x4 x5 x6 x7 x8 x9
  else
  some (.inr (.inr (.inl ())))
  else
  fx_faceAt_125 ba bb bc x1 x3 x4 x5 x6 x7 x8 x9
def fx_faceAt_15 (ba bb bc : Int32) (x1 : Int64) (x3 : Int32) (x4 : Int32) (x5 : Int32) (x6 : Int32) : Option ((Int64 × Int32 × Int32 × Int32 × Int32) ⊕ (Unit ⊕ (Unit ⊕ (Unit ⊕ (Int64 × Int32 × Int32 × Int32))))) :=
  if bb ≤ x6 then
  some (.inr (.inr (.inr (.inr (x1, x3, x4, x5)))))
  else
  (fx_level ba bb bc x1 x5 x6).bind fun o1 =>
  if x5 < 0 then
  fx_faceAt_87 ba bb bc x1 x3 x4 x5 x6 ((2 : Int32) * (x6 - x5)) (((2 : Int32) * x5) + ((2 : Int32) * x6)) o1
  else
  if x6 < 0 then
  fx_faceAt_87 ba bb bc x1 x3 x4 x5 x6 ((2 : Int32) * (x6 - x5)) (((2 : Int32) * x5) + ((2 : Int32) * x6)) o1
  else
  if x3 = ((2 : Int32) * (x6 - x5)) then
  if x4 = ((((4 : Int32) * o1) - (((2 : Int32) * x5) + ((2 : Int32) * x6))) - (2 : Int32)) then
  some (.inr (.inl ()))
  else
  fx_faceAt_87 ba bb bc x1 x3 x4 x5 x6 ((2 : Int32) * (x6 - x5)) (((2 : Int32) * x5) + ((2 : Int32) * x6)) o1
  else
  fx_faceAt_87 ba bb bc x1 x3 x4 x5 x6 ((2 : Int32) * (x6 - x5)) (((2 : Int32) * x5) + ((2 : Int32) * x6)) o1
def lx_faceAt_15 (ba bb bc : Int32) (n : Nat) (x1 : Int64) (x3 : Int32) (x4 : Int32) (x5 : Int32) (x6 : Int32) : Option (Unit ⊕ (Unit ⊕ (Unit ⊕ (Int64 × Int32 × Int32 × Int32)))) :=
  kj_it (fun (s : (Int64 × Int32 × Int32 × Int32 × Int32)) => fx_faceAt_15 ba bb bc (s.1) (s.2.1) (s.2.2.1) (s.2.2.2.1) (s.2.2.2.2)) n (x1, x3, x4, x5, x6)
def fx_faceAt_3 (ba bb bc : Int32) (x1 : Int64) (x3 : Int32) (x4 : Int32) (x5 : Int32) : Option ((Int64 × Int32 × Int32 × Int32) ⊕ (Unit ⊕ (Unit ⊕ (Unit ⊕ Unit)))) :=
  if ba ≤ x5 then
  some (.inr (.inr (.inr (.inr ()))))
  else
  (lx_faceAt_15 ba bb bc 5000 x1 x3 x4 x5 (-1 : Int32)).bind fun r1 => kj_se r1 (fun a2 => some (.inr (.inl ()))) (fun b3 => kj_se b3 (fun a4 => some (.inr (.inr (.inl ())))) (fun b5 => kj_se b5 (fun a6 => some (.inr (.inr (.inr (.inl ()))))) (fun b7 => some (.inl ((b7.1), (b7.2.1), (b7.2.2.1), ((b7.2.2.2) + 1))))))
def lx_faceAt_3 (ba bb bc : Int32) (n : Nat) (x1 : Int64) (x3 : Int32) (x4 : Int32) (x5 : Int32) : Option (Unit ⊕ (Unit ⊕ (Unit ⊕ Unit))) :=
  kj_it (fun (s : (Int64 × Int32 × Int32 × Int32)) => fx_faceAt_3 ba bb bc (s.1) (s.2.1) (s.2.2.1) (s.2.2.2)) n (x1, x3, x4, x5)
def fx_faceAt (ba bb bc : Int32) (x1 : Int64) (x3 : Int32) (x4 : Int32) : Option Int32 :=
  (lx_faceAt_3 ba bb bc 5000 x1 x3 x4 (-1 : Int32)).bind fun r1 => kj_se r1 (fun a2 => some (1 : Int32)) (fun b3 => kj_se b3 (fun a4 => some (2 : Int32)) (fun b5 => kj_se b5 (fun a6 => some (3 : Int32)) (fun b7 => some (0 : Int32))))
set_option maxRecDepth 20000 in
theorem jx_faceAt_163 {p : Program} {l : Launch} {e : Env} {s : State} {m : MethodId} {args : Array Value} {below : List Frame} {meth : Method} {c : Code} {A : Nat → Prop} {D : va_G} {tys : List (ClassId × FieldType)} {S : Type} {w : S → va_W} {z : S} {Q : State → Prop} (F : kj_Fx p s m args meth c cX0_faceAt 10 wsX0_faceAt RX0 (some .int) D tys A) {ba bb bc : Int32} {b0 q0 : Nat} (hb : (w z)[q0]? = some (b0, .inr (0, [.int ba, .int bb, .int bc]))) {x1 : Int64} {x3 : Int32} {x4 : Int32} {x5 : Int32} {x6 : Int32} {o : ((Int64 × Int32 × Int32 × Int32 × Int32) ⊕ (Unit ⊕ (Unit ⊕ (Unit ⊕ (Int64 × Int32 × Int32 × Int32)))))} (h : fx_faceAt_163 ba bb bc x1 x3 x4 x5 x6 = some o) (kb : ∀ (a0' : Int64) (a1' : Int32) (a2' : Int32) (a3' : Int32) (a4' : Int32), o = .inl (a0', a1', a2', a3', a4') → kj_J p l e rm_X0_faceAt s m args below meth c 0 0 Q 10 D A (w z) 15 [(0, .ref b0), (1, .long a0'), (3, .int a1'), (4, .int a2'), (5, .int a3'), (6, .int a4')] []) (ke0 : o = .inr (.inl ()) → kj_J p l e rm_X0_faceAt s m args below meth c 0 0 Q 10 D A (w z) 85 [] []) (ke1 : o = .inr (.inr (.inl ())) → kj_J p l e rm_X0_faceAt s m args below meth c 0 0 Q 10 D A (w z) 123 [] []) (ke2 : o = .inr (.inr (.inr (.inl ()))) → kj_J p l e rm_X0_faceAt s m args below meth c 0 0 Q 10 D A (w z) 161 [] []) (ke3 : ∀ (a0' : Int64) (a1' : Int32) (a2' : Int32) (a3' : Int32), o = .inr (.inr (.inr (.inr (a0', a1', a2', a3')))) → kj_J p l e rm_X0_faceAt s m args below meth c 0 0 Q 10 D A (w z) 169 [(0, .ref b0), (1, .long a0'), (3, .int a1'), (4, .int a2'), (5, .int a3')] []) : kj_J p l e rm_X0_faceAt s m args below meth c 0 0 Q 10 D A (w z) 163 [(0, .ref b0), (1, .long x1), (3, .int x3), (4, .int x4), (5, .int x5), (6, .int x6)] [] := by
  unfold fx_faceAt_163 at h
  refine kj_iinc F dX0_faceAt_163 5 rfl (v := 1) (by decide) (by decide) (lv' := [(6, .int (x6 + 1)), (0, .ref b0), (1, .long x1), (3, .int x3), (4, .int x4), (5, .int x5)]) rfl ?_
  refine kj_goto F dX0_faceAt_166 (tgt := 15) (by decide) ?_
  refine kj_J.sub [1, 2, 3, 4, 5, 0] rfl ?_
  exact kb x1 x3 x4 x5 (x6 + 1) (Option.some.inj h).symm
set_option maxRecDepth 20000 in
theorem jx_faceAt_125 {p : Program} {l : Launch} {e : Env} {s : State} {m : MethodId} {args : Array Value} {below : List Frame} {meth : Method} {c : Code} {A : Nat → Prop} {D : va_G} {tys : List (ClassId × FieldType)} {S : Type} {w : S → va_W} {z : S} {Q : State → Prop} (F : kj_Fx p s m args meth c cX0_faceAt 10 wsX0_faceAt RX0 (some .int) D tys A) {ba bb bc : Int32} {b0 q0 : Nat} (hb : (w z)[q0]? = some (b0, .inr (0, [.int ba, .int bb, .int bc]))) {x1 : Int64} {x3 : Int32} {x4 : Int32} {x5 : Int32} {x6 : Int32} {x7 : Int32} {x8 : Int32} {x9 : Int32} {o : ((Int64 × Int32 × Int32 × Int32 × Int32) ⊕ (Unit ⊕ (Unit ⊕ (Unit ⊕ (Int64 × Int32 × Int32 × Int32)))))} (h : fx_faceAt_125 ba bb bc x1 x3 x4 x5 x6 x7 x8 x9 = some o) (kb : ∀ (a0' : Int64) (a1' : Int32) (a2' : Int32) (a3' : Int32) (a4' : Int32), o = .inl (a0', a1', a2', a3', a4') → kj_J p l e rm_X0_faceAt s m args below meth c 0 0 Q 10 D A (w z) 15 [(0, .ref b0), (1, .long a0'), (3, .int a1'), (4, .int a2'), (5, .int a3'), (6, .int a4')] []) (ke0 : o = .inr (.inl ()) → kj_J p l e rm_X0_faceAt s m args below meth c 0 0 Q 10 D A (w z) 85 [] []) (ke1 : o = .inr (.inr (.inl ())) → kj_J p l e rm_X0_faceAt s m args below meth c 0 0 Q 10 D A (w z) 123 [] []) (ke2 : o = .inr (.inr (.inr (.inl ()))) → kj_J p l e rm_X0_faceAt s m args below meth c 0 0 Q 10 D A (w z) 161 [] []) (ke3 : ∀ (a0' : Int64) (a1' : Int32) (a2' : Int32) (a3' : Int32), o = .inr (.inr (.inr (.inr (a0', a1', a2', a3')))) → kj_J p l e rm_X0_faceAt s m args below meth c 0 0 Q 10 D A (w z) 169 [(0, .ref b0), (1, .long a0'), (3, .int a1'), (4, .int a2'), (5, .int a3')] []) : kj_J p l e rm_X0_faceAt s m args below meth c 0 0 Q 10 D A (w z) 125 [(0, .ref b0), (1, .long x1), (3, .int x3), (4, .int x4), (5, .int x5), (6, .int x6), (7, .int x7), (8, .int x8), (9, .int x9)] [] := by
  unfold fx_faceAt_125 at h
  refine kj_iload F dX0_faceAt_125 4 rfl ?_
  refine kj_if_lt F dX0_faceAt_127 (tgt := 163) (by decide) h (fun hc h => ?_) (fun hc h => ?_)
  · refine kj_J.sub [0, 1, 2, 3, 4, 5] rfl ?_
    exact jx_faceAt_163 F hb h kb ke0 ke1 ke2 ke3
  · refine kj_iload_n F dX0_faceAt_130 2 rfl rfl ?_
    refine kj_iload F dX0_faceAt_131 6 rfl ?_
    refine kj_iconst F dX0_faceAt_133 (v := 1) (by decide) ?_
    refine kj_iadd F dX0_faceAt_134 ?_
    refine kj_icmp_ne F dX0_faceAt_135 (tgt := 163) (by decide) h (fun hc h => ?_) (fun hc h => ?_)
    · refine kj_iload F dX0_faceAt_138 3 rfl ?_
      refine kj_iload F dX0_faceAt_140 7 rfl ?_
      refine kj_aload_n F dX0_faceAt_142 0 rfl rfl ?_
      refine kj_lload_n F dX0_faceAt_143 1 rfl rfl ?_
      refine kj_iload F dX0_faceAt_144 4 rfl ?_
      refine kj_iload F dX0_faceAt_146 5 rfl ?_
      refine kj_iconst F dX0_faceAt_148 (v := 1) (by decide) ?_
      refine kj_iadd F dX0_faceAt_149 ?_
      refine kj_cVip (As := [.long x1, .int x5, .int (x6 + (1 : Int32))]) (rest := [.int x8, .int x4]) F dX0_faceAt_150 h (fun o h1 => cx_level (w := w) hb h1) (cwV 3 F.2.2.2.2.1 gX0_faceAt_X0_level rfl rfl rfl (by decide +kernel) ⟨Nat.le_of_ble_eq_true rfl, Nat.le_of_ble_eq_true rfl⟩) _ hb rfl rfl rfl rfl (Nat.le_of_ble_eq_true rfl) ⟨Nat.zero_le _, Nat.zero_le _⟩ (fun o1 h => ?_)
      refine kj_iload F dX0_faceAt_153 8 rfl ?_
      refine kj_cSip (As := [.int x4, .int x8, .int o1, .int x9]) (rest := []) F dX0_faceAt_155 h (fun o h1 => cx_isSideFace (w := w) h1) (va_cwS 4 F.2.2.2.2.1 gX0_faceAt_X0_isSideFace rfl rfl rfl (by decide +kernel) ⟨Nat.le_of_ble_eq_true rfl, Nat.le_of_ble_eq_true rfl⟩) rfl rfl (Nat.le_of_ble_eq_true rfl) ⟨Nat.zero_le _, Nat.zero_le _⟩ (fun o2 h => ?_)
      refine kj_if_eq F dX0_faceAt_158 (tgt := 163) (by decide) h (fun hc h => ?_) (fun hc h => ?_)
      · refine kj_J.sub [0, 1, 2, 3, 4, 5] rfl ?_
        exact jx_faceAt_163 F hb h kb ke0 ke1 ke2 ke3
      · refine kj_J.sub [] rfl ?_
        exact ke2 (Option.some.inj h).symm
    · refine kj_J.sub [0, 1, 2, 3, 4, 5] rfl ?_
      exact jx_faceAt_163 F hb h kb ke0 ke1 ke2 ke3
set_option maxRecDepth 20000 in
theorem jx_faceAt_87 {p : Program} {l : Launch} {e : Env} {s : State} {m : MethodId} {args : Array Value} {below : List Frame} {meth : Method} {c : Code} {A : Nat → Prop} {D : va_G} {tys : List (ClassId × FieldType)} {S : Type} {w : S → va_W} {z : S} {Q : State → Prop} (F : kj_Fx p s m args meth c cX0_faceAt 10 wsX0_faceAt RX0 (some .int) D tys A) {ba bb bc : Int32} {b0 q0 : Nat} (hb : (w z)[q0]? = some (b0, .inr (0, [.int ba, .int bb, .int bc]))) {x1 : Int64} {x3 : Int32} {x4 : Int32} {x5 : Int32} {x6 : Int32} {x7 : Int32} {x8 : Int32} {x9 : Int32} {o : ((Int64 × Int32 × Int32 × Int32 × Int32) ⊕ (Unit ⊕ (Unit ⊕ (Unit ⊕ (Int64 × Int32 × Int32 × Int32)))))} (h : fx_faceAt_87 ba bb bc x1 x3 x4 x5 x6 x7 x8 x9 = some o) (kb : ∀ (a0' : Int64) (a1' : Int32) (a2' : Int32) (a3' : Int32) (a4' : Int32), o = .inl (a0', a1', a2', a3', a4') → kj_J p l e rm_X0_faceAt s m args below meth c 0 0 Q 10 D A (w z) 15 [(0, .ref b0), (1, .long a0'), (3, .int a1'), (4, .int a2'), (5, .int a3'), (6, .int a4')] []) (ke0 : o = .inr (.inl ()) → kj_J p l e rm_X0_faceAt s m args below meth c 0 0 Q 10 D A (w z) 85 [] []) (ke1 : o = .inr (.inr (.inl ())) → kj_J p l e rm_X0_faceAt s m args below meth c 0 0 Q 10 D A (w z) 123 [] []) (ke2 : o = .inr (.inr (.inr (.inl ()))) → kj_J p l e rm_X0_faceAt s m args below meth c 0 0 Q 10 D A (w z) 161 [] []) (ke3 : ∀ (a0' : Int64) (a1' : Int32) (a2' : Int32) (a3' : Int32), o = .inr (.inr (.inr (.inr (a0', a1', a2', a3')))) → kj_J p l e rm_X0_faceAt s m args below meth c 0 0 Q 10 D A (w z) 169 [(0, .ref b0), (1, .long a0'), (3, .int a1'), (4, .int a2'), (5, .int a3')] []) : kj_J p l e rm_X0_faceAt s m args below meth c 0 0 Q 10 D A (w z) 87 [(0, .ref b0), (1, .long x1), (3, .int x3), (4, .int x4), (5, .int x5), (6, .int x6), (7, .int x7), (8, .int x8), (9, .int x9)] [] := by
  unfold fx_faceAt_87 at h
  refine kj_iload F dX0_faceAt_87 5 rfl ?_
  refine kj_if_lt F dX0_faceAt_89 (tgt := 125) (by decide) h (fun hc h => ?_) (fun hc h => ?_)
  · exact jx_faceAt_125 F hb h kb ke0 ke1 ke2 ke3
  · refine kj_iload_n F dX0_faceAt_92 2 rfl rfl ?_
    refine kj_iload F dX0_faceAt_93 6 rfl ?_
    refine kj_iconst F dX0_faceAt_95 (v := 1) (by decide) ?_
    refine kj_isub F dX0_faceAt_96 ?_
    refine kj_icmp_ne F dX0_faceAt_97 (tgt := 125) (by decide) h (fun hc h => ?_) (fun hc h => ?_)
    · refine kj_iload F dX0_faceAt_100 3 rfl ?_
      refine kj_iload F dX0_faceAt_102 7 rfl ?_
      refine kj_aload_n F dX0_faceAt_104 0 rfl rfl ?_
      refine kj_lload_n F dX0_faceAt_105 1 rfl rfl ?_
      refine kj_iload F dX0_faceAt_106 4 rfl ?_
      refine kj_iconst F dX0_faceAt_108 (v := 1) (by decide) ?_
      refine kj_iadd F dX0_faceAt_109 ?_
      refine kj_iload F dX0_faceAt_110 5 rfl ?_
      refine kj_cVip (As := [.long x1, .int (x5 + (1 : Int32)), .int x6]) (rest := [.int x8, .int x4]) F dX0_faceAt_112 h (fun o h1 => cx_level (w := w) hb h1) (cwV 3 F.2.2.2.2.1 gX0_faceAt_X0_level rfl rfl rfl (by decide +kernel) ⟨Nat.le_of_ble_eq_true rfl, Nat.le_of_ble_eq_true rfl⟩) _ hb rfl rfl rfl rfl (Nat.le_of_ble_eq_true rfl) ⟨Nat.zero_le _, Nat.zero_le _⟩ (fun o1 h => ?_)
      refine kj_iload F dX0_faceAt_115 8 rfl ?_
      refine kj_cSip (As := [.int x4, .int x8, .int o1, .int x9]) (rest := []) F dX0_faceAt_117 h (fun o h1 => cx_isSideFace (w := w) h1) (va_cwS 4 F.2.2.2.2.1 gX0_faceAt_X0_isSideFace rfl rfl rfl (by decide +kernel) ⟨Nat.le_of_ble_eq_true rfl, Nat.le_of_ble_eq_true rfl⟩) rfl rfl (Nat.le_of_ble_eq_true rfl) ⟨Nat.zero_le _, Nat.zero_le _⟩ (fun o2 h => ?_)
      refine kj_if_eq F dX0_faceAt_120 (tgt := 125) (by decide) h (fun hc h => ?_) (fun hc h => ?_)
      · exact jx_faceAt_125 F hb h kb ke0 ke1 ke2 ke3
      · refine kj_J.sub [] rfl ?_
        exact ke1 (Option.some.inj h).symm
    · exact jx_faceAt_125 F hb h kb ke0 ke1 ke2 ke3
set_option maxRecDepth 20000 in
theorem jx_faceAt_15 {p : Program} {l : Launch} {e : Env} {s : State} {m : MethodId} {args : Array Value} {below : List Frame} {meth : Method} {c : Code} {A : Nat → Prop} {D : va_G} {tys : List (ClassId × FieldType)} {S : Type} {w : S → va_W} {z : S} {Q : State → Prop} (F : kj_Fx p s m args meth c cX0_faceAt 10 wsX0_faceAt RX0 (some .int) D tys A) {ba bb bc : Int32} {b0 q0 : Nat} (hb : (w z)[q0]? = some (b0, .inr (0, [.int ba, .int bb, .int bc]))) {x1 : Int64} {x3 : Int32} {x4 : Int32} {x5 : Int32} {x6 : Int32} {o : ((Int64 × Int32 × Int32 × Int32 × Int32) ⊕ (Unit ⊕ (Unit ⊕ (Unit ⊕ (Int64 × Int32 × Int32 × Int32)))))} (h : fx_faceAt_15 ba bb bc x1 x3 x4 x5 x6 = some o) (kb : ∀ (a0' : Int64) (a1' : Int32) (a2' : Int32) (a3' : Int32) (a4' : Int32), o = .inl (a0', a1', a2', a3', a4') → kj_J p l e rm_X0_faceAt s m args below meth c 0 0 Q 10 D A (w z) 15 [(0, .ref b0), (1, .long a0'), (3, .int a1'), (4, .int a2'), (5, .int a3'), (6, .int a4')] []) (ke0 : o = .inr (.inl ()) → kj_J p l e rm_X0_faceAt s m args below meth c 0 0 Q 10 D A (w z) 85 [] []) (ke1 : o = .inr (.inr (.inl ())) → kj_J p l e rm_X0_faceAt s m args below meth c 0 0 Q 10 D A (w z) 123 [] []) (ke2 : o = .inr (.inr (.inr (.inl ()))) → kj_J p l e rm_X0_faceAt s m args below meth c 0 0 Q 10 D A (w z) 161 [] []) (ke3 : ∀ (a0' : Int64) (a1' : Int32) (a2' : Int32) (a3' : Int32), o = .inr (.inr (.inr (.inr (a0', a1', a2', a3')))) → kj_J p l e rm_X0_faceAt s m args below meth c 0 0 Q 10 D A (w z) 169 [(0, .ref b0), (1, .long a0'), (3, .int a1'), (4, .int a2'), (5, .int a3')] []) : kj_J p l e rm_X0_faceAt s m args below meth c 0 0 Q 10 D A (w z) 15 [(0, .ref b0), (1, .long x1), (3, .int x3), (4, .int x4), (5, .int x5), (6, .int x6)] [] := by
  unfold fx_faceAt_15 at h
  refine kj_iload F dX0_faceAt_15 5 rfl ?_
  refine kj_aload_n F dX0_faceAt_17 0 rfl rfl ?_
  refine kj_get F dX0_faceAt_18 in_X0_faceAt _ hb rfl 1 (by decide) (by decide +kernel) rfl rfl ?_
  refine kj_icmp_ge F dX0_faceAt_21 (tgt := 169) (by decide) h (fun hc h => ?_) (fun hc h => ?_)
  · refine kj_J.sub [0, 1, 2, 3, 4] rfl ?_
    exact ke3 x1 x3 x4 x5 (Option.some.inj h).symm
  · refine kj_iconst F dX0_faceAt_24 (v := 2) (by decide) ?_
    refine kj_iload F dX0_faceAt_25 5 rfl ?_
    refine kj_iload F dX0_faceAt_27 4 rfl ?_
    refine kj_isub F dX0_faceAt_29 ?_
    refine kj_imul F dX0_faceAt_30 ?_
    refine kj_istore F dX0_faceAt_31 (lv' := [(7, .int ((2 : Int32) * (x6 - x5))), (0, .ref b0), (1, .long x1), (3, .int x3), (4, .int x4), (5, .int x5), (6, .int x6)]) (by decide) rfl ?_
    refine kj_iconst F dX0_faceAt_33 (v := 2) (by decide) ?_
    refine kj_iload F dX0_faceAt_34 5 rfl ?_
    refine kj_imul F dX0_faceAt_36 ?_
    refine kj_iconst F dX0_faceAt_37 (v := 2) (by decide) ?_
    refine kj_iload F dX0_faceAt_38 6 rfl ?_
    refine kj_imul F dX0_faceAt_40 ?_
    refine kj_iadd F dX0_faceAt_41 ?_
    refine kj_istore F dX0_faceAt_42 (lv' := [(8, .int (((2 : Int32) * x5) + ((2 : Int32) * x6))), (7, .int ((2 : Int32) * (x6 - x5))), (0, .ref b0), (1, .long x1), (3, .int x3), (4, .int x4), (5, .int x5), (6, .int x6)]) (by decide) rfl ?_
    refine kj_aload_n F dX0_faceAt_44 2 rfl rfl ?_
    refine kj_lload_n F dX0_faceAt_45 3 rfl rfl ?_
    refine kj_iload F dX0_faceAt_46 6 rfl ?_
    refine kj_iload F dX0_faceAt_48 7 rfl ?_
    refine kj_cVip (As := [.long x1, .int x5, .int x6]) (rest := []) F dX0_faceAt_50 h (fun o h1 => cx_level (w := w) hb h1) (cwV 3 F.2.2.2.2.1 gX0_faceAt_X0_level rfl rfl rfl (by decide +kernel) ⟨Nat.le_of_ble_eq_true rfl, Nat.le_of_ble_eq_true rfl⟩) _ hb rfl rfl rfl rfl (Nat.le_of_ble_eq_true rfl) ⟨Nat.zero_le _, Nat.zero_le _⟩ (fun o1 h => ?_)
    refine kj_istore F dX0_faceAt_53 (lv' := [(9, .int o1), (8, .int (((2 : Int32) * x5) + ((2 : Int32) * x6))), (7, .int ((2 : Int32) * (x6 - x5))), (0, .ref b0), (1, .long x1), (3, .int x3), (4, .int x4), (5, .int x5), (6, .int x6)]) (by decide) rfl ?_
    refine kj_iload F dX0_faceAt_55 7 rfl ?_
    refine kj_if_lt F dX0_faceAt_57 (tgt := 87) (by decide) h (fun hc h => ?_) (fun hc h => ?_)
    · refine kj_J.sub [3, 4, 5, 6, 7, 8, 2, 1, 0] rfl ?_
      exact jx_faceAt_87 F hb h kb ke0 ke1 ke2 ke3
    · refine kj_iload F dX0_faceAt_60 8 rfl ?_
      refine kj_if_lt F dX0_faceAt_62 (tgt := 87) (by decide) h (fun hc h => ?_) (fun hc h => ?_)
      · refine kj_J.sub [3, 4, 5, 6, 7, 8, 2, 1, 0] rfl ?_
        exact jx_faceAt_87 F hb h kb ke0 ke1 ke2 ke3
      · refine kj_iload_n F dX0_faceAt_65 5 rfl rfl ?_
        refine kj_iload F dX0_faceAt_66 2 rfl ?_
        refine kj_icmp_ne F dX0_faceAt_68 (tgt := 87) (by decide) h (fun hc h => ?_) (fun hc h => ?_)
        · refine kj_iload F dX0_faceAt_71 6 rfl ?_
          refine kj_iconst F dX0_faceAt_73 (v := 4) (by decide) ?_
          refine kj_iload F dX0_faceAt_74 0 rfl ?_
          refine kj_imul F dX0_faceAt_76 ?_
          refine kj_iload F dX0_faceAt_77 1 rfl ?_
          refine kj_isub F dX0_faceAt_79 ?_
          refine kj_iconst F dX0_faceAt_80 (v := 2) (by decide) ?_
          refine kj_isub F dX0_faceAt_81 ?_
          refine kj_icmp_ne F dX0_faceAt_82 (tgt := 87) (by decide) h (fun hc h => ?_) (fun hc h => ?_)
          · refine kj_J.sub [] rfl ?_
            exact ke0 (Option.some.inj h).symm
          · refine kj_J.sub [3, 4, 5, 6, 7, 8, 2, 1, 0] rfl ?_
            exact jx_faceAt_87 F hb h kb ke0 ke1 ke2 ke3
        · refine kj_J.sub [3, 4, 5, 6, 7, 8, 2, 1, 0] rfl ?_
          exact jx_faceAt_87 F hb h kb ke0 ke1 ke2 ke3
theorem jlx_faceAt_15 {p : Program} {l : Launch} {e : Env} {s : State} {m : MethodId} {args : Array Value} {below : List Frame} {meth : Method} {c : Code} {A : Nat → Prop} {D : va_G} {tys : List (ClassId × FieldType)} {S : Type} {w : S → va_W} {z : S} {Q : State → Prop} (F : kj_Fx p s m args meth c cX0_faceAt 10 wsX0_faceAt RX0 (some .int) D tys A) {ba bb bc : Int32} {b0 q0 : Nat} (hb : (w z)[q0]? = some (b0, .inr (0, [.int ba, .int bb, .int bc]))) {n : Nat} {x1 : Int64} {x3 : Int32} {x4 : Int32} {x5 : Int32} {x6 : Int32} {r : (Unit ⊕ (Unit ⊕ (Unit ⊕ (Int64 × Int32 × Int32 × Int32))))} (h : lx_faceAt_15 ba bb bc n x1 x3 x4 x5 x6 = some r) (ke : (∀ a, r = (.inl a) → kj_J p l e rm_X0_faceAt s m args below meth c 0 0 Q 10 D A (w z) 85 [] []) ∧ (∀ a, r = (.inr (.inl a)) → kj_J p l e rm_X0_faceAt s m args below meth c 0 0 Q 10 D A (w z) 123 [] []) ∧ (∀ a, r = (.inr (.inr (.inl a))) → kj_J p l e rm_X0_faceAt s m args below meth c 0 0 Q 10 D A (w z) 161 [] []) ∧ (∀ a, r = (.inr (.inr (.inr a))) → kj_J p l e rm_X0_faceAt s m args below meth c 0 0 Q 10 D A (w z) 169 [(0, .ref b0), (1, .long (a.1)), (3, .int (a.2.1)), (4, .int (a.2.2.1)), (5, .int (a.2.2.2))] [])) : kj_J p l e rm_X0_faceAt s m args below meth c 0 0 Q 10 D A (w z) 15 [(0, .ref b0), (1, .long x1), (3, .int x3), (4, .int x4), (5, .int x5), (6, .int x6)] [] :=
  kj_it_J (Wh := fun (u : (Int64 × Int32 × Int32 × Int32 × Int32)) => kj_J p l e rm_X0_faceAt s m args below meth c 0 0 Q 10 D A (w z) 15 [(0, .ref b0), (1, .long (u.1)), (3, .int (u.2.1)), (4, .int (u.2.2.1)), (5, .int (u.2.2.2.1)), (6, .int (u.2.2.2.2))] []) (We := fun r => (∀ a, r = (.inl a) → kj_J p l e rm_X0_faceAt s m args below meth c 0 0 Q 10 D A (w z) 85 [] []) ∧ (∀ a, r = (.inr (.inl a)) → kj_J p l e rm_X0_faceAt s m args below meth c 0 0 Q 10 D A (w z) 123 [] []) ∧ (∀ a, r = (.inr (.inr (.inl a))) → kj_J p l e rm_X0_faceAt s m args below meth c 0 0 Q 10 D A (w z) 161 [] []) ∧ (∀ a, r = (.inr (.inr (.inr a))) → kj_J p l e rm_X0_faceAt s m args below meth c 0 0 Q 10 D A (w z) 169 [(0, .ref b0), (1, .long (a.1)), (3, .int (a.2.1)), (4, .int (a.2.2.1)), (5, .int (a.2.2.2))] [])) (fun u o h kb ke => jx_faceAt_15 F hb h (fun a0' a1' a2' a3' a4' e => kb (a0', a1', a2', a3', a4') e) (fun e => (ke (.inl ()) e).1 () rfl) (fun e => (ke (.inr (.inl ())) e).2.1 () rfl) (fun e => (ke (.inr (.inr (.inl ()))) e).2.2.1 () rfl) (fun a0' a1' a2' a3' e => (ke (.inr (.inr (.inr (a0', a1', a2', a3')))) e).2.2.2 (a0', a1', a2', a3') rfl)) n (x1, x3, x4, x5, x6) r h ke
set_option maxRecDepth 20000 in
theorem jx_faceAt_3 {p : Program} {l : Launch} {e : Env} {s : State} {m : MethodId} {args : Array Value} {below : List Frame} {meth : Method} {c : Code} {A : Nat → Prop} {D : va_G} {tys : List (ClassId × FieldType)} {S : Type} {w : S → va_W} {z : S} {Q : State → Prop} (F : kj_Fx p s m args meth c cX0_faceAt 10 wsX0_faceAt RX0 (some .int) D tys A) {ba bb bc : Int32} {b0 q0 : Nat} (hb : (w z)[q0]? = some (b0, .inr (0, [.int ba, .int bb, .int bc]))) {x1 : Int64} {x3 : Int32} {x4 : Int32} {x5 : Int32} {o : ((Int64 × Int32 × Int32 × Int32) ⊕ (Unit ⊕ (Unit ⊕ (Unit ⊕ Unit))))} (h : fx_faceAt_3 ba bb bc x1 x3 x4 x5 = some o) (kb : ∀ (a0' : Int64) (a1' : Int32) (a2' : Int32) (a3' : Int32), o = .inl (a0', a1', a2', a3') → kj_J p l e rm_X0_faceAt s m args below meth c 0 0 Q 10 D A (w z) 3 [(0, .ref b0), (1, .long a0'), (3, .int a1'), (4, .int a2'), (5, .int a3')] []) (ke0 : o = .inr (.inl ()) → kj_J p l e rm_X0_faceAt s m args below meth c 0 0 Q 10 D A (w z) 85 [] []) (ke1 : o = .inr (.inr (.inl ())) → kj_J p l e rm_X0_faceAt s m args below meth c 0 0 Q 10 D A (w z) 123 [] []) (ke2 : o = .inr (.inr (.inr (.inl ()))) → kj_J p l e rm_X0_faceAt s m args below meth c 0 0 Q 10 D A (w z) 161 [] []) (ke3 : o = .inr (.inr (.inr (.inr ()))) → kj_J p l e rm_X0_faceAt s m args below meth c 0 0 Q 10 D A (w z) 175 [] []) : kj_J p l e rm_X0_faceAt s m args below meth c 0 0 Q 10 D A (w z) 3 [(0, .ref b0), (1, .long x1), (3, .int x3), (4, .int x4), (5, .int x5)] [] := by
  unfold fx_faceAt_3 at h
  refine kj_iload F dX0_faceAt_3 4 rfl ?_
  refine kj_aload_n F dX0_faceAt_5 0 rfl rfl ?_
  refine kj_get F dX0_faceAt_6 in_X0_faceAt _ hb rfl 0 (by decide) (by decide +kernel) rfl rfl ?_
  refine kj_icmp_ge F dX0_faceAt_9 (tgt := 175) (by decide) h (fun hc h => ?_) (fun hc h => ?_)
  · refine kj_J.sub [] rfl ?_
    exact ke3 (Option.some.inj h).symm
  · refine kj_iconst F dX0_faceAt_12 (v := (-1)) (by decide) ?_
    refine kj_istore F dX0_faceAt_13 (lv' := [(6, .int (-1 : Int32)), (0, .ref b0), (1, .long x1), (3, .int x3), (4, .int x4), (5, .int x5)]) (by decide) rfl ?_
    refine kj_J.sub [1, 2, 3, 4, 5, 0] rfl ?_
    refine kj_bn h (fun r1 h1 h => ?_)
    refine jlx_faceAt_15 F hb h1 ?_
    refine ⟨fun a2 e => ?_, fun a4 e => ?_, fun a6 e => ?_, fun b7 e => ?_⟩
    · subst e
      refine kj_seL h (fun h => ?_)
      exact ke0 (Option.some.inj h).symm
    · subst e
      refine kj_seR h (fun h => ?_)
      refine kj_seL h (fun h => ?_)
      exact ke1 (Option.some.inj h).symm
    · subst e
      refine kj_seR h (fun h => ?_)
      refine kj_seR h (fun h => ?_)
      refine kj_seL h (fun h => ?_)
      exact ke2 (Option.some.inj h).symm
    · subst e
      refine kj_seR h (fun h => ?_)
      refine kj_seR h (fun h => ?_)
      refine kj_seR h (fun h => ?_)
      refine kj_iinc F dX0_faceAt_169 4 rfl (v := 1) (by decide) (by decide) (lv' := [(5, .int ((b7.2.2.2) + 1)), (0, .ref b0), (1, .long (b7.1)), (3, .int (b7.2.1)), (4, .int (b7.2.2.1))]) rfl ?_
      refine kj_goto F dX0_faceAt_172 (tgt := 3) (by decide) ?_
      refine kj_J.sub [1, 2, 3, 4, 0] rfl ?_
      exact kb (b7.1) (b7.2.1) (b7.2.2.1) ((b7.2.2.2) + 1) (Option.some.inj h).symm
theorem jlx_faceAt_3 {p : Program} {l : Launch} {e : Env} {s : State} {m : MethodId} {args : Array Value} {below : List Frame} {meth : Method} {c : Code} {A : Nat → Prop} {D : va_G} {tys : List (ClassId × FieldType)} {S : Type} {w : S → va_W} {z : S} {Q : State → Prop} (F : kj_Fx p s m args meth c cX0_faceAt 10 wsX0_faceAt RX0 (some .int) D tys A) {ba bb bc : Int32} {b0 q0 : Nat} (hb : (w z)[q0]? = some (b0, .inr (0, [.int ba, .int bb, .int bc]))) {n : Nat} {x1 : Int64} {x3 : Int32} {x4 : Int32} {x5 : Int32} {r : (Unit ⊕ (Unit ⊕ (Unit ⊕ Unit)))} (h : lx_faceAt_3 ba bb bc n x1 x3 x4 x5 = some r) (ke : (∀ a, r = (.inl a) → kj_J p l e rm_X0_faceAt s m args below meth c 0 0 Q 10 D A (w z) 85 [] []) ∧ (∀ a, r = (.inr (.inl a)) → kj_J p l e rm_X0_faceAt s m args below meth c 0 0 Q 10 D A (w z) 123 [] []) ∧ (∀ a, r = (.inr (.inr (.inl a))) → kj_J p l e rm_X0_faceAt s m args below meth c 0 0 Q 10 D A (w z) 161 [] []) ∧ (∀ a, r = (.inr (.inr (.inr a))) → kj_J p l e rm_X0_faceAt s m args below meth c 0 0 Q 10 D A (w z) 175 [] [])) : kj_J p l e rm_X0_faceAt s m args below meth c 0 0 Q 10 D A (w z) 3 [(0, .ref b0), (1, .long x1), (3, .int x3), (4, .int x4), (5, .int x5)] [] :=
  kj_it_J (Wh := fun (u : (Int64 × Int32 × Int32 × Int32)) => kj_J p l e rm_X0_faceAt s m args below meth c 0 0 Q 10 D A (w z) 3 [(0, .ref b0), (1, .long (u.1)), (3, .int (u.2.1)), (4, .int (u.2.2.1)), (5, .int (u.2.2.2))] []) (We := fun r => (∀ a, r = (.inl a) → kj_J p l e rm_X0_faceAt s m args below meth c 0 0 Q 10 D A (w z) 85 [] []) ∧ (∀ a, r = (.inr (.inl a)) → kj_J p l e rm_X0_faceAt s m args below meth c 0 0 Q 10 D A (w z) 123 [] []) ∧ (∀ a, r = (.inr (.inr (.inl a))) → kj_J p l e rm_X0_faceAt s m args below meth c 0 0 Q 10 D A (w z) 161 [] []) ∧ (∀ a, r = (.inr (.inr (.inr a))) → kj_J p l e rm_X0_faceAt s m args below meth c 0 0 Q 10 D A (w z) 175 [] [])) (fun u o h kb ke => jx_faceAt_3 F hb h (fun a0' a1' a2' a3' e => kb (a0', a1', a2', a3') e) (fun e => (ke (.inl ()) e).1 () rfl) (fun e => (ke (.inr (.inl ())) e).2.1 () rfl) (fun e => (ke (.inr (.inr (.inl ()))) e).2.2.1 () rfl) (fun e => (ke (.inr (.inr (.inr ()))) e).2.2.2 () rfl)) n (x1, x3, x4, x5) r h ke
set_option maxRecDepth 20000 in
theorem jx_faceAt {p : Program} {l : Launch} {e : Env} {s : State} {m : MethodId} {args : Array Value} {below : List Frame} {meth : Method} {c : Code} {A : Nat → Prop} {D : va_G} {tys : List (ClassId × FieldType)} {S : Type} {w : S → va_W} {z : S} (F : kj_Fx p s m args meth c cX0_faceAt 10 wsX0_faceAt RX0 (some .int) D tys A) {ba bb bc : Int32} {b0 q0 : Nat} (hb : (w z)[q0]? = some (b0, .inr (0, [.int ba, .int bb, .int bc]))) {x1 : Int64} {x3 : Int32} {x4 : Int32} {o : Int32} (h : fx_faceAt ba bb bc x1 x3 x4 = some o) : kj_J p l e rm_X0_faceAt s m args below meth c 0 0 (MQ below (kj_Qi D tys A w (o, z)) args s 0 0 A) 10 D A (w z) 0 [(0, .ref b0), (1, .long x1), (3, .int x3), (4, .int x4)] [] := by
  unfold fx_faceAt at h
  refine kj_iconst F dX0_faceAt_0 (v := (-1)) (by decide) ?_
  refine kj_istore F dX0_faceAt_1 (lv' := [(5, .int (-1 : Int32)), (0, .ref b0), (1, .long x1), (3, .int x3), (4, .int x4)]) (by decide) rfl ?_
  refine kj_J.sub [1, 2, 3, 4, 0] rfl ?_
  refine kj_bn h (fun r1 h1 h => ?_)
  refine jlx_faceAt_3 F hb h1 ?_
  refine ⟨fun a2 e => ?_, fun a4 e => ?_, fun a6 e => ?_, fun b7 e => ?_⟩
  · subst e
    refine kj_seL h (fun h => ?_)
    refine kj_iconst F dX0_faceAt_85 (v := 1) (by decide) ?_
    exact kj_iret F dX0_faceAt_86 (kj_pr h)
  · subst e
    refine kj_seR h (fun h => ?_)
    refine kj_seL h (fun h => ?_)
    refine kj_iconst F dX0_faceAt_123 (v := 2) (by decide) ?_
    exact kj_iret F dX0_faceAt_124 (kj_pr h)
  · subst e
    refine kj_seR h (fun h => ?_)
    refine kj_seR h (fun h => ?_)
    refine kj_seL h (fun h => ?_)
    refine kj_iconst F dX0_faceAt_161 (v := 3) (by decide) ?_
    exact kj_iret F dX0_faceAt_162 (kj_pr h)
  · subst e
    refine kj_seR h (fun h => ?_)
    refine kj_seR h (fun h => ?_)
    refine kj_seR h (fun h => ?_)
    refine kj_iconst F dX0_faceAt_175 (v := 0) (by decide) ?_
    exact kj_iret F dX0_faceAt_176 (kj_pr h)
theorem cx_faceAt {l : Launch} {D : va_G} {tys : List (ClassId × FieldType)} {S : Type} {w : S → va_W} {z : S} {ba bb bc : Int32} {b0 q0 : Nat} (hb : (w z)[q0]? = some (b0, .inr (0, [.int ba, .int bb, .int bc]))) {x1 : Int64} {x3 : Int32} {x4 : Int32} {o : Int32} (h : fx_faceAt ba bb bc x1 x3 x4 = some o) : kj_Mi l yX0_faceAt wsX0_faceAt rm_X0_faceAt D tys w z [.ref b0, .long x1, .int x3, .int x4] (o, z) :=
  fun sz => kj_start (by decide) rfl (Nat.le_of_ble_eq_true rfl) rfl fun p e s m args below meth c hsz F => jx_faceAt F hb h
