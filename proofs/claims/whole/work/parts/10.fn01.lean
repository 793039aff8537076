def f_X5_append_35_L19 (a1 : Int64) (k19 : Int32 → Mem → Option (Int32 × Mem)) (a3 : Int32) (μ : Mem) : Option (Int32 × Mem) :=
    if a3 < 0 then
      some ((μ.1 35 1), μ)
    else
      if inb (μ.1 35 1) 320 = false then none else
      k19 (a3 + (-8)) (pI (pI μ 36 ((μ.1 35 1).toNatClampNeg) ((((a1 >>> (a3.toInt64 &&& 63)).toInt32).toInt8.toInt32).toInt8.toInt32)) 35 1 ((μ.1 35 1) + (1 : Int32)))
def f_X5_append_35 (a1 : Int64) (μ : Mem) : Option (Int32 × Mem) :=
  if ((μ.1 35 1) + (8 : Int32)) ≤ (320 : Int32) then
    it2 (f_X5_append_35_L19 a1) FU (56 : Int32) μ
  else
    some ((-3 : Int32), μ)
set_option maxRecDepth 100000 in
set_option maxHeartbeats 4000000 in
theorem r_X5_append_35_L19 {p : Program} {l : Launch} {e : Env} {s : State} {m : MethodId} {args : Array Value} {below : List Frame} {meth : Method} {c : Code} {D : va_G} {cy : Nat → ClassId} {ad : Nat → Nat} (C : CX p s m args meth c cX5_append 4 RX5 (some .int) D cy ad (AD ad)) (a1 : Int64) {ρ : (Int32 × Mem)} : ∀ (n : Nat) (a3 : Int32) (μ : Mem), it2 (f_X5_append_35_L19 a1) n a3 μ = some ρ → WA p l e (rmD 0) s m args below meth c 4 D cy ad (AD ad) 0 0 (ZZ below args s D cy ad (AD ad) 0 0 (some (.int ρ.1)) ρ.2) μ [(0, .ref 35), (1, .long a1), (3, .int a3)] 19 [] := by
  intro n
  induction n with
  | zero =>
    intro a3 μ h
    exact absurd h (fun h => by cases h)
  | succ n ih =>
    intro a3 μ h
    replace h : f_X5_append_35_L19 a1 (it2 (f_X5_append_35_L19 a1) n) a3 μ = some ρ := h
    unfold f_X5_append_35_L19 at h
    refine wa_iload_n C dX5_append_19 rfl ?_
    refine wa_if_lt (tgt := 53) C dX5_append_20 (by decide) (fun c2 => ?_) (fun c2 => ?_)
    · replace h := (if_pos c2).symm.trans h
      refine wa_aload_n C dX5_append_53 rfl ?_
      refine wa_geti (x := (μ.1 35 1)) C fl_RX5_15 rfl rfl (by decide) rfl dX5_append_54 ?_
      obtain rfl := Option.some.inj h
      exact wa_iret C dX5_append_57
    · replace h := (if_neg c2).symm.trans h
      refine wa_aload_n C dX5_append_23 rfl ?_
      refine wa_getr C fl_RX5_11 rfl rfl (by decide) dX5_append_24 ?_
      refine wa_aload_n C dX5_append_27 rfl ?_
      refine wa_geti (x := (μ.1 35 1)) C fl_RX5_15 rfl rfl (by decide) rfl dX5_append_28 ?_
      refine wa_lload_n C dX5_append_31 rfl ?_
      refine wa_iload_n C dX5_append_32 rfl ?_
      refine wa_lshr (v := (a1 >>> (a3.toInt64 &&& 63))) C dX5_append_33 rfl ?_
      refine wa_l2i (v := ((a1 >>> (a3.toInt64 &&& 63)).toInt32)) C dX5_append_34 rfl ?_
      refine wa_i2b (v := (((a1 >>> (a3.toInt64 &&& 63)).toInt32).toInt8.toInt32)) C dX5_append_35 rfl ?_
      obtain ⟨g3, h⟩ := gd h
      refine wa_bast (j := ((μ.1 35 1).toNatClampNeg)) C rfl (by decide) g3 rfl rfl dX5_append_36 ?_
      refine wa_aload_n C dX5_append_37 rfl ?_
      refine wa_dup C dX5_append_38 rfl ?_
      refine wa_geti (x := (μ.1 35 1)) C fl_RX5_15 rfl rfl (by decide) rfl dX5_append_39 ?_
      refine wa_iconst (v := 1) C dX5_append_42 (by decide) ?_
      refine wa_iadd C dX5_append_43 ?_
      refine wa_puti C fl_RX5_15 fp_5_1 rfl rfl (by decide) rfl rfl dX5_append_44 ?_
      refine wa_iinc (v := (a3 + (-8))) C dX5_append_47 rfl rfl (by decide) ?_
      refine wa_goto (tgt := 19) C dX5_append_50 (by decide) ?_
      exact WA.sub (lsub_c rfl (lsub_c rfl (lsub_c rfl lsub_n))) (ih _ _ h)
set_option maxRecDepth 100000 in
set_option maxHeartbeats 4000000 in
theorem r_X5_append_35 {a1 : Int64} {μ : Mem} {ρ : (Int32 × Mem)} (h : f_X5_append_35 a1 μ = some ρ) : HT 0 yX5_append cX5_append 4 (some .int) [.ref 35, .long a1] μ (some (.int ρ.1)) ρ.2 := by
  refine HT.of (by decide +kernel) (Nat.le_of_ble_eq_true rfl) (fun C => ?_)
  unfold f_X5_append_35 at h
  refine wa_aload_n C dX5_append_0 rfl ?_
  refine wa_geti (x := (μ.1 35 1)) C fl_RX5_15 rfl rfl (by decide) rfl dX5_append_1 ?_
  refine wa_bipush (v := 8) C dX5_append_4 (by decide) ?_
  refine wa_iadd C dX5_append_6 ?_
  refine wa_sipush (v := 320) C dX5_append_7 (by decide) ?_
  refine wa_icmp_le (tgt := 16) C dX5_append_10 (by decide) (fun c1 => ?_) (fun c1 => ?_)
  · replace h := (if_pos c1).symm.trans h
    refine wa_bipush (v := 56) C dX5_append_16 (by decide) ?_
    refine wa_istore_n C dX5_append_18 (by decide) ?_
    exact WA.sub (lsub_c rfl (lsub_c rfl (lsub_c rfl lsub_n))) (r_X5_append_35_L19 C _ _ _ _ h)
  · replace h := (if_neg c1).symm.trans h
    refine wa_bipush (v := -3) C dX5_append_13 (by decide) ?_
    obtain rfl := Option.some.inj h
    exact wa_iret C dX5_append_15
def f_X9_feed_0 (a1 : Int64) (μ : Mem) : Option (Int32 × Mem) :=
  (f_X5_append_35 a1 μ).bind fun q1 =>
  some (q1.1, q1.2)
set_option maxRecDepth 100000 in
set_option maxHeartbeats 4000000 in
theorem r_X9_feed_0 {a1 : Int64} {μ : Mem} {ρ : (Int32 × Mem)} (h : f_X9_feed_0 a1 μ = some ρ) : HT 1 yX9_feed cX9_feed 3 (some .int) [.ref 0, .long a1] μ (some (.int ρ.1)) ρ.2 := by
  refine HT.of (by decide +kernel) (Nat.le_of_ble_eq_true rfl) (fun C => ?_)
  unfold f_X9_feed_0 at h
  refine wa_aload_n C dX9_feed_0 rfl ?_
  refine wa_getr C fl_RX9_37 rfl rfl (by decide) dX9_feed_1 ?_
  refine wa_lload_n C dX9_feed_4 rfl ?_
  obtain ⟨q1, hq1, h⟩ := bd h
  refine wa_callV C (r_X5_append_35 hq1) mk_X5_append mv_X5_append qw_179 rfl (by decide) rfl rfl ⟨Nat.le_of_ble_eq_true rfl, Nat.le_of_ble_eq_true rfl⟩ ⟨Nat.zero_le _, Nat.zero_le _⟩ (Nat.le_of_ble_eq_true rfl) dX9_feed_5 rfl ?_
  obtain rfl := Option.some.inj h
  exact wa_iret C dX9_feed_8
def f_X10_feed_62_L19 (a1 : Int64) (k19 : Int32 → Mem → Option (Int32 × Mem)) (a3 : Int32) (μ : Mem) : Option (Int32 × Mem) :=
    if a3 < 0 then
      some ((μ.1 62 19), μ)
    else
      if inb (μ.1 62 19) 320 = false then none else
      k19 (a3 + (-8)) (pI (pI μ 70 ((μ.1 62 19).toNatClampNeg) (((a1 >>> (a3.toInt64 &&& 63)) &&& (255 : Int64)).toInt32)) 62 19 ((μ.1 62 19) + (1 : Int32)))
def f_X10_feed_62 (a1 : Int64) (μ : Mem) : Option (Int32 × Mem) :=
  if ((μ.1 62 19) + (8 : Int32)) ≤ (320 : Int32) then
    it2 (f_X10_feed_62_L19 a1) FU (56 : Int32) μ
  else
    some ((-3 : Int32), μ)
set_option maxRecDepth 100000 in
set_option maxHeartbeats 4000000 in
theorem r_X10_feed_62_L19 {p : Program} {l : Launch} {e : Env} {s : State} {m : MethodId} {args : Array Value} {below : List Frame} {meth : Method} {c : Code} {D : va_G} {cy : Nat → ClassId} {ad : Nat → Nat} (C : CX p s m args meth c cX10_feed 4 RX10 (some .int) D cy ad (AD ad)) (a1 : Int64) {ρ : (Int32 × Mem)} : ∀ (n : Nat) (a3 : Int32) (μ : Mem), it2 (f_X10_feed_62_L19 a1) n a3 μ = some ρ → WA p l e (rmD 0) s m args below meth c 4 D cy ad (AD ad) 0 0 (ZZ below args s D cy ad (AD ad) 0 0 (some (.int ρ.1)) ρ.2) μ [(0, .ref 62), (1, .long a1), (3, .int a3)] 19 [] := by
  intro n
  induction n with
  | zero =>
    intro a3 μ h
    exact absurd h (fun h => by cases h)
  | succ n ih =>
    intro a3 μ h
    replace h : f_X10_feed_62_L19 a1 (it2 (f_X10_feed_62_L19 a1) n) a3 μ = some ρ := h
    unfold f_X10_feed_62_L19 at h
    refine wa_iload_n C dX10_feed_19 rfl ?_
    refine wa_if_lt (tgt := 56) C dX10_feed_20 (by decide) (fun c2 => ?_) (fun c2 => ?_)
    · replace h := (if_pos c2).symm.trans h
      refine wa_aload_n C dX10_feed_56 rfl ?_
      refine wa_geti (x := (μ.1 62 19)) C fl_RX10_107 rfl rfl (by decide) rfl dX10_feed_57 ?_
      obtain rfl := Option.some.inj h
      exact wa_iret C dX10_feed_60
    · replace h := (if_neg c2).symm.trans h
      refine wa_aload_n C dX10_feed_23 rfl ?_
      refine wa_getr C fl_RX10_32 rfl rfl (by decide) dX10_feed_24 ?_
      refine wa_aload_n C dX10_feed_27 rfl ?_
      refine wa_geti (x := (μ.1 62 19)) C fl_RX10_107 rfl rfl (by decide) rfl dX10_feed_28 ?_
      refine wa_lload_n C dX10_feed_31 rfl ?_
      refine wa_iload_n C dX10_feed_32 rfl ?_
      refine wa_lshr (v := (a1 >>> (a3.toInt64 &&& 63))) C dX10_feed_33 rfl ?_
      refine wa_ldc2 (v := 255) C qw_188 dX10_feed_34 ?_
      refine wa_land C dX10_feed_37 ?_
      refine wa_l2i (v := (((a1 >>> (a3.toInt64 &&& 63)) &&& (255 : Int64)).toInt32)) C dX10_feed_38 rfl ?_
      obtain ⟨g3, h⟩ := gd h
      refine wa_iast (j := ((μ.1 62 19).toNatClampNeg)) C rfl (by decide) g3 rfl dX10_feed_39 ?_
      refine wa_aload_n C dX10_feed_40 rfl ?_
      refine wa_dup C dX10_feed_41 rfl ?_
      refine wa_geti (x := (μ.1 62 19)) C fl_RX10_107 rfl rfl (by decide) rfl dX10_feed_42 ?_
      refine wa_iconst (v := 1) C dX10_feed_45 (by decide) ?_
      refine wa_iadd C dX10_feed_46 ?_
      refine wa_puti C fl_RX10_107 fp_10_19 rfl rfl (by decide) rfl rfl dX10_feed_47 ?_
      refine wa_iinc (v := (a3 + (-8))) C dX10_feed_50 rfl rfl (by decide) ?_
      refine wa_goto (tgt := 19) C dX10_feed_53 (by decide) ?_
      exact WA.sub (lsub_c rfl (lsub_c rfl (lsub_c rfl lsub_n))) (ih _ _ h)
set_option maxRecDepth 100000 in
set_option maxHeartbeats 4000000 in
theorem r_X10_feed_62 {a1 : Int64} {μ : Mem} {ρ : (Int32 × Mem)} (h : f_X10_feed_62 a1 μ = some ρ) : HT 0 yX10_feed cX10_feed 4 (some .int) [.ref 62, .long a1] μ (some (.int ρ.1)) ρ.2 := by
  refine HT.of (by decide +kernel) (Nat.le_of_ble_eq_true rfl) (fun C => ?_)
  unfold f_X10_feed_62 at h
  refine wa_aload_n C dX10_feed_0 rfl ?_
  refine wa_geti (x := (μ.1 62 19)) C fl_RX10_107 rfl rfl (by decide) rfl dX10_feed_1 ?_
  refine wa_bipush (v := 8) C dX10_feed_4 (by decide) ?_
  refine wa_iadd C dX10_feed_6 ?_
  refine wa_sipush (v := 320) C dX10_feed_7 (by decide) ?_
  refine wa_icmp_le (tgt := 16) C dX10_feed_10 (by decide) (fun c1 => ?_) (fun c1 => ?_)
  · replace h := (if_pos c1).symm.trans h
    refine wa_bipush (v := 56) C dX10_feed_16 (by decide) ?_
    refine wa_istore_n C dX10_feed_18 (by decide) ?_
    exact WA.sub (lsub_c rfl (lsub_c rfl (lsub_c rfl lsub_n))) (r_X10_feed_62_L19 C _ _ _ _ h)
  · replace h := (if_neg c1).symm.trans h
    refine wa_bipush (v := -3) C dX10_feed_13 (by decide) ?_
    obtain rfl := Option.some.inj h
    exact wa_iret C dX10_feed_15
def f_X9_end_0 (a1 : Int32) (μ : Mem) : Option (Int32 × Mem) :=
  if a1 < 0 then
    some ((-1 : Int32), μ)
  else
    if a1 ≤ (μ.1 35 1) then
      some ((μ.1 35 1), (pI μ 35 1 a1))
    else
      some ((-1 : Int32), μ)
set_option maxRecDepth 100000 in
set_option maxHeartbeats 4000000 in
theorem r_X9_end_0 {a1 : Int32} {μ : Mem} {ρ : (Int32 × Mem)} (h : f_X9_end_0 a1 μ = some ρ) : HT 0 yX9_end cX9_end 3 (some .int) [.ref 0, .int a1] μ (some (.int ρ.1)) ρ.2 := by
  refine HT.of (by decide +kernel) (Nat.le_of_ble_eq_true rfl) (fun C => ?_)
  unfold f_X9_end_0 at h
  refine wa_iload_n C dX9_end_0 rfl ?_
  refine wa_if_lt (tgt := 15) C dX9_end_1 (by decide) (fun c1 => ?_) (fun c1 => ?_)
  · replace h := (if_pos c1).symm.trans h
    refine wa_iconst (v := -1) C dX9_end_15 (by decide) ?_
    obtain rfl := Option.some.inj h
    exact wa_iret C dX9_end_16
  · replace h := (if_neg c1).symm.trans h
    refine wa_iload_n C dX9_end_4 rfl ?_
    refine wa_aload_n C dX9_end_5 rfl ?_
    refine wa_getr C fl_RX9_37 rfl rfl (by decide) dX9_end_6 ?_
    refine wa_geti (x := (μ.1 35 1)) C fl_RX9_84 rfl rfl (by decide) rfl dX9_end_9 ?_
    refine wa_icmp_le (tgt := 17) C dX9_end_12 (by decide) (fun c2 => ?_) (fun c2 => ?_)
    · replace h := (if_pos c2).symm.trans h
      refine wa_aload_n C dX9_end_17 rfl ?_
      refine wa_getr C fl_RX9_37 rfl rfl (by decide) dX9_end_18 ?_
      refine wa_geti (x := (μ.1 35 1)) C fl_RX9_84 rfl rfl (by decide) rfl dX9_end_21 ?_
      refine wa_istore_n C dX9_end_24 (by decide) ?_
      refine wa_aload_n C dX9_end_25 rfl ?_
      refine wa_getr C fl_RX9_37 rfl rfl (by decide) dX9_end_26 ?_
      refine wa_iload_n C dX9_end_29 rfl ?_
      refine wa_puti C fl_RX9_84 fp_5_1 rfl rfl (by decide) rfl rfl dX9_end_30 ?_
      refine wa_iload_n C dX9_end_33 rfl ?_
      obtain rfl := Option.some.inj h
      exact wa_iret C dX9_end_34
    · replace h := (if_neg c2).symm.trans h
      refine wa_iconst (v := -1) C dX9_end_15 (by decide) ?_
      obtain rfl := Option.some.inj h
      exact wa_iret C dX9_end_16
def f_X10_in (a0 : Int64) (a2 : Int64) (a4 : Int64) (μ : Mem) : Option (Int32 × Mem) :=
  if (lg_cmp a0 a2) < 0 then
    some ((0 : Int32), μ)
  else
    if 0 < (lg_cmp a0 a4) then
      some ((0 : Int32), μ)
    else
      some ((1 : Int32), μ)
set_option maxRecDepth 100000 in
set_option maxHeartbeats 4000000 in
theorem r_X10_in {a0 : Int64} {a2 : Int64} {a4 : Int64} {μ : Mem} {ρ : (Int32 × Mem)} (h : f_X10_in a0 a2 a4 μ = some ρ) : HT 0 yX10_in cX10_in 6 (some .boolean) [.long a0, .long a2, .long a4] μ (some (.int ρ.1)) ρ.2 := by
  refine HT.of (by decide +kernel) (Nat.le_of_ble_eq_true rfl) (fun C => ?_)
  unfold f_X10_in at h
  refine wa_lload_n C dX10_in_0 rfl ?_
  refine wa_lload_n C dX10_in_1 rfl ?_
  refine wa_lcmp C dX10_in_2 ?_
  refine wa_if_lt (tgt := 17) C dX10_in_3 (by decide) (fun c1 => ?_) (fun c1 => ?_)
  · replace h := (if_pos c1).symm.trans h
    refine wa_iconst (v := 0) C dX10_in_17 (by decide) ?_
    obtain rfl := Option.some.inj h
    exact wa_zret C rfl dX10_in_18
  · replace h := (if_neg c1).symm.trans h
    refine wa_lload_n C dX10_in_6 rfl ?_
    refine wa_lload C dX10_in_7 rfl ?_
    refine wa_lcmp C dX10_in_9 ?_
    refine wa_if_gt (tgt := 17) C dX10_in_10 (by decide) (fun c2 => ?_) (fun c2 => ?_)
    · replace h := (if_pos c2).symm.trans h
      refine wa_iconst (v := 0) C dX10_in_17 (by decide) ?_
      obtain rfl := Option.some.inj h
      exact wa_zret C rfl dX10_in_18
    · replace h := (if_neg c2).symm.trans h
      refine wa_iconst (v := 1) C dX10_in_13 (by decide) ?_
      refine wa_goto (tgt := 18) C dX10_in_14 (by decide) ?_
      obtain rfl := Option.some.inj h
      exact wa_zret C rfl dX10_in_18
def f_X10_end_62 (a1 : Int32) (μ : Mem) : Option (Int32 × Mem) :=
  (f_X10_in (a1.toInt64) (0 : Int64) ((μ.1 62 19).toInt64) μ).bind fun q1 =>
  if q1.1 = 0 then
    some ((-1 : Int32), q1.2)
  else
    some ((q1.2.1 62 19), (pI q1.2 62 19 a1))
set_option maxRecDepth 100000 in
set_option maxHeartbeats 4000000 in
theorem r_X10_end_62 {a1 : Int32} {μ : Mem} {ρ : (Int32 × Mem)} (h : f_X10_end_62 a1 μ = some ρ) : HT 1 yX10_end cX10_end 3 (some .int) [.ref 62, .int a1] μ (some (.int ρ.1)) ρ.2 := by
  refine HT.of (by decide +kernel) (Nat.le_of_ble_eq_true rfl) (fun C => ?_)
  unfold f_X10_end_62 at h
  refine wa_iload_n C dX10_end_0 rfl ?_
  refine wa_i2l (v := (a1.toInt64)) C dX10_end_1 rfl ?_
  refine wa_lconst (v := 0) C dX10_end_2 (by decide) ?_
  refine wa_aload_n C dX10_end_3 rfl ?_
  refine wa_geti (x := (μ.1 62 19)) C fl_RX10_107 rfl rfl (by decide) rfl dX10_end_4 ?_
  refine wa_i2l (v := ((μ.1 62 19).toInt64)) C dX10_end_7 rfl ?_
  obtain ⟨q1, hq1, h⟩ := bd h
  refine wa_callS C (r_X10_in hq1) mk_X10_in ms_X10_in qw_198 rfl ⟨Nat.le_of_ble_eq_true rfl, Nat.le_of_ble_eq_true rfl⟩ ⟨Nat.zero_le _, Nat.zero_le _⟩ (Nat.le_of_ble_eq_true rfl) dX10_end_8 rfl ?_
  refine wa_if_ne (tgt := 16) C dX10_end_11 (by decide) (fun c2 => ?_) (fun c2 => ?_)
  · replace h := (if_neg c2).symm.trans h
    refine wa_aload_n C dX10_end_16 rfl ?_
    refine wa_geti (x := (q1.2.1 62 19)) C fl_RX10_107 rfl rfl (by decide) rfl dX10_end_17 ?_
    refine wa_istore_n C dX10_end_20 (by decide) ?_
    refine wa_aload_n C dX10_end_21 rfl ?_
    refine wa_iload_n C dX10_end_22 rfl ?_
    refine wa_puti C fl_RX10_107 fp_10_19 rfl rfl (by decide) rfl rfl dX10_end_23 ?_
    refine wa_iload_n C dX10_end_26 rfl ?_
    obtain rfl := Option.some.inj h
    exact wa_iret C dX10_end_27
  · replace h := (if_pos c2).symm.trans h
    refine wa_iconst (v := -1) C dX10_end_14 (by decide) ?_
    obtain rfl := Option.some.inj h
    exact wa_iret C dX10_end_15
def f_J7_fill_53178_38_L5 (a1 : Int32) (a3 : Int32) (k5 : Int32 → Mem → Option Mem) (a2 : Int32) (μ : Mem) : Option Mem :=
    if a3 ≤ a2 then
      some μ
    else
      if inb a2 3 = false then none else
      k5 (a2 + 1) (pI μ 38 (a2.toNatClampNeg) a1)
def f_J7_fill_53178_38 (a1 : Int32) (μ : Mem) : Option Mem :=
  it2 (f_J7_fill_53178_38_L5 a1 (3 : Int32)) FU (0 : Int32) μ
set_option maxRecDepth 100000 in
set_option maxHeartbeats 4000000 in
theorem r_J7_fill_53178_38_L5 {p : Program} {l : Launch} {e : Env} {s : State} {m : MethodId} {args : Array Value} {below : List Frame} {meth : Method} {c : Code} {D : va_G} {cy : Nat → ClassId} {ad : Nat → Nat} (C : CX p s m args meth c cJ7_fill_53178 4 RJ7 none D cy ad (AD ad)) (a1 : Int32) (a3 : Int32) {ρ : Mem} : ∀ (n : Nat) (a2 : Int32) (μ : Mem), it2 (f_J7_fill_53178_38_L5 a1 a3) n a2 μ = some ρ → WA p l e (rmD 0) s m args below meth c 4 D cy ad (AD ad) 0 0 (ZZ below args s D cy ad (AD ad) 0 0 none ρ) μ [(0, .ref 38), (1, .int a1), (2, .int a2), (3, .int a3)] 5 [] := by
  intro n
  induction n with
  | zero =>
    intro a2 μ h
    exact absurd h (fun h => by cases h)
  | succ n ih =>
    intro a2 μ h
    replace h : f_J7_fill_53178_38_L5 a1 a3 (it2 (f_J7_fill_53178_38_L5 a1 a3) n) a2 μ = some ρ := h
    unfold f_J7_fill_53178_38_L5 at h
    refine wa_iload_n C dJ7_fill_53178_5 rfl ?_
    refine wa_iload_n C dJ7_fill_53178_6 rfl ?_
    refine wa_icmp_ge (tgt := 20) C dJ7_fill_53178_7 (by decide) (fun c1 => ?_) (fun c1 => ?_)
    · replace h := (if_pos c1).symm.trans h
      obtain rfl := Option.some.inj h
      exact wa_vret C dJ7_fill_53178_20
    · replace h := (if_neg c1).symm.trans h
      refine wa_aload_n C dJ7_fill_53178_10 rfl ?_
      refine wa_iload_n C dJ7_fill_53178_11 rfl ?_
      refine wa_iload_n C dJ7_fill_53178_12 rfl ?_
      obtain ⟨g2, h⟩ := gd h
      refine wa_iast (j := (a2.toNatClampNeg)) C rfl (by decide) g2 rfl dJ7_fill_53178_13 ?_
      refine wa_iinc (v := (a2 + 1)) C dJ7_fill_53178_14 rfl rfl (by decide) ?_
      refine wa_goto (tgt := 5) C dJ7_fill_53178_17 (by decide) ?_
      exact WA.sub (lsub_c rfl (lsub_c rfl (lsub_c rfl (lsub_c rfl lsub_n)))) (ih _ _ h)
set_option maxRecDepth 100000 in
set_option maxHeartbeats 4000000 in
theorem r_J7_fill_53178_38 {a1 : Int32} {μ : Mem} {ρ : Mem} (h : f_J7_fill_53178_38 a1 μ = some ρ) : HT 0 yJ7_fill_53178 cJ7_fill_53178 4 none [.ref 38, .int a1] μ none ρ := by
  refine HT.of (by decide +kernel) (Nat.le_of_ble_eq_true rfl) (fun C => ?_)
  unfold f_J7_fill_53178_38 at h
  refine wa_iconst (v := 0) C dJ7_fill_53178_0 (by decide) ?_
  refine wa_istore_n C dJ7_fill_53178_1 (by decide) ?_
  refine wa_aload_n C dJ7_fill_53178_2 rfl ?_
  refine wa_alen (v := 3) C rfl (by decide) (by decide) rfl dJ7_fill_53178_3 ?_
  refine wa_istore_n C dJ7_fill_53178_4 (by decide) ?_
  exact WA.sub (lsub_c rfl (lsub_c rfl (lsub_c rfl (lsub_c rfl lsub_n)))) (r_J7_fill_53178_38_L5 C _ _ _ _ _ h)
def f_J7_fill_53178_39_L5 (a1 : Int32) (a3 : Int32) (k5 : Int32 → Mem → Option Mem) (a2 : Int32) (μ : Mem) : Option Mem :=
    if a3 ≤ a2 then
      some μ
    else
      if inb a2 6 = false then none else
      k5 (a2 + 1) (pI μ 39 (a2.toNatClampNeg) a1)
def f_J7_fill_53178_39 (a1 : Int32) (μ : Mem) : Option Mem :=
  it2 (f_J7_fill_53178_39_L5 a1 (6 : Int32)) FU (0 : Int32) μ
set_option maxRecDepth 100000 in
set_option maxHeartbeats 4000000 in
theorem r_J7_fill_53178_39_L5 {p : Program} {l : Launch} {e : Env} {s : State} {m : MethodId} {args : Array Value} {below : List Frame} {meth : Method} {c : Code} {D : va_G} {cy : Nat → ClassId} {ad : Nat → Nat} (C : CX p s m args meth c cJ7_fill_53178 4 RJ7 none D cy ad (AD ad)) (a1 : Int32) (a3 : Int32) {ρ : Mem} : ∀ (n : Nat) (a2 : Int32) (μ : Mem), it2 (f_J7_fill_53178_39_L5 a1 a3) n a2 μ = some ρ → WA p l e (rmD 0) s m args below meth c 4 D cy ad (AD ad) 0 0 (ZZ below args s D cy ad (AD ad) 0 0 none ρ) μ [(0, .ref 39), (1, .int a1), (2, .int a2), (3, .int a3)] 5 [] := by
  intro n
  induction n with
  | zero =>
    intro a2 μ h
    exact absurd h (fun h => by cases h)
  | succ n ih =>
    intro a2 μ h
    replace h : f_J7_fill_53178_39_L5 a1 a3 (it2 (f_J7_fill_53178_39_L5 a1 a3) n) a2 μ = some ρ := h
    unfold f_J7_fill_53178_39_L5 at h
    refine wa_iload_n C dJ7_fill_53178_5 rfl ?_
    refine wa_iload_n C dJ7_fill_53178_6 rfl ?_
    refine wa_icmp_ge (tgt := 20) C dJ7_fill_53178_7 (by decide) (fun c1 => ?_) (fun c1 => ?_)
    · replace h := (if_pos c1).symm.trans h
      obtain rfl := Option.some.inj h
      exact wa_vret C dJ7_fill_53178_20
    · replace h := (if_neg c1).symm.trans h
      refine wa_aload_n C dJ7_fill_53178_10 rfl ?_
      refine wa_iload_n C dJ7_fill_53178_11 rfl ?_
      refine wa_iload_n C dJ7_fill_53178_12 rfl ?_
      obtain ⟨g2, h⟩ := gd h
      refine wa_iast (j := (a2.toNatClampNeg)) C rfl (by decide) g2 rfl dJ7_fill_53178_13 ?_
      refine wa_iinc (v := (a2 + 1)) C dJ7_fill_53178_14 rfl rfl (by decide) ?_
      refine wa_goto (tgt := 5) C dJ7_fill_53178_17 (by decide) ?_
      exact WA.sub (lsub_c rfl (lsub_c rfl (lsub_c rfl (lsub_c rfl lsub_n)))) (ih _ _ h)
set_option maxRecDepth 100000 in
set_option maxHeartbeats 4000000 in
theorem r_J7_fill_53178_39 {a1 : Int32} {μ : Mem} {ρ : Mem} (h : f_J7_fill_53178_39 a1 μ = some ρ) : HT 0 yJ7_fill_53178 cJ7_fill_53178 4 none [.ref 39, .int a1] μ none ρ := by
  refine HT.of (by decide +kernel) (Nat.le_of_ble_eq_true rfl) (fun C => ?_)
  unfold f_J7_fill_53178_39 at h
  refine wa_iconst (v := 0) C dJ7_fill_53178_0 (by decide) ?_
  refine wa_istore_n C dJ7_fill_53178_1 (by decide) ?_
  refine wa_aload_n C dJ7_fill_53178_2 rfl ?_
  refine wa_alen (v := 6) C rfl (by decide) (by decide) rfl dJ7_fill_53178_3 ?_
  refine wa_istore_n C dJ7_fill_53178_4 (by decide) ?_
  exact WA.sub (lsub_c rfl (lsub_c rfl (lsub_c rfl (lsub_c rfl lsub_n)))) (r_J7_fill_53178_39_L5 C _ _ _ _ _ h)
def f_X1_empty_37 (μ : Mem) : Option Mem :=
  (f_J7_fill_53178_38 (0 : Int32) (pI (pI μ 37 0 (0 : Int32)) 37 1 (4 : Int32))).bind fun q1 =>
  (f_J7_fill_53178_39 (0 : Int32) q1).bind fun q2 =>
  some q2
set_option maxRecDepth 100000 in
set_option maxHeartbeats 4000000 in
theorem r_X1_empty_37 {μ : Mem} {ρ : Mem} (h : f_X1_empty_37 μ = some ρ) : HT 1 yX1_empty cX1_empty 1 none [.ref 37] μ none ρ := by
  refine HT.of (by decide +kernel) (Nat.le_of_ble_eq_true rfl) (fun C => ?_)
  unfold f_X1_empty_37 at h
  refine wa_aload_n C dX1_empty_0 rfl ?_
  refine wa_iconst (v := 0) C dX1_empty_1 (by decide) ?_
  refine wa_puti C fl_RX1_9 fp_1_0 rfl rfl (by decide) rfl rfl dX1_empty_2 ?_
  refine wa_aload_n C dX1_empty_5 rfl ?_
  refine wa_iconst (v := 4) C dX1_empty_6 (by decide) ?_
  refine wa_puti C fl_RX1_15 fp_1_1 rfl rfl (by decide) rfl rfl dX1_empty_7 ?_
  refine wa_aload_n C dX1_empty_10 rfl ?_
  refine wa_getr C fl_RX1_18 rfl rfl (by decide) dX1_empty_11 ?_
  refine wa_iconst (v := 0) C dX1_empty_14 (by decide) ?_
  obtain ⟨q1, hq1, h⟩ := bd h
  refine wa_callS C (r_J7_fill_53178_38 hq1) mk_J7_fill_53178 ms_J7_fill_53178 qw_222 rfl ⟨Nat.le_of_ble_eq_true rfl, Nat.le_of_ble_eq_true rfl⟩ ⟨Nat.zero_le _, Nat.zero_le _⟩ (Nat.le_of_ble_eq_true rfl) dX1_empty_15 rfl ?_
  refine wa_aload_n C dX1_empty_18 rfl ?_
  refine wa_getr C fl_RX1_22 rfl rfl (by decide) dX1_empty_19 ?_
  refine wa_iconst (v := 0) C dX1_empty_22 (by decide) ?_
  obtain ⟨q2, hq2, h⟩ := bd h
  refine wa_callS C (r_J7_fill_53178_39 hq2) mk_J7_fill_53178 ms_J7_fill_53178 qw_222 rfl ⟨Nat.le_of_ble_eq_true rfl, Nat.le_of_ble_eq_true rfl⟩ ⟨Nat.zero_le _, Nat.zero_le _⟩ (Nat.le_of_ble_eq_true rfl) dX1_empty_23 rfl ?_
  obtain rfl := Option.some.inj h
  exact wa_vret C dX1_empty_26
def f_J7_fill_53178_41_L5 (a1 : Int32) (a3 : Int32) (k5 : Int32 → Mem → Option Mem) (a2 : Int32) (μ : Mem) : Option Mem :=
    if a3 ≤ a2 then
      some μ
    else
      if inb a2 3 = false then none else
      k5 (a2 + 1) (pI μ 41 (a2.toNatClampNeg) a1)
def f_J7_fill_53178_41 (a1 : Int32) (μ : Mem) : Option Mem :=
  it2 (f_J7_fill_53178_41_L5 a1 (3 : Int32)) FU (0 : Int32) μ
set_option maxRecDepth 100000 in
set_option maxHeartbeats 4000000 in
theorem r_J7_fill_53178_41_L5 {p : Program} {l : Launch} {e : Env} {s : State} {m : MethodId} {args : Array Value} {below : List Frame} {meth : Method} {c : Code} {D : va_G} {cy : Nat → ClassId} {ad : Nat → Nat} (C : CX p s m args meth c cJ7_fill_53178 4 RJ7 none D cy ad (AD ad)) (a1 : Int32) (a3 : Int32) {ρ : Mem} : ∀ (n : Nat) (a2 : Int32) (μ : Mem), it2 (f_J7_fill_53178_41_L5 a1 a3) n a2 μ = some ρ → WA p l e (rmD 0) s m args below meth c 4 D cy ad (AD ad) 0 0 (ZZ below args s D cy ad (AD ad) 0 0 none ρ) μ [(0, .ref 41), (1, .int a1), (2, .int a2), (3, .int a3)] 5 [] := by
  intro n
  induction n with
  | zero =>
    intro a2 μ h
    exact absurd h (fun h => by cases h)
  | succ n ih =>
    intro a2 μ h
    replace h : f_J7_fill_53178_41_L5 a1 a3 (it2 (f_J7_fill_53178_41_L5 a1 a3) n) a2 μ = some ρ := h
    unfold f_J7_fill_53178_41_L5 at h
    refine wa_iload_n C dJ7_fill_53178_5 rfl ?_
    refine wa_iload_n C dJ7_fill_53178_6 rfl ?_
    refine wa_icmp_ge (tgt := 20) C dJ7_fill_53178_7 (by decide) (fun c1 => ?_) (fun c1 => ?_)
    · replace h := (if_pos c1).symm.trans h
      obtain rfl := Option.some.inj h
      exact wa_vret C dJ7_fill_53178_20
    · replace h := (if_neg c1).symm.trans h
      refine wa_aload_n C dJ7_fill_53178_10 rfl ?_
      refine wa_iload_n C dJ7_fill_53178_11 rfl ?_
      refine wa_iload_n C dJ7_fill_53178_12 rfl ?_
      obtain ⟨g2, h⟩ := gd h
      refine wa_iast (j := (a2.toNatClampNeg)) C rfl (by decide) g2 rfl dJ7_fill_53178_13 ?_
      refine wa_iinc (v := (a2 + 1)) C dJ7_fill_53178_14 rfl rfl (by decide) ?_
      refine wa_goto (tgt := 5) C dJ7_fill_53178_17 (by decide) ?_
      exact WA.sub (lsub_c rfl (lsub_c rfl (lsub_c rfl (lsub_c rfl lsub_n)))) (ih _ _ h)
set_option maxRecDepth 100000 in
set_option maxHeartbeats 4000000 in
theorem r_J7_fill_53178_41 {a1 : Int32} {μ : Mem} {ρ : Mem} (h : f_J7_fill_53178_41 a1 μ = some ρ) : HT 0 yJ7_fill_53178 cJ7_fill_53178 4 none [.ref 41, .int a1] μ none ρ := by
  refine HT.of (by decide +kernel) (Nat.le_of_ble_eq_true rfl) (fun C => ?_)
  unfold f_J7_fill_53178_41 at h
  refine wa_iconst (v := 0) C dJ7_fill_53178_0 (by decide) ?_
  refine wa_istore_n C dJ7_fill_53178_1 (by decide) ?_
  refine wa_aload_n C dJ7_fill_53178_2 rfl ?_
  refine wa_alen (v := 3) C rfl (by decide) (by decide) rfl dJ7_fill_53178_3 ?_
  refine wa_istore_n C dJ7_fill_53178_4 (by decide) ?_
  exact WA.sub (lsub_c rfl (lsub_c rfl (lsub_c rfl (lsub_c rfl lsub_n)))) (r_J7_fill_53178_41_L5 C _ _ _ _ _ h)
def f_J7_fill_53178_42_L5 (a1 : Int32) (a3 : Int32) (k5 : Int32 → Mem → Option Mem) (a2 : Int32) (μ : Mem) : Option Mem :=
    if a3 ≤ a2 then
      some μ
    else
      if inb a2 6 = false then none else
      k5 (a2 + 1) (pI μ 42 (a2.toNatClampNeg) a1)
def f_J7_fill_53178_42 (a1 : Int32) (μ : Mem) : Option Mem :=
  it2 (f_J7_fill_53178_42_L5 a1 (6 : Int32)) FU (0 : Int32) μ
set_option maxRecDepth 100000 in
set_option maxHeartbeats 4000000 in
theorem r_J7_fill_53178_42_L5 {p : Program} {l : Launch} {e : Env} {s : State} {m : MethodId} {args : Array Value} {below : List Frame} {meth : Method} {c : Code} {D : va_G} {cy : Nat → ClassId} {ad : Nat → Nat} (C : CX p s m args meth c cJ7_fill_53178 4 RJ7 none D cy ad (AD ad)) (a1 : Int32) (a3 : Int32) {ρ : Mem} : ∀ (n : Nat) (a2 : Int32) (μ : Mem), it2 (f_J7_fill_53178_42_L5 a1 a3) n a2 μ = some ρ → WA p l e (rmD 0) s m args below meth c 4 D cy ad (AD ad) 0 0 (ZZ below args s D cy ad (AD ad) 0 0 none ρ) μ [(0, .ref 42), (1, .int a1), (2, .int a2), (3, .int a3)] 5 [] := by
  intro n
  induction n with
  | zero =>
    intro a2 μ h
    exact absurd h (fun h => by cases h)
  | succ n ih =>
    intro a2 μ h
    replace h : f_J7_fill_53178_42_L5 a1 a3 (it2 (f_J7_fill_53178_42_L5 a1 a3) n) a2 μ = some ρ := h
    unfold f_J7_fill_53178_42_L5 at h
    refine wa_iload_n C dJ7_fill_53178_5 rfl ?_
    refine wa_iload_n C dJ7_fill_53178_6 rfl ?_
    refine wa_icmp_ge (tgt := 20) C dJ7_fill_53178_7 (by decide) (fun c1 => ?_) (fun c1 => ?_)
    · replace h := (if_pos c1).symm.trans h
      obtain rfl := Option.some.inj h
      exact wa_vret C dJ7_fill_53178_20
    · replace h := (if_neg c1).symm.trans h
      refine wa_aload_n C dJ7_fill_53178_10 rfl ?_
      refine wa_iload_n C dJ7_fill_53178_11 rfl ?_
      refine wa_iload_n C dJ7_fill_53178_12 rfl ?_
      obtain ⟨g2, h⟩ := gd h
      refine wa_iast (j := (a2.toNatClampNeg)) C rfl (by decide) g2 rfl dJ7_fill_53178_13 ?_
      refine wa_iinc (v := (a2 + 1)) C dJ7_fill_53178_14 rfl rfl (by decide) ?_
      refine wa_goto (tgt := 5) C dJ7_fill_53178_17 (by decide) ?_
      exact WA.sub (lsub_c rfl (lsub_c rfl (lsub_c rfl (lsub_c rfl lsub_n)))) (ih _ _ h)
set_option maxRecDepth 100000 in
set_option maxHeartbeats 4000000 in
theorem r_J7_fill_53178_42 {a1 : Int32} {μ : Mem} {ρ : Mem} (h : f_J7_fill_53178_42 a1 μ = some ρ) : HT 0 yJ7_fill_53178 cJ7_fill_53178 4 none [.ref 42, .int a1] μ none ρ := by
  refine HT.of (by decide +kernel) (Nat.le_of_ble_eq_true rfl) (fun C => ?_)
  unfold f_J7_fill_53178_42 at h
  refine wa_iconst (v := 0) C dJ7_fill_53178_0 (by decide) ?_
  refine wa_istore_n C dJ7_fill_53178_1 (by decide) ?_
  refine wa_aload_n C dJ7_fill_53178_2 rfl ?_
  refine wa_alen (v := 6) C rfl (by decide) (by decide) rfl dJ7_fill_53178_3 ?_
  refine wa_istore_n C dJ7_fill_53178_4 (by decide) ?_
  exact WA.sub (lsub_c rfl (lsub_c rfl (lsub_c rfl (lsub_c rfl lsub_n)))) (r_J7_fill_53178_42_L5 C _ _ _ _ _ h)
def f_J7_fill_53178_43_L5 (a1 : Int32) (a3 : Int32) (k5 : Int32 → Mem → Option Mem) (a2 : Int32) (μ : Mem) : Option Mem :=
    if a3 ≤ a2 then
      some μ
    else
      if inb a2 4 = false then none else
      k5 (a2 + 1) (pI μ 43 (a2.toNatClampNeg) a1)
def f_J7_fill_53178_43 (a1 : Int32) (μ : Mem) : Option Mem :=
  it2 (f_J7_fill_53178_43_L5 a1 (4 : Int32)) FU (0 : Int32) μ
set_option maxRecDepth 100000 in
set_option maxHeartbeats 4000000 in
theorem r_J7_fill_53178_43_L5 {p : Program} {l : Launch} {e : Env} {s : State} {m : MethodId} {args : Array Value} {below : List Frame} {meth : Method} {c : Code} {D : va_G} {cy : Nat → ClassId} {ad : Nat → Nat} (C : CX p s m args meth c cJ7_fill_53178 4 RJ7 none D cy ad (AD ad)) (a1 : Int32) (a3 : Int32) {ρ : Mem} : ∀ (n : Nat) (a2 : Int32) (μ : Mem), it2 (f_J7_fill_53178_43_L5 a1 a3) n a2 μ = some ρ → WA p l e (rmD 0) s m args below meth c 4 D cy ad (AD ad) 0 0 (ZZ below args s D cy ad (AD ad) 0 0 none ρ) μ [(0, .ref 43), (1, .int a1), (2, .int a2), (3, .int a3)] 5 [] := by
  intro n
  induction n with
  | zero =>
    intro a2 μ h
    exact absurd h (fun h => by cases h)
  | succ n ih =>
    intro a2 μ h
    replace h : f_J7_fill_53178_43_L5 a1 a3 (it2 (f_J7_fill_53178_43_L5 a1 a3) n) a2 μ = some ρ := h
    unfold f_J7_fill_53178_43_L5 at h
    refine wa_iload_n C dJ7_fill_53178_5 rfl ?_
    refine wa_iload_n C dJ7_fill_53178_6 rfl ?_
    refine wa_icmp_ge (tgt := 20) C dJ7_fill_53178_7 (by decide) (fun c1 => ?_) (fun c1 => ?_)
    · replace h := (if_pos c1).symm.trans h
      obtain rfl := Option.some.inj h
      exact wa_vret C dJ7_fill_53178_20
    · replace h := (if_neg c1).symm.trans h
      refine wa_aload_n C dJ7_fill_53178_10 rfl ?_
      refine wa_iload_n C dJ7_fill_53178_11 rfl ?_
      refine wa_iload_n C dJ7_fill_53178_12 rfl ?_
      obtain ⟨g2, h⟩ := gd h
      refine wa_iast (j := (a2.toNatClampNeg)) C rfl (by decide) g2 rfl dJ7_fill_53178_13 ?_
      refine wa_iinc (v := (a2 + 1)) C dJ7_fill_53178_14 rfl rfl (by decide) ?_
      refine wa_goto (tgt := 5) C dJ7_fill_53178_17 (by decide) ?_
      exact WA.sub (lsub_c rfl (lsub_c rfl (lsub_c rfl (lsub_c rfl lsub_n)))) (ih _ _ h)
set_option maxRecDepth 100000 in
set_option maxHeartbeats 4000000 in
theorem r_J7_fill_53178_43 {a1 : Int32} {μ : Mem} {ρ : Mem} (h : f_J7_fill_53178_43 a1 μ = some ρ) : HT 0 yJ7_fill_53178 cJ7_fill_53178 4 none [.ref 43, .int a1] μ none ρ := by
  refine HT.of (by decide +kernel) (Nat.le_of_ble_eq_true rfl) (fun C => ?_)
  unfold f_J7_fill_53178_43 at h
  refine wa_iconst (v := 0) C dJ7_fill_53178_0 (by decide) ?_
  refine wa_istore_n C dJ7_fill_53178_1 (by decide) ?_
  refine wa_aload_n C dJ7_fill_53178_2 rfl ?_
  refine wa_alen (v := 4) C rfl (by decide) (by decide) rfl dJ7_fill_53178_3 ?_
  refine wa_istore_n C dJ7_fill_53178_4 (by decide) ?_
  exact WA.sub (lsub_c rfl (lsub_c rfl (lsub_c rfl (lsub_c rfl lsub_n)))) (r_J7_fill_53178_43_L5 C _ _ _ _ _ h)
def f_J7_fill_53178_44_L5 (a1 : Int32) (a3 : Int32) (k5 : Int32 → Mem → Option Mem) (a2 : Int32) (μ : Mem) : Option Mem :=
    if a3 ≤ a2 then
      some μ
    else
      if inb a2 6 = false then none else
      k5 (a2 + 1) (pI μ 44 (a2.toNatClampNeg) a1)
def f_J7_fill_53178_44 (a1 : Int32) (μ : Mem) : Option Mem :=
  it2 (f_J7_fill_53178_44_L5 a1 (6 : Int32)) FU (0 : Int32) μ
set_option maxRecDepth 100000 in
set_option maxHeartbeats 4000000 in
theorem r_J7_fill_53178_44_L5 {p : Program} {l : Launch} {e : Env} {s : State} {m : MethodId} {args : Array Value} {below : List Frame} {meth : Method} {c : Code} {D : va_G} {cy : Nat → ClassId} {ad : Nat → Nat} (C : CX p s m args meth c cJ7_fill_53178 4 RJ7 none D cy ad (AD ad)) (a1 : Int32) (a3 : Int32) {ρ : Mem} : ∀ (n : Nat) (a2 : Int32) (μ : Mem), it2 (f_J7_fill_53178_44_L5 a1 a3) n a2 μ = some ρ → WA p l e (rmD 0) s m args below meth c 4 D cy ad (AD ad) 0 0 (ZZ below args s D cy ad (AD ad) 0 0 none ρ) μ [(0, .ref 44), (1, .int a1), (2, .int a2), (3, .int a3)] 5 [] := by
  intro n
  induction n with
  | zero =>
    intro a2 μ h
    exact absurd h (fun h => by cases h)
  | succ n ih =>
    intro a2 μ h
    replace h : f_J7_fill_53178_44_L5 a1 a3 (it2 (f_J7_fill_53178_44_L5 a1 a3) n) a2 μ = some ρ := h
    unfold f_J7_fill_53178_44_L5 at h
    refine wa_iload_n C dJ7_fill_53178_5 rfl ?_
    refine wa_iload_n C dJ7_fill_53178_6 rfl ?_
    refine wa_icmp_ge (tgt := 20) C dJ7_fill_53178_7 (by decide) (fun c1 => ?_) (fun c1 => ?_)
    · replace h := (if_pos c1).symm.trans h
      obtain rfl := Option.some.inj h
      exact wa_vret C dJ7_fill_53178_20
    · replace h := (if_neg c1).symm.trans h
      refine wa_aload_n C dJ7_fill_53178_10 rfl ?_
      refine wa_iload_n C dJ7_fill_53178_11 rfl ?_
      refine wa_iload_n C dJ7_fill_53178_12 rfl ?_
      obtain ⟨g2, h⟩ := gd h
      refine wa_iast (j := (a2.toNatClampNeg)) C rfl (by decide) g2 rfl dJ7_fill_53178_13 ?_
      refine wa_iinc (v := (a2 + 1)) C dJ7_fill_53178_14 rfl rfl (by decide) ?_
      refine wa_goto (tgt := 5) C dJ7_fill_53178_17 (by decide) ?_
      exact WA.sub (lsub_c rfl (lsub_c rfl (lsub_c rfl (lsub_c rfl lsub_n)))) (ih _ _ h)
set_option maxRecDepth 100000 in
set_option maxHeartbeats 4000000 in
theorem r_J7_fill_53178_44 {a1 : Int32} {μ : Mem} {ρ : Mem} (h : f_J7_fill_53178_44 a1 μ = some ρ) : HT 0 yJ7_fill_53178 cJ7_fill_53178 4 none [.ref 44, .int a1] μ none ρ := by
  refine HT.of (by decide +kernel) (Nat.le_of_ble_eq_true rfl) (fun C => ?_)
  unfold f_J7_fill_53178_44 at h
  refine wa_iconst (v := 0) C dJ7_fill_53178_0 (by decide) ?_
  refine wa_istore_n C dJ7_fill_53178_1 (by decide) ?_
  refine wa_aload_n C dJ7_fill_53178_2 rfl ?_
  refine wa_alen (v := 6) C rfl (by decide) (by decide) rfl dJ7_fill_53178_3 ?_
  refine wa_istore_n C dJ7_fill_53178_4 (by decide) ?_
  exact WA.sub (lsub_c rfl (lsub_c rfl (lsub_c rfl (lsub_c rfl lsub_n)))) (r_J7_fill_53178_44_L5 C _ _ _ _ _ h)
def f_J7_fill_53178_45_L5 (a1 : Int32) (a3 : Int32) (k5 : Int32 → Mem → Option Mem) (a2 : Int32) (μ : Mem) : Option Mem :=
    if a3 ≤ a2 then
      some μ
    else
      if inb a2 6 = false then none else
      k5 (a2 + 1) (pI μ 45 (a2.toNatClampNeg) a1)
def f_J7_fill_53178_45 (a1 : Int32) (μ : Mem) : Option Mem :=
  it2 (f_J7_fill_53178_45_L5 a1 (6 : Int32)) FU (0 : Int32) μ
set_option maxRecDepth 100000 in
set_option maxHeartbeats 4000000 in
theorem r_J7_fill_53178_45_L5 {p : Program} {l : Launch} {e : Env} {s : State} {m : MethodId} {args : Array Value} {below : List Frame} {meth : Method} {c : Code} {D : va_G} {cy : Nat → ClassId} {ad : Nat → Nat} (C : CX p s m args meth c cJ7_fill_53178 4 RJ7 none D cy ad (AD ad)) (a1 : Int32) (a3 : Int32) {ρ : Mem} : ∀ (n : Nat) (a2 : Int32) (μ : Mem), it2 (f_J7_fill_53178_45_L5 a1 a3) n a2 μ = some ρ → WA p l e (rmD 0) s m args below meth c 4 D cy ad (AD ad) 0 0 (ZZ below args s D cy ad (AD ad) 0 0 none ρ) μ [(0, .ref 45), (1, .int a1), (2, .int a2), (3, .int a3)] 5 [] := by
  intro n
  induction n with
  | zero =>
    intro a2 μ h
    exact absurd h (fun h => by cases h)
  | succ n ih =>
    intro a2 μ h
    replace h : f_J7_fill_53178_45_L5 a1 a3 (it2 (f_J7_fill_53178_45_L5 a1 a3) n) a2 μ = some ρ := h
    unfold f_J7_fill_53178_45_L5 at h
    refine wa_iload_n C dJ7_fill_53178_5 rfl ?_
    refine wa_iload_n C dJ7_fill_53178_6 rfl ?_
    refine wa_icmp_ge (tgt := 20) C dJ7_fill_53178_7 (by decide) (fun c1 => ?_) (fun c1 => ?_)
    · replace h := (if_pos c1).symm.trans h
      obtain rfl := Option.some.inj h
      exact wa_vret C dJ7_fill_53178_20
    · replace h := (if_neg c1).symm.trans h
      refine wa_aload_n C dJ7_fill_53178_10 rfl ?_
      refine wa_iload_n C dJ7_fill_53178_11 rfl ?_
      refine wa_iload_n C dJ7_fill_53178_12 rfl ?_
      obtain ⟨g2, h⟩ := gd h
      refine wa_iast (j := (a2.toNatClampNeg)) C rfl (by decide) g2 rfl dJ7_fill_53178_13 ?_
      refine wa_iinc (v := (a2 + 1)) C dJ7_fill_53178_14 rfl rfl (by decide) ?_
      refine wa_goto (tgt := 5) C dJ7_fill_53178_17 (by decide) ?_
      exact WA.sub (lsub_c rfl (lsub_c rfl (lsub_c rfl (lsub_c rfl lsub_n)))) (ih _ _ h)
set_option maxRecDepth 100000 in
set_option maxHeartbeats 4000000 in
theorem r_J7_fill_53178_45 {a1 : Int32} {μ : Mem} {ρ : Mem} (h : f_J7_fill_53178_45 a1 μ = some ρ) : HT 0 yJ7_fill_53178 cJ7_fill_53178 4 none [.ref 45, .int a1] μ none ρ := by
  refine HT.of (by decide +kernel) (Nat.le_of_ble_eq_true rfl) (fun C => ?_)
  unfold f_J7_fill_53178_45 at h
  refine wa_iconst (v := 0) C dJ7_fill_53178_0 (by decide) ?_
  refine wa_istore_n C dJ7_fill_53178_1 (by decide) ?_
  refine wa_aload_n C dJ7_fill_53178_2 rfl ?_
  refine wa_alen (v := 6) C rfl (by decide) (by decide) rfl dJ7_fill_53178_3 ?_
  refine wa_istore_n C dJ7_fill_53178_4 (by decide) ?_
  exact WA.sub (lsub_c rfl (lsub_c rfl (lsub_c rfl (lsub_c rfl lsub_n)))) (r_J7_fill_53178_45_L5 C _ _ _ _ _ h)
def f_X4_empty_40 (μ : Mem) : Option Mem :=
  (f_J7_fill_53178_41 (0 : Int32) μ).bind fun q1 =>
  (f_J7_fill_53178_42 (0 : Int32) q1).bind fun q2 =>
  (f_J7_fill_53178_43 (0 : Int32) q2).bind fun q3 =>
  (f_J7_fill_53178_44 (0 : Int32) q3).bind fun q4 =>
  (f_J7_fill_53178_45 (0 : Int32) q4).bind fun q5 =>
  some (pI q5 40 6 (0 : Int32))
set_option maxRecDepth 100000 in
set_option maxHeartbeats 4000000 in
theorem r_X4_empty_40 {μ : Mem} {ρ : Mem} (h : f_X4_empty_40 μ = some ρ) : HT 1 yX4_empty cX4_empty 1 none [.ref 40] μ none ρ := by
  refine HT.of (by decide +kernel) (Nat.le_of_ble_eq_true rfl) (fun C => ?_)
  unfold f_X4_empty_40 at h
  refine wa_aload_n C dX4_empty_0 rfl ?_
  refine wa_getr C fl_RX4_9 rfl rfl (by decide) dX4_empty_1 ?_
  refine wa_iconst (v := 0) C dX4_empty_4 (by decide) ?_
  obtain ⟨q1, hq1, h⟩ := bd h
  refine wa_callS C (r_J7_fill_53178_41 hq1) mk_J7_fill_53178 ms_J7_fill_53178 qw_230 rfl ⟨Nat.le_of_ble_eq_true rfl, Nat.le_of_ble_eq_true rfl⟩ ⟨Nat.zero_le _, Nat.zero_le _⟩ (Nat.le_of_ble_eq_true rfl) dX4_empty_5 rfl ?_
  refine wa_aload_n C dX4_empty_8 rfl ?_
  refine wa_getr C fl_RX4_15 rfl rfl (by decide) dX4_empty_9 ?_
  refine wa_iconst (v := 0) C dX4_empty_12 (by decide) ?_
  obtain ⟨q2, hq2, h⟩ := bd h
  refine wa_callS C (r_J7_fill_53178_42 hq2) mk_J7_fill_53178 ms_J7_fill_53178 qw_230 rfl ⟨Nat.le_of_ble_eq_true rfl, Nat.le_of_ble_eq_true rfl⟩ ⟨Nat.zero_le _, Nat.zero_le _⟩ (Nat.le_of_ble_eq_true rfl) dX4_empty_13 rfl ?_
  refine wa_aload_n C dX4_empty_16 rfl ?_
  refine wa_getr C fl_RX4_18 rfl rfl (by decide) dX4_empty_17 ?_
  refine wa_iconst (v := 0) C dX4_empty_20 (by decide) ?_
  obtain ⟨q3, hq3, h⟩ := bd h
  refine wa_callS C (r_J7_fill_53178_43 hq3) mk_J7_fill_53178 ms_J7_fill_53178 qw_230 rfl ⟨Nat.le_of_ble_eq_true rfl, Nat.le_of_ble_eq_true rfl⟩ ⟨Nat.zero_le _, Nat.zero_le _⟩ (Nat.le_of_ble_eq_true rfl) dX4_empty_21 rfl ?_
  refine wa_aload_n C dX4_empty_24 rfl ?_
  refine wa_getr C fl_RX4_21 rfl rfl (by decide) dX4_empty_25 ?_
  refine wa_iconst (v := 0) C dX4_empty_28 (by decide) ?_
  obtain ⟨q4, hq4, h⟩ := bd h
  refine wa_callS C (r_J7_fill_53178_44 hq4) mk_J7_fill_53178 ms_J7_fill_53178 qw_230 rfl ⟨Nat.le_of_ble_eq_true rfl, Nat.le_of_ble_eq_true rfl⟩ ⟨Nat.zero_le _, Nat.zero_le _⟩ (Nat.le_of_ble_eq_true rfl) dX4_empty_29 rfl ?_
  refine wa_aload_n C dX4_empty_32 rfl ?_
  refine wa_getr C fl_RX4_24 rfl rfl (by decide) dX4_empty_33 ?_
  refine wa_iconst (v := 0) C dX4_empty_36 (by decide) ?_
  obtain ⟨q5, hq5, h⟩ := bd h
  refine wa_callS C (r_J7_fill_53178_45 hq5) mk_J7_fill_53178 ms_J7_fill_53178 qw_230 rfl ⟨Nat.le_of_ble_eq_true rfl, Nat.le_of_ble_eq_true rfl⟩ ⟨Nat.zero_le _, Nat.zero_le _⟩ (Nat.le_of_ble_eq_true rfl) dX4_empty_37 rfl ?_
  refine wa_aload_n C dX4_empty_40 rfl ?_
  refine wa_iconst (v := 0) C dX4_empty_41 (by decide) ?_
  refine wa_puti C fl_RX4_30 fp_4_6 rfl rfl (by decide) rfl rfl dX4_empty_42 ?_
  obtain rfl := Option.some.inj h
  exact wa_vret C dX4_empty_45
def f_X5_begin_35 (μ : Mem) : Option Mem :=
  (f_X1_empty_37 μ).bind fun q1 =>
  (f_X4_empty_40 q1).bind fun q2 =>
  some (pI (pI (pI (pI (pI (pI (pI (pI q2 35 2 (0 : Int32)) 35 3 (0 : Int32)) 35 4 (0 : Int32)) 35 10 (0 : Int32)) 35 11 (0 : Int32)) 35 12 (0 : Int32)) 35 13 (0 : Int32)) 35 14 (0 : Int32))
set_option maxRecDepth 100000 in
set_option maxHeartbeats 4000000 in
theorem r_X5_begin_35 {μ : Mem} {ρ : Mem} (h : f_X5_begin_35 μ = some ρ) : HT 2 yX5_begin cX5_begin 1 none [.ref 35] μ none ρ := by
  refine HT.of (by decide +kernel) (Nat.le_of_ble_eq_true rfl) (fun C => ?_)
  unfold f_X5_begin_35 at h
  refine wa_aload_n C dX5_begin_0 rfl ?_
  refine wa_getr C fl_RX5_31 rfl rfl (by decide) dX5_begin_1 ?_
  obtain ⟨q1, hq1, h⟩ := bd h
  refine wa_callV C (r_X1_empty_37 hq1) mk_X1_empty mv_X1_empty qw_218 rfl (by decide) rfl rfl ⟨Nat.le_of_ble_eq_true rfl, Nat.le_of_ble_eq_true rfl⟩ ⟨Nat.zero_le _, Nat.zero_le _⟩ (Nat.le_of_ble_eq_true rfl) dX5_begin_4 rfl ?_
  refine wa_aload_n C dX5_begin_7 rfl ?_
  refine wa_getr C fl_RX5_38 rfl rfl (by decide) dX5_begin_8 ?_
  obtain ⟨q2, hq2, h⟩ := bd h
  refine wa_callV C (r_X4_empty_40 hq2) mk_X4_empty mv_X4_empty qw_226 rfl (by decide) rfl rfl ⟨Nat.le_of_ble_eq_true rfl, Nat.le_of_ble_eq_true rfl⟩ ⟨Nat.zero_le _, Nat.zero_le _⟩ (Nat.le_of_ble_eq_true rfl) dX5_begin_11 rfl ?_
  refine wa_aload_n C dX5_begin_14 rfl ?_
  refine wa_iconst (v := 0) C dX5_begin_15 (by decide) ?_
  refine wa_puti C fl_RX5_19 fp_5_2 rfl rfl (by decide) rfl rfl dX5_begin_16 ?_
  refine wa_aload_n C dX5_begin_19 rfl ?_
  refine wa_iconst (v := 0) C dX5_begin_20 (by decide) ?_
  refine wa_puti C fl_RX5_22 fp_5_3 rfl rfl (by decide) rfl rfl dX5_begin_21 ?_
  refine wa_aload_n C dX5_begin_24 rfl ?_
  refine wa_iconst (v := 0) C dX5_begin_25 (by decide) ?_
  refine wa_puti C fl_RX5_25 fp_5_4 rfl rfl (by decide) rfl rfl dX5_begin_26 ?_
  refine wa_aload_n C dX5_begin_29 rfl ?_
  refine wa_iconst (v := 0) C dX5_begin_30 (by decide) ?_
  refine wa_puti C fl_RX5_51 fp_5_10 rfl rfl (by decide) rfl rfl dX5_begin_31 ?_
  refine wa_aload_n C dX5_begin_34 rfl ?_
  refine wa_iconst (v := 0) C dX5_begin_35 (by decide) ?_
  refine wa_puti C fl_RX5_54 fp_5_11 rfl rfl (by decide) rfl rfl dX5_begin_36 ?_
  refine wa_aload_n C dX5_begin_39 rfl ?_
  refine wa_iconst (v := 0) C dX5_begin_40 (by decide) ?_
  refine wa_puti C fl_RX5_58 fp_5_12 rfl rfl (by decide) rfl rfl dX5_begin_41 ?_
  refine wa_aload_n C dX5_begin_44 rfl ?_
  refine wa_iconst (v := 0) C dX5_begin_45 (by decide) ?_
  refine wa_puti C fl_RX5_61 fp_5_13 rfl rfl (by decide) rfl rfl dX5_begin_46 ?_
  refine wa_aload_n C dX5_begin_49 rfl ?_
  refine wa_iconst (v := 0) C dX5_begin_50 (by decide) ?_
  refine wa_puti C fl_RX5_64 fp_5_14 rfl rfl (by decide) rfl rfl dX5_begin_51 ?_
  obtain rfl := Option.some.inj h
  exact wa_vret C dX5_begin_54
def f_X5_isLetter (a0 : Int32) (μ : Mem) : Option (Int32 × Mem) :=
  if a0 < (97 : Int32) then
    some ((0 : Int32), μ)
  else
    if (122 : Int32) < a0 then
      some ((0 : Int32), μ)
    else
      some ((1 : Int32), μ)
set_option maxRecDepth 100000 in
set_option maxHeartbeats 4000000 in
theorem r_X5_isLetter {a0 : Int32} {μ : Mem} {ρ : (Int32 × Mem)} (h : f_X5_isLetter a0 μ = some ρ) : HT 0 yX5_isLetter cX5_isLetter 1 (some .boolean) [.int a0] μ (some (.int ρ.1)) ρ.2 := by
  refine HT.of (by decide +kernel) (Nat.le_of_ble_eq_true rfl) (fun C => ?_)
  unfold f_X5_isLetter at h
  refine wa_iload_n C dX5_isLetter_0 rfl ?_
  refine wa_bipush (v := 97) C dX5_isLetter_1 (by decide) ?_
  refine wa_icmp_lt (tgt := 16) C dX5_isLetter_3 (by decide) (fun c1 => ?_) (fun c1 => ?_)
  · replace h := (if_pos c1).symm.trans h
    refine wa_iconst (v := 0) C dX5_isLetter_16 (by decide) ?_
    obtain rfl := Option.some.inj h
    exact wa_zret C rfl dX5_isLetter_17
  · replace h := (if_neg c1).symm.trans h
    refine wa_iload_n C dX5_isLetter_6 rfl ?_
    refine wa_bipush (v := 122) C dX5_isLetter_7 (by decide) ?_
    refine wa_icmp_gt (tgt := 16) C dX5_isLetter_9 (by decide) (fun c2 => ?_) (fun c2 => ?_)
    · replace h := (if_pos c2).symm.trans h
      refine wa_iconst (v := 0) C dX5_isLetter_16 (by decide) ?_
      obtain rfl := Option.some.inj h
      exact wa_zret C rfl dX5_isLetter_17
    · replace h := (if_neg c2).symm.trans h
      refine wa_iconst (v := 1) C dX5_isLetter_12 (by decide) ?_
      refine wa_goto (tgt := 17) C dX5_isLetter_13 (by decide) ?_
      obtain rfl := Option.some.inj h
      exact wa_zret C rfl dX5_isLetter_17
def f_X5_isFigure (a0 : Int32) (μ : Mem) : Option (Int32 × Mem) :=
  if a0 < (48 : Int32) then
    some ((0 : Int32), μ)
  else
    if (57 : Int32) < a0 then
      some ((0 : Int32), μ)
    else
      some ((1 : Int32), μ)
set_option maxRecDepth 100000 in
set_option maxHeartbeats 4000000 in
theorem r_X5_isFigure {a0 : Int32} {μ : Mem} {ρ : (Int32 × Mem)} (h : f_X5_isFigure a0 μ = some ρ) : HT 0 yX5_isFigure cX5_isFigure 1 (some .boolean) [.int a0] μ (some (.int ρ.1)) ρ.2 := by
  refine HT.of (by decide +kernel) (Nat.le_of_ble_eq_true rfl) (fun C => ?_)
  unfold f_X5_isFigure at h
  refine wa_iload_n C dX5_isFigure_0 rfl ?_
  refine wa_bipush (v := 48) C dX5_isFigure_1 (by decide) ?_
  refine wa_icmp_lt (tgt := 16) C dX5_isFigure_3 (by decide) (fun c1 => ?_) (fun c1 => ?_)
  · replace h := (if_pos c1).symm.trans h
    refine wa_iconst (v := 0) C dX5_isFigure_16 (by decide) ?_
    obtain rfl := Option.some.inj h
    exact wa_zret C rfl dX5_isFigure_17
  · replace h := (if_neg c1).symm.trans h
    refine wa_iload_n C dX5_isFigure_6 rfl ?_
    refine wa_bipush (v := 57) C dX5_isFigure_7 (by decide) ?_
    refine wa_icmp_gt (tgt := 16) C dX5_isFigure_9 (by decide) (fun c2 => ?_) (fun c2 => ?_)
    · replace h := (if_pos c2).symm.trans h
      refine wa_iconst (v := 0) C dX5_isFigure_16 (by decide) ?_
      obtain rfl := Option.some.inj h
      exact wa_zret C rfl dX5_isFigure_17
    · replace h := (if_neg c2).symm.trans h
      refine wa_iconst (v := 1) C dX5_isFigure_12 (by decide) ?_
      refine wa_goto (tgt := 17) C dX5_isFigure_13 (by decide) ?_
      obtain rfl := Option.some.inj h
      exact wa_zret C rfl dX5_isFigure_17
def f_X5_refuse_35 (a1 : Int32) (a2 : Int32) (μ : Mem) : Option (Int32 × Mem) :=
  some ((0 : Int32), (pI (pI μ 35 2 a1) 35 3 a2))
set_option maxRecDepth 100000 in
set_option maxHeartbeats 4000000 in
theorem r_X5_refuse_35 {a1 : Int32} {a2 : Int32} {μ : Mem} {ρ : (Int32 × Mem)} (h : f_X5_refuse_35 a1 a2 μ = some ρ) : HT 0 yX5_refuse cX5_refuse 3 (some .boolean) [.ref 35, .int a1, .int a2] μ (some (.int ρ.1)) ρ.2 := by
  refine HT.of (by decide +kernel) (Nat.le_of_ble_eq_true rfl) (fun C => ?_)
  unfold f_X5_refuse_35 at h
  refine wa_aload_n C dX5_refuse_0 rfl ?_
  refine wa_iload_n C dX5_refuse_1 rfl ?_
  refine wa_puti C fl_RX5_19 fp_5_2 rfl rfl (by decide) rfl rfl dX5_refuse_2 ?_
  refine wa_aload_n C dX5_refuse_5 rfl ?_
  refine wa_iload_n C dX5_refuse_6 rfl ?_
  refine wa_puti C fl_RX5_22 fp_5_3 rfl rfl (by decide) rfl rfl dX5_refuse_7 ?_
  refine wa_iconst (v := 0) C dX5_refuse_10 (by decide) ?_
  obtain rfl := Option.some.inj h
  exact wa_zret C rfl dX5_refuse_11
def f_X5_figures_35_J73 (μ : Mem) : Option (Int32 × Mem) :=
  if ((μ.1 35 10) - (μ.1 35 8)) ≤ (2 : Int32) then
    some ((1 : Int32), μ)
  else
    (f_X5_refuse_35 (1 : Int32) (μ.1 35 8) μ).bind fun q3 =>
    if zb q3.1 = false then none else
    some (q3.1, q3.2)
def f_X5_figures_35_L10 (k10 : Mem → Option (Int32 × Mem)) (μ : Mem) : Option (Int32 × Mem) :=
    if (μ.1 35 1) ≤ (μ.1 35 10) then
      f_X5_figures_35_J73 μ
    else
      if inb (μ.1 35 10) 320 = false then none else
      (f_X5_isFigure (μ.1 36 ((μ.1 35 10).toNatClampNeg)) μ).bind fun q6 =>
      if q6.1 = 0 then
        f_X5_figures_35_J73 q6.2
      else
        if inb (q6.2.1 35 10) 320 = false then none else
        k10 (pI (pI q6.2 35 9 ((((q6.2.1 35 9) * (10 : Int32)) + (q6.2.1 36 ((q6.2.1 35 10).toNatClampNeg))) - (48 : Int32))) 35 10 ((q6.2.1 35 10) + (1 : Int32)))
def f_X5_figures_35 (μ : Mem) : Option (Int32 × Mem) :=
  it1 (f_X5_figures_35_L10) FU (pI (pI μ 35 7 (2 : Int32)) 35 9 (0 : Int32))
set_option maxRecDepth 100000 in
set_option maxHeartbeats 4000000 in
theorem r_X5_figures_35_J73 {p : Program} {l : Launch} {e : Env} {s : State} {m : MethodId} {args : Array Value} {below : List Frame} {meth : Method} {c : Code} {D : va_G} {cy : Nat → ClassId} {ad : Nat → Nat} (C : CX p s m args meth c cX5_figures 1 RX5 (some .boolean) D cy ad (AD ad)) {μ : Mem} {ρ : (Int32 × Mem)} (h : f_X5_figures_35_J73 μ = some ρ) : WA p l e (rmD 1) s m args below meth c 1 D cy ad (AD ad) 0 0 (ZZ below args s D cy ad (AD ad) 0 0 (some (.int ρ.1)) ρ.2) μ [(0, .ref 35)] 73 [] := by
  unfold f_X5_figures_35_J73 at h
  refine wa_aload_n C dX5_figures_73 rfl ?_
  refine wa_geti (x := (μ.1 35 10)) C fl_RX5_51 rfl rfl (by decide) rfl dX5_figures_74 ?_
  refine wa_aload_n C dX5_figures_77 rfl ?_
  refine wa_geti (x := (μ.1 35 8)) C fl_RX5_45 rfl rfl (by decide) rfl dX5_figures_78 ?_
  refine wa_isub C dX5_figures_81 ?_
  refine wa_iconst (v := 2) C dX5_figures_82 (by decide) ?_
  refine wa_icmp_le (tgt := 96) C dX5_figures_83 (by decide) (fun c2 => ?_) (fun c2 => ?_)
  · replace h := (if_pos c2).symm.trans h
    refine wa_iconst (v := 1) C dX5_figures_96 (by decide) ?_
    obtain rfl := Option.some.inj h
    exact wa_zret C rfl dX5_figures_97
  · replace h := (if_neg c2).symm.trans h
    refine wa_aload_n C dX5_figures_86 rfl ?_
    refine wa_iconst (v := 1) C dX5_figures_87 (by decide) ?_
    refine wa_aload_n C dX5_figures_88 rfl ?_
    refine wa_geti (x := (μ.1 35 8)) C fl_RX5_45 rfl rfl (by decide) rfl dX5_figures_89 ?_
    obtain ⟨q3, hq3, h⟩ := bd h
    refine wa_callV C (r_X5_refuse_35 hq3) mk_X5_refuse mv_X5_refuse qw_249 rfl (by decide) rfl rfl ⟨Nat.le_of_ble_eq_true rfl, Nat.le_of_ble_eq_true rfl⟩ ⟨Nat.zero_le _, Nat.zero_le _⟩ (Nat.le_of_ble_eq_true rfl) dX5_figures_92 rfl ?_
    obtain ⟨g4, h⟩ := gd h
    obtain rfl := Option.some.inj h
    exact wa_zret C g4 dX5_figures_95
set_option maxRecDepth 100000 in
set_option maxHeartbeats 4000000 in
theorem r_X5_figures_35_L10 {p : Program} {l : Launch} {e : Env} {s : State} {m : MethodId} {args : Array Value} {below : List Frame} {meth : Method} {c : Code} {D : va_G} {cy : Nat → ClassId} {ad : Nat → Nat} (C : CX p s m args meth c cX5_figures 1 RX5 (some .boolean) D cy ad (AD ad)) {ρ : (Int32 × Mem)} : ∀ (n : Nat) (μ : Mem), it1 (f_X5_figures_35_L10) n μ = some ρ → WA p l e (rmD 1) s m args below meth c 1 D cy ad (AD ad) 0 0 (ZZ below args s D cy ad (AD ad) 0 0 (some (.int ρ.1)) ρ.2) μ [(0, .ref 35)] 10 [] := by
  intro n
  induction n with
  | zero =>
    intro μ h
    exact absurd h (fun h => by cases h)
  | succ n ih =>
    intro μ h
    replace h : f_X5_figures_35_L10 (it1 (f_X5_figures_35_L10) n) μ = some ρ := h
    unfold f_X5_figures_35_L10 at h
    refine wa_aload_n C dX5_figures_10 rfl ?_
    refine wa_geti (x := (μ.1 35 10)) C fl_RX5_51 rfl rfl (by decide) rfl dX5_figures_11 ?_
    refine wa_aload_n C dX5_figures_14 rfl ?_
    refine wa_geti (x := (μ.1 35 1)) C fl_RX5_15 rfl rfl (by decide) rfl dX5_figures_15 ?_
    refine wa_icmp_ge (tgt := 73) C dX5_figures_18 (by decide) (fun c1 => ?_) (fun c1 => ?_)
    · replace h := (if_pos c1).symm.trans h
      exact WA.sub (lsub_c rfl lsub_n) (r_X5_figures_35_J73 C h)
    · replace h := (if_neg c1).symm.trans h
      refine wa_aload_n C dX5_figures_21 rfl ?_
      refine wa_getr C fl_RX5_11 rfl rfl (by decide) dX5_figures_22 ?_
      refine wa_aload_n C dX5_figures_25 rfl ?_
      refine wa_geti (x := (μ.1 35 10)) C fl_RX5_51 rfl rfl (by decide) rfl dX5_figures_26 ?_
      obtain ⟨g5, h⟩ := gd h
      refine wa_bald (j := ((μ.1 35 10).toNatClampNeg)) (x := (μ.1 36 ((μ.1 35 10).toNatClampNeg))) C rfl (by decide) g5 rfl rfl dX5_figures_29 ?_
      obtain ⟨q6, hq6, h⟩ := bd h
      refine wa_callS C (r_X5_isFigure hq6) mk_X5_isFigure ms_X5_isFigure qw_242 rfl ⟨Nat.le_of_ble_eq_true rfl, Nat.le_of_ble_eq_true rfl⟩ ⟨Nat.zero_le _, Nat.zero_le _⟩ (Nat.le_of_ble_eq_true rfl) dX5_figures_30 rfl ?_
      refine wa_if_eq (tgt := 73) C dX5_figures_33 (by decide) (fun c7 => ?_) (fun c7 => ?_)
      · replace h := (if_pos c7).symm.trans h
        exact WA.sub (lsub_c rfl lsub_n) (r_X5_figures_35_J73 C h)
      · replace h := (if_neg c7).symm.trans h
        refine wa_aload_n C dX5_figures_36 rfl ?_
        refine wa_aload_n C dX5_figures_37 rfl ?_
        refine wa_geti (x := (q6.2.1 35 9)) C fl_RX5_48 rfl rfl (by decide) rfl dX5_figures_38 ?_
        refine wa_bipush (v := 10) C dX5_figures_41 (by decide) ?_
        refine wa_imul C dX5_figures_43 ?_
        refine wa_aload_n C dX5_figures_44 rfl ?_
        refine wa_getr C fl_RX5_11 rfl rfl (by decide) dX5_figures_45 ?_
        refine wa_aload_n C dX5_figures_48 rfl ?_
        refine wa_geti (x := (q6.2.1 35 10)) C fl_RX5_51 rfl rfl (by decide) rfl dX5_figures_49 ?_
        obtain ⟨g8, h⟩ := gd h
        refine wa_bald (j := ((q6.2.1 35 10).toNatClampNeg)) (x := (q6.2.1 36 ((q6.2.1 35 10).toNatClampNeg))) C rfl (by decide) g8 rfl rfl dX5_figures_52 ?_
        refine wa_iadd C dX5_figures_53 ?_
        refine wa_bipush (v := 48) C dX5_figures_54 (by decide) ?_
        refine wa_isub C dX5_figures_56 ?_
        refine wa_puti C fl_RX5_48 fp_5_9 rfl rfl (by decide) rfl rfl dX5_figures_57 ?_
        refine wa_aload_n C dX5_figures_60 rfl ?_
        refine wa_dup C dX5_figures_61 rfl ?_
        refine wa_geti (x := (q6.2.1 35 10)) C fl_RX5_51 rfl rfl (by decide) rfl dX5_figures_62 ?_
        refine wa_iconst (v := 1) C dX5_figures_65 (by decide) ?_
        refine wa_iadd C dX5_figures_66 ?_
        refine wa_puti C fl_RX5_51 fp_5_10 rfl rfl (by decide) rfl rfl dX5_figures_67 ?_
        refine wa_goto (tgt := 10) C dX5_figures_70 (by decide) ?_
        exact WA.sub (lsub_c rfl lsub_n) (ih _ h)
set_option maxRecDepth 100000 in
set_option maxHeartbeats 4000000 in
theorem r_X5_figures_35 {μ : Mem} {ρ : (Int32 × Mem)} (h : f_X5_figures_35 μ = some ρ) : HT 1 yX5_figures cX5_figures 1 (some .boolean) [.ref 35] μ (some (.int ρ.1)) ρ.2 := by
  refine HT.of (by decide +kernel) (Nat.le_of_ble_eq_true rfl) (fun C => ?_)
  unfold f_X5_figures_35 at h
  refine wa_aload_n C dX5_figures_0 rfl ?_
  refine wa_iconst (v := 2) C dX5_figures_1 (by decide) ?_
  refine wa_puti C fl_RX5_42 fp_5_7 rfl rfl (by decide) rfl rfl dX5_figures_2 ?_
  refine wa_aload_n C dX5_figures_5 rfl ?_
  refine wa_iconst (v := 0) C dX5_figures_6 (by decide) ?_
  refine wa_puti C fl_RX5_48 fp_5_9 rfl rfl (by decide) rfl rfl dX5_figures_7 ?_
  exact WA.sub (lsub_c rfl lsub_n) (r_X5_figures_35_L10 C  _ _ h)
def f_X5_letters_35_L5 (k5 : Mem → Option Mem) (μ : Mem) : Option Mem :=
    if (μ.1 35 1) ≤ (μ.1 35 10) then
      some μ
    else
      if inb (μ.1 35 10) 320 = false then none else
      (f_X5_isLetter (μ.1 36 ((μ.1 35 10).toNatClampNeg)) μ).bind fun q3 =>
      if q3.1 = 0 then
        some q3.2
      else
        k5 (pI q3.2 35 10 ((q3.2.1 35 10) + (1 : Int32)))
def f_X5_letters_35 (μ : Mem) : Option Mem :=
  it1 (f_X5_letters_35_L5) FU (pI μ 35 7 (1 : Int32))
set_option maxRecDepth 100000 in
set_option maxHeartbeats 4000000 in
theorem r_X5_letters_35_L5 {p : Program} {l : Launch} {e : Env} {s : State} {m : MethodId} {args : Array Value} {below : List Frame} {meth : Method} {c : Code} {D : va_G} {cy : Nat → ClassId} {ad : Nat → Nat} (C : CX p s m args meth c cX5_letters 1 RX5 none D cy ad (AD ad)) {ρ : Mem} : ∀ (n : Nat) (μ : Mem), it1 (f_X5_letters_35_L5) n μ = some ρ → WA p l e (rmD 1) s m args below meth c 1 D cy ad (AD ad) 0 0 (ZZ below args s D cy ad (AD ad) 0 0 none ρ) μ [(0, .ref 35)] 5 [] := by
  intro n
  induction n with
  | zero =>
    intro μ h
    exact absurd h (fun h => by cases h)
  | succ n ih =>
    intro μ h
    replace h : f_X5_letters_35_L5 (it1 (f_X5_letters_35_L5) n) μ = some ρ := h
    unfold f_X5_letters_35_L5 at h
    refine wa_aload_n C dX5_letters_5 rfl ?_
    refine wa_geti (x := (μ.1 35 10)) C fl_RX5_51 rfl rfl (by decide) rfl dX5_letters_6 ?_
    refine wa_aload_n C dX5_letters_9 rfl ?_
    refine wa_geti (x := (μ.1 35 1)) C fl_RX5_15 rfl rfl (by decide) rfl dX5_letters_10 ?_
    refine wa_icmp_ge (tgt := 44) C dX5_letters_13 (by decide) (fun c1 => ?_) (fun c1 => ?_)
    · replace h := (if_pos c1).symm.trans h
      obtain rfl := Option.some.inj h
      exact wa_vret C dX5_letters_44
    · replace h := (if_neg c1).symm.trans h
      refine wa_aload_n C dX5_letters_16 rfl ?_
      refine wa_getr C fl_RX5_11 rfl rfl (by decide) dX5_letters_17 ?_
      refine wa_aload_n C dX5_letters_20 rfl ?_
      refine wa_geti (x := (μ.1 35 10)) C fl_RX5_51 rfl rfl (by decide) rfl dX5_letters_21 ?_
      obtain ⟨g2, h⟩ := gd h
      refine wa_bald (j := ((μ.1 35 10).toNatClampNeg)) (x := (μ.1 36 ((μ.1 35 10).toNatClampNeg))) C rfl (by decide) g2 rfl rfl dX5_letters_24 ?_
      obtain ⟨q3, hq3, h⟩ := bd h
      refine wa_callS C (r_X5_isLetter hq3) mk_X5_isLetter ms_X5_isLetter qw_235 rfl ⟨Nat.le_of_ble_eq_true rfl, Nat.le_of_ble_eq_true rfl⟩ ⟨Nat.zero_le _, Nat.zero_le _⟩ (Nat.le_of_ble_eq_true rfl) dX5_letters_25 rfl ?_
      refine wa_if_eq (tgt := 44) C dX5_letters_28 (by decide) (fun c4 => ?_) (fun c4 => ?_)
      · replace h := (if_pos c4).symm.trans h
        obtain rfl := Option.some.inj h
        exact wa_vret C dX5_letters_44
      · replace h := (if_neg c4).symm.trans h
        refine wa_aload_n C dX5_letters_31 rfl ?_
        refine wa_dup C dX5_letters_32 rfl ?_
        refine wa_geti (x := (q3.2.1 35 10)) C fl_RX5_51 rfl rfl (by decide) rfl dX5_letters_33 ?_
        refine wa_iconst (v := 1) C dX5_letters_36 (by decide) ?_
        refine wa_iadd C dX5_letters_37 ?_
        refine wa_puti C fl_RX5_51 fp_5_10 rfl rfl (by decide) rfl rfl dX5_letters_38 ?_
        refine wa_goto (tgt := 5) C dX5_letters_41 (by decide) ?_
        exact WA.sub (lsub_c rfl lsub_n) (ih _ h)
set_option maxRecDepth 100000 in
set_option maxHeartbeats 4000000 in
theorem r_X5_letters_35 {μ : Mem} {ρ : Mem} (h : f_X5_letters_35 μ = some ρ) : HT 1 yX5_letters cX5_letters 1 none [.ref 35] μ none ρ := by
  refine HT.of (by decide +kernel) (Nat.le_of_ble_eq_true rfl) (fun C => ?_)
  unfold f_X5_letters_35 at h
  refine wa_aload_n C dX5_letters_0 rfl ?_
  refine wa_iconst (v := 1) C dX5_letters_1 (by decide) ?_
  refine wa_puti C fl_RX5_42 fp_5_7 rfl rfl (by decide) rfl rfl dX5_letters_2 ?_
  exact WA.sub (lsub_c rfl lsub_n) (r_X5_letters_35_L5 C  _ _ h)
def f_X5_next_35_J38 (μ : Mem) : Option (Int32 × Mem) :=
  if (μ.1 35 10) < (μ.1 35 1) then
    if inb (μ.1 35 10) 320 = false then none else
    (f_X5_isLetter (μ.1 36 ((μ.1 35 10).toNatClampNeg)) (pI μ 35 8 (μ.1 35 10))).bind fun q4 =>
    if q4.1 = 0 then
      if inb (q4.2.1 35 10) 320 = false then none else
      (f_X5_isFigure (q4.2.1 36 ((q4.2.1 35 10).toNatClampNeg)) q4.2).bind fun q7 =>
      if q7.1 = 0 then
        if inb (q7.2.1 35 10) 320 = false then none else
        if (q7.2.1 36 ((q7.2.1 35 10).toNatClampNeg)) = (59 : Int32) then
          some ((1 : Int32), (pI (pI q7.2 35 7 (3 : Int32)) 35 10 ((q7.2.1 35 10) + (1 : Int32))))
        else
          (f_X5_refuse_35 (1 : Int32) (q7.2.1 35 8) q7.2).bind fun q11 =>
          if zb q11.1 = false then none else
          some (q11.1, q11.2)
      else
        (f_X5_figures_35 q7.2).bind fun q13 =>
        if zb q13.1 = false then none else
        some (q13.1, q13.2)
    else
      (f_X5_letters_35 q4.2).bind fun q15 =>
      some ((1 : Int32), q15)
  else
    some ((1 : Int32), (pI (pI μ 35 8 (μ.1 35 10)) 35 7 (0 : Int32)))
def f_X5_next_35_L0 (k0 : Mem → Option (Int32 × Mem)) (μ : Mem) : Option (Int32 × Mem) :=
    if (μ.1 35 1) ≤ (μ.1 35 10) then
      f_X5_next_35_J38 μ
    else
      if inb (μ.1 35 10) 320 = false then none else
      if (μ.1 36 ((μ.1 35 10).toNatClampNeg)) = (32 : Int32) then
        k0 (pI μ 35 10 ((μ.1 35 10) + (1 : Int32)))
      else
        f_X5_next_35_J38 μ
def f_X5_next_35 (μ : Mem) : Option (Int32 × Mem) :=
  it1 (f_X5_next_35_L0) FU μ
set_option maxRecDepth 100000 in
set_option maxHeartbeats 4000000 in
theorem r_X5_next_35_J38 {p : Program} {l : Launch} {e : Env} {s : State} {m : MethodId} {args : Array Value} {below : List Frame} {meth : Method} {c : Code} {D : va_G} {cy : Nat → ClassId} {ad : Nat → Nat} (C : CX p s m args meth c cX5_next 1 RX5 (some .boolean) D cy ad (AD ad)) {μ : Mem} {ρ : (Int32 × Mem)} (h : f_X5_next_35_J38 μ = some ρ) : WA p l e (rmD 2) s m args below meth c 1 D cy ad (AD ad) 0 0 (ZZ below args s D cy ad (AD ad) 0 0 (some (.int ρ.1)) ρ.2) μ [(0, .ref 35)] 38 [] := by
  unfold f_X5_next_35_J38 at h
  refine wa_aload_n C dX5_next_38 rfl ?_
  refine wa_aload_n C dX5_next_39 rfl ?_
  refine wa_geti (x := (μ.1 35 10)) C fl_RX5_51 rfl rfl (by decide) rfl dX5_next_40 ?_
  refine wa_puti C fl_RX5_45 fp_5_8 rfl rfl (by decide) rfl rfl dX5_next_43 ?_
  refine wa_aload_n C dX5_next_46 rfl ?_
  refine wa_geti (x := (μ.1 35 10)) C fl_RX5_51 rfl rfl (by decide) rfl dX5_next_47 ?_
  refine wa_aload_n C dX5_next_50 rfl ?_
  refine wa_geti (x := (μ.1 35 1)) C fl_RX5_15 rfl rfl (by decide) rfl dX5_next_51 ?_
  refine wa_icmp_lt (tgt := 64) C dX5_next_54 (by decide) (fun c2 => ?_) (fun c2 => ?_)
  · replace h := (if_pos c2).symm.trans h
    refine wa_aload_n C dX5_next_64 rfl ?_
    refine wa_getr C fl_RX5_11 rfl rfl (by decide) dX5_next_65 ?_
    refine wa_aload_n C dX5_next_68 rfl ?_
    refine wa_geti (x := (μ.1 35 10)) C fl_RX5_51 rfl rfl (by decide) rfl dX5_next_69 ?_
    obtain ⟨g3, h⟩ := gd h
    refine wa_bald (j := ((μ.1 35 10).toNatClampNeg)) (x := (μ.1 36 ((μ.1 35 10).toNatClampNeg))) C rfl (by decide) g3 rfl rfl dX5_next_72 ?_
    obtain ⟨q4, hq4, h⟩ := bd h
    refine wa_callS C (r_X5_isLetter hq4) mk_X5_isLetter ms_X5_isLetter qw_235 rfl ⟨Nat.le_of_ble_eq_true rfl, Nat.le_of_ble_eq_true rfl⟩ ⟨Nat.zero_le _, Nat.zero_le _⟩ (Nat.le_of_ble_eq_true rfl) dX5_next_73 rfl ?_
    refine wa_if_eq (tgt := 85) C dX5_next_76 (by decide) (fun c5 => ?_) (fun c5 => ?_)
    · replace h := (if_pos c5).symm.trans h
      refine wa_aload_n C dX5_next_85 rfl ?_
      refine wa_getr C fl_RX5_11 rfl rfl (by decide) dX5_next_86 ?_
      refine wa_aload_n C dX5_next_89 rfl ?_
      refine wa_geti (x := (q4.2.1 35 10)) C fl_RX5_51 rfl rfl (by decide) rfl dX5_next_90 ?_
      obtain ⟨g6, h⟩ := gd h
      refine wa_bald (j := ((q4.2.1 35 10).toNatClampNeg)) (x := (q4.2.1 36 ((q4.2.1 35 10).toNatClampNeg))) C rfl (by decide) g6 rfl rfl dX5_next_93 ?_
      obtain ⟨q7, hq7, h⟩ := bd h
      refine wa_callS C (r_X5_isFigure hq7) mk_X5_isFigure ms_X5_isFigure qw_242 rfl ⟨Nat.le_of_ble_eq_true rfl, Nat.le_of_ble_eq_true rfl⟩ ⟨Nat.zero_le _, Nat.zero_le _⟩ (Nat.le_of_ble_eq_true rfl) dX5_next_94 rfl ?_
      refine wa_if_eq (tgt := 105) C dX5_next_97 (by decide) (fun c8 => ?_) (fun c8 => ?_)
      · replace h := (if_pos c8).symm.trans h
        refine wa_aload_n C dX5_next_105 rfl ?_
        refine wa_getr C fl_RX5_11 rfl rfl (by decide) dX5_next_106 ?_
        refine wa_aload_n C dX5_next_109 rfl ?_
        refine wa_geti (x := (q7.2.1 35 10)) C fl_RX5_51 rfl rfl (by decide) rfl dX5_next_110 ?_
        obtain ⟨g9, h⟩ := gd h
        refine wa_bald (j := ((q7.2.1 35 10).toNatClampNeg)) (x := (q7.2.1 36 ((q7.2.1 35 10).toNatClampNeg))) C rfl (by decide) g9 rfl rfl dX5_next_113 ?_
        refine wa_bipush (v := 59) C dX5_next_114 (by decide) ?_
        refine wa_icmp_eq (tgt := 129) C dX5_next_116 (by decide) (fun c10 => ?_) (fun c10 => ?_)
        · replace h := (if_pos c10).symm.trans h
          refine wa_aload_n C dX5_next_129 rfl ?_
          refine wa_iconst (v := 3) C dX5_next_130 (by decide) ?_
          refine wa_puti C fl_RX5_42 fp_5_7 rfl rfl (by decide) rfl rfl dX5_next_131 ?_
          refine wa_aload_n C dX5_next_134 rfl ?_
          refine wa_dup C dX5_next_135 rfl ?_
          refine wa_geti (x := (q7.2.1 35 10)) C fl_RX5_51 rfl rfl (by decide) rfl dX5_next_136 ?_
          refine wa_iconst (v := 1) C dX5_next_139 (by decide) ?_
          refine wa_iadd C dX5_next_140 ?_
          refine wa_puti C fl_RX5_51 fp_5_10 rfl rfl (by decide) rfl rfl dX5_next_141 ?_
          refine wa_iconst (v := 1) C dX5_next_144 (by decide) ?_
          obtain rfl := Option.some.inj h
          exact wa_zret C rfl dX5_next_145
        · replace h := (if_neg c10).symm.trans h
          refine wa_aload_n C dX5_next_119 rfl ?_
          refine wa_iconst (v := 1) C dX5_next_120 (by decide) ?_
          refine wa_aload_n C dX5_next_121 rfl ?_
          refine wa_geti (x := (q7.2.1 35 8)) C fl_RX5_45 rfl rfl (by decide) rfl dX5_next_122 ?_
          obtain ⟨q11, hq11, h⟩ := bd h
          refine wa_callV C (r_X5_refuse_35 hq11) mk_X5_refuse mv_X5_refuse qw_249 rfl (by decide) rfl rfl ⟨Nat.le_of_ble_eq_true rfl, Nat.le_of_ble_eq_true rfl⟩ ⟨Nat.zero_le _, Nat.zero_le _⟩ (Nat.le_of_ble_eq_true rfl) dX5_next_125 rfl ?_
          obtain ⟨g12, h⟩ := gd h
          obtain rfl := Option.some.inj h
          exact wa_zret C g12 dX5_next_128
      · replace h := (if_neg c8).symm.trans h
        refine wa_aload_n C dX5_next_100 rfl ?_
        obtain ⟨q13, hq13, h⟩ := bd h
        refine wa_callV C (r_X5_figures_35 hq13) mk_X5_figures mv_X5_figures qw_245 rfl (by decide) rfl rfl ⟨Nat.le_of_ble_eq_true rfl, Nat.le_of_ble_eq_true rfl⟩ ⟨Nat.zero_le _, Nat.zero_le _⟩ (Nat.le_of_ble_eq_true rfl) dX5_next_101 rfl ?_
        obtain ⟨g14, h⟩ := gd h
        obtain rfl := Option.some.inj h
        exact wa_zret C g14 dX5_next_104
    · replace h := (if_neg c5).symm.trans h
      refine wa_aload_n C dX5_next_79 rfl ?_
      obtain ⟨q15, hq15, h⟩ := bd h
      refine wa_callV C (r_X5_letters_35 hq15) mk_X5_letters mv_X5_letters qw_238 rfl (by decide) rfl rfl ⟨Nat.le_of_ble_eq_true rfl, Nat.le_of_ble_eq_true rfl⟩ ⟨Nat.zero_le _, Nat.zero_le _⟩ (Nat.le_of_ble_eq_true rfl) dX5_next_80 rfl ?_
      refine wa_iconst (v := 1) C dX5_next_83 (by decide) ?_
      obtain rfl := Option.some.inj h
      exact wa_zret C rfl dX5_next_84
  · replace h := (if_neg c2).symm.trans h
    refine wa_aload_n C dX5_next_57 rfl ?_
    refine wa_iconst (v := 0) C dX5_next_58 (by decide) ?_
    refine wa_puti C fl_RX5_42 fp_5_7 rfl rfl (by decide) rfl rfl dX5_next_59 ?_
    refine wa_iconst (v := 1) C dX5_next_62 (by decide) ?_
    obtain rfl := Option.some.inj h
    exact wa_zret C rfl dX5_next_63
set_option maxRecDepth 100000 in
set_option maxHeartbeats 4000000 in
theorem r_X5_next_35_L0 {p : Program} {l : Launch} {e : Env} {s : State} {m : MethodId} {args : Array Value} {below : List Frame} {meth : Method} {c : Code} {D : va_G} {cy : Nat → ClassId} {ad : Nat → Nat} (C : CX p s m args meth c cX5_next 1 RX5 (some .boolean) D cy ad (AD ad)) {ρ : (Int32 × Mem)} : ∀ (n : Nat) (μ : Mem), it1 (f_X5_next_35_L0) n μ = some ρ → WA p l e (rmD 2) s m args below meth c 1 D cy ad (AD ad) 0 0 (ZZ below args s D cy ad (AD ad) 0 0 (some (.int ρ.1)) ρ.2) μ [(0, .ref 35)] 0 [] := by
  intro n
  induction n with
  | zero =>
    intro μ h
    exact absurd h (fun h => by cases h)
  | succ n ih =>
    intro μ h
    replace h : f_X5_next_35_L0 (it1 (f_X5_next_35_L0) n) μ = some ρ := h
    unfold f_X5_next_35_L0 at h
    refine wa_aload_n C dX5_next_0 rfl ?_
    refine wa_geti (x := (μ.1 35 10)) C fl_RX5_51 rfl rfl (by decide) rfl dX5_next_1 ?_
    refine wa_aload_n C dX5_next_4 rfl ?_
    refine wa_geti (x := (μ.1 35 1)) C fl_RX5_15 rfl rfl (by decide) rfl dX5_next_5 ?_
    refine wa_icmp_ge (tgt := 38) C dX5_next_8 (by decide) (fun c1 => ?_) (fun c1 => ?_)
    · replace h := (if_pos c1).symm.trans h
      exact WA.sub (lsub_c rfl lsub_n) (r_X5_next_35_J38 C h)
    · replace h := (if_neg c1).symm.trans h
      refine wa_aload_n C dX5_next_11 rfl ?_
      refine wa_getr C fl_RX5_11 rfl rfl (by decide) dX5_next_12 ?_
      refine wa_aload_n C dX5_next_15 rfl ?_
      refine wa_geti (x := (μ.1 35 10)) C fl_RX5_51 rfl rfl (by decide) rfl dX5_next_16 ?_
      obtain ⟨g16, h⟩ := gd h
      refine wa_bald (j := ((μ.1 35 10).toNatClampNeg)) (x := (μ.1 36 ((μ.1 35 10).toNatClampNeg))) C rfl (by decide) g16 rfl rfl dX5_next_19 ?_
      refine wa_bipush (v := 32) C dX5_next_20 (by decide) ?_
      refine wa_icmp_ne (tgt := 38) C dX5_next_22 (by decide) (fun c17 => ?_) (fun c17 => ?_)
      · replace h := (if_neg c17).symm.trans h
        exact WA.sub (lsub_c rfl lsub_n) (r_X5_next_35_J38 C h)
      · replace h := (if_pos c17).symm.trans h
        refine wa_aload_n C dX5_next_25 rfl ?_
        refine wa_dup C dX5_next_26 rfl ?_
        refine wa_geti (x := (μ.1 35 10)) C fl_RX5_51 rfl rfl (by decide) rfl dX5_next_27 ?_
        refine wa_iconst (v := 1) C dX5_next_30 (by decide) ?_
        refine wa_iadd C dX5_next_31 ?_
        refine wa_puti C fl_RX5_51 fp_5_10 rfl rfl (by decide) rfl rfl dX5_next_32 ?_
        refine wa_goto (tgt := 0) C dX5_next_35 (by decide) ?_
        exact WA.sub (lsub_c rfl lsub_n) (ih _ h)
set_option maxRecDepth 100000 in
set_option maxHeartbeats 4000000 in
theorem r_X5_next_35 {μ : Mem} {ρ : (Int32 × Mem)} (h : f_X5_next_35 μ = some ρ) : HT 2 yX5_next cX5_next 1 (some .boolean) [.ref 35] μ (some (.int ρ.1)) ρ.2 := by
  refine HT.of (by decide +kernel) (Nat.le_of_ble_eq_true rfl) (fun C => ?_)
  unfold f_X5_next_35 at h
  exact WA.sub (lsub_c rfl lsub_n) (r_X5_next_35_L0 C  _ _ h)
def f_X1_watches_37 (μ : Mem) : Option (Int32 × Mem) :=
  if inb (μ.1 37 0) 4 = false then none else
  some ((powF ((μ.1 37 0).toNatClampNeg)), μ)
set_option maxRecDepth 100000 in
set_option maxHeartbeats 4000000 in
theorem r_X1_watches_37 {μ : Mem} {ρ : (Int32 × Mem)} (h : f_X1_watches_37 μ = some ρ) : HT 0 yX1_watches cX1_watches 1 (some .int) [.ref 37] μ (some (.int ρ.1)) ρ.2 := by
  refine HT.of (by decide +kernel) (Nat.le_of_ble_eq_true rfl) (fun C => ?_)
  unfold f_X1_watches_37 at h
  refine wa_gpow1 C dX1_watches_0 ?_
  refine wa_aload_n C dX1_watches_3 rfl ?_
  refine wa_geti (x := (μ.1 37 0)) C fl_RX1_9 rfl rfl (by decide) rfl dX1_watches_4 ?_
  obtain ⟨g1, h⟩ := gd h
  refine wa_pald (j := ((μ.1 37 0).toNatClampNeg)) C g1 rfl dX1_watches_7 ?_
  obtain rfl := Option.some.inj h
  exact wa_iret C dX1_watches_8
def f_X1_hasWatch_37 (a1 : Int32) (μ : Mem) : Option (Int32 × Mem) :=
  if a1 < 0 then
    some ((0 : Int32), μ)
  else
    (f_X1_watches_37 μ).bind fun q2 =>
    if q2.1 ≤ a1 then
      some ((0 : Int32), q2.2)
    else
      some ((1 : Int32), q2.2)
set_option maxRecDepth 100000 in
set_option maxHeartbeats 4000000 in
theorem r_X1_hasWatch_37 {a1 : Int32} {μ : Mem} {ρ : (Int32 × Mem)} (h : f_X1_hasWatch_37 a1 μ = some ρ) : HT 1 yX1_hasWatch cX1_hasWatch 2 (some .boolean) [.ref 37, .int a1] μ (some (.int ρ.1)) ρ.2 := by
  refine HT.of (by decide +kernel) (Nat.le_of_ble_eq_true rfl) (fun C => ?_)
  unfold f_X1_hasWatch_37 at h
  refine wa_iload_n C dX1_hasWatch_0 rfl ?_
  refine wa_if_lt (tgt := 16) C dX1_hasWatch_1 (by decide) (fun c1 => ?_) (fun c1 => ?_)
  · replace h := (if_pos c1).symm.trans h
    refine wa_iconst (v := 0) C dX1_hasWatch_16 (by decide) ?_
    obtain rfl := Option.some.inj h
    exact wa_zret C rfl dX1_hasWatch_17
  · replace h := (if_neg c1).symm.trans h
    refine wa_iload_n C dX1_hasWatch_4 rfl ?_
    refine wa_aload_n C dX1_hasWatch_5 rfl ?_
    obtain ⟨q2, hq2, h⟩ := bd h
    refine wa_callV C (r_X1_watches_37 hq2) mk_X1_watches mv_X1_watches qw_265 rfl (by decide) rfl rfl ⟨Nat.le_of_ble_eq_true rfl, Nat.le_of_ble_eq_true rfl⟩ ⟨Nat.zero_le _, Nat.zero_le _⟩ (Nat.le_of_ble_eq_true rfl) dX1_hasWatch_6 rfl ?_
    refine wa_icmp_ge (tgt := 16) C dX1_hasWatch_9 (by decide) (fun c3 => ?_) (fun c3 => ?_)
    · replace h := (if_pos c3).symm.trans h
      refine wa_iconst (v := 0) C dX1_hasWatch_16 (by decide) ?_
      obtain rfl := Option.some.inj h
      exact wa_zret C rfl dX1_hasWatch_17
    · replace h := (if_neg c3).symm.trans h
      refine wa_iconst (v := 1) C dX1_hasWatch_12 (by decide) ?_
      refine wa_goto (tgt := 17) C dX1_hasWatch_13 (by decide) ?_
      obtain rfl := Option.some.inj h
      exact wa_zret C rfl dX1_hasWatch_17
def f_X5_agrees_35_L83 (k83 : Int32 → Mem → Option (Int32 × Mem)) (a2 : Int32) (μ : Mem) : Option (Int32 × Mem) :=
    if (6 : Int32) ≤ a2 then
      some ((1 : Int32), μ)
    else
      if inb a2 6 = false then none else
      (f_X1_hasWatch_37 (μ.1 45 (a2.toNatClampNeg)) μ).bind fun q6 =>
      if q6.1 = 0 then
        (f_X5_refuse_35 (7 : Int32) (q6.2.1 35 1) q6.2).bind fun q8 =>
        if zb q8.1 = false then none else
        some (q8.1, q8.2)
      else
        k83 (a2 + 1) q6.2
def f_X5_agrees_35_J70 (μ : Mem) : Option (Int32 × Mem) :=
  (f_X5_refuse_35 (6 : Int32) (μ.1 35 1) μ).bind fun q10 =>
  if zb q10.1 = false then none else
  some (q10.1, q10.2)
def f_X5_agrees_35_J30 (k4 : Int32 → Int32 → Option (Int32 × Mem)) (a2 : Int32) (t0 : Int32) (t1 : Int32) (μ : Mem) : Option (Int32 × Mem) :=
  k4 (t0 ||| t1) (a2 + 1)
def f_X5_agrees_35_L4 (μ : Mem) (k4 : Int32 → Int32 → Option (Int32 × Mem)) (a1 : Int32) (a2 : Int32) : Option (Int32 × Mem) :=
    if (6 : Int32) ≤ a2 then
      if ((μ.1 35 14) >>> ((μ.1 37 0) &&& 31)) = 0 then
        if ((a1 ||| (μ.1 35 13)) >>> ((μ.1 37 1) &&& 31)) = 0 then
          it2 (f_X5_agrees_35_L83) FU (0 : Int32) μ
        else
          f_X5_agrees_35_J70 μ
      else
        f_X5_agrees_35_J70 μ
    else
      if inb a2 6 = false then none else
      if (μ.1 44 (a2.toNatClampNeg)) = 0 then
        f_X5_agrees_35_J30 k4 a2 a1 (0 : Int32) μ
      else
        f_X5_agrees_35_J30 k4 a2 a1 ((1 : Int32) <<< (a2 &&& 31)) μ
def f_X5_agrees_35 (μ : Mem) : Option (Int32 × Mem) :=
  it2 (f_X5_agrees_35_L4 μ) FU (0 : Int32) (0 : Int32)
set_option maxRecDepth 100000 in
set_option maxHeartbeats 4000000 in
theorem r_X5_agrees_35_L83 {p : Program} {l : Launch} {e : Env} {s : State} {m : MethodId} {args : Array Value} {below : List Frame} {meth : Method} {c : Code} {D : va_G} {cy : Nat → ClassId} {ad : Nat → Nat} (C : CX p s m args meth c cX5_agrees 3 RX5 (some .boolean) D cy ad (AD ad)) {ρ : (Int32 × Mem)} : ∀ (n : Nat) (a2 : Int32) (μ : Mem), it2 (f_X5_agrees_35_L83) n a2 μ = some ρ → WA p l e (rmD 2) s m args below meth c 3 D cy ad (AD ad) 0 0 (ZZ below args s D cy ad (AD ad) 0 0 (some (.int ρ.1)) ρ.2) μ [(0, .ref 35), (2, .int a2)] 83 [] := by
  intro n
  induction n with
  | zero =>
    intro a2 μ h
    exact absurd h (fun h => by cases h)
  | succ n ih =>
    intro a2 μ h
    replace h : f_X5_agrees_35_L83 (it2 (f_X5_agrees_35_L83) n) a2 μ = some ρ := h
    unfold f_X5_agrees_35_L83 at h
    refine wa_iload_n C dX5_agrees_83 rfl ?_
    refine wa_bipush (v := 6) C dX5_agrees_84 (by decide) ?_
    refine wa_icmp_ge (tgt := 125) C dX5_agrees_86 (by decide) (fun c4 => ?_) (fun c4 => ?_)
    · replace h := (if_pos c4).symm.trans h
      refine wa_iconst (v := 1) C dX5_agrees_125 (by decide) ?_
      obtain rfl := Option.some.inj h
      exact wa_zret C rfl dX5_agrees_126
    · replace h := (if_neg c4).symm.trans h
      refine wa_aload_n C dX5_agrees_89 rfl ?_
      refine wa_getr C fl_RX5_31 rfl rfl (by decide) dX5_agrees_90 ?_
      refine wa_aload_n C dX5_agrees_93 rfl ?_
      refine wa_getr C fl_RX5_38 rfl rfl (by decide) dX5_agrees_94 ?_
      refine wa_getr C fl_RX5_154 rfl rfl (by decide) dX5_agrees_97 ?_
      refine wa_iload_n C dX5_agrees_100 rfl ?_
      obtain ⟨g5, h⟩ := gd h
      refine wa_iald (j := (a2.toNatClampNeg)) (x := (μ.1 45 (a2.toNatClampNeg))) C rfl (by decide) g5 rfl rfl dX5_agrees_101 ?_
      obtain ⟨q6, hq6, h⟩ := bd h
      refine wa_callV C (r_X1_hasWatch_37 hq6) mk_X1_hasWatch mv_X1_hasWatch qw_261 rfl (by decide) rfl rfl ⟨Nat.le_of_ble_eq_true rfl, Nat.le_of_ble_eq_true rfl⟩ ⟨Nat.zero_le _, Nat.zero_le _⟩ (Nat.le_of_ble_eq_true rfl) dX5_agrees_102 rfl ?_
      refine wa_if_ne (tgt := 119) C dX5_agrees_105 (by decide) (fun c7 => ?_) (fun c7 => ?_)
      · replace h := (if_neg c7).symm.trans h
        refine wa_iinc (v := (a2 + 1)) C dX5_agrees_119 rfl rfl (by decide) ?_
        refine wa_goto (tgt := 83) C dX5_agrees_122 (by decide) ?_
        exact WA.sub (lsub_c rfl (lsub_c rfl lsub_n)) (ih _ _ h)
      · replace h := (if_pos c7).symm.trans h
        refine wa_aload_n C dX5_agrees_108 rfl ?_
        refine wa_bipush (v := 7) C dX5_agrees_109 (by decide) ?_
        refine wa_aload_n C dX5_agrees_111 rfl ?_
        refine wa_geti (x := (q6.2.1 35 1)) C fl_RX5_15 rfl rfl (by decide) rfl dX5_agrees_112 ?_
        obtain ⟨q8, hq8, h⟩ := bd h
        refine wa_callV C (r_X5_refuse_35 hq8) mk_X5_refuse mv_X5_refuse qw_249 rfl (by decide) rfl rfl ⟨Nat.le_of_ble_eq_true rfl, Nat.le_of_ble_eq_true rfl⟩ ⟨Nat.zero_le _, Nat.zero_le _⟩ (Nat.le_of_ble_eq_true rfl) dX5_agrees_115 rfl ?_
        obtain ⟨g9, h⟩ := gd h
        obtain rfl := Option.some.inj h
        exact wa_zret C g9 dX5_agrees_118
set_option maxRecDepth 100000 in
set_option maxHeartbeats 4000000 in
theorem r_X5_agrees_35_J70 {p : Program} {l : Launch} {e : Env} {s : State} {m : MethodId} {args : Array Value} {below : List Frame} {meth : Method} {c : Code} {D : va_G} {cy : Nat → ClassId} {ad : Nat → Nat} (C : CX p s m args meth c cX5_agrees 3 RX5 (some .boolean) D cy ad (AD ad)) {μ : Mem} {ρ : (Int32 × Mem)} (h : f_X5_agrees_35_J70 μ = some ρ) : WA p l e (rmD 2) s m args below meth c 3 D cy ad (AD ad) 0 0 (ZZ below args s D cy ad (AD ad) 0 0 (some (.int ρ.1)) ρ.2) μ [(0, .ref 35)] 70 [] := by
  unfold f_X5_agrees_35_J70 at h
  refine wa_aload_n C dX5_agrees_70 rfl ?_
  refine wa_bipush (v := 6) C dX5_agrees_71 (by decide) ?_
  refine wa_aload_n C dX5_agrees_73 rfl ?_
  refine wa_geti (x := (μ.1 35 1)) C fl_RX5_15 rfl rfl (by decide) rfl dX5_agrees_74 ?_
  obtain ⟨q10, hq10, h⟩ := bd h
  refine wa_callV C (r_X5_refuse_35 hq10) mk_X5_refuse mv_X5_refuse qw_249 rfl (by decide) rfl rfl ⟨Nat.le_of_ble_eq_true rfl, Nat.le_of_ble_eq_true rfl⟩ ⟨Nat.zero_le _, Nat.zero_le _⟩ (Nat.le_of_ble_eq_true rfl) dX5_agrees_77 rfl ?_
  obtain ⟨g11, h⟩ := gd h
  obtain rfl := Option.some.inj h
  exact wa_zret C g11 dX5_agrees_80
set_option maxRecDepth 100000 in
set_option maxHeartbeats 4000000 in
theorem r_X5_agrees_35_J30 {p : Program} {l : Launch} {e : Env} {s : State} {m : MethodId} {args : Array Value} {below : List Frame} {meth : Method} {c : Code} {D : va_G} {cy : Nat → ClassId} {ad : Nat → Nat} (C : CX p s m args meth c cX5_agrees 3 RX5 (some .boolean) D cy ad (AD ad)) {a2 : Int32} {t0 : Int32} {t1 : Int32} {μ : Mem} {ρ : (Int32 × Mem)} (k4 : Int32 → Int32 → Option (Int32 × Mem)) (hk4 : ∀ (a1 : Int32) (a2 : Int32), k4 a1 a2 = some ρ → WA p l e (rmD 2) s m args below meth c 3 D cy ad (AD ad) 0 0 (ZZ below args s D cy ad (AD ad) 0 0 (some (.int ρ.1)) ρ.2) μ [(0, .ref 35), (1, .int a1), (2, .int a2)] 4 []) (h : f_X5_agrees_35_J30 k4 a2 t0 t1 μ = some ρ) : WA p l e (rmD 2) s m args below meth c 3 D cy ad (AD ad) 0 0 (ZZ below args s D cy ad (AD ad) 0 0 (some (.int ρ.1)) ρ.2) μ [(0, .ref 35), (2, .int a2)] 30 [.int t1, .int t0] := by
  unfold f_X5_agrees_35_J30 at h
  refine wa_ior C dX5_agrees_30 ?_
  refine wa_istore_n C dX5_agrees_31 (by decide) ?_
  refine wa_iinc (v := (a2 + 1)) C dX5_agrees_32 rfl rfl (by decide) ?_
  refine wa_goto (tgt := 4) C dX5_agrees_35 (by decide) ?_
  exact WA.sub (lsub_c rfl (lsub_c rfl (lsub_c rfl lsub_n))) (hk4 _ _ h)
set_option maxRecDepth 100000 in
set_option maxHeartbeats 4000000 in
theorem r_X5_agrees_35_L4 {p : Program} {l : Launch} {e : Env} {s : State} {m : MethodId} {args : Array Value} {below : List Frame} {meth : Method} {c : Code} {D : va_G} {cy : Nat → ClassId} {ad : Nat → Nat} (C : CX p s m args meth c cX5_agrees 3 RX5 (some .boolean) D cy ad (AD ad)) (μ : Mem) {ρ : (Int32 × Mem)} : ∀ (n : Nat) (a1 : Int32) (a2 : Int32), it2 (f_X5_agrees_35_L4 μ) n a1 a2 = some ρ → WA p l e (rmD 2) s m args below meth c 3 D cy ad (AD ad) 0 0 (ZZ below args s D cy ad (AD ad) 0 0 (some (.int ρ.1)) ρ.2) μ [(0, .ref 35), (1, .int a1), (2, .int a2)] 4 [] := by
  intro n
  induction n with
  | zero =>
    intro a1 a2 h
    exact absurd h (fun h => by cases h)
  | succ n ih =>
    intro a1 a2 h
    replace h : f_X5_agrees_35_L4 μ (it2 (f_X5_agrees_35_L4 μ) n) a1 a2 = some ρ := h
    unfold f_X5_agrees_35_L4 at h
    refine wa_iload_n C dX5_agrees_4 rfl ?_
    refine wa_bipush (v := 6) C dX5_agrees_5 (by decide) ?_
    refine wa_icmp_ge (tgt := 38) C dX5_agrees_7 (by decide) (fun c1 => ?_) (fun c1 => ?_)
    · replace h := (if_pos c1).symm.trans h
      refine wa_aload_n C dX5_agrees_38 rfl ?_
      refine wa_geti (x := (μ.1 35 14)) C fl_RX5_64 rfl rfl (by decide) rfl dX5_agrees_39 ?_
      refine wa_aload_n C dX5_agrees_42 rfl ?_
      refine wa_getr C fl_RX5_31 rfl rfl (by decide) dX5_agrees_43 ?_
      refine wa_geti (x := (μ.1 37 0)) C fl_RX5_125 rfl rfl (by decide) rfl dX5_agrees_46 ?_
      refine wa_ishr C dX5_agrees_49 ?_
      refine wa_if_ne (tgt := 70) C dX5_agrees_50 (by decide) (fun c2 => ?_) (fun c2 => ?_)
      · replace h := (if_neg c2).symm.trans h
        exact WA.sub (lsub_c rfl lsub_n) (r_X5_agrees_35_J70 C h)
      · replace h := (if_pos c2).symm.trans h
        refine wa_iload_n C dX5_agrees_53 rfl ?_
        refine wa_aload_n C dX5_agrees_54 rfl ?_
        refine wa_geti (x := (μ.1 35 13)) C fl_RX5_61 rfl rfl (by decide) rfl dX5_agrees_55 ?_
        refine wa_ior C dX5_agrees_58 ?_
        refine wa_aload_n C dX5_agrees_59 rfl ?_
        refine wa_getr C fl_RX5_31 rfl rfl (by decide) dX5_agrees_60 ?_
        refine wa_geti (x := (μ.1 37 1)) C fl_RX5_148 rfl rfl (by decide) rfl dX5_agrees_63 ?_
        refine wa_ishr C dX5_agrees_66 ?_
        refine wa_if_eq (tgt := 81) C dX5_agrees_67 (by decide) (fun c3 => ?_) (fun c3 => ?_)
        · replace h := (if_pos c3).symm.trans h
          refine wa_iconst (v := 0) C dX5_agrees_81 (by decide) ?_
          refine wa_istore_n C dX5_agrees_82 (by decide) ?_
          exact WA.sub (lsub_c rfl (lsub_c rfl lsub_n)) (r_X5_agrees_35_L83 C  _ _ _ h)
        · replace h := (if_neg c3).symm.trans h
          exact WA.sub (lsub_c rfl lsub_n) (r_X5_agrees_35_J70 C h)
    · replace h := (if_neg c1).symm.trans h
      refine wa_iload_n C dX5_agrees_10 rfl ?_
      refine wa_aload_n C dX5_agrees_11 rfl ?_
      refine wa_getr C fl_RX5_38 rfl rfl (by decide) dX5_agrees_12 ?_
      refine wa_getr C fl_RX5_152 rfl rfl (by decide) dX5_agrees_15 ?_
      refine wa_iload_n C dX5_agrees_18 rfl ?_
      obtain ⟨g12, h⟩ := gd h
      refine wa_iald (j := (a2.toNatClampNeg)) (x := (μ.1 44 (a2.toNatClampNeg))) C rfl (by decide) g12 rfl rfl dX5_agrees_19 ?_
      refine wa_if_eq (tgt := 29) C dX5_agrees_20 (by decide) (fun c13 => ?_) (fun c13 => ?_)
      · replace h := (if_pos c13).symm.trans h
        refine wa_iconst (v := 0) C dX5_agrees_29 (by decide) ?_
        exact WA.sub (lsub_c rfl (lsub_c rfl lsub_n)) (r_X5_agrees_35_J30 C _ (fun _ _ h => ih _ _ h) h)
      · replace h := (if_neg c13).symm.trans h
        refine wa_iconst (v := 1) C dX5_agrees_23 (by decide) ?_
        refine wa_iload_n C dX5_agrees_24 rfl ?_
        refine wa_ishl C dX5_agrees_25 ?_
        refine wa_goto (tgt := 30) C dX5_agrees_26 (by decide) ?_
        exact WA.sub (lsub_c rfl (lsub_c rfl lsub_n)) (r_X5_agrees_35_J30 C _ (fun _ _ h => ih _ _ h) h)
set_option maxRecDepth 100000 in
set_option maxHeartbeats 4000000 in
theorem r_X5_agrees_35 {μ : Mem} {ρ : (Int32 × Mem)} (h : f_X5_agrees_35 μ = some ρ) : HT 2 yX5_agrees cX5_agrees 3 (some .boolean) [.ref 35] μ (some (.int ρ.1)) ρ.2 := by
  refine HT.of (by decide +kernel) (Nat.le_of_ble_eq_true rfl) (fun C => ?_)
  unfold f_X5_agrees_35 at h
  refine wa_iconst (v := 0) C dX5_agrees_0 (by decide) ?_
  refine wa_istore_n C dX5_agrees_1 (by decide) ?_
  refine wa_iconst (v := 0) C dX5_agrees_2 (by decide) ?_
  refine wa_istore_n C dX5_agrees_3 (by decide) ?_
  exact WA.sub (lsub_c rfl (lsub_c rfl (lsub_c rfl lsub_n))) (r_X5_agrees_35_L4 C _ _ _ _ h)
def f_J0_coder_7d493_82 (μ : Mem) : Option (Int32 × Mem) :=
  if (1 : Int32) = 0 then
    some ((1 : Int32), μ)
  else
    some ((0 : Int32), μ)
set_option maxRecDepth 100000 in
set_option maxHeartbeats 4000000 in
theorem r_J0_coder_7d493_82 {μ : Mem} {ρ : (Int32 × Mem)} (h : f_J0_coder_7d493_82 μ = some ρ) : HT 0 yJ0_coder_7d493 cJ0_coder_7d493 1 (some .byte) [.ref 82] μ (some (.int ρ.1)) ρ.2 := by
  refine HT.of (by decide +kernel) (Nat.le_of_ble_eq_true rfl) (fun C => ?_)
  unfold f_J0_coder_7d493_82 at h
  refine wa_gcs C qw_287 dJ0_coder_7d493_0 ?_
  refine wa_if_eq (tgt := 13) C dJ0_coder_7d493_3 (by decide) (fun c1 => ?_) (fun c1 => ?_)
  · replace h := (if_pos c1).symm.trans h
    refine wa_iconst (v := 1) C dJ0_coder_7d493_13 (by decide) ?_
    obtain rfl := Option.some.inj h
    exact wa_nret C rfl dJ0_coder_7d493_14
  · replace h := (if_neg c1).symm.trans h
    refine wa_aload_n C dJ0_coder_7d493_6 rfl ?_
    refine wa_scod (i := 0) C (by decide) qw_288 dJ0_coder_7d493_7 ?_
    refine wa_goto (tgt := 14) C dJ0_coder_7d493_10 (by decide) ?_
    obtain rfl := Option.some.inj h
    exact wa_nret C rfl dJ0_coder_7d493_14
def f_J0_length_8abf5_82 (μ : Mem) : Option (Int32 × Mem) :=
  (f_J0_coder_7d493_82 μ).bind fun q1 =>
  some (((6 : Int32) >>> (q1.1 &&& 31)), q1.2)
set_option maxRecDepth 100000 in
set_option maxHeartbeats 4000000 in
theorem r_J0_length_8abf5_82 {μ : Mem} {ρ : (Int32 × Mem)} (h : f_J0_length_8abf5_82 μ = some ρ) : HT 1 yJ0_length_8abf5 cJ0_length_8abf5 1 (some .int) [.ref 82] μ (some (.int ρ.1)) ρ.2 := by
  refine HT.of (by decide +kernel) (Nat.le_of_ble_eq_true rfl) (fun C => ?_)
  unfold f_J0_length_8abf5_82 at h
  refine wa_aload_n C dJ0_length_8abf5_0 rfl ?_
  refine wa_sval (i := 0) C (by decide) qw_282 dJ0_length_8abf5_1 ?_
  refine wa_stralen (i := 0) (v := 6) C (by decide) rfl dJ0_length_8abf5_4 ?_
  refine wa_aload_n C dJ0_length_8abf5_5 rfl ?_
  obtain ⟨q1, hq1, h⟩ := bd h
  refine wa_callT (i := 0) C (r_J0_coder_7d493_82 hq1) mk_J0_coder_7d493 mv_J0_coder_7d493 qw_283 (by decide) rfl rfl ⟨Nat.le_of_ble_eq_true rfl, Nat.le_of_ble_eq_true rfl⟩ ⟨Nat.zero_le _, Nat.zero_le _⟩ (Nat.le_of_ble_eq_true rfl) dJ0_length_8abf5_6 rfl ?_
  refine wa_ishr C dJ0_length_8abf5_9 ?_
  obtain rfl := Option.some.inj h
  exact wa_iret C dJ0_length_8abf5_10
def f_J0_isLatin1_aae02_82 (μ : Mem) : Option (Int32 × Mem) :=
  if (1 : Int32) = 0 then
    some ((0 : Int32), μ)
  else
    if (0 : Int32) = 0 then
      some ((1 : Int32), μ)
    else
      some ((0 : Int32), μ)
set_option maxRecDepth 100000 in
set_option maxHeartbeats 4000000 in
theorem r_J0_isLatin1_aae02_82 {μ : Mem} {ρ : (Int32 × Mem)} (h : f_J0_isLatin1_aae02_82 μ = some ρ) : HT 0 yJ0_isLatin1_aae02 cJ0_isLatin1_aae02 1 (some .boolean) [.ref 82] μ (some (.int ρ.1)) ρ.2 := by
  refine HT.of (by decide +kernel) (Nat.le_of_ble_eq_true rfl) (fun C => ?_)
  unfold f_J0_isLatin1_aae02_82 at h
  refine wa_gcs C qw_287 dJ0_isLatin1_aae02_0 ?_
  refine wa_if_eq (tgt := 17) C dJ0_isLatin1_aae02_3 (by decide) (fun c1 => ?_) (fun c1 => ?_)
  · replace h := (if_pos c1).symm.trans h
    refine wa_iconst (v := 0) C dJ0_isLatin1_aae02_17 (by decide) ?_
    obtain rfl := Option.some.inj h
    exact wa_zret C rfl dJ0_isLatin1_aae02_18
  · replace h := (if_neg c1).symm.trans h
    refine wa_aload_n C dJ0_isLatin1_aae02_6 rfl ?_
    refine wa_scod (i := 0) C (by decide) qw_288 dJ0_isLatin1_aae02_7 ?_
    refine wa_if_ne (tgt := 17) C dJ0_isLatin1_aae02_10 (by decide) (fun c2 => ?_) (fun c2 => ?_)
    · replace h := (if_neg c2).symm.trans h
      refine wa_iconst (v := 0) C dJ0_isLatin1_aae02_17 (by decide) ?_
      obtain rfl := Option.some.inj h
      exact wa_zret C rfl dJ0_isLatin1_aae02_18
    · replace h := (if_pos c2).symm.trans h
      refine wa_iconst (v := 1) C dJ0_isLatin1_aae02_13 (by decide) ?_
      refine wa_goto (tgt := 18) C dJ0_isLatin1_aae02_14 (by decide) ?_
      obtain rfl := Option.some.inj h
      exact wa_zret C rfl dJ0_isLatin1_aae02_18
def f_J3_checkIndex_8e157_102_J9 (a0 : Int32) (a1 : Int32) (μ : Mem) : Option (Int32 × Mem) :=
  none
def f_J3_checkIndex_8e157_102 (a0 : Int32) (a1 : Int32) (μ : Mem) : Option (Int32 × Mem) :=
  if a0 < 0 then
    f_J3_checkIndex_8e157_102_J9 a0 a1 μ
  else
    if a0 < a1 then
      some (a0, μ)
    else
      f_J3_checkIndex_8e157_102_J9 a0 a1 μ
set_option maxRecDepth 100000 in
set_option maxHeartbeats 4000000 in
theorem r_J3_checkIndex_8e157_102_J9 {p : Program} {l : Launch} {e : Env} {s : State} {m : MethodId} {args : Array Value} {below : List Frame} {meth : Method} {c : Code} {D : va_G} {cy : Nat → ClassId} {ad : Nat → Nat} (C : CX p s m args meth c cJ3_checkIndex_8e157 3 RJ3 (some .int) D cy ad (AD ad)) {a0 : Int32} {a1 : Int32} {μ : Mem} {ρ : (Int32 × Mem)} (h : f_J3_checkIndex_8e157_102_J9 a0 a1 μ = some ρ) : WA p l e (rmD 0) s m args below meth c 3 D cy ad (AD ad) 0 0 (ZZ below args s D cy ad (AD ad) 0 0 (some (.int ρ.1)) ρ.2) μ [(0, .int a0), (1, .int a1), (2, .ref 102)] 9 [] := by
  unfold f_J3_checkIndex_8e157_102_J9 at h
  cases h
set_option maxRecDepth 100000 in
set_option maxHeartbeats 4000000 in
theorem r_J3_checkIndex_8e157_102 {a0 : Int32} {a1 : Int32} {μ : Mem} {ρ : (Int32 × Mem)} (h : f_J3_checkIndex_8e157_102 a0 a1 μ = some ρ) : HT 0 yJ3_checkIndex_8e157 cJ3_checkIndex_8e157 3 (some .int) [.int a0, .int a1, .ref 102] μ (some (.int ρ.1)) ρ.2 := by
  refine HT.of (by decide +kernel) (Nat.le_of_ble_eq_true rfl) (fun C => ?_)
  unfold f_J3_checkIndex_8e157_102 at h
  refine wa_iload_n C dJ3_checkIndex_8e157_0 rfl ?_
  refine wa_if_lt (tgt := 9) C dJ3_checkIndex_8e157_1 (by decide) (fun c1 => ?_) (fun c1 => ?_)
  · replace h := (if_pos c1).symm.trans h
    exact WA.sub (lsub_c rfl (lsub_c rfl (lsub_c rfl lsub_n))) (r_J3_checkIndex_8e157_102_J9 C h)
  · replace h := (if_neg c1).symm.trans h
    refine wa_iload_n C dJ3_checkIndex_8e157_4 rfl ?_
    refine wa_iload_n C dJ3_checkIndex_8e157_5 rfl ?_
    refine wa_icmp_lt (tgt := 16) C dJ3_checkIndex_8e157_6 (by decide) (fun c2 => ?_) (fun c2 => ?_)
    · replace h := (if_pos c2).symm.trans h
      refine wa_iload_n C dJ3_checkIndex_8e157_16 rfl ?_
      obtain rfl := Option.some.inj h
      exact wa_iret C dJ3_checkIndex_8e157_17
    · replace h := (if_neg c2).symm.trans h
      exact WA.sub (lsub_c rfl (lsub_c rfl (lsub_c rfl lsub_n))) (r_J3_checkIndex_8e157_102_J9 C h)
set_option maxRecDepth 100000 in
set_option maxHeartbeats 4000000 in
theorem r_J3_checkIndex_8e157_null_J9 {p : Program} {l : Launch} {e : Env} {s : State} {m : MethodId} {args : Array Value} {below : List Frame} {meth : Method} {c : Code} {D : va_G} {cy : Nat → ClassId} {ad : Nat → Nat} (C : CX p s m args meth c cJ3_checkIndex_8e157 3 RJ3 (some .int) D cy ad (AD ad)) {a0 : Int32} {a1 : Int32} {μ : Mem} {ρ : (Int32 × Mem)} (h : f_J3_checkIndex_8e157_102_J9 a0 a1 μ = some ρ) : WA p l e (rmD 0) s m args below meth c 3 D cy ad (AD ad) 0 0 (ZZ below args s D cy ad (AD ad) 0 0 (some (.int ρ.1)) ρ.2) μ [(0, .int a0), (1, .int a1), (2, .null)] 9 [] := by
  unfold f_J3_checkIndex_8e157_102_J9 at h
  cases h
set_option maxRecDepth 100000 in
set_option maxHeartbeats 4000000 in
theorem r_J3_checkIndex_8e157_null {a0 : Int32} {a1 : Int32} {μ : Mem} {ρ : (Int32 × Mem)} (h : f_J3_checkIndex_8e157_102 a0 a1 μ = some ρ) : HT 0 yJ3_checkIndex_8e157 cJ3_checkIndex_8e157 3 (some .int) [.int a0, .int a1, .null] μ (some (.int ρ.1)) ρ.2 := by
  refine HT.of (by decide +kernel) (Nat.le_of_ble_eq_true rfl) (fun C => ?_)
  unfold f_J3_checkIndex_8e157_102 at h
  refine wa_iload_n C dJ3_checkIndex_8e157_0 rfl ?_
  refine wa_if_lt (tgt := 9) C dJ3_checkIndex_8e157_1 (by decide) (fun c1 => ?_) (fun c1 => ?_)
  · replace h := (if_pos c1).symm.trans h
    exact WA.sub (lsub_c rfl (lsub_c rfl (lsub_c rfl lsub_n))) (r_J3_checkIndex_8e157_null_J9 C h)
  · replace h := (if_neg c1).symm.trans h
    refine wa_iload_n C dJ3_checkIndex_8e157_4 rfl ?_
    refine wa_iload_n C dJ3_checkIndex_8e157_5 rfl ?_
    refine wa_icmp_lt (tgt := 16) C dJ3_checkIndex_8e157_6 (by decide) (fun c2 => ?_) (fun c2 => ?_)
    · replace h := (if_pos c2).symm.trans h
      refine wa_iload_n C dJ3_checkIndex_8e157_16 rfl ?_
      obtain rfl := Option.some.inj h
      exact wa_iret C dJ3_checkIndex_8e157_17
    · replace h := (if_neg c2).symm.trans h
      exact WA.sub (lsub_c rfl (lsub_c rfl (lsub_c rfl lsub_n))) (r_J3_checkIndex_8e157_null_J9 C h)
def f_J0_checkIndex_df160 (a0 : Int32) (a1 : Int32) (μ : Mem) : Option Mem :=
    (f_J3_checkIndex_8e157_102 a0 a1 μ).bind fun q1 =>
    some q1.2
set_option maxRecDepth 100000 in
set_option maxHeartbeats 4000000 in
theorem r_J0_checkIndex_df160 {a0 : Int32} {a1 : Int32} {μ : Mem} {ρ : Mem} (h : f_J0_checkIndex_df160 a0 a1 μ = some ρ) : HT 1 yJ0_checkIndex_df160 cJ0_checkIndex_df160 2 none [.int a0, .int a1] μ none ρ := by
  refine HT.of (by decide +kernel) (Nat.le_of_ble_eq_true rfl) (fun C => ?_)
  unfold f_J0_checkIndex_df160 at h
  refine wa_iload_n C dJ0_checkIndex_df160_0 rfl ?_
  refine wa_iload_n C dJ0_checkIndex_df160_1 rfl ?_
  refine wa_gfmt C qw_304 dJ0_checkIndex_df160_2 ?_ ?_
  · obtain ⟨q1, hq1, h⟩ := bd h
    refine wa_callS C (r_J3_checkIndex_8e157_102 hq1) mk_J3_checkIndex_8e157 ms_J3_checkIndex_8e157 qw_305 rfl ⟨Nat.le_of_ble_eq_true rfl, Nat.le_of_ble_eq_true rfl⟩ ⟨Nat.zero_le _, Nat.zero_le _⟩ (Nat.le_of_ble_eq_true rfl) dJ0_checkIndex_df160_5 rfl ?_
    refine wa_pop C dJ0_checkIndex_df160_8 rfl ?_
    obtain rfl := Option.some.inj h
    exact wa_vret C dJ0_checkIndex_df160_9
  · obtain ⟨q1, hq1, h⟩ := bd h
    refine wa_callS C (r_J3_checkIndex_8e157_null hq1) mk_J3_checkIndex_8e157 ms_J3_checkIndex_8e157 qw_305 rfl ⟨Nat.le_of_ble_eq_true rfl, Nat.le_of_ble_eq_true rfl⟩ ⟨Nat.zero_le _, Nat.zero_le _⟩ (Nat.le_of_ble_eq_true rfl) dJ0_checkIndex_df160_5 rfl ?_
    refine wa_pop C dJ0_checkIndex_df160_8 rfl ?_
    obtain rfl := Option.some.inj h
    exact wa_vret C dJ0_checkIndex_df160_9
def f_J1_charAt_3b067_92 (a1 : Int32) (μ : Mem) : Option (Int32 × Mem) :=
  (f_J0_checkIndex_df160 a1 (6 : Int32) μ).bind fun q1 =>
  if inb a1 6 = false then none else
  if ncr ((((strB 0 (a1.toNatClampNeg)) &&& (255 : Int32)).toUInt32 % 65536).toInt32) = false then none else
  some (((((strB 0 (a1.toNatClampNeg)) &&& (255 : Int32)).toUInt32 % 65536).toInt32), q1)
set_option maxRecDepth 100000 in
set_option maxHeartbeats 4000000 in
theorem r_J1_charAt_3b067_92 {a1 : Int32} {μ : Mem} {ρ : (Int32 × Mem)} (h : f_J1_charAt_3b067_92 a1 μ = some ρ) : HT 2 yJ1_charAt_3b067 cJ1_charAt_3b067 2 (some .char) [.ref 92, .int a1] μ (some (.int ρ.1)) ρ.2 := by
  refine HT.of (by decide +kernel) (Nat.le_of_ble_eq_true rfl) (fun C => ?_)
  unfold f_J1_charAt_3b067_92 at h
  refine wa_iload_n C dJ1_charAt_3b067_0 rfl ?_
  refine wa_aload_n C dJ1_charAt_3b067_1 rfl ?_
  refine wa_stralen (i := 0) (v := 6) C (by decide) rfl dJ1_charAt_3b067_2 ?_
  obtain ⟨q1, hq1, h⟩ := bd h
  refine wa_callS C (r_J0_checkIndex_df160 hq1) mk_J0_checkIndex_df160 ms_J0_checkIndex_df160 qw_301 rfl ⟨Nat.le_of_ble_eq_true rfl, Nat.le_of_ble_eq_true rfl⟩ ⟨Nat.zero_le _, Nat.zero_le _⟩ (Nat.le_of_ble_eq_true rfl) dJ1_charAt_3b067_3 rfl ?_
  refine wa_aload_n C dJ1_charAt_3b067_6 rfl ?_
  refine wa_iload_n C dJ1_charAt_3b067_7 rfl ?_
  obtain ⟨g2, h⟩ := gd h
  refine wa_strb (i := 0) (j := (a1.toNatClampNeg)) C (by decide) g2 rfl dJ1_charAt_3b067_8 ?_
  refine wa_sipush (v := 255) C dJ1_charAt_3b067_9 (by decide) ?_
  refine wa_iand C dJ1_charAt_3b067_12 ?_
  refine wa_i2c (v := ((((strB 0 (a1.toNatClampNeg)) &&& (255 : Int32)).toUInt32 % 65536).toInt32)) C dJ1_charAt_3b067_13 rfl ?_
  obtain ⟨g3, h⟩ := gd h
  obtain rfl := Option.some.inj h
  exact wa_nret C (ncr_nar g3) dJ1_charAt_3b067_14
def f_J0_charAt_5068e_82 (a1 : Int32) (μ : Mem) : Option (Int32 × Mem) :=
  (f_J0_isLatin1_aae02_82 μ).bind fun q1 =>
  if q1.1 = 0 then
    none
  else
    (f_J1_charAt_3b067_92 a1 q1.2).bind fun q3 =>
    if ncr q3.1 = false then none else
    some (q3.1, q3.2)
set_option maxRecDepth 100000 in
set_option maxHeartbeats 4000000 in
theorem r_J0_charAt_5068e_82 {a1 : Int32} {μ : Mem} {ρ : (Int32 × Mem)} (h : f_J0_charAt_5068e_82 a1 μ = some ρ) : HT 3 yJ0_charAt_5068e cJ0_charAt_5068e 2 (some .char) [.ref 82, .int a1] μ (some (.int ρ.1)) ρ.2 := by
  refine HT.of (by decide +kernel) (Nat.le_of_ble_eq_true rfl) (fun C => ?_)
  unfold f_J0_charAt_5068e_82 at h
  refine wa_aload_n C dJ0_charAt_5068e_0 rfl ?_
  obtain ⟨q1, hq1, h⟩ := bd h
  refine wa_callT (i := 0) C (r_J0_isLatin1_aae02_82 hq1) mk_J0_isLatin1_aae02 mv_J0_isLatin1_aae02 qw_293 (by decide) rfl rfl ⟨Nat.le_of_ble_eq_true rfl, Nat.le_of_ble_eq_true rfl⟩ ⟨Nat.zero_le _, Nat.zero_le _⟩ (Nat.le_of_ble_eq_true rfl) dJ0_charAt_5068e_1 rfl ?_
  refine wa_if_eq (tgt := 16) C dJ0_charAt_5068e_4 (by decide) (fun c2 => ?_) (fun c2 => ?_)
  · replace h := (if_pos c2).symm.trans h
    cases h
  · replace h := (if_neg c2).symm.trans h
    refine wa_aload_n C dJ0_charAt_5068e_7 rfl ?_
    refine wa_sval (i := 0) C (by decide) qw_282 dJ0_charAt_5068e_8 ?_
    refine wa_iload_n C dJ0_charAt_5068e_11 rfl ?_
    obtain ⟨q3, hq3, h⟩ := bd h
    refine wa_callS C (r_J1_charAt_3b067_92 hq3) mk_J1_charAt_3b067 ms_J1_charAt_3b067 qw_297 rfl ⟨Nat.le_of_ble_eq_true rfl, Nat.le_of_ble_eq_true rfl⟩ ⟨Nat.zero_le _, Nat.zero_le _⟩ (Nat.le_of_ble_eq_true rfl) dJ0_charAt_5068e_12 rfl ?_
    obtain ⟨g4, h⟩ := gd h
    obtain rfl := Option.some.inj h
    exact wa_nret C (ncr_nar g4) dJ0_charAt_5068e_15
def f_X5_isName_35_82_L20 (k20 : Int32 → Mem → Option (Int32 × Mem)) (a2 : Int32) (μ : Mem) : Option (Int32 × Mem) :=
    (f_J0_length_8abf5_82 μ).bind fun q3 =>
    if q3.1 ≤ a2 then
      some ((1 : Int32), q3.2)
    else
      if inb ((q3.2.1 35 8) + a2) 320 = false then none else
      (f_J0_charAt_5068e_82 a2 q3.2).bind fun q6 =>
      if (q3.2.1 36 (((q3.2.1 35 8) + a2).toNatClampNeg)) = q6.1 then
        k20 (a2 + 1) q6.2
      else
        some ((0 : Int32), q6.2)
def f_X5_isName_35_82 (μ : Mem) : Option (Int32 × Mem) :=
  (f_J0_length_8abf5_82 μ).bind fun q1 =>
  if ((μ.1 35 10) - (μ.1 35 8)) = q1.1 then
    it2 (f_X5_isName_35_82_L20) FU (0 : Int32) q1.2
  else
    some ((0 : Int32), q1.2)
set_option maxRecDepth 100000 in
set_option maxHeartbeats 4000000 in
theorem r_X5_isName_35_82_L20 {p : Program} {l : Launch} {e : Env} {s : State} {m : MethodId} {args : Array Value} {below : List Frame} {meth : Method} {c : Code} {D : va_G} {cy : Nat → ClassId} {ad : Nat → Nat} (C : CX p s m args meth c cX5_isName 3 RX5 (some .boolean) D cy ad (AD ad)) {ρ : (Int32 × Mem)} : ∀ (n : Nat) (a2 : Int32) (μ : Mem), it2 (f_X5_isName_35_82_L20) n a2 μ = some ρ → WA p l e (rmD 4) s m args below meth c 3 D cy ad (AD ad) 0 0 (ZZ below args s D cy ad (AD ad) 0 0 (some (.int ρ.1)) ρ.2) μ [(0, .ref 35), (1, .ref 82), (2, .int a2)] 20 [] := by
  intro n
  induction n with
  | zero =>
    intro a2 μ h
    exact absurd h (fun h => by cases h)
  | succ n ih =>
    intro a2 μ h
    replace h : f_X5_isName_35_82_L20 (it2 (f_X5_isName_35_82_L20) n) a2 μ = some ρ := h
    unfold f_X5_isName_35_82_L20 at h
    refine wa_iload_n C dX5_isName_20 rfl ?_
    refine wa_aload_n C dX5_isName_21 rfl ?_
    obtain ⟨q3, hq3, h⟩ := bd h
    refine wa_callT (i := 0) C (r_J0_length_8abf5_82 hq3) mk_J0_length_8abf5 mv_J0_length_8abf5 qw_277 (by decide) rfl rfl ⟨Nat.le_of_ble_eq_true rfl, Nat.le_of_ble_eq_true rfl⟩ ⟨Nat.zero_le _, Nat.zero_le _⟩ (Nat.le_of_ble_eq_true rfl) dX5_isName_22 rfl ?_
    refine wa_icmp_ge (tgt := 55) C dX5_isName_25 (by decide) (fun c4 => ?_) (fun c4 => ?_)
    · replace h := (if_pos c4).symm.trans h
      refine wa_iconst (v := 1) C dX5_isName_55 (by decide) ?_
      obtain rfl := Option.some.inj h
      exact wa_zret C rfl dX5_isName_56
    · replace h := (if_neg c4).symm.trans h
      refine wa_aload_n C dX5_isName_28 rfl ?_
      refine wa_getr C fl_RX5_11 rfl rfl (by decide) dX5_isName_29 ?_
      refine wa_aload_n C dX5_isName_32 rfl ?_
      refine wa_geti (x := (q3.2.1 35 8)) C fl_RX5_45 rfl rfl (by decide) rfl dX5_isName_33 ?_
      refine wa_iload_n C dX5_isName_36 rfl ?_
      refine wa_iadd C dX5_isName_37 ?_
      obtain ⟨g5, h⟩ := gd h
      refine wa_bald (j := (((q3.2.1 35 8) + a2).toNatClampNeg)) (x := (q3.2.1 36 (((q3.2.1 35 8) + a2).toNatClampNeg))) C rfl (by decide) g5 rfl rfl dX5_isName_38 ?_
      refine wa_aload_n C dX5_isName_39 rfl ?_
      refine wa_iload_n C dX5_isName_40 rfl ?_
      obtain ⟨q6, hq6, h⟩ := bd h
      refine wa_callT (i := 0) C (r_J0_charAt_5068e_82 hq6) mk_J0_charAt_5068e mv_J0_charAt_5068e qw_289 (by decide) rfl rfl ⟨Nat.le_of_ble_eq_true rfl, Nat.le_of_ble_eq_true rfl⟩ ⟨Nat.zero_le _, Nat.zero_le _⟩ (Nat.le_of_ble_eq_true rfl) dX5_isName_41 rfl ?_
      refine wa_icmp_eq (tgt := 49) C dX5_isName_44 (by decide) (fun c7 => ?_) (fun c7 => ?_)
      · replace h := (if_pos c7).symm.trans h
        refine wa_iinc (v := (a2 + 1)) C dX5_isName_49 rfl rfl (by decide) ?_
        refine wa_goto (tgt := 20) C dX5_isName_52 (by decide) ?_
        exact WA.sub (lsub_c rfl (lsub_c rfl (lsub_c rfl lsub_n))) (ih _ _ h)
      · replace h := (if_neg c7).symm.trans h
        refine wa_iconst (v := 0) C dX5_isName_47 (by decide) ?_
        obtain rfl := Option.some.inj h
        exact wa_zret C rfl dX5_isName_48
set_option maxRecDepth 100000 in
set_option maxHeartbeats 4000000 in
theorem r_X5_isName_35_82 {μ : Mem} {ρ : (Int32 × Mem)} (h : f_X5_isName_35_82 μ = some ρ) : HT 4 yX5_isName cX5_isName 3 (some .boolean) [.ref 35, .ref 82] μ (some (.int ρ.1)) ρ.2 := by
  refine HT.of (by decide +kernel) (Nat.le_of_ble_eq_true rfl) (fun C => ?_)
  unfold f_X5_isName_35_82 at h
  refine wa_aload_n C dX5_isName_0 rfl ?_
  refine wa_geti (x := (μ.1 35 10)) C fl_RX5_51 rfl rfl (by decide) rfl dX5_isName_1 ?_
  refine wa_aload_n C dX5_isName_4 rfl ?_
  refine wa_geti (x := (μ.1 35 8)) C fl_RX5_45 rfl rfl (by decide) rfl dX5_isName_5 ?_
  refine wa_isub C dX5_isName_8 ?_
  refine wa_aload_n C dX5_isName_9 rfl ?_
  obtain ⟨q1, hq1, h⟩ := bd h
  refine wa_callT (i := 0) C (r_J0_length_8abf5_82 hq1) mk_J0_length_8abf5 mv_J0_length_8abf5 qw_277 (by decide) rfl rfl ⟨Nat.le_of_ble_eq_true rfl, Nat.le_of_ble_eq_true rfl⟩ ⟨Nat.zero_le _, Nat.zero_le _⟩ (Nat.le_of_ble_eq_true rfl) dX5_isName_10 rfl ?_
  refine wa_icmp_eq (tgt := 18) C dX5_isName_13 (by decide) (fun c2 => ?_) (fun c2 => ?_)
  · replace h := (if_pos c2).symm.trans h
    refine wa_iconst (v := 0) C dX5_isName_18 (by decide) ?_
    refine wa_istore_n C dX5_isName_19 (by decide) ?_
    exact WA.sub (lsub_c rfl (lsub_c rfl (lsub_c rfl lsub_n))) (r_X5_isName_35_82_L20 C  _ _ _ h)
  · replace h := (if_neg c2).symm.trans h
    refine wa_iconst (v := 0) C dX5_isName_16 (by decide) ?_
    obtain rfl := Option.some.inj h
    exact wa_zret C rfl dX5_isName_17
def f_J0_coder_7d493_83 (μ : Mem) : Option (Int32 × Mem) :=
  if (1 : Int32) = 0 then
    some ((1 : Int32), μ)
  else
    some ((0 : Int32), μ)
set_option maxRecDepth 100000 in
set_option maxHeartbeats 4000000 in
theorem r_J0_coder_7d493_83 {μ : Mem} {ρ : (Int32 × Mem)} (h : f_J0_coder_7d493_83 μ = some ρ) : HT 0 yJ0_coder_7d493 cJ0_coder_7d493 1 (some .byte) [.ref 83] μ (some (.int ρ.1)) ρ.2 := by
  refine HT.of (by decide +kernel) (Nat.le_of_ble_eq_true rfl) (fun C => ?_)
  unfold f_J0_coder_7d493_83 at h
  refine wa_gcs C qw_287 dJ0_coder_7d493_0 ?_
  refine wa_if_eq (tgt := 13) C dJ0_coder_7d493_3 (by decide) (fun c1 => ?_) (fun c1 => ?_)
  · replace h := (if_pos c1).symm.trans h
    refine wa_iconst (v := 1) C dJ0_coder_7d493_13 (by decide) ?_
    obtain rfl := Option.some.inj h
    exact wa_nret C rfl dJ0_coder_7d493_14
  · replace h := (if_neg c1).symm.trans h
    refine wa_aload_n C dJ0_coder_7d493_6 rfl ?_
    refine wa_scod (i := 1) C (by decide) qw_288 dJ0_coder_7d493_7 ?_
    refine wa_goto (tgt := 14) C dJ0_coder_7d493_10 (by decide) ?_
    obtain rfl := Option.some.inj h
    exact wa_nret C rfl dJ0_coder_7d493_14
def f_J0_length_8abf5_83 (μ : Mem) : Option (Int32 × Mem) :=
  (f_J0_coder_7d493_83 μ).bind fun q1 =>
  some (((8 : Int32) >>> (q1.1 &&& 31)), q1.2)
set_option maxRecDepth 100000 in
set_option maxHeartbeats 4000000 in
theorem r_J0_length_8abf5_83 {μ : Mem} {ρ : (Int32 × Mem)} (h : f_J0_length_8abf5_83 μ = some ρ) : HT 1 yJ0_length_8abf5 cJ0_length_8abf5 1 (some .int) [.ref 83] μ (some (.int ρ.1)) ρ.2 := by
  refine HT.of (by decide +kernel) (Nat.le_of_ble_eq_true rfl) (fun C => ?_)
  unfold f_J0_length_8abf5_83 at h
  refine wa_aload_n C dJ0_length_8abf5_0 rfl ?_
  refine wa_sval (i := 1) C (by decide) qw_282 dJ0_length_8abf5_1 ?_
  refine wa_stralen (i := 1) (v := 8) C (by decide) rfl dJ0_length_8abf5_4 ?_
  refine wa_aload_n C dJ0_length_8abf5_5 rfl ?_
  obtain ⟨q1, hq1, h⟩ := bd h
  refine wa_callT (i := 1) C (r_J0_coder_7d493_83 hq1) mk_J0_coder_7d493 mv_J0_coder_7d493 qw_283 (by decide) rfl rfl ⟨Nat.le_of_ble_eq_true rfl, Nat.le_of_ble_eq_true rfl⟩ ⟨Nat.zero_le _, Nat.zero_le _⟩ (Nat.le_of_ble_eq_true rfl) dJ0_length_8abf5_6 rfl ?_
  refine wa_ishr C dJ0_length_8abf5_9 ?_
  obtain rfl := Option.some.inj h
  exact wa_iret C dJ0_length_8abf5_10
def f_J0_isLatin1_aae02_83 (μ : Mem) : Option (Int32 × Mem) :=
  if (1 : Int32) = 0 then
    some ((0 : Int32), μ)
  else
    if (0 : Int32) = 0 then
      some ((1 : Int32), μ)
    else
      some ((0 : Int32), μ)
set_option maxRecDepth 100000 in
set_option maxHeartbeats 4000000 in
theorem r_J0_isLatin1_aae02_83 {μ : Mem} {ρ : (Int32 × Mem)} (h : f_J0_isLatin1_aae02_83 μ = some ρ) : HT 0 yJ0_isLatin1_aae02 cJ0_isLatin1_aae02 1 (some .boolean) [.ref 83] μ (some (.int ρ.1)) ρ.2 := by
  refine HT.of (by decide +kernel) (Nat.le_of_ble_eq_true rfl) (fun C => ?_)
  unfold f_J0_isLatin1_aae02_83 at h
  refine wa_gcs C qw_287 dJ0_isLatin1_aae02_0 ?_
  refine wa_if_eq (tgt := 17) C dJ0_isLatin1_aae02_3 (by decide) (fun c1 => ?_) (fun c1 => ?_)
  · replace h := (if_pos c1).symm.trans h
    refine wa_iconst (v := 0) C dJ0_isLatin1_aae02_17 (by decide) ?_
    obtain rfl := Option.some.inj h
    exact wa_zret C rfl dJ0_isLatin1_aae02_18
  · replace h := (if_neg c1).symm.trans h
    refine wa_aload_n C dJ0_isLatin1_aae02_6 rfl ?_
    refine wa_scod (i := 1) C (by decide) qw_288 dJ0_isLatin1_aae02_7 ?_
    refine wa_if_ne (tgt := 17) C dJ0_isLatin1_aae02_10 (by decide) (fun c2 => ?_) (fun c2 => ?_)
    · replace h := (if_neg c2).symm.trans h
      refine wa_iconst (v := 0) C dJ0_isLatin1_aae02_17 (by decide) ?_
      obtain rfl := Option.some.inj h
      exact wa_zret C rfl dJ0_isLatin1_aae02_18
    · replace h := (if_pos c2).symm.trans h
      refine wa_iconst (v := 1) C dJ0_isLatin1_aae02_13 (by decide) ?_
      refine wa_goto (tgt := 18) C dJ0_isLatin1_aae02_14 (by decide) ?_
      obtain rfl := Option.some.inj h
      exact wa_zret C rfl dJ0_isLatin1_aae02_18
def f_J1_charAt_3b067_93 (a1 : Int32) (μ : Mem) : Option (Int32 × Mem) :=
  (f_J0_checkIndex_df160 a1 (8 : Int32) μ).bind fun q1 =>
  if inb a1 8 = false then none else
  if ncr ((((strB 1 (a1.toNatClampNeg)) &&& (255 : Int32)).toUInt32 % 65536).toInt32) = false then none else
  some (((((strB 1 (a1.toNatClampNeg)) &&& (255 : Int32)).toUInt32 % 65536).toInt32), q1)
set_option maxRecDepth 100000 in
set_option maxHeartbeats 4000000 in
theorem r_J1_charAt_3b067_93 {a1 : Int32} {μ : Mem} {ρ : (Int32 × Mem)} (h : f_J1_charAt_3b067_93 a1 μ = some ρ) : HT 2 yJ1_charAt_3b067 cJ1_charAt_3b067 2 (some .char) [.ref 93, .int a1] μ (some (.int ρ.1)) ρ.2 := by
  refine HT.of (by decide +kernel) (Nat.le_of_ble_eq_true rfl) (fun C => ?_)
  unfold f_J1_charAt_3b067_93 at h
  refine wa_iload_n C dJ1_charAt_3b067_0 rfl ?_
  refine wa_aload_n C dJ1_charAt_3b067_1 rfl ?_
  refine wa_stralen (i := 1) (v := 8) C (by decide) rfl dJ1_charAt_3b067_2 ?_
  obtain ⟨q1, hq1, h⟩ := bd h
  refine wa_callS C (r_J0_checkIndex_df160 hq1) mk_J0_checkIndex_df160 ms_J0_checkIndex_df160 qw_301 rfl ⟨Nat.le_of_ble_eq_true rfl, Nat.le_of_ble_eq_true rfl⟩ ⟨Nat.zero_le _, Nat.zero_le _⟩ (Nat.le_of_ble_eq_true rfl) dJ1_charAt_3b067_3 rfl ?_
  refine wa_aload_n C dJ1_charAt_3b067_6 rfl ?_
  refine wa_iload_n C dJ1_charAt_3b067_7 rfl ?_
  obtain ⟨g2, h⟩ := gd h
  refine wa_strb (i := 1) (j := (a1.toNatClampNeg)) C (by decide) g2 rfl dJ1_charAt_3b067_8 ?_
  refine wa_sipush (v := 255) C dJ1_charAt_3b067_9 (by decide) ?_
  refine wa_iand C dJ1_charAt_3b067_12 ?_
  refine wa_i2c (v := ((((strB 1 (a1.toNatClampNeg)) &&& (255 : Int32)).toUInt32 % 65536).toInt32)) C dJ1_charAt_3b067_13 rfl ?_
  obtain ⟨g3, h⟩ := gd h
  obtain rfl := Option.some.inj h
  exact wa_nret C (ncr_nar g3) dJ1_charAt_3b067_14
def f_J0_charAt_5068e_83 (a1 : Int32) (μ : Mem) : Option (Int32 × Mem) :=
  (f_J0_isLatin1_aae02_83 μ).bind fun q1 =>
  if q1.1 = 0 then
    none
  else
    (f_J1_charAt_3b067_93 a1 q1.2).bind fun q3 =>
    if ncr q3.1 = false then none else
    some (q3.1, q3.2)
set_option maxRecDepth 100000 in
set_option maxHeartbeats 4000000 in
theorem r_J0_charAt_5068e_83 {a1 : Int32} {μ : Mem} {ρ : (Int32 × Mem)} (h : f_J0_charAt_5068e_83 a1 μ = some ρ) : HT 3 yJ0_charAt_5068e cJ0_charAt_5068e 2 (some .char) [.ref 83, .int a1] μ (some (.int ρ.1)) ρ.2 := by
  refine HT.of (by decide +kernel) (Nat.le_of_ble_eq_true rfl) (fun C => ?_)
  unfold f_J0_charAt_5068e_83 at h
  refine wa_aload_n C dJ0_charAt_5068e_0 rfl ?_
  obtain ⟨q1, hq1, h⟩ := bd h
  refine wa_callT (i := 1) C (r_J0_isLatin1_aae02_83 hq1) mk_J0_isLatin1_aae02 mv_J0_isLatin1_aae02 qw_293 (by decide) rfl rfl ⟨Nat.le_of_ble_eq_true rfl, Nat.le_of_ble_eq_true rfl⟩ ⟨Nat.zero_le _, Nat.zero_le _⟩ (Nat.le_of_ble_eq_true rfl) dJ0_charAt_5068e_1 rfl ?_
  refine wa_if_eq (tgt := 16) C dJ0_charAt_5068e_4 (by decide) (fun c2 => ?_) (fun c2 => ?_)
  · replace h := (if_pos c2).symm.trans h
    cases h
  · replace h := (if_neg c2).symm.trans h
    refine wa_aload_n C dJ0_charAt_5068e_7 rfl ?_
    refine wa_sval (i := 1) C (by decide) qw_282 dJ0_charAt_5068e_8 ?_
    refine wa_iload_n C dJ0_charAt_5068e_11 rfl ?_
    obtain ⟨q3, hq3, h⟩ := bd h
    refine wa_callS C (r_J1_charAt_3b067_93 hq3) mk_J1_charAt_3b067 ms_J1_charAt_3b067 qw_297 rfl ⟨Nat.le_of_ble_eq_true rfl, Nat.le_of_ble_eq_true rfl⟩ ⟨Nat.zero_le _, Nat.zero_le _⟩ (Nat.le_of_ble_eq_true rfl) dJ0_charAt_5068e_12 rfl ?_
    obtain ⟨g4, h⟩ := gd h
    obtain rfl := Option.some.inj h
    exact wa_nret C (ncr_nar g4) dJ0_charAt_5068e_15
def f_X5_isName_35_83_L20 (k20 : Int32 → Mem → Option (Int32 × Mem)) (a2 : Int32) (μ : Mem) : Option (Int32 × Mem) :=
    (f_J0_length_8abf5_83 μ).bind fun q3 =>
    if q3.1 ≤ a2 then
      some ((1 : Int32), q3.2)
    else
      if inb ((q3.2.1 35 8) + a2) 320 = false then none else
      (f_J0_charAt_5068e_83 a2 q3.2).bind fun q6 =>
      if (q3.2.1 36 (((q3.2.1 35 8) + a2).toNatClampNeg)) = q6.1 then
        k20 (a2 + 1) q6.2
      else
        some ((0 : Int32), q6.2)
def f_X5_isName_35_83 (μ : Mem) : Option (Int32 × Mem) :=
  (f_J0_length_8abf5_83 μ).bind fun q1 =>
  if ((μ.1 35 10) - (μ.1 35 8)) = q1.1 then
    it2 (f_X5_isName_35_83_L20) FU (0 : Int32) q1.2
  else
    some ((0 : Int32), q1.2)
set_option maxRecDepth 100000 in
set_option maxHeartbeats 4000000 in
theorem r_X5_isName_35_83_L20 {p : Program} {l : Launch} {e : Env} {s : State} {m : MethodId} {args : Array Value} {below : List Frame} {meth : Method} {c : Code} {D : va_G} {cy : Nat → ClassId} {ad : Nat → Nat} (C : CX p s m args meth c cX5_isName 3 RX5 (some .boolean) D cy ad (AD ad)) {ρ : (Int32 × Mem)} : ∀ (n : Nat) (a2 : Int32) (μ : Mem), it2 (f_X5_isName_35_83_L20) n a2 μ = some ρ → WA p l e (rmD 4) s m args below meth c 3 D cy ad (AD ad) 0 0 (ZZ below args s D cy ad (AD ad) 0 0 (some (.int ρ.1)) ρ.2) μ [(0, .ref 35), (1, .ref 83), (2, .int a2)] 20 [] := by
  intro n
  induction n with
  | zero =>
    intro a2 μ h
    exact absurd h (fun h => by cases h)
  | succ n ih =>
    intro a2 μ h
    replace h : f_X5_isName_35_83_L20 (it2 (f_X5_isName_35_83_L20) n) a2 μ = some ρ := h
    unfold f_X5_isName_35_83_L20 at h
    refine wa_iload_n C dX5_isName_20 rfl ?_
    refine wa_aload_n C dX5_isName_21 rfl ?_
    obtain ⟨q3, hq3, h⟩ := bd h
    refine wa_callT (i := 1) C (r_J0_length_8abf5_83 hq3) mk_J0_length_8abf5 mv_J0_length_8abf5 qw_277 (by decide) rfl rfl ⟨Nat.le_of_ble_eq_true rfl, Nat.le_of_ble_eq_true rfl⟩ ⟨Nat.zero_le _, Nat.zero_le _⟩ (Nat.le_of_ble_eq_true rfl) dX5_isName_22 rfl ?_
    refine wa_icmp_ge (tgt := 55) C dX5_isName_25 (by decide) (fun c4 => ?_) (fun c4 => ?_)
    · replace h := (if_pos c4).symm.trans h
      refine wa_iconst (v := 1) C dX5_isName_55 (by decide) ?_
      obtain rfl := Option.some.inj h
      exact wa_zret C rfl dX5_isName_56
    · replace h := (if_neg c4).symm.trans h
      refine wa_aload_n C dX5_isName_28 rfl ?_
      refine wa_getr C fl_RX5_11 rfl rfl (by decide) dX5_isName_29 ?_
      refine wa_aload_n C dX5_isName_32 rfl ?_
      refine wa_geti (x := (q3.2.1 35 8)) C fl_RX5_45 rfl rfl (by decide) rfl dX5_isName_33 ?_
      refine wa_iload_n C dX5_isName_36 rfl ?_
      refine wa_iadd C dX5_isName_37 ?_
      obtain ⟨g5, h⟩ := gd h
      refine wa_bald (j := (((q3.2.1 35 8) + a2).toNatClampNeg)) (x := (q3.2.1 36 (((q3.2.1 35 8) + a2).toNatClampNeg))) C rfl (by decide) g5 rfl rfl dX5_isName_38 ?_
      refine wa_aload_n C dX5_isName_39 rfl ?_
      refine wa_iload_n C dX5_isName_40 rfl ?_
      obtain ⟨q6, hq6, h⟩ := bd h
      refine wa_callT (i := 1) C (r_J0_charAt_5068e_83 hq6) mk_J0_charAt_5068e mv_J0_charAt_5068e qw_289 (by decide) rfl rfl ⟨Nat.le_of_ble_eq_true rfl, Nat.le_of_ble_eq_true rfl⟩ ⟨Nat.zero_le _, Nat.zero_le _⟩ (Nat.le_of_ble_eq_true rfl) dX5_isName_41 rfl ?_
      refine wa_icmp_eq (tgt := 49) C dX5_isName_44 (by decide) (fun c7 => ?_) (fun c7 => ?_)
      · replace h := (if_pos c7).symm.trans h
        refine wa_iinc (v := (a2 + 1)) C dX5_isName_49 rfl rfl (by decide) ?_
        refine wa_goto (tgt := 20) C dX5_isName_52 (by decide) ?_
        exact WA.sub (lsub_c rfl (lsub_c rfl (lsub_c rfl lsub_n))) (ih _ _ h)
      · replace h := (if_neg c7).symm.trans h
        refine wa_iconst (v := 0) C dX5_isName_47 (by decide) ?_
        obtain rfl := Option.some.inj h
        exact wa_zret C rfl dX5_isName_48
set_option maxRecDepth 100000 in
set_option maxHeartbeats 4000000 in
theorem r_X5_isName_35_83 {μ : Mem} {ρ : (Int32 × Mem)} (h : f_X5_isName_35_83 μ = some ρ) : HT 4 yX5_isName cX5_isName 3 (some .boolean) [.ref 35, .ref 83] μ (some (.int ρ.1)) ρ.2 := by
  refine HT.of (by decide +kernel) (Nat.le_of_ble_eq_true rfl) (fun C => ?_)
  unfold f_X5_isName_35_83 at h
  refine wa_aload_n C dX5_isName_0 rfl ?_
  refine wa_geti (x := (μ.1 35 10)) C fl_RX5_51 rfl rfl (by decide) rfl dX5_isName_1 ?_
  refine wa_aload_n C dX5_isName_4 rfl ?_
  refine wa_geti (x := (μ.1 35 8)) C fl_RX5_45 rfl rfl (by decide) rfl dX5_isName_5 ?_
  refine wa_isub C dX5_isName_8 ?_
  refine wa_aload_n C dX5_isName_9 rfl ?_
  obtain ⟨q1, hq1, h⟩ := bd h
  refine wa_callT (i := 1) C (r_J0_length_8abf5_83 hq1) mk_J0_length_8abf5 mv_J0_length_8abf5 qw_277 (by decide) rfl rfl ⟨Nat.le_of_ble_eq_true rfl, Nat.le_of_ble_eq_true rfl⟩ ⟨Nat.zero_le _, Nat.zero_le _⟩ (Nat.le_of_ble_eq_true rfl) dX5_isName_10 rfl ?_
  refine wa_icmp_eq (tgt := 18) C dX5_isName_13 (by decide) (fun c2 => ?_) (fun c2 => ?_)
  · replace h := (if_pos c2).symm.trans h
    refine wa_iconst (v := 0) C dX5_isName_18 (by decide) ?_
    refine wa_istore_n C dX5_isName_19 (by decide) ?_
    exact WA.sub (lsub_c rfl (lsub_c rfl (lsub_c rfl lsub_n))) (r_X5_isName_35_83_L20 C  _ _ _ h)
  · replace h := (if_neg c2).symm.trans h
    refine wa_iconst (v := 0) C dX5_isName_16 (by decide) ?_
    obtain rfl := Option.some.inj h
    exact wa_zret C rfl dX5_isName_17
def f_J0_coder_7d493_84 (μ : Mem) : Option (Int32 × Mem) :=
  if (1 : Int32) = 0 then
    some ((1 : Int32), μ)
  else
    some ((0 : Int32), μ)
set_option maxRecDepth 100000 in
set_option maxHeartbeats 4000000 in
theorem r_J0_coder_7d493_84 {μ : Mem} {ρ : (Int32 × Mem)} (h : f_J0_coder_7d493_84 μ = some ρ) : HT 0 yJ0_coder_7d493 cJ0_coder_7d493 1 (some .byte) [.ref 84] μ (some (.int ρ.1)) ρ.2 := by
  refine HT.of (by decide +kernel) (Nat.le_of_ble_eq_true rfl) (fun C => ?_)
  unfold f_J0_coder_7d493_84 at h
  refine wa_gcs C qw_287 dJ0_coder_7d493_0 ?_
  refine wa_if_eq (tgt := 13) C dJ0_coder_7d493_3 (by decide) (fun c1 => ?_) (fun c1 => ?_)
  · replace h := (if_pos c1).symm.trans h
    refine wa_iconst (v := 1) C dJ0_coder_7d493_13 (by decide) ?_
    obtain rfl := Option.some.inj h
    exact wa_nret C rfl dJ0_coder_7d493_14
  · replace h := (if_neg c1).symm.trans h
    refine wa_aload_n C dJ0_coder_7d493_6 rfl ?_
    refine wa_scod (i := 2) C (by decide) qw_288 dJ0_coder_7d493_7 ?_
    refine wa_goto (tgt := 14) C dJ0_coder_7d493_10 (by decide) ?_
    obtain rfl := Option.some.inj h
    exact wa_nret C rfl dJ0_coder_7d493_14
def f_J0_length_8abf5_84 (μ : Mem) : Option (Int32 × Mem) :=
  (f_J0_coder_7d493_84 μ).bind fun q1 =>
  some (((4 : Int32) >>> (q1.1 &&& 31)), q1.2)
set_option maxRecDepth 100000 in
set_option maxHeartbeats 4000000 in
theorem r_J0_length_8abf5_84 {μ : Mem} {ρ : (Int32 × Mem)} (h : f_J0_length_8abf5_84 μ = some ρ) : HT 1 yJ0_length_8abf5 cJ0_length_8abf5 1 (some .int) [.ref 84] μ (some (.int ρ.1)) ρ.2 := by
  refine HT.of (by decide +kernel) (Nat.le_of_ble_eq_true rfl) (fun C => ?_)
  unfold f_J0_length_8abf5_84 at h
  refine wa_aload_n C dJ0_length_8abf5_0 rfl ?_
  refine wa_sval (i := 2) C (by decide) qw_282 dJ0_length_8abf5_1 ?_
  refine wa_stralen (i := 2) (v := 4) C (by decide) rfl dJ0_length_8abf5_4 ?_
  refine wa_aload_n C dJ0_length_8abf5_5 rfl ?_
  obtain ⟨q1, hq1, h⟩ := bd h
  refine wa_callT (i := 2) C (r_J0_coder_7d493_84 hq1) mk_J0_coder_7d493 mv_J0_coder_7d493 qw_283 (by decide) rfl rfl ⟨Nat.le_of_ble_eq_true rfl, Nat.le_of_ble_eq_true rfl⟩ ⟨Nat.zero_le _, Nat.zero_le _⟩ (Nat.le_of_ble_eq_true rfl) dJ0_length_8abf5_6 rfl ?_
  refine wa_ishr C dJ0_length_8abf5_9 ?_
  obtain rfl := Option.some.inj h
  exact wa_iret C dJ0_length_8abf5_10
def f_J0_isLatin1_aae02_84 (μ : Mem) : Option (Int32 × Mem) :=
  if (1 : Int32) = 0 then
    some ((0 : Int32), μ)
  else
    if (0 : Int32) = 0 then
      some ((1 : Int32), μ)
    else
      some ((0 : Int32), μ)
set_option maxRecDepth 100000 in
set_option maxHeartbeats 4000000 in
theorem r_J0_isLatin1_aae02_84 {μ : Mem} {ρ : (Int32 × Mem)} (h : f_J0_isLatin1_aae02_84 μ = some ρ) : HT 0 yJ0_isLatin1_aae02 cJ0_isLatin1_aae02 1 (some .boolean) [.ref 84] μ (some (.int ρ.1)) ρ.2 := by
  refine HT.of (by decide +kernel) (Nat.le_of_ble_eq_true rfl) (fun C => ?_)
  unfold f_J0_isLatin1_aae02_84 at h
  refine wa_gcs C qw_287 dJ0_isLatin1_aae02_0 ?_
  refine wa_if_eq (tgt := 17) C dJ0_isLatin1_aae02_3 (by decide) (fun c1 => ?_) (fun c1 => ?_)
  · replace h := (if_pos c1).symm.trans h
    refine wa_iconst (v := 0) C dJ0_isLatin1_aae02_17 (by decide) ?_
    obtain rfl := Option.some.inj h
    exact wa_zret C rfl dJ0_isLatin1_aae02_18
  · replace h := (if_neg c1).symm.trans h
    refine wa_aload_n C dJ0_isLatin1_aae02_6 rfl ?_
    refine wa_scod (i := 2) C (by decide) qw_288 dJ0_isLatin1_aae02_7 ?_
    refine wa_if_ne (tgt := 17) C dJ0_isLatin1_aae02_10 (by decide) (fun c2 => ?_) (fun c2 => ?_)
    · replace h := (if_neg c2).symm.trans h
      refine wa_iconst (v := 0) C dJ0_isLatin1_aae02_17 (by decide) ?_
      obtain rfl := Option.some.inj h
      exact wa_zret C rfl dJ0_isLatin1_aae02_18
    · replace h := (if_pos c2).symm.trans h
      refine wa_iconst (v := 1) C dJ0_isLatin1_aae02_13 (by decide) ?_
      refine wa_goto (tgt := 18) C dJ0_isLatin1_aae02_14 (by decide) ?_
      obtain rfl := Option.some.inj h
      exact wa_zret C rfl dJ0_isLatin1_aae02_18
def f_J1_charAt_3b067_94 (a1 : Int32) (μ : Mem) : Option (Int32 × Mem) :=
  (f_J0_checkIndex_df160 a1 (4 : Int32) μ).bind fun q1 =>
  if inb a1 4 = false then none else
  if ncr ((((strB 2 (a1.toNatClampNeg)) &&& (255 : Int32)).toUInt32 % 65536).toInt32) = false then none else
  some (((((strB 2 (a1.toNatClampNeg)) &&& (255 : Int32)).toUInt32 % 65536).toInt32), q1)
set_option maxRecDepth 100000 in
set_option maxHeartbeats 4000000 in
theorem r_J1_charAt_3b067_94 {a1 : Int32} {μ : Mem} {ρ : (Int32 × Mem)} (h : f_J1_charAt_3b067_94 a1 μ = some ρ) : HT 2 yJ1_charAt_3b067 cJ1_charAt_3b067 2 (some .char) [.ref 94, .int a1] μ (some (.int ρ.1)) ρ.2 := by
  refine HT.of (by decide +kernel) (Nat.le_of_ble_eq_true rfl) (fun C => ?_)
  unfold f_J1_charAt_3b067_94 at h
  refine wa_iload_n C dJ1_charAt_3b067_0 rfl ?_
  refine wa_aload_n C dJ1_charAt_3b067_1 rfl ?_
  refine wa_stralen (i := 2) (v := 4) C (by decide) rfl dJ1_charAt_3b067_2 ?_
  obtain ⟨q1, hq1, h⟩ := bd h
  refine wa_callS C (r_J0_checkIndex_df160 hq1) mk_J0_checkIndex_df160 ms_J0_checkIndex_df160 qw_301 rfl ⟨Nat.le_of_ble_eq_true rfl, Nat.le_of_ble_eq_true rfl⟩ ⟨Nat.zero_le _, Nat.zero_le _⟩ (Nat.le_of_ble_eq_true rfl) dJ1_charAt_3b067_3 rfl ?_
  refine wa_aload_n C dJ1_charAt_3b067_6 rfl ?_
  refine wa_iload_n C dJ1_charAt_3b067_7 rfl ?_
  obtain ⟨g2, h⟩ := gd h
  refine wa_strb (i := 2) (j := (a1.toNatClampNeg)) C (by decide) g2 rfl dJ1_charAt_3b067_8 ?_
  refine wa_sipush (v := 255) C dJ1_charAt_3b067_9 (by decide) ?_
  refine wa_iand C dJ1_charAt_3b067_12 ?_
  refine wa_i2c (v := ((((strB 2 (a1.toNatClampNeg)) &&& (255 : Int32)).toUInt32 % 65536).toInt32)) C dJ1_charAt_3b067_13 rfl ?_
  obtain ⟨g3, h⟩ := gd h
  obtain rfl := Option.some.inj h
  exact wa_nret C (ncr_nar g3) dJ1_charAt_3b067_14
def f_J0_charAt_5068e_84 (a1 : Int32) (μ : Mem) : Option (Int32 × Mem) :=
  (f_J0_isLatin1_aae02_84 μ).bind fun q1 =>
  if q1.1 = 0 then
    none
  else
    (f_J1_charAt_3b067_94 a1 q1.2).bind fun q3 =>
    if ncr q3.1 = false then none else
    some (q3.1, q3.2)
set_option maxRecDepth 100000 in
set_option maxHeartbeats 4000000 in
theorem r_J0_charAt_5068e_84 {a1 : Int32} {μ : Mem} {ρ : (Int32 × Mem)} (h : f_J0_charAt_5068e_84 a1 μ = some ρ) : HT 3 yJ0_charAt_5068e cJ0_charAt_5068e 2 (some .char) [.ref 84, .int a1] μ (some (.int ρ.1)) ρ.2 := by
  refine HT.of (by decide +kernel) (Nat.le_of_ble_eq_true rfl) (fun C => ?_)
  unfold f_J0_charAt_5068e_84 at h
  refine wa_aload_n C dJ0_charAt_5068e_0 rfl ?_
  obtain ⟨q1, hq1, h⟩ := bd h
  refine wa_callT (i := 2) C (r_J0_isLatin1_aae02_84 hq1) mk_J0_isLatin1_aae02 mv_J0_isLatin1_aae02 qw_293 (by decide) rfl rfl ⟨Nat.le_of_ble_eq_true rfl, Nat.le_of_ble_eq_true rfl⟩ ⟨Nat.zero_le _, Nat.zero_le _⟩ (Nat.le_of_ble_eq_true rfl) dJ0_charAt_5068e_1 rfl ?_
  refine wa_if_eq (tgt := 16) C dJ0_charAt_5068e_4 (by decide) (fun c2 => ?_) (fun c2 => ?_)
  · replace h := (if_pos c2).symm.trans h
    cases h
  · replace h := (if_neg c2).symm.trans h
    refine wa_aload_n C dJ0_charAt_5068e_7 rfl ?_
    refine wa_sval (i := 2) C (by decide) qw_282 dJ0_charAt_5068e_8 ?_
    refine wa_iload_n C dJ0_charAt_5068e_11 rfl ?_
    obtain ⟨q3, hq3, h⟩ := bd h
    refine wa_callS C (r_J1_charAt_3b067_94 hq3) mk_J1_charAt_3b067 ms_J1_charAt_3b067 qw_297 rfl ⟨Nat.le_of_ble_eq_true rfl, Nat.le_of_ble_eq_true rfl⟩ ⟨Nat.zero_le _, Nat.zero_le _⟩ (Nat.le_of_ble_eq_true rfl) dJ0_charAt_5068e_12 rfl ?_
    obtain ⟨g4, h⟩ := gd h
    obtain rfl := Option.some.inj h
    exact wa_nret C (ncr_nar g4) dJ0_charAt_5068e_15
def f_X5_isName_35_84_L20 (k20 : Int32 → Mem → Option (Int32 × Mem)) (a2 : Int32) (μ : Mem) : Option (Int32 × Mem) :=
    (f_J0_length_8abf5_84 μ).bind fun q3 =>
    if q3.1 ≤ a2 then
      some ((1 : Int32), q3.2)
    else
      if inb ((q3.2.1 35 8) + a2) 320 = false then none else
      (f_J0_charAt_5068e_84 a2 q3.2).bind fun q6 =>
      if (q3.2.1 36 (((q3.2.1 35 8) + a2).toNatClampNeg)) = q6.1 then
        k20 (a2 + 1) q6.2
      else
        some ((0 : Int32), q6.2)
def f_X5_isName_35_84 (μ : Mem) : Option (Int32 × Mem) :=
  (f_J0_length_8abf5_84 μ).bind fun q1 =>
  if ((μ.1 35 10) - (μ.1 35 8)) = q1.1 then
    it2 (f_X5_isName_35_84_L20) FU (0 : Int32) q1.2
  else
    some ((0 : Int32), q1.2)
set_option maxRecDepth 100000 in
set_option maxHeartbeats 4000000 in
theorem r_X5_isName_35_84_L20 {p : Program} {l : Launch} {e : Env} {s : State} {m : MethodId} {args : Array Value} {below : List Frame} {meth : Method} {c : Code} {D : va_G} {cy : Nat → ClassId} {ad : Nat → Nat} (C : CX p s m args meth c cX5_isName 3 RX5 (some .boolean) D cy ad (AD ad)) {ρ : (Int32 × Mem)} : ∀ (n : Nat) (a2 : Int32) (μ : Mem), it2 (f_X5_isName_35_84_L20) n a2 μ = some ρ → WA p l e (rmD 4) s m args below meth c 3 D cy ad (AD ad) 0 0 (ZZ below args s D cy ad (AD ad) 0 0 (some (.int ρ.1)) ρ.2) μ [(0, .ref 35), (1, .ref 84), (2, .int a2)] 20 [] := by
  intro n
  induction n with
  | zero =>
    intro a2 μ h
    exact absurd h (fun h => by cases h)
  | succ n ih =>
    intro a2 μ h
    replace h : f_X5_isName_35_84_L20 (it2 (f_X5_isName_35_84_L20) n) a2 μ = some ρ := h
    unfold f_X5_isName_35_84_L20 at h
    refine wa_iload_n C dX5_isName_20 rfl ?_
    refine wa_aload_n C dX5_isName_21 rfl ?_
    obtain ⟨q3, hq3, h⟩ := bd h
    refine wa_callT (i := 2) C (r_J0_length_8abf5_84 hq3) mk_J0_length_8abf5 mv_J0_length_8abf5 qw_277 (by decide) rfl rfl ⟨Nat.le_of_ble_eq_true rfl, Nat.le_of_ble_eq_true rfl⟩ ⟨Nat.zero_le _, Nat.zero_le _⟩ (Nat.le_of_ble_eq_true rfl) dX5_isName_22 rfl ?_
    refine wa_icmp_ge (tgt := 55) C dX5_isName_25 (by decide) (fun c4 => ?_) (fun c4 => ?_)
    · replace h := (if_pos c4).symm.trans h
      refine wa_iconst (v := 1) C dX5_isName_55 (by decide) ?_
      obtain rfl := Option.some.inj h
      exact wa_zret C rfl dX5_isName_56
    · replace h := (if_neg c4).symm.trans h
      refine wa_aload_n C dX5_isName_28 rfl ?_
      refine wa_getr C fl_RX5_11 rfl rfl (by decide) dX5_isName_29 ?_
      refine wa_aload_n C dX5_isName_32 rfl ?_
      refine wa_geti (x := (q3.2.1 35 8)) C fl_RX5_45 rfl rfl (by decide) rfl dX5_isName_33 ?_
      refine wa_iload_n C dX5_isName_36 rfl ?_
      refine wa_iadd C dX5_isName_37 ?_
      obtain ⟨g5, h⟩ := gd h
      refine wa_bald (j := (((q3.2.1 35 8) + a2).toNatClampNeg)) (x := (q3.2.1 36 (((q3.2.1 35 8) + a2).toNatClampNeg))) C rfl (by decide) g5 rfl rfl dX5_isName_38 ?_
      refine wa_aload_n C dX5_isName_39 rfl ?_
      refine wa_iload_n C dX5_isName_40 rfl ?_
      obtain ⟨q6, hq6, h⟩ := bd h
      refine wa_callT (i := 2) C (r_J0_charAt_5068e_84 hq6) mk_J0_charAt_5068e mv_J0_charAt_5068e qw_289 (by decide) rfl rfl ⟨Nat.le_of_ble_eq_true rfl, Nat.le_of_ble_eq_true rfl⟩ ⟨Nat.zero_le _, Nat.zero_le _⟩ (Nat.le_of_ble_eq_true rfl) dX5_isName_41 rfl ?_
      refine wa_icmp_eq (tgt := 49) C dX5_isName_44 (by decide) (fun c7 => ?_) (fun c7 => ?_)
      · replace h := (if_pos c7).symm.trans h
        refine wa_iinc (v := (a2 + 1)) C dX5_isName_49 rfl rfl (by decide) ?_
        refine wa_goto (tgt := 20) C dX5_isName_52 (by decide) ?_
        exact WA.sub (lsub_c rfl (lsub_c rfl (lsub_c rfl lsub_n))) (ih _ _ h)
      · replace h := (if_neg c7).symm.trans h
        refine wa_iconst (v := 0) C dX5_isName_47 (by decide) ?_
        obtain rfl := Option.some.inj h
        exact wa_zret C rfl dX5_isName_48
set_option maxRecDepth 100000 in
set_option maxHeartbeats 4000000 in
theorem r_X5_isName_35_84 {μ : Mem} {ρ : (Int32 × Mem)} (h : f_X5_isName_35_84 μ = some ρ) : HT 4 yX5_isName cX5_isName 3 (some .boolean) [.ref 35, .ref 84] μ (some (.int ρ.1)) ρ.2 := by
  refine HT.of (by decide +kernel) (Nat.le_of_ble_eq_true rfl) (fun C => ?_)
  unfold f_X5_isName_35_84 at h
  refine wa_aload_n C dX5_isName_0 rfl ?_
  refine wa_geti (x := (μ.1 35 10)) C fl_RX5_51 rfl rfl (by decide) rfl dX5_isName_1 ?_
  refine wa_aload_n C dX5_isName_4 rfl ?_
  refine wa_geti (x := (μ.1 35 8)) C fl_RX5_45 rfl rfl (by decide) rfl dX5_isName_5 ?_
  refine wa_isub C dX5_isName_8 ?_
  refine wa_aload_n C dX5_isName_9 rfl ?_
  obtain ⟨q1, hq1, h⟩ := bd h
  refine wa_callT (i := 2) C (r_J0_length_8abf5_84 hq1) mk_J0_length_8abf5 mv_J0_length_8abf5 qw_277 (by decide) rfl rfl ⟨Nat.le_of_ble_eq_true rfl, Nat.le_of_ble_eq_true rfl⟩ ⟨Nat.zero_le _, Nat.zero_le _⟩ (Nat.le_of_ble_eq_true rfl) dX5_isName_10 rfl ?_
  refine wa_icmp_eq (tgt := 18) C dX5_isName_13 (by decide) (fun c2 => ?_) (fun c2 => ?_)
  · replace h := (if_pos c2).symm.trans h
    refine wa_iconst (v := 0) C dX5_isName_18 (by decide) ?_
    refine wa_istore_n C dX5_isName_19 (by decide) ?_
    exact WA.sub (lsub_c rfl (lsub_c rfl (lsub_c rfl lsub_n))) (r_X5_isName_35_84_L20 C  _ _ _ h)
  · replace h := (if_neg c2).symm.trans h
    refine wa_iconst (v := 0) C dX5_isName_16 (by decide) ?_
    obtain rfl := Option.some.inj h
    exact wa_zret C rfl dX5_isName_17
def f_J0_coder_7d493_85 (μ : Mem) : Option (Int32 × Mem) :=
  if (1 : Int32) = 0 then
    some ((1 : Int32), μ)
  else
    some ((0 : Int32), μ)
set_option maxRecDepth 100000 in
set_option maxHeartbeats 4000000 in
theorem r_J0_coder_7d493_85 {μ : Mem} {ρ : (Int32 × Mem)} (h : f_J0_coder_7d493_85 μ = some ρ) : HT 0 yJ0_coder_7d493 cJ0_coder_7d493 1 (some .byte) [.ref 85] μ (some (.int ρ.1)) ρ.2 := by
  refine HT.of (by decide +kernel) (Nat.le_of_ble_eq_true rfl) (fun C => ?_)
  unfold f_J0_coder_7d493_85 at h
  refine wa_gcs C qw_287 dJ0_coder_7d493_0 ?_
  refine wa_if_eq (tgt := 13) C dJ0_coder_7d493_3 (by decide) (fun c1 => ?_) (fun c1 => ?_)
  · replace h := (if_pos c1).symm.trans h
    refine wa_iconst (v := 1) C dJ0_coder_7d493_13 (by decide) ?_
    obtain rfl := Option.some.inj h
    exact wa_nret C rfl dJ0_coder_7d493_14
  · replace h := (if_neg c1).symm.trans h
    refine wa_aload_n C dJ0_coder_7d493_6 rfl ?_
    refine wa_scod (i := 3) C (by decide) qw_288 dJ0_coder_7d493_7 ?_
    refine wa_goto (tgt := 14) C dJ0_coder_7d493_10 (by decide) ?_
    obtain rfl := Option.some.inj h
    exact wa_nret C rfl dJ0_coder_7d493_14
def f_J0_length_8abf5_85 (μ : Mem) : Option (Int32 × Mem) :=
  (f_J0_coder_7d493_85 μ).bind fun q1 =>
  some (((5 : Int32) >>> (q1.1 &&& 31)), q1.2)
set_option maxRecDepth 100000 in
set_option maxHeartbeats 4000000 in
theorem r_J0_length_8abf5_85 {μ : Mem} {ρ : (Int32 × Mem)} (h : f_J0_length_8abf5_85 μ = some ρ) : HT 1 yJ0_length_8abf5 cJ0_length_8abf5 1 (some .int) [.ref 85] μ (some (.int ρ.1)) ρ.2 := by
  refine HT.of (by decide +kernel) (Nat.le_of_ble_eq_true rfl) (fun C => ?_)
  unfold f_J0_length_8abf5_85 at h
  refine wa_aload_n C dJ0_length_8abf5_0 rfl ?_
  refine wa_sval (i := 3) C (by decide) qw_282 dJ0_length_8abf5_1 ?_
  refine wa_stralen (i := 3) (v := 5) C (by decide) rfl dJ0_length_8abf5_4 ?_
  refine wa_aload_n C dJ0_length_8abf5_5 rfl ?_
  obtain ⟨q1, hq1, h⟩ := bd h
  refine wa_callT (i := 3) C (r_J0_coder_7d493_85 hq1) mk_J0_coder_7d493 mv_J0_coder_7d493 qw_283 (by decide) rfl rfl ⟨Nat.le_of_ble_eq_true rfl, Nat.le_of_ble_eq_true rfl⟩ ⟨Nat.zero_le _, Nat.zero_le _⟩ (Nat.le_of_ble_eq_true rfl) dJ0_length_8abf5_6 rfl ?_
  refine wa_ishr C dJ0_length_8abf5_9 ?_
  obtain rfl := Option.some.inj h
  exact wa_iret C dJ0_length_8abf5_10
def f_J0_isLatin1_aae02_85 (μ : Mem) : Option (Int32 × Mem) :=
  if (1 : Int32) = 0 then
    some ((0 : Int32), μ)
  else
    if (0 : Int32) = 0 then
      some ((1 : Int32), μ)
    else
      some ((0 : Int32), μ)
set_option maxRecDepth 100000 in
set_option maxHeartbeats 4000000 in
theorem r_J0_isLatin1_aae02_85 {μ : Mem} {ρ : (Int32 × Mem)} (h : f_J0_isLatin1_aae02_85 μ = some ρ) : HT 0 yJ0_isLatin1_aae02 cJ0_isLatin1_aae02 1 (some .boolean) [.ref 85] μ (some (.int ρ.1)) ρ.2 := by
  refine HT.of (by decide +kernel) (Nat.le_of_ble_eq_true rfl) (fun C => ?_)
  unfold f_J0_isLatin1_aae02_85 at h
  refine wa_gcs C qw_287 dJ0_isLatin1_aae02_0 ?_
  refine wa_if_eq (tgt := 17) C dJ0_isLatin1_aae02_3 (by decide) (fun c1 => ?_) (fun c1 => ?_)
  · replace h := (if_pos c1).symm.trans h
    refine wa_iconst (v := 0) C dJ0_isLatin1_aae02_17 (by decide) ?_
    obtain rfl := Option.some.inj h
    exact wa_zret C rfl dJ0_isLatin1_aae02_18
  · replace h := (if_neg c1).symm.trans h
    refine wa_aload_n C dJ0_isLatin1_aae02_6 rfl ?_
    refine wa_scod (i := 3) C (by decide) qw_288 dJ0_isLatin1_aae02_7 ?_
    refine wa_if_ne (tgt := 17) C dJ0_isLatin1_aae02_10 (by decide) (fun c2 => ?_) (fun c2 => ?_)
    · replace h := (if_neg c2).symm.trans h
      refine wa_iconst (v := 0) C dJ0_isLatin1_aae02_17 (by decide) ?_
      obtain rfl := Option.some.inj h
      exact wa_zret C rfl dJ0_isLatin1_aae02_18
    · replace h := (if_pos c2).symm.trans h
      refine wa_iconst (v := 1) C dJ0_isLatin1_aae02_13 (by decide) ?_
      refine wa_goto (tgt := 18) C dJ0_isLatin1_aae02_14 (by decide) ?_
      obtain rfl := Option.some.inj h
      exact wa_zret C rfl dJ0_isLatin1_aae02_18
def f_J1_charAt_3b067_95 (a1 : Int32) (μ : Mem) : Option (Int32 × Mem) :=
  (f_J0_checkIndex_df160 a1 (5 : Int32) μ).bind fun q1 =>
  if inb a1 5 = false then none else
  if ncr ((((strB 3 (a1.toNatClampNeg)) &&& (255 : Int32)).toUInt32 % 65536).toInt32) = false then none else
  some (((((strB 3 (a1.toNatClampNeg)) &&& (255 : Int32)).toUInt32 % 65536).toInt32), q1)
set_option maxRecDepth 100000 in
set_option maxHeartbeats 4000000 in
theorem r_J1_charAt_3b067_95 {a1 : Int32} {μ : Mem} {ρ : (Int32 × Mem)} (h : f_J1_charAt_3b067_95 a1 μ = some ρ) : HT 2 yJ1_charAt_3b067 cJ1_charAt_3b067 2 (some .char) [.ref 95, .int a1] μ (some (.int ρ.1)) ρ.2 := by
  refine HT.of (by decide +kernel) (Nat.le_of_ble_eq_true rfl) (fun C => ?_)
  unfold f_J1_charAt_3b067_95 at h
  refine wa_iload_n C dJ1_charAt_3b067_0 rfl ?_
  refine wa_aload_n C dJ1_charAt_3b067_1 rfl ?_
  refine wa_stralen (i := 3) (v := 5) C (by decide) rfl dJ1_charAt_3b067_2 ?_
  obtain ⟨q1, hq1, h⟩ := bd h
  refine wa_callS C (r_J0_checkIndex_df160 hq1) mk_J0_checkIndex_df160 ms_J0_checkIndex_df160 qw_301 rfl ⟨Nat.le_of_ble_eq_true rfl, Nat.le_of_ble_eq_true rfl⟩ ⟨Nat.zero_le _, Nat.zero_le _⟩ (Nat.le_of_ble_eq_true rfl) dJ1_charAt_3b067_3 rfl ?_
  refine wa_aload_n C dJ1_charAt_3b067_6 rfl ?_
  refine wa_iload_n C dJ1_charAt_3b067_7 rfl ?_
  obtain ⟨g2, h⟩ := gd h
  refine wa_strb (i := 3) (j := (a1.toNatClampNeg)) C (by decide) g2 rfl dJ1_charAt_3b067_8 ?_
  refine wa_sipush (v := 255) C dJ1_charAt_3b067_9 (by decide) ?_
  refine wa_iand C dJ1_charAt_3b067_12 ?_
  refine wa_i2c (v := ((((strB 3 (a1.toNatClampNeg)) &&& (255 : Int32)).toUInt32 % 65536).toInt32)) C dJ1_charAt_3b067_13 rfl ?_
  obtain ⟨g3, h⟩ := gd h
  obtain rfl := Option.some.inj h
  exact wa_nret C (ncr_nar g3) dJ1_charAt_3b067_14
def f_J0_charAt_5068e_85 (a1 : Int32) (μ : Mem) : Option (Int32 × Mem) :=
  (f_J0_isLatin1_aae02_85 μ).bind fun q1 =>
  if q1.1 = 0 then
    none
  else
    (f_J1_charAt_3b067_95 a1 q1.2).bind fun q3 =>
    if ncr q3.1 = false then none else
    some (q3.1, q3.2)
set_option maxRecDepth 100000 in
set_option maxHeartbeats 4000000 in
theorem r_J0_charAt_5068e_85 {a1 : Int32} {μ : Mem} {ρ : (Int32 × Mem)} (h : f_J0_charAt_5068e_85 a1 μ = some ρ) : HT 3 yJ0_charAt_5068e cJ0_charAt_5068e 2 (some .char) [.ref 85, .int a1] μ (some (.int ρ.1)) ρ.2 := by
  refine HT.of (by decide +kernel) (Nat.le_of_ble_eq_true rfl) (fun C => ?_)
  unfold f_J0_charAt_5068e_85 at h
  refine wa_aload_n C dJ0_charAt_5068e_0 rfl ?_
  obtain ⟨q1, hq1, h⟩ := bd h
  refine wa_callT (i := 3) C (r_J0_isLatin1_aae02_85 hq1) mk_J0_isLatin1_aae02 mv_J0_isLatin1_aae02 qw_293 (by decide) rfl rfl ⟨Nat.le_of_ble_eq_true rfl, Nat.le_of_ble_eq_true rfl⟩ ⟨Nat.zero_le _, Nat.zero_le _⟩ (Nat.le_of_ble_eq_true rfl) dJ0_charAt_5068e_1 rfl ?_
  refine wa_if_eq (tgt := 16) C dJ0_charAt_5068e_4 (by decide) (fun c2 => ?_) (fun c2 => ?_)
  · replace h := (if_pos c2).symm.trans h
    cases h
  · replace h := (if_neg c2).symm.trans h
    refine wa_aload_n C dJ0_charAt_5068e_7 rfl ?_
    refine wa_sval (i := 3) C (by decide) qw_282 dJ0_charAt_5068e_8 ?_
    refine wa_iload_n C dJ0_charAt_5068e_11 rfl ?_
    obtain ⟨q3, hq3, h⟩ := bd h
    refine wa_callS C (r_J1_charAt_3b067_95 hq3) mk_J1_charAt_3b067 ms_J1_charAt_3b067 qw_297 rfl ⟨Nat.le_of_ble_eq_true rfl, Nat.le_of_ble_eq_true rfl⟩ ⟨Nat.zero_le _, Nat.zero_le _⟩ (Nat.le_of_ble_eq_true rfl) dJ0_charAt_5068e_12 rfl ?_
    obtain ⟨g4, h⟩ := gd h
    obtain rfl := Option.some.inj h
    exact wa_nret C (ncr_nar g4) dJ0_charAt_5068e_15
def f_X5_isName_35_85_L20 (k20 : Int32 → Mem → Option (Int32 × Mem)) (a2 : Int32) (μ : Mem) : Option (Int32 × Mem) :=
    (f_J0_length_8abf5_85 μ).bind fun q3 =>
    if q3.1 ≤ a2 then
      some ((1 : Int32), q3.2)
    else
      if inb ((q3.2.1 35 8) + a2) 320 = false then none else
      (f_J0_charAt_5068e_85 a2 q3.2).bind fun q6 =>
      if (q3.2.1 36 (((q3.2.1 35 8) + a2).toNatClampNeg)) = q6.1 then
        k20 (a2 + 1) q6.2
      else
        some ((0 : Int32), q6.2)
def f_X5_isName_35_85 (μ : Mem) : Option (Int32 × Mem) :=
  (f_J0_length_8abf5_85 μ).bind fun q1 =>
  if ((μ.1 35 10) - (μ.1 35 8)) = q1.1 then
    it2 (f_X5_isName_35_85_L20) FU (0 : Int32) q1.2
  else
    some ((0 : Int32), q1.2)
set_option maxRecDepth 100000 in
set_option maxHeartbeats 4000000 in
theorem r_X5_isName_35_85_L20 {p : Program} {l : Launch} {e : Env} {s : State} {m : MethodId} {args : Array Value} {below : List Frame} {meth : Method} {c : Code} {D : va_G} {cy : Nat → ClassId} {ad : Nat → Nat} (C : CX p s m args meth c cX5_isName 3 RX5 (some .boolean) D cy ad (AD ad)) {ρ : (Int32 × Mem)} : ∀ (n : Nat) (a2 : Int32) (μ : Mem), it2 (f_X5_isName_35_85_L20) n a2 μ = some ρ → WA p l e (rmD 4) s m args below meth c 3 D cy ad (AD ad) 0 0 (ZZ below args s D cy ad (AD ad) 0 0 (some (.int ρ.1)) ρ.2) μ [(0, .ref 35), (1, .ref 85), (2, .int a2)] 20 [] := by
  intro n
  induction n with
  | zero =>
    intro a2 μ h
    exact absurd h (fun h => by cases h)
  | succ n ih =>
    intro a2 μ h
    replace h : f_X5_isName_35_85_L20 (it2 (f_X5_isName_35_85_L20) n) a2 μ = some ρ := h
    unfold f_X5_isName_35_85_L20 at h
    refine wa_iload_n C dX5_isName_20 rfl ?_
    refine wa_aload_n C dX5_isName_21 rfl ?_
    obtain ⟨q3, hq3, h⟩ := bd h
    refine wa_callT (i := 3) C (r_J0_length_8abf5_85 hq3) mk_J0_length_8abf5 mv_J0_length_8abf5 qw_277 (by decide) rfl rfl ⟨Nat.le_of_ble_eq_true rfl, Nat.le_of_ble_eq_true rfl⟩ ⟨Nat.zero_le _, Nat.zero_le _⟩ (Nat.le_of_ble_eq_true rfl) dX5_isName_22 rfl ?_
    refine wa_icmp_ge (tgt := 55) C dX5_isName_25 (by decide) (fun c4 => ?_) (fun c4 => ?_)
    · replace h := (if_pos c4).symm.trans h
      refine wa_iconst (v := 1) C dX5_isName_55 (by decide) ?_
      obtain rfl := Option.some.inj h
      exact wa_zret C rfl dX5_isName_56
    · replace h := (if_neg c4).symm.trans h
      refine wa_aload_n C dX5_isName_28 rfl ?_
      refine wa_getr C fl_RX5_11 rfl rfl (by decide) dX5_isName_29 ?_
      refine wa_aload_n C dX5_isName_32 rfl ?_
      refine wa_geti (x := (q3.2.1 35 8)) C fl_RX5_45 rfl rfl (by decide) rfl dX5_isName_33 ?_
      refine wa_iload_n C dX5_isName_36 rfl ?_
      refine wa_iadd C dX5_isName_37 ?_
      obtain ⟨g5, h⟩ := gd h
      refine wa_bald (j := (((q3.2.1 35 8) + a2).toNatClampNeg)) (x := (q3.2.1 36 (((q3.2.1 35 8) + a2).toNatClampNeg))) C rfl (by decide) g5 rfl rfl dX5_isName_38 ?_
      refine wa_aload_n C dX5_isName_39 rfl ?_
      refine wa_iload_n C dX5_isName_40 rfl ?_
      obtain ⟨q6, hq6, h⟩ := bd h
      refine wa_callT (i := 3) C (r_J0_charAt_5068e_85 hq6) mk_J0_charAt_5068e mv_J0_charAt_5068e qw_289 (by decide) rfl rfl ⟨Nat.le_of_ble_eq_true rfl, Nat.le_of_ble_eq_true rfl⟩ ⟨Nat.zero_le _, Nat.zero_le _⟩ (Nat.le_of_ble_eq_true rfl) dX5_isName_41 rfl ?_
      refine wa_icmp_eq (tgt := 49) C dX5_isName_44 (by decide) (fun c7 => ?_) (fun c7 => ?_)
      · replace h := (if_pos c7).symm.trans h
        refine wa_iinc (v := (a2 + 1)) C dX5_isName_49 rfl rfl (by decide) ?_
        refine wa_goto (tgt := 20) C dX5_isName_52 (by decide) ?_
        exact WA.sub (lsub_c rfl (lsub_c rfl (lsub_c rfl lsub_n))) (ih _ _ h)
      · replace h := (if_neg c7).symm.trans h
        refine wa_iconst (v := 0) C dX5_isName_47 (by decide) ?_
        obtain rfl := Option.some.inj h
        exact wa_zret C rfl dX5_isName_48
set_option maxRecDepth 100000 in
set_option maxHeartbeats 4000000 in
theorem r_X5_isName_35_85 {μ : Mem} {ρ : (Int32 × Mem)} (h : f_X5_isName_35_85 μ = some ρ) : HT 4 yX5_isName cX5_isName 3 (some .boolean) [.ref 35, .ref 85] μ (some (.int ρ.1)) ρ.2 := by
  refine HT.of (by decide +kernel) (Nat.le_of_ble_eq_true rfl) (fun C => ?_)
  unfold f_X5_isName_35_85 at h
  refine wa_aload_n C dX5_isName_0 rfl ?_
  refine wa_geti (x := (μ.1 35 10)) C fl_RX5_51 rfl rfl (by decide) rfl dX5_isName_1 ?_
  refine wa_aload_n C dX5_isName_4 rfl ?_
  refine wa_geti (x := (μ.1 35 8)) C fl_RX5_45 rfl rfl (by decide) rfl dX5_isName_5 ?_
  refine wa_isub C dX5_isName_8 ?_
  refine wa_aload_n C dX5_isName_9 rfl ?_
  obtain ⟨q1, hq1, h⟩ := bd h
  refine wa_callT (i := 3) C (r_J0_length_8abf5_85 hq1) mk_J0_length_8abf5 mv_J0_length_8abf5 qw_277 (by decide) rfl rfl ⟨Nat.le_of_ble_eq_true rfl, Nat.le_of_ble_eq_true rfl⟩ ⟨Nat.zero_le _, Nat.zero_le _⟩ (Nat.le_of_ble_eq_true rfl) dX5_isName_10 rfl ?_
  refine wa_icmp_eq (tgt := 18) C dX5_isName_13 (by decide) (fun c2 => ?_) (fun c2 => ?_)
  · replace h := (if_pos c2).symm.trans h
    refine wa_iconst (v := 0) C dX5_isName_18 (by decide) ?_
    refine wa_istore_n C dX5_isName_19 (by decide) ?_
    exact WA.sub (lsub_c rfl (lsub_c rfl (lsub_c rfl lsub_n))) (r_X5_isName_35_85_L20 C  _ _ _ h)
  · replace h := (if_neg c2).symm.trans h
    refine wa_iconst (v := 0) C dX5_isName_16 (by decide) ?_
    obtain rfl := Option.some.inj h
    exact wa_zret C rfl dX5_isName_17
def f_J0_coder_7d493_86 (μ : Mem) : Option (Int32 × Mem) :=
  if (1 : Int32) = 0 then
    some ((1 : Int32), μ)
  else
    some ((0 : Int32), μ)
set_option maxRecDepth 100000 in
set_option maxHeartbeats 4000000 in
theorem r_J0_coder_7d493_86 {μ : Mem} {ρ : (Int32 × Mem)} (h : f_J0_coder_7d493_86 μ = some ρ) : HT 0 yJ0_coder_7d493 cJ0_coder_7d493 1 (some .byte) [.ref 86] μ (some (.int ρ.1)) ρ.2 := by
  refine HT.of (by decide +kernel) (Nat.le_of_ble_eq_true rfl) (fun C => ?_)
  unfold f_J0_coder_7d493_86 at h
  refine wa_gcs C qw_287 dJ0_coder_7d493_0 ?_
  refine wa_if_eq (tgt := 13) C dJ0_coder_7d493_3 (by decide) (fun c1 => ?_) (fun c1 => ?_)
  · replace h := (if_pos c1).symm.trans h
    refine wa_iconst (v := 1) C dJ0_coder_7d493_13 (by decide) ?_
    obtain rfl := Option.some.inj h
    exact wa_nret C rfl dJ0_coder_7d493_14
  · replace h := (if_neg c1).symm.trans h
    refine wa_aload_n C dJ0_coder_7d493_6 rfl ?_
    refine wa_scod (i := 4) C (by decide) qw_288 dJ0_coder_7d493_7 ?_
    refine wa_goto (tgt := 14) C dJ0_coder_7d493_10 (by decide) ?_
    obtain rfl := Option.some.inj h
    exact wa_nret C rfl dJ0_coder_7d493_14
def f_J0_length_8abf5_86 (μ : Mem) : Option (Int32 × Mem) :=
  (f_J0_coder_7d493_86 μ).bind fun q1 =>
  some (((5 : Int32) >>> (q1.1 &&& 31)), q1.2)
set_option maxRecDepth 100000 in
set_option maxHeartbeats 4000000 in
theorem r_J0_length_8abf5_86 {μ : Mem} {ρ : (Int32 × Mem)} (h : f_J0_length_8abf5_86 μ = some ρ) : HT 1 yJ0_length_8abf5 cJ0_length_8abf5 1 (some .int) [.ref 86] μ (some (.int ρ.1)) ρ.2 := by
  refine HT.of (by decide +kernel) (Nat.le_of_ble_eq_true rfl) (fun C => ?_)
  unfold f_J0_length_8abf5_86 at h
  refine wa_aload_n C dJ0_length_8abf5_0 rfl ?_
  refine wa_sval (i := 4) C (by decide) qw_282 dJ0_length_8abf5_1 ?_
  refine wa_stralen (i := 4) (v := 5) C (by decide) rfl dJ0_length_8abf5_4 ?_
  refine wa_aload_n C dJ0_length_8abf5_5 rfl ?_
  obtain ⟨q1, hq1, h⟩ := bd h
  refine wa_callT (i := 4) C (r_J0_coder_7d493_86 hq1) mk_J0_coder_7d493 mv_J0_coder_7d493 qw_283 (by decide) rfl rfl ⟨Nat.le_of_ble_eq_true rfl, Nat.le_of_ble_eq_true rfl⟩ ⟨Nat.zero_le _, Nat.zero_le _⟩ (Nat.le_of_ble_eq_true rfl) dJ0_length_8abf5_6 rfl ?_
  refine wa_ishr C dJ0_length_8abf5_9 ?_
  obtain rfl := Option.some.inj h
  exact wa_iret C dJ0_length_8abf5_10
def f_J0_isLatin1_aae02_86 (μ : Mem) : Option (Int32 × Mem) :=
  if (1 : Int32) = 0 then
    some ((0 : Int32), μ)
  else
    if (0 : Int32) = 0 then
      some ((1 : Int32), μ)
    else
      some ((0 : Int32), μ)
set_option maxRecDepth 100000 in
set_option maxHeartbeats 4000000 in
theorem r_J0_isLatin1_aae02_86 {μ : Mem} {ρ : (Int32 × Mem)} (h : f_J0_isLatin1_aae02_86 μ = some ρ) : HT 0 yJ0_isLatin1_aae02 cJ0_isLatin1_aae02 1 (some .boolean) [.ref 86] μ (some (.int ρ.1)) ρ.2 := by
  refine HT.of (by decide +kernel) (Nat.le_of_ble_eq_true rfl) (fun C => ?_)
  unfold f_J0_isLatin1_aae02_86 at h
  refine wa_gcs C qw_287 dJ0_isLatin1_aae02_0 ?_
  refine wa_if_eq (tgt := 17) C dJ0_isLatin1_aae02_3 (by decide) (fun c1 => ?_) (fun c1 => ?_)
  · replace h := (if_pos c1).symm.trans h
    refine wa_iconst (v := 0) C dJ0_isLatin1_aae02_17 (by decide) ?_
    obtain rfl := Option.some.inj h
    exact wa_zret C rfl dJ0_isLatin1_aae02_18
  · replace h := (if_neg c1).symm.trans h
    refine wa_aload_n C dJ0_isLatin1_aae02_6 rfl ?_
    refine wa_scod (i := 4) C (by decide) qw_288 dJ0_isLatin1_aae02_7 ?_
    refine wa_if_ne (tgt := 17) C dJ0_isLatin1_aae02_10 (by decide) (fun c2 => ?_) (fun c2 => ?_)
    · replace h := (if_neg c2).symm.trans h
      refine wa_iconst (v := 0) C dJ0_isLatin1_aae02_17 (by decide) ?_
      obtain rfl := Option.some.inj h
      exact wa_zret C rfl dJ0_isLatin1_aae02_18
    · replace h := (if_pos c2).symm.trans h
      refine wa_iconst (v := 1) C dJ0_isLatin1_aae02_13 (by decide) ?_
      refine wa_goto (tgt := 18) C dJ0_isLatin1_aae02_14 (by decide) ?_
      obtain rfl := Option.some.inj h
      exact wa_zret C rfl dJ0_isLatin1_aae02_18
def f_J1_charAt_3b067_96 (a1 : Int32) (μ : Mem) : Option (Int32 × Mem) :=
  (f_J0_checkIndex_df160 a1 (5 : Int32) μ).bind fun q1 =>
  if inb a1 5 = false then none else
  if ncr ((((strB 4 (a1.toNatClampNeg)) &&& (255 : Int32)).toUInt32 % 65536).toInt32) = false then none else
  some (((((strB 4 (a1.toNatClampNeg)) &&& (255 : Int32)).toUInt32 % 65536).toInt32), q1)
set_option maxRecDepth 100000 in
set_option maxHeartbeats 4000000 in
theorem r_J1_charAt_3b067_96 {a1 : Int32} {μ : Mem} {ρ : (Int32 × Mem)} (h : f_J1_charAt_3b067_96 a1 μ = some ρ) : HT 2 yJ1_charAt_3b067 cJ1_charAt_3b067 2 (some .char) [.ref 96, .int a1] μ (some (.int ρ.1)) ρ.2 := by
  refine HT.of (by decide +kernel) (Nat.le_of_ble_eq_true rfl) (fun C => ?_)
  unfold f_J1_charAt_3b067_96 at h
  refine wa_iload_n C dJ1_charAt_3b067_0 rfl ?_
  refine wa_aload_n C dJ1_charAt_3b067_1 rfl ?_
  refine wa_stralen (i := 4) (v := 5) C (by decide) rfl dJ1_charAt_3b067_2 ?_
  obtain ⟨q1, hq1, h⟩ := bd h
  refine wa_callS C (r_J0_checkIndex_df160 hq1) mk_J0_checkIndex_df160 ms_J0_checkIndex_df160 qw_301 rfl ⟨Nat.le_of_ble_eq_true rfl, Nat.le_of_ble_eq_true rfl⟩ ⟨Nat.zero_le _, Nat.zero_le _⟩ (Nat.le_of_ble_eq_true rfl) dJ1_charAt_3b067_3 rfl ?_
  refine wa_aload_n C dJ1_charAt_3b067_6 rfl ?_
  refine wa_iload_n C dJ1_charAt_3b067_7 rfl ?_
  obtain ⟨g2, h⟩ := gd h
  refine wa_strb (i := 4) (j := (a1.toNatClampNeg)) C (by decide) g2 rfl dJ1_charAt_3b067_8 ?_
  refine wa_sipush (v := 255) C dJ1_charAt_3b067_9 (by decide) ?_
  refine wa_iand C dJ1_charAt_3b067_12 ?_
  refine wa_i2c (v := ((((strB 4 (a1.toNatClampNeg)) &&& (255 : Int32)).toUInt32 % 65536).toInt32)) C dJ1_charAt_3b067_13 rfl ?_
  obtain ⟨g3, h⟩ := gd h
  obtain rfl := Option.some.inj h
  exact wa_nret C (ncr_nar g3) dJ1_charAt_3b067_14
def f_J0_charAt_5068e_86 (a1 : Int32) (μ : Mem) : Option (Int32 × Mem) :=
  (f_J0_isLatin1_aae02_86 μ).bind fun q1 =>
  if q1.1 = 0 then
    none
  else
    (f_J1_charAt_3b067_96 a1 q1.2).bind fun q3 =>
    if ncr q3.1 = false then none else
    some (q3.1, q3.2)
set_option maxRecDepth 100000 in
set_option maxHeartbeats 4000000 in
theorem r_J0_charAt_5068e_86 {a1 : Int32} {μ : Mem} {ρ : (Int32 × Mem)} (h : f_J0_charAt_5068e_86 a1 μ = some ρ) : HT 3 yJ0_charAt_5068e cJ0_charAt_5068e 2 (some .char) [.ref 86, .int a1] μ (some (.int ρ.1)) ρ.2 := by
  refine HT.of (by decide +kernel) (Nat.le_of_ble_eq_true rfl) (fun C => ?_)
  unfold f_J0_charAt_5068e_86 at h
  refine wa_aload_n C dJ0_charAt_5068e_0 rfl ?_
  obtain ⟨q1, hq1, h⟩ := bd h
  refine wa_callT (i := 4) C (r_J0_isLatin1_aae02_86 hq1) mk_J0_isLatin1_aae02 mv_J0_isLatin1_aae02 qw_293 (by decide) rfl rfl ⟨Nat.le_of_ble_eq_true rfl, Nat.le_of_ble_eq_true rfl⟩ ⟨Nat.zero_le _, Nat.zero_le _⟩ (Nat.le_of_ble_eq_true rfl) dJ0_charAt_5068e_1 rfl ?_
  refine wa_if_eq (tgt := 16) C dJ0_charAt_5068e_4 (by decide) (fun c2 => ?_) (fun c2 => ?_)
  · replace h := (if_pos c2).symm.trans h
    cases h
  · replace h := (if_neg c2).symm.trans h
    refine wa_aload_n C dJ0_charAt_5068e_7 rfl ?_
    refine wa_sval (i := 4) C (by decide) qw_282 dJ0_charAt_5068e_8 ?_
    refine wa_iload_n C dJ0_charAt_5068e_11 rfl ?_
    obtain ⟨q3, hq3, h⟩ := bd h
    refine wa_callS C (r_J1_charAt_3b067_96 hq3) mk_J1_charAt_3b067 ms_J1_charAt_3b067 qw_297 rfl ⟨Nat.le_of_ble_eq_true rfl, Nat.le_of_ble_eq_true rfl⟩ ⟨Nat.zero_le _, Nat.zero_le _⟩ (Nat.le_of_ble_eq_true rfl) dJ0_charAt_5068e_12 rfl ?_
    obtain ⟨g4, h⟩ := gd h
    obtain rfl := Option.some.inj h
    exact wa_nret C (ncr_nar g4) dJ0_charAt_5068e_15
def f_X5_isName_35_86_L20 (k20 : Int32 → Mem → Option (Int32 × Mem)) (a2 : Int32) (μ : Mem) : Option (Int32 × Mem) :=
    (f_J0_length_8abf5_86 μ).bind fun q3 =>
    if q3.1 ≤ a2 then
      some ((1 : Int32), q3.2)
    else
      if inb ((q3.2.1 35 8) + a2) 320 = false then none else
      (f_J0_charAt_5068e_86 a2 q3.2).bind fun q6 =>
      if (q3.2.1 36 (((q3.2.1 35 8) + a2).toNatClampNeg)) = q6.1 then
        k20 (a2 + 1) q6.2
      else
        some ((0 : Int32), q6.2)
def f_X5_isName_35_86 (μ : Mem) : Option (Int32 × Mem) :=
  (f_J0_length_8abf5_86 μ).bind fun q1 =>
  if ((μ.1 35 10) - (μ.1 35 8)) = q1.1 then
    it2 (f_X5_isName_35_86_L20) FU (0 : Int32) q1.2
  else
    some ((0 : Int32), q1.2)
set_option maxRecDepth 100000 in
set_option maxHeartbeats 4000000 in
theorem r_X5_isName_35_86_L20 {p : Program} {l : Launch} {e : Env} {s : State} {m : MethodId} {args : Array Value} {below : List Frame} {meth : Method} {c : Code} {D : va_G} {cy : Nat → ClassId} {ad : Nat → Nat} (C : CX p s m args meth c cX5_isName 3 RX5 (some .boolean) D cy ad (AD ad)) {ρ : (Int32 × Mem)} : ∀ (n : Nat) (a2 : Int32) (μ : Mem), it2 (f_X5_isName_35_86_L20) n a2 μ = some ρ → WA p l e (rmD 4) s m args below meth c 3 D cy ad (AD ad) 0 0 (ZZ below args s D cy ad (AD ad) 0 0 (some (.int ρ.1)) ρ.2) μ [(0, .ref 35), (1, .ref 86), (2, .int a2)] 20 [] := by
  intro n
  induction n with
  | zero =>
    intro a2 μ h
    exact absurd h (fun h => by cases h)
  | succ n ih =>
    intro a2 μ h
    replace h : f_X5_isName_35_86_L20 (it2 (f_X5_isName_35_86_L20) n) a2 μ = some ρ := h
    unfold f_X5_isName_35_86_L20 at h
    refine wa_iload_n C dX5_isName_20 rfl ?_
    refine wa_aload_n C dX5_isName_21 rfl ?_
    obtain ⟨q3, hq3, h⟩ := bd h
    refine wa_callT (i := 4) C (r_J0_length_8abf5_86 hq3) mk_J0_length_8abf5 mv_J0_length_8abf5 qw_277 (by decide) rfl rfl ⟨Nat.le_of_ble_eq_true rfl, Nat.le_of_ble_eq_true rfl⟩ ⟨Nat.zero_le _, Nat.zero_le _⟩ (Nat.le_of_ble_eq_true rfl) dX5_isName_22 rfl ?_
    refine wa_icmp_ge (tgt := 55) C dX5_isName_25 (by decide) (fun c4 => ?_) (fun c4 => ?_)
    · replace h := (if_pos c4).symm.trans h
      refine wa_iconst (v := 1) C dX5_isName_55 (by decide) ?_
      obtain rfl := Option.some.inj h
      exact wa_zret C rfl dX5_isName_56
    · replace h := (if_neg c4).symm.trans h
      refine wa_aload_n C dX5_isName_28 rfl ?_
      refine wa_getr C fl_RX5_11 rfl rfl (by decide) dX5_isName_29 ?_
      refine wa_aload_n C dX5_isName_32 rfl ?_
      refine wa_geti (x := (q3.2.1 35 8)) C fl_RX5_45 rfl rfl (by decide) rfl dX5_isName_33 ?_
      refine wa_iload_n C dX5_isName_36 rfl ?_
      refine wa_iadd C dX5_isName_37 ?_
      obtain ⟨g5, h⟩ := gd h
      refine wa_bald (j := (((q3.2.1 35 8) + a2).toNatClampNeg)) (x := (q3.2.1 36 (((q3.2.1 35 8) + a2).toNatClampNeg))) C rfl (by decide) g5 rfl rfl dX5_isName_38 ?_
      refine wa_aload_n C dX5_isName_39 rfl ?_
      refine wa_iload_n C dX5_isName_40 rfl ?_
      obtain ⟨q6, hq6, h⟩ := bd h
      refine wa_callT (i := 4) C (r_J0_charAt_5068e_86 hq6) mk_J0_charAt_5068e mv_J0_charAt_5068e qw_289 (by decide) rfl rfl ⟨Nat.le_of_ble_eq_true rfl, Nat.le_of_ble_eq_true rfl⟩ ⟨Nat.zero_le _, Nat.zero_le _⟩ (Nat.le_of_ble_eq_true rfl) dX5_isName_41 rfl ?_
      refine wa_icmp_eq (tgt := 49) C dX5_isName_44 (by decide) (fun c7 => ?_) (fun c7 => ?_)
      · replace h := (if_pos c7).symm.trans h
        refine wa_iinc (v := (a2 + 1)) C dX5_isName_49 rfl rfl (by decide) ?_
        refine wa_goto (tgt := 20) C dX5_isName_52 (by decide) ?_
        exact WA.sub (lsub_c rfl (lsub_c rfl (lsub_c rfl lsub_n))) (ih _ _ h)
      · replace h := (if_neg c7).symm.trans h
        refine wa_iconst (v := 0) C dX5_isName_47 (by decide) ?_
        obtain rfl := Option.some.inj h
        exact wa_zret C rfl dX5_isName_48
set_option maxRecDepth 100000 in
set_option maxHeartbeats 4000000 in
theorem r_X5_isName_35_86 {μ : Mem} {ρ : (Int32 × Mem)} (h : f_X5_isName_35_86 μ = some ρ) : HT 4 yX5_isName cX5_isName 3 (some .boolean) [.ref 35, .ref 86] μ (some (.int ρ.1)) ρ.2 := by
  refine HT.of (by decide +kernel) (Nat.le_of_ble_eq_true rfl) (fun C => ?_)
  unfold f_X5_isName_35_86 at h
  refine wa_aload_n C dX5_isName_0 rfl ?_
  refine wa_geti (x := (μ.1 35 10)) C fl_RX5_51 rfl rfl (by decide) rfl dX5_isName_1 ?_
  refine wa_aload_n C dX5_isName_4 rfl ?_
  refine wa_geti (x := (μ.1 35 8)) C fl_RX5_45 rfl rfl (by decide) rfl dX5_isName_5 ?_
  refine wa_isub C dX5_isName_8 ?_
  refine wa_aload_n C dX5_isName_9 rfl ?_
  obtain ⟨q1, hq1, h⟩ := bd h
  refine wa_callT (i := 4) C (r_J0_length_8abf5_86 hq1) mk_J0_length_8abf5 mv_J0_length_8abf5 qw_277 (by decide) rfl rfl ⟨Nat.le_of_ble_eq_true rfl, Nat.le_of_ble_eq_true rfl⟩ ⟨Nat.zero_le _, Nat.zero_le _⟩ (Nat.le_of_ble_eq_true rfl) dX5_isName_10 rfl ?_
  refine wa_icmp_eq (tgt := 18) C dX5_isName_13 (by decide) (fun c2 => ?_) (fun c2 => ?_)
  · replace h := (if_pos c2).symm.trans h
    refine wa_iconst (v := 0) C dX5_isName_18 (by decide) ?_
    refine wa_istore_n C dX5_isName_19 (by decide) ?_
    exact WA.sub (lsub_c rfl (lsub_c rfl (lsub_c rfl lsub_n))) (r_X5_isName_35_86_L20 C  _ _ _ h)
  · replace h := (if_neg c2).symm.trans h
    refine wa_iconst (v := 0) C dX5_isName_16 (by decide) ?_
    obtain rfl := Option.some.inj h
    exact wa_zret C rfl dX5_isName_17
def f_J0_coder_7d493_87 (μ : Mem) : Option (Int32 × Mem) :=
  if (1 : Int32) = 0 then
    some ((1 : Int32), μ)
  else
    some ((0 : Int32), μ)
set_option maxRecDepth 100000 in
set_option maxHeartbeats 4000000 in
theorem r_J0_coder_7d493_87 {μ : Mem} {ρ : (Int32 × Mem)} (h : f_J0_coder_7d493_87 μ = some ρ) : HT 0 yJ0_coder_7d493 cJ0_coder_7d493 1 (some .byte) [.ref 87] μ (some (.int ρ.1)) ρ.2 := by
  refine HT.of (by decide +kernel) (Nat.le_of_ble_eq_true rfl) (fun C => ?_)
  unfold f_J0_coder_7d493_87 at h
  refine wa_gcs C qw_287 dJ0_coder_7d493_0 ?_
  refine wa_if_eq (tgt := 13) C dJ0_coder_7d493_3 (by decide) (fun c1 => ?_) (fun c1 => ?_)
  · replace h := (if_pos c1).symm.trans h
    refine wa_iconst (v := 1) C dJ0_coder_7d493_13 (by decide) ?_
    obtain rfl := Option.some.inj h
    exact wa_nret C rfl dJ0_coder_7d493_14
  · replace h := (if_neg c1).symm.trans h
    refine wa_aload_n C dJ0_coder_7d493_6 rfl ?_
    refine wa_scod (i := 5) C (by decide) qw_288 dJ0_coder_7d493_7 ?_
    refine wa_goto (tgt := 14) C dJ0_coder_7d493_10 (by decide) ?_
    obtain rfl := Option.some.inj h
    exact wa_nret C rfl dJ0_coder_7d493_14
def f_J0_length_8abf5_87 (μ : Mem) : Option (Int32 × Mem) :=
  (f_J0_coder_7d493_87 μ).bind fun q1 =>
  some (((3 : Int32) >>> (q1.1 &&& 31)), q1.2)
set_option maxRecDepth 100000 in
set_option maxHeartbeats 4000000 in
theorem r_J0_length_8abf5_87 {μ : Mem} {ρ : (Int32 × Mem)} (h : f_J0_length_8abf5_87 μ = some ρ) : HT 1 yJ0_length_8abf5 cJ0_length_8abf5 1 (some .int) [.ref 87] μ (some (.int ρ.1)) ρ.2 := by
  refine HT.of (by decide +kernel) (Nat.le_of_ble_eq_true rfl) (fun C => ?_)
  unfold f_J0_length_8abf5_87 at h
  refine wa_aload_n C dJ0_length_8abf5_0 rfl ?_
  refine wa_sval (i := 5) C (by decide) qw_282 dJ0_length_8abf5_1 ?_
  refine wa_stralen (i := 5) (v := 3) C (by decide) rfl dJ0_length_8abf5_4 ?_
  refine wa_aload_n C dJ0_length_8abf5_5 rfl ?_
  obtain ⟨q1, hq1, h⟩ := bd h
  refine wa_callT (i := 5) C (r_J0_coder_7d493_87 hq1) mk_J0_coder_7d493 mv_J0_coder_7d493 qw_283 (by decide) rfl rfl ⟨Nat.le_of_ble_eq_true rfl, Nat.le_of_ble_eq_true rfl⟩ ⟨Nat.zero_le _, Nat.zero_le _⟩ (Nat.le_of_ble_eq_true rfl) dJ0_length_8abf5_6 rfl ?_
  refine wa_ishr C dJ0_length_8abf5_9 ?_
  obtain rfl := Option.some.inj h
  exact wa_iret C dJ0_length_8abf5_10
def f_J0_isLatin1_aae02_87 (μ : Mem) : Option (Int32 × Mem) :=
  if (1 : Int32) = 0 then
    some ((0 : Int32), μ)
  else
    if (0 : Int32) = 0 then
      some ((1 : Int32), μ)
    else
      some ((0 : Int32), μ)
set_option maxRecDepth 100000 in
set_option maxHeartbeats 4000000 in
theorem r_J0_isLatin1_aae02_87 {μ : Mem} {ρ : (Int32 × Mem)} (h : f_J0_isLatin1_aae02_87 μ = some ρ) : HT 0 yJ0_isLatin1_aae02 cJ0_isLatin1_aae02 1 (some .boolean) [.ref 87] μ (some (.int ρ.1)) ρ.2 := by
  refine HT.of (by decide +kernel) (Nat.le_of_ble_eq_true rfl) (fun C => ?_)
  unfold f_J0_isLatin1_aae02_87 at h
  refine wa_gcs C qw_287 dJ0_isLatin1_aae02_0 ?_
  refine wa_if_eq (tgt := 17) C dJ0_isLatin1_aae02_3 (by decide) (fun c1 => ?_) (fun c1 => ?_)
  · replace h := (if_pos c1).symm.trans h
    refine wa_iconst (v := 0) C dJ0_isLatin1_aae02_17 (by decide) ?_
    obtain rfl := Option.some.inj h
    exact wa_zret C rfl dJ0_isLatin1_aae02_18
  · replace h := (if_neg c1).symm.trans h
    refine wa_aload_n C dJ0_isLatin1_aae02_6 rfl ?_
    refine wa_scod (i := 5) C (by decide) qw_288 dJ0_isLatin1_aae02_7 ?_
    refine wa_if_ne (tgt := 17) C dJ0_isLatin1_aae02_10 (by decide) (fun c2 => ?_) (fun c2 => ?_)
    · replace h := (if_neg c2).symm.trans h
      refine wa_iconst (v := 0) C dJ0_isLatin1_aae02_17 (by decide) ?_
      obtain rfl := Option.some.inj h
      exact wa_zret C rfl dJ0_isLatin1_aae02_18
    · replace h := (if_pos c2).symm.trans h
      refine wa_iconst (v := 1) C dJ0_isLatin1_aae02_13 (by decide) ?_
      refine wa_goto (tgt := 18) C dJ0_isLatin1_aae02_14 (by decide) ?_
      obtain rfl := Option.some.inj h
      exact wa_zret C rfl dJ0_isLatin1_aae02_18
def f_J1_charAt_3b067_97 (a1 : Int32) (μ : Mem) : Option (Int32 × Mem) :=
  (f_J0_checkIndex_df160 a1 (3 : Int32) μ).bind fun q1 =>
  if inb a1 3 = false then none else
  if ncr ((((strB 5 (a1.toNatClampNeg)) &&& (255 : Int32)).toUInt32 % 65536).toInt32) = false then none else
  some (((((strB 5 (a1.toNatClampNeg)) &&& (255 : Int32)).toUInt32 % 65536).toInt32), q1)
set_option maxRecDepth 100000 in
set_option maxHeartbeats 4000000 in
theorem r_J1_charAt_3b067_97 {a1 : Int32} {μ : Mem} {ρ : (Int32 × Mem)} (h : f_J1_charAt_3b067_97 a1 μ = some ρ) : HT 2 yJ1_charAt_3b067 cJ1_charAt_3b067 2 (some .char) [.ref 97, .int a1] μ (some (.int ρ.1)) ρ.2 := by
  refine HT.of (by decide +kernel) (Nat.le_of_ble_eq_true rfl) (fun C => ?_)
  unfold f_J1_charAt_3b067_97 at h
  refine wa_iload_n C dJ1_charAt_3b067_0 rfl ?_
  refine wa_aload_n C dJ1_charAt_3b067_1 rfl ?_
  refine wa_stralen (i := 5) (v := 3) C (by decide) rfl dJ1_charAt_3b067_2 ?_
  obtain ⟨q1, hq1, h⟩ := bd h
  refine wa_callS C (r_J0_checkIndex_df160 hq1) mk_J0_checkIndex_df160 ms_J0_checkIndex_df160 qw_301 rfl ⟨Nat.le_of_ble_eq_true rfl, Nat.le_of_ble_eq_true rfl⟩ ⟨Nat.zero_le _, Nat.zero_le _⟩ (Nat.le_of_ble_eq_true rfl) dJ1_charAt_3b067_3 rfl ?_
  refine wa_aload_n C dJ1_charAt_3b067_6 rfl ?_
  refine wa_iload_n C dJ1_charAt_3b067_7 rfl ?_
  obtain ⟨g2, h⟩ := gd h
  refine wa_strb (i := 5) (j := (a1.toNatClampNeg)) C (by decide) g2 rfl dJ1_charAt_3b067_8 ?_
  refine wa_sipush (v := 255) C dJ1_charAt_3b067_9 (by decide) ?_
  refine wa_iand C dJ1_charAt_3b067_12 ?_
  refine wa_i2c (v := ((((strB 5 (a1.toNatClampNeg)) &&& (255 : Int32)).toUInt32 % 65536).toInt32)) C dJ1_charAt_3b067_13 rfl ?_
  obtain ⟨g3, h⟩ := gd h
  obtain rfl := Option.some.inj h
  exact wa_nret C (ncr_nar g3) dJ1_charAt_3b067_14
