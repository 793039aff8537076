def f_X10_common_L6 (μ : Mem) (k6 : Int64 → Int64 → Option (Int64 × Mem)) (a4 : Int64) (a6 : Int64) : Option (Int64 × Mem) :=
    if (lg_cmp a6 (0 : Int64)) = 0 then
      some (a4, μ)
    else
      if a6 = 0 then none else
      k6 a6 (a4 - a4 / a6 * a6)
def f_X10_common (a0 : Int64) (a2 : Int64) (μ : Mem) : Option (Int64 × Mem) :=
  it2 (f_X10_common_L6 μ) FU a0 a2
set_option maxRecDepth 100000 in
set_option maxHeartbeats 4000000 in
theorem r_X10_common_L6 {p : Program} {l : Launch} {e : Env} {s : State} {m : MethodId} {args : Array Value} {below : List Frame} {meth : Method} {c : Code} {D : va_G} {cy : Nat → ClassId} {ad : Nat → Nat} (C : CX p s m args meth c cX10_common 10 RX10 (some .long) D cy ad (AD ad)) (μ : Mem) {ρ : (Int64 × Mem)} : ∀ (n : Nat) (a4 : Int64) (a6 : Int64), it2 (f_X10_common_L6 μ) n a4 a6 = some ρ → WA p l e (rmD 0) s m args below meth c 10 D cy ad (AD ad) 0 0 (ZZ below args s D cy ad (AD ad) 0 0 (some (.long ρ.1)) ρ.2) μ [(4, .long a4), (6, .long a6)] 6 [] := by
  intro n
  induction n with
  | zero =>
    intro a4 a6 h
    exact absurd h (fun h => by cases h)
  | succ n ih =>
    intro a4 a6 h
    replace h : f_X10_common_L6 μ (it2 (f_X10_common_L6 μ) n) a4 a6 = some ρ := h
    unfold f_X10_common_L6 at h
    refine wa_lload C dX10_common_6 rfl ?_
    refine wa_lconst (v := 0) C dX10_common_8 (by decide) ?_
    refine wa_lcmp C dX10_common_9 ?_
    refine wa_if_eq (tgt := 31) C dX10_common_10 (by decide) (fun c1 => ?_) (fun c1 => ?_)
    · replace h := (if_pos c1).symm.trans h
      refine wa_lload C dX10_common_31 rfl ?_
      obtain rfl := Option.some.inj h
      exact wa_lret C dX10_common_33
    · replace h := (if_neg c1).symm.trans h
      refine wa_lload C dX10_common_13 rfl ?_
      refine wa_lload C dX10_common_15 rfl ?_
      obtain ⟨g2, h⟩ := gnL h
      refine wa_lrem C dX10_common_17 g2 ?_
      refine wa_lstore C dX10_common_18 (by decide) ?_
      refine wa_lload C dX10_common_20 rfl ?_
      refine wa_lstore C dX10_common_22 (by decide) ?_
      refine wa_lload C dX10_common_24 rfl ?_
      refine wa_lstore C dX10_common_26 (by decide) ?_
      refine wa_goto (tgt := 6) C dX10_common_28 (by decide) ?_
      exact WA.sub (lsub_c rfl (lsub_c rfl lsub_n)) (ih _ _ h)
set_option maxRecDepth 100000 in
set_option maxHeartbeats 4000000 in
theorem r_X10_common {a0 : Int64} {a2 : Int64} {μ : Mem} {ρ : (Int64 × Mem)} (h : f_X10_common a0 a2 μ = some ρ) : HT 0 yX10_common cX10_common 10 (some .long) [.long a0, .long a2] μ (some (.long ρ.1)) ρ.2 := by
  refine HT.of (by decide +kernel) (Nat.le_of_ble_eq_true rfl) (fun C => ?_)
  unfold f_X10_common at h
  refine wa_lload_n C dX10_common_0 rfl ?_
  refine wa_lstore C dX10_common_1 (by decide) ?_
  refine wa_lload_n C dX10_common_3 rfl ?_
  refine wa_lstore C dX10_common_4 (by decide) ?_
  exact WA.sub (lsub_c rfl (lsub_c rfl lsub_n)) (r_X10_common_L6 C _ _ _ _ h)
def f_X10_lowest (a0 : Int64) (a2 : Int32) (μ : Mem) : Option (Int64 × Mem) :=
  (f_X10_common (1000000 : Int64) a0 μ).bind fun q1 =>
  if a2 = 0 then
    if q1.1 = 0 then none else
    some ((a0 / q1.1), q1.2)
  else
    if q1.1 = 0 then none else
    some (((1000000 : Int64) / q1.1), q1.2)
set_option maxRecDepth 100000 in
set_option maxHeartbeats 4000000 in
theorem r_X10_lowest {a0 : Int64} {a2 : Int32} {μ : Mem} {ρ : (Int64 × Mem)} (h : f_X10_lowest a0 a2 μ = some ρ) : HT 1 yX10_lowest cX10_lowest 5 (some .long) [.long a0, .int a2] μ (some (.long ρ.1)) ρ.2 := by
  refine HT.of (by decide +kernel) (Nat.le_of_ble_eq_true rfl) (fun C => ?_)
  unfold f_X10_lowest at h
  refine wa_ldc2 (v := 1000000) C qw_993 dX10_lowest_0 ?_
  refine wa_lload_n C dX10_lowest_3 rfl ?_
  obtain ⟨q1, hq1, h⟩ := bd h
  refine wa_callS C (r_X10_common hq1) mk_X10_common ms_X10_common qw_994 rfl ⟨Nat.le_of_ble_eq_true rfl, Nat.le_of_ble_eq_true rfl⟩ ⟨Nat.zero_le _, Nat.zero_le _⟩ (Nat.le_of_ble_eq_true rfl) dX10_lowest_4 rfl ?_
  refine wa_lstore_n C dX10_lowest_7 (by decide) ?_
  refine wa_iload_n C dX10_lowest_8 rfl ?_
  refine wa_if_ne (tgt := 18) C dX10_lowest_9 (by decide) (fun c2 => ?_) (fun c2 => ?_)
  · replace h := (if_neg c2).symm.trans h
    refine wa_ldc2 (v := 1000000) C qw_993 dX10_lowest_18 ?_
    refine wa_lload_n C dX10_lowest_21 rfl ?_
    obtain ⟨g4, h⟩ := gnL h
    refine wa_ldiv C dX10_lowest_22 g4 ?_
    obtain rfl := Option.some.inj h
    exact wa_lret C dX10_lowest_23
  · replace h := (if_pos c2).symm.trans h
    refine wa_lload_n C dX10_lowest_12 rfl ?_
    refine wa_lload_n C dX10_lowest_13 rfl ?_
    obtain ⟨g3, h⟩ := gnL h
    refine wa_ldiv C dX10_lowest_14 g3 ?_
    refine wa_goto (tgt := 23) C dX10_lowest_15 (by decide) ?_
    obtain rfl := Option.some.inj h
    exact wa_lret C dX10_lowest_23
def f_X10_odds_62_J35 (μ : Mem) : Option (Int64 × Mem) :=
  some ((-1 : Int64), μ)
def f_X10_odds_62 (a1 : Int32) (a2 : Int32) (a3 : Int32) (μ : Mem) : Option (Int64 × Mem) :=
  (f_X10_isSide a1 μ).bind fun q1 =>
  if q1.1 = 0 then
    f_X10_odds_62_J35 q1.2
  else
    (f_X10_isQuarter_62 a2 q1.2).bind fun q3 =>
    if q3.1 = 0 then
      f_X10_odds_62_J35 q3.2
    else
      (f_X10_isPart a3 q3.2).bind fun q5 =>
      if q5.1 = 0 then
        f_X10_odds_62_J35 q5.2
      else
        (f_X10_missedOver_62 a1 a2 q5.2).bind fun q7 =>
        (f_X10_lowest q7.1 a3 q7.2).bind fun q8 =>
        some (q8.1, q8.2)
set_option maxRecDepth 100000 in
set_option maxHeartbeats 4000000 in
theorem r_X10_odds_62_J35 {p : Program} {l : Launch} {e : Env} {s : State} {m : MethodId} {args : Array Value} {below : List Frame} {meth : Method} {c : Code} {D : va_G} {cy : Nat → ClassId} {ad : Nat → Nat} (C : CX p s m args meth c cX10_odds 4 RX10 (some .long) D cy ad (AD ad)) {μ : Mem} {ρ : (Int64 × Mem)} (h : f_X10_odds_62_J35 μ = some ρ) : WA p l e (rmD 4) s m args below meth c 4 D cy ad (AD ad) 0 0 (ZZ below args s D cy ad (AD ad) 0 0 (some (.long ρ.1)) ρ.2) μ [] 35 [] := by
  unfold f_X10_odds_62_J35 at h
  refine wa_ldc2 (v := -1) C qw_985 dX10_odds_35 ?_
  obtain rfl := Option.some.inj h
  exact wa_lret C dX10_odds_38
set_option maxRecDepth 100000 in
set_option maxHeartbeats 4000000 in
theorem r_X10_odds_62 {a1 : Int32} {a2 : Int32} {a3 : Int32} {μ : Mem} {ρ : (Int64 × Mem)} (h : f_X10_odds_62 a1 a2 a3 μ = some ρ) : HT 4 yX10_odds cX10_odds 4 (some .long) [.ref 62, .int a1, .int a2, .int a3] μ (some (.long ρ.1)) ρ.2 := by
  refine HT.of (by decide +kernel) (Nat.le_of_ble_eq_true rfl) (fun C => ?_)
  unfold f_X10_odds_62 at h
  refine wa_iload_n C dX10_odds_0 rfl ?_
  obtain ⟨q1, hq1, h⟩ := bd h
  refine wa_callS C (r_X10_isSide hq1) mk_X10_isSide ms_X10_isSide qw_554 rfl ⟨Nat.le_of_ble_eq_true rfl, Nat.le_of_ble_eq_true rfl⟩ ⟨Nat.zero_le _, Nat.zero_le _⟩ (Nat.le_of_ble_eq_true rfl) dX10_odds_1 rfl ?_
  refine wa_if_eq (tgt := 35) C dX10_odds_4 (by decide) (fun c2 => ?_) (fun c2 => ?_)
  · replace h := (if_pos c2).symm.trans h
    exact WA.sub lsub_n (r_X10_odds_62_J35 C h)
  · replace h := (if_neg c2).symm.trans h
    refine wa_aload_n C dX10_odds_7 rfl ?_
    refine wa_iload_n C dX10_odds_8 rfl ?_
    obtain ⟨q3, hq3, h⟩ := bd h
    refine wa_callV C (r_X10_isQuarter_62 hq3) mk_X10_isQuarter mv_X10_isQuarter qw_558 rfl (by decide) rfl rfl ⟨Nat.le_of_ble_eq_true rfl, Nat.le_of_ble_eq_true rfl⟩ ⟨Nat.zero_le _, Nat.zero_le _⟩ (Nat.le_of_ble_eq_true rfl) dX10_odds_9 rfl ?_
    refine wa_if_eq (tgt := 35) C dX10_odds_12 (by decide) (fun c4 => ?_) (fun c4 => ?_)
    · replace h := (if_pos c4).symm.trans h
      exact WA.sub lsub_n (r_X10_odds_62_J35 C h)
    · replace h := (if_neg c4).symm.trans h
      refine wa_iload_n C dX10_odds_15 rfl ?_
      obtain ⟨q5, hq5, h⟩ := bd h
      refine wa_callS C (r_X10_isPart hq5) mk_X10_isPart ms_X10_isPart qw_706 rfl ⟨Nat.le_of_ble_eq_true rfl, Nat.le_of_ble_eq_true rfl⟩ ⟨Nat.zero_le _, Nat.zero_le _⟩ (Nat.le_of_ble_eq_true rfl) dX10_odds_16 rfl ?_
      refine wa_if_eq (tgt := 35) C dX10_odds_19 (by decide) (fun c6 => ?_) (fun c6 => ?_)
      · replace h := (if_pos c6).symm.trans h
        exact WA.sub lsub_n (r_X10_odds_62_J35 C h)
      · replace h := (if_neg c6).symm.trans h
        refine wa_aload_n C dX10_odds_22 rfl ?_
        refine wa_iload_n C dX10_odds_23 rfl ?_
        refine wa_iload_n C dX10_odds_24 rfl ?_
        obtain ⟨q7, hq7, h⟩ := bd h
        refine wa_callV C (r_X10_missedOver_62 hq7) mk_X10_missedOver mv_X10_missedOver qw_986 rfl (by decide) rfl rfl ⟨Nat.le_of_ble_eq_true rfl, Nat.le_of_ble_eq_true rfl⟩ ⟨Nat.zero_le _, Nat.zero_le _⟩ (Nat.le_of_ble_eq_true rfl) dX10_odds_25 rfl ?_
        refine wa_iload_n C dX10_odds_28 rfl ?_
        obtain ⟨q8, hq8, h⟩ := bd h
        refine wa_callS C (r_X10_lowest hq8) mk_X10_lowest ms_X10_lowest qw_990 rfl ⟨Nat.le_of_ble_eq_true rfl, Nat.le_of_ble_eq_true rfl⟩ ⟨Nat.zero_le _, Nat.zero_le _⟩ (Nat.le_of_ble_eq_true rfl) dX10_odds_29 rfl ?_
        refine wa_goto (tgt := 38) C dX10_odds_32 (by decide) ?_
        obtain rfl := Option.some.inj h
        exact wa_lret C dX10_odds_38
def f_X9_mean_0_J18 (μ : Mem) : Option (Int64 × Mem) :=
  some ((-1 : Int64), μ)
def f_X9_mean_0_L32 (a2 : Int32) (μ : Mem) (k32 : Int64 → Int32 → Option (Int64 × Mem)) (a3 : Int64) (a5 : Int32) : Option (Int64 × Mem) :=
    if (4 : Int32) ≤ a5 then
      (f_X8_fraction_59 a3 a2 μ).bind fun q7 =>
      some (q7.1, q7.2)
    else
      if inb a5 4 = false then none else
      k32 (a3 + (μ.2 60 (a5.toNatClampNeg))) (a5 + 1)
def f_X9_mean_0 (a1 : Int32) (a2 : Int32) (μ : Mem) : Option (Int64 × Mem) :=
  (f_X1_hasQuarter_1 a1 μ).bind fun q1 =>
  if q1.1 = 0 then
    f_X9_mean_0_J18 q1.2
  else
    (f_X9_isEither a2 q1.2).bind fun q3 =>
    if q3.1 = 0 then
      f_X9_mean_0_J18 q3.2
    else
      (f_X9_weighSleep_0 a1 q3.2).bind fun q5 =>
      it2 (f_X9_mean_0_L32 a2 q5) FU (0 : Int64) (0 : Int32)
set_option maxRecDepth 100000 in
set_option maxHeartbeats 4000000 in
theorem r_X9_mean_0_J18 {p : Program} {l : Launch} {e : Env} {s : State} {m : MethodId} {args : Array Value} {below : List Frame} {meth : Method} {c : Code} {D : va_G} {cy : Nat → ClassId} {ad : Nat → Nat} (C : CX p s m args meth c cX9_mean 6 RX9 (some .long) D cy ad (AD ad)) {μ : Mem} {ρ : (Int64 × Mem)} (h : f_X9_mean_0_J18 μ = some ρ) : WA p l e (rmD 4) s m args below meth c 6 D cy ad (AD ad) 0 0 (ZZ below args s D cy ad (AD ad) 0 0 (some (.long ρ.1)) ρ.2) μ [] 18 [] := by
  unfold f_X9_mean_0_J18 at h
  refine wa_ldc2 (v := -1) C qw_957 dX9_mean_18 ?_
  obtain rfl := Option.some.inj h
  exact wa_lret C dX9_mean_21
set_option maxRecDepth 100000 in
set_option maxHeartbeats 4000000 in
theorem r_X9_mean_0_L32 {p : Program} {l : Launch} {e : Env} {s : State} {m : MethodId} {args : Array Value} {below : List Frame} {meth : Method} {c : Code} {D : va_G} {cy : Nat → ClassId} {ad : Nat → Nat} (C : CX p s m args meth c cX9_mean 6 RX9 (some .long) D cy ad (AD ad)) (a2 : Int32) (μ : Mem) {ρ : (Int64 × Mem)} : ∀ (n : Nat) (a3 : Int64) (a5 : Int32), it2 (f_X9_mean_0_L32 a2 μ) n a3 a5 = some ρ → WA p l e (rmD 4) s m args below meth c 6 D cy ad (AD ad) 0 0 (ZZ below args s D cy ad (AD ad) 0 0 (some (.long ρ.1)) ρ.2) μ [(0, .ref 0), (2, .int a2), (3, .long a3), (5, .int a5)] 32 [] := by
  intro n
  induction n with
  | zero =>
    intro a3 a5 h
    exact absurd h (fun h => by cases h)
  | succ n ih =>
    intro a3 a5 h
    replace h : f_X9_mean_0_L32 a2 μ (it2 (f_X9_mean_0_L32 a2 μ) n) a3 a5 = some ρ := h
    unfold f_X9_mean_0_L32 at h
    refine wa_iload C dX9_mean_32 rfl ?_
    refine wa_iconst (v := 4) C dX9_mean_34 (by decide) ?_
    refine wa_icmp_ge (tgt := 57) C dX9_mean_35 (by decide) (fun c6 => ?_) (fun c6 => ?_)
    · replace h := (if_pos c6).symm.trans h
      refine wa_aload_n C dX9_mean_57 rfl ?_
      refine wa_getr C fl_RX9_72 rfl rfl (by decide) dX9_mean_58 ?_
      refine wa_lload_n C dX9_mean_61 rfl ?_
      refine wa_iload_n C dX9_mean_62 rfl ?_
      obtain ⟨q7, hq7, h⟩ := bd h
      refine wa_callV C (r_X8_fraction_59 hq7) mk_X8_fraction mv_X8_fraction qw_974 rfl (by decide) rfl rfl ⟨Nat.le_of_ble_eq_true rfl, Nat.le_of_ble_eq_true rfl⟩ ⟨Nat.zero_le _, Nat.zero_le _⟩ (Nat.le_of_ble_eq_true rfl) dX9_mean_63 rfl ?_
      obtain rfl := Option.some.inj h
      exact wa_lret C dX9_mean_66
    · replace h := (if_neg c6).symm.trans h
      refine wa_lload_n C dX9_mean_38 rfl ?_
      refine wa_aload_n C dX9_mean_39 rfl ?_
      refine wa_getr C fl_RX9_72 rfl rfl (by decide) dX9_mean_40 ?_
      refine wa_getr C fl_RX9_244 rfl rfl (by decide) dX9_mean_43 ?_
      refine wa_iload C dX9_mean_46 rfl ?_
      obtain ⟨g8, h⟩ := gd h
      refine wa_lald (j := (a5.toNatClampNeg)) (x := (μ.2 60 (a5.toNatClampNeg))) C rfl (by decide) g8 rfl rfl dX9_mean_48 ?_
      refine wa_ladd C dX9_mean_49 ?_
      refine wa_lstore_n C dX9_mean_50 (by decide) ?_
      refine wa_iinc (v := (a5 + 1)) C dX9_mean_51 rfl rfl (by decide) ?_
      refine wa_goto (tgt := 32) C dX9_mean_54 (by decide) ?_
      exact WA.sub (lsub_c rfl (lsub_c rfl (lsub_c rfl (lsub_c rfl lsub_n)))) (ih _ _ h)
set_option maxRecDepth 100000 in
set_option maxHeartbeats 4000000 in
theorem r_X9_mean_0 {a1 : Int32} {a2 : Int32} {μ : Mem} {ρ : (Int64 × Mem)} (h : f_X9_mean_0 a1 a2 μ = some ρ) : HT 4 yX9_mean cX9_mean 6 (some .long) [.ref 0, .int a1, .int a2] μ (some (.long ρ.1)) ρ.2 := by
  refine HT.of (by decide +kernel) (Nat.le_of_ble_eq_true rfl) (fun C => ?_)
  unfold f_X9_mean_0 at h
  refine wa_aload_n C dX9_mean_0 rfl ?_
  refine wa_getr C fl_RX9_10 rfl rfl (by decide) dX9_mean_1 ?_
  refine wa_iload_n C dX9_mean_4 rfl ?_
  obtain ⟨q1, hq1, h⟩ := bd h
  refine wa_callV C (r_X1_hasQuarter_1 hq1) mk_X1_hasQuarter mv_X1_hasQuarter qw_546 rfl (by decide) rfl rfl ⟨Nat.le_of_ble_eq_true rfl, Nat.le_of_ble_eq_true rfl⟩ ⟨Nat.zero_le _, Nat.zero_le _⟩ (Nat.le_of_ble_eq_true rfl) dX9_mean_5 rfl ?_
  refine wa_if_eq (tgt := 18) C dX9_mean_8 (by decide) (fun c2 => ?_) (fun c2 => ?_)
  · replace h := (if_pos c2).symm.trans h
    exact WA.sub lsub_n (r_X9_mean_0_J18 C h)
  · replace h := (if_neg c2).symm.trans h
    refine wa_iload_n C dX9_mean_11 rfl ?_
    obtain ⟨q3, hq3, h⟩ := bd h
    refine wa_callS C (r_X9_isEither hq3) mk_X9_isEither ms_X9_isEither qw_487 rfl ⟨Nat.le_of_ble_eq_true rfl, Nat.le_of_ble_eq_true rfl⟩ ⟨Nat.zero_le _, Nat.zero_le _⟩ (Nat.le_of_ble_eq_true rfl) dX9_mean_12 rfl ?_
    refine wa_if_ne (tgt := 22) C dX9_mean_15 (by decide) (fun c4 => ?_) (fun c4 => ?_)
    · replace h := (if_neg c4).symm.trans h
      refine wa_aload_n C dX9_mean_22 rfl ?_
      refine wa_iload_n C dX9_mean_23 rfl ?_
      obtain ⟨q5, hq5, h⟩ := bd h
      refine wa_callV C (r_X9_weighSleep_0 hq5) mk_X9_weighSleep mv_X9_weighSleep qw_959 rfl (by decide) rfl rfl ⟨Nat.le_of_ble_eq_true rfl, Nat.le_of_ble_eq_true rfl⟩ ⟨Nat.zero_le _, Nat.zero_le _⟩ (Nat.le_of_ble_eq_true rfl) dX9_mean_24 rfl ?_
      refine wa_lconst (v := 0) C dX9_mean_27 (by decide) ?_
      refine wa_lstore_n C dX9_mean_28 (by decide) ?_
      refine wa_iconst (v := 0) C dX9_mean_29 (by decide) ?_
      refine wa_istore C dX9_mean_30 (by decide) ?_
      exact WA.sub (lsub_c rfl (lsub_c rfl (lsub_c rfl (lsub_c rfl lsub_n)))) (r_X9_mean_0_L32 C _ _ _ _ _ h)
    · replace h := (if_pos c4).symm.trans h
      exact WA.sub lsub_n (r_X9_mean_0_J18 C h)
def f_X10_mean_62_J15 (μ : Mem) : Option (Int64 × Mem) :=
  some ((-1 : Int64), μ)
def f_X10_mean_62_L24 (a1 : Int32) (a2 : Int32) (k24 : Int64 → Int32 → Mem → Option (Int64 × Mem)) (a3 : Int64) (a5 : Int32) (μ : Mem) : Option (Int64 × Mem) :=
    if (4 : Int32) ≤ a5 then
      (f_X10_lowest a3 a2 μ).bind fun q6 =>
      some (q6.1, q6.2)
    else
      (f_X10_missedOver_62 a5 a1 μ).bind fun q7 =>
      k24 (a3 + q7.1) (a5 + 1) q7.2
def f_X10_mean_62 (a1 : Int32) (a2 : Int32) (μ : Mem) : Option (Int64 × Mem) :=
  (f_X10_isQuarter_62 a1 μ).bind fun q1 =>
  if q1.1 = 0 then
    f_X10_mean_62_J15 q1.2
  else
    (f_X10_isPart a2 q1.2).bind fun q3 =>
    if q3.1 = 0 then
      f_X10_mean_62_J15 q3.2
    else
      it3 (f_X10_mean_62_L24 a1 a2) FU (0 : Int64) (0 : Int32) q3.2
set_option maxRecDepth 100000 in
set_option maxHeartbeats 4000000 in
theorem r_X10_mean_62_J15 {p : Program} {l : Launch} {e : Env} {s : State} {m : MethodId} {args : Array Value} {below : List Frame} {meth : Method} {c : Code} {D : va_G} {cy : Nat → ClassId} {ad : Nat → Nat} (C : CX p s m args meth c cX10_mean 6 RX10 (some .long) D cy ad (AD ad)) {μ : Mem} {ρ : (Int64 × Mem)} (h : f_X10_mean_62_J15 μ = some ρ) : WA p l e (rmD 4) s m args below meth c 6 D cy ad (AD ad) 0 0 (ZZ below args s D cy ad (AD ad) 0 0 (some (.long ρ.1)) ρ.2) μ [] 15 [] := by
  unfold f_X10_mean_62_J15 at h
  refine wa_ldc2 (v := -1) C qw_985 dX10_mean_15 ?_
  obtain rfl := Option.some.inj h
  exact wa_lret C dX10_mean_18
set_option maxRecDepth 100000 in
set_option maxHeartbeats 4000000 in
theorem r_X10_mean_62_L24 {p : Program} {l : Launch} {e : Env} {s : State} {m : MethodId} {args : Array Value} {below : List Frame} {meth : Method} {c : Code} {D : va_G} {cy : Nat → ClassId} {ad : Nat → Nat} (C : CX p s m args meth c cX10_mean 6 RX10 (some .long) D cy ad (AD ad)) (a1 : Int32) (a2 : Int32) {ρ : (Int64 × Mem)} : ∀ (n : Nat) (a3 : Int64) (a5 : Int32) (μ : Mem), it3 (f_X10_mean_62_L24 a1 a2) n a3 a5 μ = some ρ → WA p l e (rmD 4) s m args below meth c 6 D cy ad (AD ad) 0 0 (ZZ below args s D cy ad (AD ad) 0 0 (some (.long ρ.1)) ρ.2) μ [(0, .ref 62), (1, .int a1), (2, .int a2), (3, .long a3), (5, .int a5)] 24 [] := by
  intro n
  induction n with
  | zero =>
    intro a3 a5 μ h
    exact absurd h (fun h => by cases h)
  | succ n ih =>
    intro a3 a5 μ h
    replace h : f_X10_mean_62_L24 a1 a2 (it3 (f_X10_mean_62_L24 a1 a2) n) a3 a5 μ = some ρ := h
    unfold f_X10_mean_62_L24 at h
    refine wa_iload C dX10_mean_24 rfl ?_
    refine wa_iconst (v := 4) C dX10_mean_26 (by decide) ?_
    refine wa_icmp_ge (tgt := 46) C dX10_mean_27 (by decide) (fun c5 => ?_) (fun c5 => ?_)
    · replace h := (if_pos c5).symm.trans h
      refine wa_lload_n C dX10_mean_46 rfl ?_
      refine wa_iload_n C dX10_mean_47 rfl ?_
      obtain ⟨q6, hq6, h⟩ := bd h
      refine wa_callS C (r_X10_lowest hq6) mk_X10_lowest ms_X10_lowest qw_990 rfl ⟨Nat.le_of_ble_eq_true rfl, Nat.le_of_ble_eq_true rfl⟩ ⟨Nat.zero_le _, Nat.zero_le _⟩ (Nat.le_of_ble_eq_true rfl) dX10_mean_48 rfl ?_
      obtain rfl := Option.some.inj h
      exact wa_lret C dX10_mean_51
    · replace h := (if_neg c5).symm.trans h
      refine wa_lload_n C dX10_mean_30 rfl ?_
      refine wa_aload_n C dX10_mean_31 rfl ?_
      refine wa_iload C dX10_mean_32 rfl ?_
      refine wa_iload_n C dX10_mean_34 rfl ?_
      obtain ⟨q7, hq7, h⟩ := bd h
      refine wa_callV C (r_X10_missedOver_62 hq7) mk_X10_missedOver mv_X10_missedOver qw_986 rfl (by decide) rfl rfl ⟨Nat.le_of_ble_eq_true rfl, Nat.le_of_ble_eq_true rfl⟩ ⟨Nat.zero_le _, Nat.zero_le _⟩ (Nat.le_of_ble_eq_true rfl) dX10_mean_35 rfl ?_
      refine wa_ladd C dX10_mean_38 ?_
      refine wa_lstore_n C dX10_mean_39 (by decide) ?_
      refine wa_iinc (v := (a5 + 1)) C dX10_mean_40 rfl rfl (by decide) ?_
      refine wa_goto (tgt := 24) C dX10_mean_43 (by decide) ?_
      exact WA.sub (lsub_c rfl (lsub_c rfl (lsub_c rfl (lsub_c rfl (lsub_c rfl lsub_n))))) (ih _ _ _ h)
set_option maxRecDepth 100000 in
set_option maxHeartbeats 4000000 in
theorem r_X10_mean_62 {a1 : Int32} {a2 : Int32} {μ : Mem} {ρ : (Int64 × Mem)} (h : f_X10_mean_62 a1 a2 μ = some ρ) : HT 4 yX10_mean cX10_mean 6 (some .long) [.ref 62, .int a1, .int a2] μ (some (.long ρ.1)) ρ.2 := by
  refine HT.of (by decide +kernel) (Nat.le_of_ble_eq_true rfl) (fun C => ?_)
  unfold f_X10_mean_62 at h
  refine wa_aload_n C dX10_mean_0 rfl ?_
  refine wa_iload_n C dX10_mean_1 rfl ?_
  obtain ⟨q1, hq1, h⟩ := bd h
  refine wa_callV C (r_X10_isQuarter_62 hq1) mk_X10_isQuarter mv_X10_isQuarter qw_558 rfl (by decide) rfl rfl ⟨Nat.le_of_ble_eq_true rfl, Nat.le_of_ble_eq_true rfl⟩ ⟨Nat.zero_le _, Nat.zero_le _⟩ (Nat.le_of_ble_eq_true rfl) dX10_mean_2 rfl ?_
  refine wa_if_eq (tgt := 15) C dX10_mean_5 (by decide) (fun c2 => ?_) (fun c2 => ?_)
  · replace h := (if_pos c2).symm.trans h
    exact WA.sub lsub_n (r_X10_mean_62_J15 C h)
  · replace h := (if_neg c2).symm.trans h
    refine wa_iload_n C dX10_mean_8 rfl ?_
    obtain ⟨q3, hq3, h⟩ := bd h
    refine wa_callS C (r_X10_isPart hq3) mk_X10_isPart ms_X10_isPart qw_706 rfl ⟨Nat.le_of_ble_eq_true rfl, Nat.le_of_ble_eq_true rfl⟩ ⟨Nat.zero_le _, Nat.zero_le _⟩ (Nat.le_of_ble_eq_true rfl) dX10_mean_9 rfl ?_
    refine wa_if_ne (tgt := 19) C dX10_mean_12 (by decide) (fun c4 => ?_) (fun c4 => ?_)
    · replace h := (if_neg c4).symm.trans h
      refine wa_lconst (v := 0) C dX10_mean_19 (by decide) ?_
      refine wa_lstore_n C dX10_mean_20 (by decide) ?_
      refine wa_iconst (v := 0) C dX10_mean_21 (by decide) ?_
      refine wa_istore C dX10_mean_22 (by decide) ?_
      exact WA.sub (lsub_c rfl (lsub_c rfl (lsub_c rfl (lsub_c rfl (lsub_c rfl lsub_n))))) (r_X10_mean_62_L24 C _ _ _ _ _ _ h)
    · replace h := (if_pos c4).symm.trans h
      exact WA.sub lsub_n (r_X10_mean_62_J15 C h)
def f_X9_hear_0_J65 (t1 : Int32) (t2 : Int32) (t3 : Int32) (μ : Mem) : Option (Int32 × Mem) :=
  if inb t1 8 = false then none else
  some (((μ.1 4 6) + (1 : Int32)), (pI (pI μ 10 (t1.toNatClampNeg) (t2 + t3)) 4 6 ((μ.1 4 6) + (1 : Int32))))
def f_X9_hear_0 (a1 : Int32) (a2 : Int32) (a3 : Int32) (μ : Mem) : Option (Int32 × Mem) :=
  (f_X1_hasQuarter_1 a1 μ).bind fun q1 =>
  if q1.1 = 0 then
    some ((-1 : Int32), q1.2)
  else
    (f_X9_isSide a2 q1.2).bind fun q3 =>
    if q3.1 = 0 then
      some ((-1 : Int32), q3.2)
    else
      if (q3.2.1 4 6) < (8 : Int32) then
        if a3 = 0 then
          f_X9_hear_0_J65 (q3.2.1 4 6) (((a1 * (4 : Int32)) + a2) * (2 : Int32)) (0 : Int32) q3.2
        else
          f_X9_hear_0_J65 (q3.2.1 4 6) (((a1 * (4 : Int32)) + a2) * (2 : Int32)) (1 : Int32) q3.2
      else
        some ((-3 : Int32), q3.2)
set_option maxRecDepth 100000 in
set_option maxHeartbeats 4000000 in
theorem r_X9_hear_0_J65 {p : Program} {l : Launch} {e : Env} {s : State} {m : MethodId} {args : Array Value} {below : List Frame} {meth : Method} {c : Code} {D : va_G} {cy : Nat → ClassId} {ad : Nat → Nat} (C : CX p s m args meth c cX9_hear 4 RX9 (some .int) D cy ad (AD ad)) {t1 : Int32} {t2 : Int32} {t3 : Int32} {μ : Mem} {ρ : (Int32 × Mem)} (h : f_X9_hear_0_J65 t1 t2 t3 μ = some ρ) : WA p l e (rmD 1) s m args below meth c 4 D cy ad (AD ad) 0 0 (ZZ below args s D cy ad (AD ad) 0 0 (some (.int ρ.1)) ρ.2) μ [(0, .ref 0)] 65 [.int t3, .int t2, .int t1, .ref 10] := by
  unfold f_X9_hear_0_J65 at h
  refine wa_iadd C dX9_hear_65 ?_
  obtain ⟨g7, h⟩ := gd h
  refine wa_iast (j := (t1.toNatClampNeg)) C rfl (by decide) g7 rfl dX9_hear_66 ?_
  refine wa_aload_n C dX9_hear_67 rfl ?_
  refine wa_getr C fl_RX9_19 rfl rfl (by decide) dX9_hear_68 ?_
  refine wa_dup C dX9_hear_71 rfl ?_
  refine wa_geti (x := (μ.1 4 6)) C fl_RX9_252 rfl rfl (by decide) rfl dX9_hear_72 ?_
  refine wa_iconst (v := 1) C dX9_hear_75 (by decide) ?_
  refine wa_iadd C dX9_hear_76 ?_
  refine wa_puti C fl_RX9_252 fp_4_6 rfl rfl (by decide) rfl rfl dX9_hear_77 ?_
  refine wa_aload_n C dX9_hear_80 rfl ?_
  refine wa_getr C fl_RX9_19 rfl rfl (by decide) dX9_hear_81 ?_
  refine wa_geti (x := ((μ.1 4 6) + (1 : Int32))) C fl_RX9_252 rfl rfl (by decide) rfl dX9_hear_84 ?_
  obtain rfl := Option.some.inj h
  exact wa_iret C dX9_hear_87
set_option maxRecDepth 100000 in
set_option maxHeartbeats 4000000 in
theorem r_X9_hear_0 {a1 : Int32} {a2 : Int32} {a3 : Int32} {μ : Mem} {ρ : (Int32 × Mem)} (h : f_X9_hear_0 a1 a2 a3 μ = some ρ) : HT 1 yX9_hear cX9_hear 4 (some .int) [.ref 0, .int a1, .int a2, .int a3] μ (some (.int ρ.1)) ρ.2 := by
  refine HT.of (by decide +kernel) (Nat.le_of_ble_eq_true rfl) (fun C => ?_)
  unfold f_X9_hear_0 at h
  refine wa_aload_n C dX9_hear_0 rfl ?_
  refine wa_getr C fl_RX9_10 rfl rfl (by decide) dX9_hear_1 ?_
  refine wa_iload_n C dX9_hear_4 rfl ?_
  obtain ⟨q1, hq1, h⟩ := bd h
  refine wa_callV C (r_X1_hasQuarter_1 hq1) mk_X1_hasQuarter mv_X1_hasQuarter qw_546 rfl (by decide) rfl rfl ⟨Nat.le_of_ble_eq_true rfl, Nat.le_of_ble_eq_true rfl⟩ ⟨Nat.zero_le _, Nat.zero_le _⟩ (Nat.le_of_ble_eq_true rfl) dX9_hear_5 rfl ?_
  refine wa_if_eq (tgt := 18) C dX9_hear_8 (by decide) (fun c2 => ?_) (fun c2 => ?_)
  · replace h := (if_pos c2).symm.trans h
    refine wa_iconst (v := -1) C dX9_hear_18 (by decide) ?_
    obtain rfl := Option.some.inj h
    exact wa_iret C dX9_hear_19
  · replace h := (if_neg c2).symm.trans h
    refine wa_iload_n C dX9_hear_11 rfl ?_
    obtain ⟨q3, hq3, h⟩ := bd h
    refine wa_callS C (r_X9_isSide hq3) mk_X9_isSide ms_X9_isSide qw_543 rfl ⟨Nat.le_of_ble_eq_true rfl, Nat.le_of_ble_eq_true rfl⟩ ⟨Nat.zero_le _, Nat.zero_le _⟩ (Nat.le_of_ble_eq_true rfl) dX9_hear_12 rfl ?_
    refine wa_if_ne (tgt := 20) C dX9_hear_15 (by decide) (fun c4 => ?_) (fun c4 => ?_)
    · replace h := (if_neg c4).symm.trans h
      refine wa_aload_n C dX9_hear_20 rfl ?_
      refine wa_getr C fl_RX9_19 rfl rfl (by decide) dX9_hear_21 ?_
      refine wa_geti (x := (q3.2.1 4 6)) C fl_RX9_252 rfl rfl (by decide) rfl dX9_hear_24 ?_
      refine wa_bipush (v := 8) C dX9_hear_27 (by decide) ?_
      refine wa_icmp_lt (tgt := 35) C dX9_hear_29 (by decide) (fun c5 => ?_) (fun c5 => ?_)
      · replace h := (if_pos c5).symm.trans h
        refine wa_aload_n C dX9_hear_35 rfl ?_
        refine wa_getr C fl_RX9_19 rfl rfl (by decide) dX9_hear_36 ?_
        refine wa_getr C fl_RX9_255 rfl rfl (by decide) dX9_hear_39 ?_
        refine wa_aload_n C dX9_hear_42 rfl ?_
        refine wa_getr C fl_RX9_19 rfl rfl (by decide) dX9_hear_43 ?_
        refine wa_geti (x := (q3.2.1 4 6)) C fl_RX9_252 rfl rfl (by decide) rfl dX9_hear_46 ?_
        refine wa_iload_n C dX9_hear_49 rfl ?_
        refine wa_iconst (v := 4) C dX9_hear_50 (by decide) ?_
        refine wa_imul C dX9_hear_51 ?_
        refine wa_iload_n C dX9_hear_52 rfl ?_
        refine wa_iadd C dX9_hear_53 ?_
        refine wa_iconst (v := 2) C dX9_hear_54 (by decide) ?_
        refine wa_imul C dX9_hear_55 ?_
        refine wa_iload_n C dX9_hear_56 rfl ?_
        refine wa_if_eq (tgt := 64) C dX9_hear_57 (by decide) (fun c6 => ?_) (fun c6 => ?_)
        · replace h := (if_pos c6).symm.trans h
          refine wa_iconst (v := 0) C dX9_hear_64 (by decide) ?_
          exact WA.sub (lsub_c rfl lsub_n) (r_X9_hear_0_J65 C h)
        · replace h := (if_neg c6).symm.trans h
          refine wa_iconst (v := 1) C dX9_hear_60 (by decide) ?_
          refine wa_goto (tgt := 65) C dX9_hear_61 (by decide) ?_
          exact WA.sub (lsub_c rfl lsub_n) (r_X9_hear_0_J65 C h)
      · replace h := (if_neg c5).symm.trans h
        refine wa_bipush (v := -3) C dX9_hear_32 (by decide) ?_
        obtain rfl := Option.some.inj h
        exact wa_iret C dX9_hear_34
    · replace h := (if_pos c4).symm.trans h
      refine wa_iconst (v := -1) C dX9_hear_18 (by decide) ?_
      obtain rfl := Option.some.inj h
      exact wa_iret C dX9_hear_19
def f_X10_hear_62 (a1 : Int32) (a2 : Int32) (a3 : Int32) (μ : Mem) : Option (Int32 × Mem) :=
  (f_X10_isQuarter_62 a1 μ).bind fun q1 =>
  if q1.1 = 0 then
    some ((-1 : Int32), q1.2)
  else
    (f_X10_isSide a2 q1.2).bind fun q3 =>
    if q3.1 = 0 then
      some ((-1 : Int32), q3.2)
    else
      if (q3.2.1 63 29) = (8 : Int32) then
        some ((-3 : Int32), q3.2)
      else
        if inb ((30 : Int32) + ((3 : Int32) * (q3.2.1 63 29))) 162 = false then none else
        if inb (((30 : Int32) + ((3 : Int32) * (q3.2.1 63 29))) + (1 : Int32)) 162 = false then none else
        (f_X10_flag a3 (pI (pI q3.2 63 (((30 : Int32) + ((3 : Int32) * (q3.2.1 63 29))).toNatClampNeg) a1) 63 ((((30 : Int32) + ((3 : Int32) * (q3.2.1 63 29))) + (1 : Int32)).toNatClampNeg) a2)).bind fun q8 =>
        if inb (((30 : Int32) + ((3 : Int32) * (q3.2.1 63 29))) + (2 : Int32)) 162 = false then none else
        some ((((pI q8.2 63 ((((30 : Int32) + ((3 : Int32) * (q3.2.1 63 29))) + (2 : Int32)).toNatClampNeg) q8.1).1 63 29) + (1 : Int32)), (pI (pI q8.2 63 ((((30 : Int32) + ((3 : Int32) * (q3.2.1 63 29))) + (2 : Int32)).toNatClampNeg) q8.1) 63 29 (((pI q8.2 63 ((((30 : Int32) + ((3 : Int32) * (q3.2.1 63 29))) + (2 : Int32)).toNatClampNeg) q8.1).1 63 29) + (1 : Int32))))
set_option maxRecDepth 100000 in
set_option maxHeartbeats 4000000 in
theorem r_X10_hear_62 {a1 : Int32} {a2 : Int32} {a3 : Int32} {μ : Mem} {ρ : (Int32 × Mem)} (h : f_X10_hear_62 a1 a2 a3 μ = some ρ) : HT 2 yX10_hear cX10_hear 5 (some .int) [.ref 62, .int a1, .int a2, .int a3] μ (some (.int ρ.1)) ρ.2 := by
  refine HT.of (by decide +kernel) (Nat.le_of_ble_eq_true rfl) (fun C => ?_)
  unfold f_X10_hear_62 at h
  refine wa_aload_n C dX10_hear_0 rfl ?_
  refine wa_iload_n C dX10_hear_1 rfl ?_
  obtain ⟨q1, hq1, h⟩ := bd h
  refine wa_callV C (r_X10_isQuarter_62 hq1) mk_X10_isQuarter mv_X10_isQuarter qw_558 rfl (by decide) rfl rfl ⟨Nat.le_of_ble_eq_true rfl, Nat.le_of_ble_eq_true rfl⟩ ⟨Nat.zero_le _, Nat.zero_le _⟩ (Nat.le_of_ble_eq_true rfl) dX10_hear_2 rfl ?_
  refine wa_if_eq (tgt := 15) C dX10_hear_5 (by decide) (fun c2 => ?_) (fun c2 => ?_)
  · replace h := (if_pos c2).symm.trans h
    refine wa_iconst (v := -1) C dX10_hear_15 (by decide) ?_
    obtain rfl := Option.some.inj h
    exact wa_iret C dX10_hear_16
  · replace h := (if_neg c2).symm.trans h
    refine wa_iload_n C dX10_hear_8 rfl ?_
    obtain ⟨q3, hq3, h⟩ := bd h
    refine wa_callS C (r_X10_isSide hq3) mk_X10_isSide ms_X10_isSide qw_554 rfl ⟨Nat.le_of_ble_eq_true rfl, Nat.le_of_ble_eq_true rfl⟩ ⟨Nat.zero_le _, Nat.zero_le _⟩ (Nat.le_of_ble_eq_true rfl) dX10_hear_9 rfl ?_
    refine wa_if_ne (tgt := 17) C dX10_hear_12 (by decide) (fun c4 => ?_) (fun c4 => ?_)
    · replace h := (if_neg c4).symm.trans h
      refine wa_aload_n C dX10_hear_17 rfl ?_
      refine wa_getr C fl_RX10_7 rfl rfl (by decide) dX10_hear_18 ?_
      refine wa_bipush (v := 29) C dX10_hear_21 (by decide) ?_
      refine wa_iald (j := 29) (x := (q3.2.1 63 29)) C rfl (by decide) (by decide) (by decide) rfl dX10_hear_23 ?_
      refine wa_bipush (v := 8) C dX10_hear_24 (by decide) ?_
      refine wa_icmp_ne (tgt := 32) C dX10_hear_26 (by decide) (fun c5 => ?_) (fun c5 => ?_)
      · replace h := (if_neg c5).symm.trans h
        refine wa_bipush (v := 30) C dX10_hear_32 (by decide) ?_
        refine wa_iconst (v := 3) C dX10_hear_34 (by decide) ?_
        refine wa_aload_n C dX10_hear_35 rfl ?_
        refine wa_getr C fl_RX10_7 rfl rfl (by decide) dX10_hear_36 ?_
        refine wa_bipush (v := 29) C dX10_hear_39 (by decide) ?_
        refine wa_iald (j := 29) (x := (q3.2.1 63 29)) C rfl (by decide) (by decide) (by decide) rfl dX10_hear_41 ?_
        refine wa_imul C dX10_hear_42 ?_
        refine wa_iadd C dX10_hear_43 ?_
        refine wa_istore C dX10_hear_44 (by decide) ?_
        refine wa_aload_n C dX10_hear_46 rfl ?_
        refine wa_getr C fl_RX10_7 rfl rfl (by decide) dX10_hear_47 ?_
        refine wa_iload C dX10_hear_50 rfl ?_
        refine wa_iload_n C dX10_hear_52 rfl ?_
        obtain ⟨g6, h⟩ := gd h
        refine wa_iast (j := (((30 : Int32) + ((3 : Int32) * (q3.2.1 63 29))).toNatClampNeg)) C rfl (by decide) g6 rfl dX10_hear_53 ?_
        refine wa_aload_n C dX10_hear_54 rfl ?_
        refine wa_getr C fl_RX10_7 rfl rfl (by decide) dX10_hear_55 ?_
        refine wa_iload C dX10_hear_58 rfl ?_
        refine wa_iconst (v := 1) C dX10_hear_60 (by decide) ?_
        refine wa_iadd C dX10_hear_61 ?_
        refine wa_iload_n C dX10_hear_62 rfl ?_
        obtain ⟨g7, h⟩ := gd h
        refine wa_iast (j := ((((30 : Int32) + ((3 : Int32) * (q3.2.1 63 29))) + (1 : Int32)).toNatClampNeg)) C rfl (by decide) g7 rfl dX10_hear_63 ?_
        refine wa_aload_n C dX10_hear_64 rfl ?_
        refine wa_getr C fl_RX10_7 rfl rfl (by decide) dX10_hear_65 ?_
        refine wa_iload C dX10_hear_68 rfl ?_
        refine wa_iconst (v := 2) C dX10_hear_70 (by decide) ?_
        refine wa_iadd C dX10_hear_71 ?_
        refine wa_iload_n C dX10_hear_72 rfl ?_
        obtain ⟨q8, hq8, h⟩ := bd h
        refine wa_callS C (r_X10_flag hq8) mk_X10_flag ms_X10_flag qw_660 rfl ⟨Nat.le_of_ble_eq_true rfl, Nat.le_of_ble_eq_true rfl⟩ ⟨Nat.zero_le _, Nat.zero_le _⟩ (Nat.le_of_ble_eq_true rfl) dX10_hear_73 rfl ?_
        obtain ⟨g9, h⟩ := gd h
        refine wa_iast (j := ((((30 : Int32) + ((3 : Int32) * (q3.2.1 63 29))) + (2 : Int32)).toNatClampNeg)) C rfl (by decide) g9 rfl dX10_hear_76 ?_
        refine wa_aload_n C dX10_hear_77 rfl ?_
        refine wa_getr C fl_RX10_7 rfl rfl (by decide) dX10_hear_78 ?_
        refine wa_bipush (v := 29) C dX10_hear_81 (by decide) ?_
        refine wa_dup2_11 C dX10_hear_83 rfl rfl ?_
        refine wa_iald (j := 29) (x := ((pI q8.2 63 ((((30 : Int32) + ((3 : Int32) * (q3.2.1 63 29))) + (2 : Int32)).toNatClampNeg) q8.1).1 63 29)) C rfl (by decide) (by decide) (by decide) rfl dX10_hear_84 ?_
        refine wa_iconst (v := 1) C dX10_hear_85 (by decide) ?_
        refine wa_iadd C dX10_hear_86 ?_
        refine wa_iast (j := 29) C rfl (by decide) (by decide) (by decide) dX10_hear_87 ?_
        refine wa_aload_n C dX10_hear_88 rfl ?_
        refine wa_getr C fl_RX10_7 rfl rfl (by decide) dX10_hear_89 ?_
        refine wa_bipush (v := 29) C dX10_hear_92 (by decide) ?_
        refine wa_iald (j := 29) (x := (((pI q8.2 63 ((((30 : Int32) + ((3 : Int32) * (q3.2.1 63 29))) + (2 : Int32)).toNatClampNeg) q8.1).1 63 29) + (1 : Int32))) C rfl (by decide) (by decide) (by decide) rfl dX10_hear_94 ?_
        obtain rfl := Option.some.inj h
        exact wa_iret C dX10_hear_95
      · replace h := (if_pos c5).symm.trans h
        refine wa_bipush (v := -3) C dX10_hear_29 (by decide) ?_
        obtain rfl := Option.some.inj h
        exact wa_iret C dX10_hear_31
    · replace h := (if_pos c4).symm.trans h
      refine wa_iconst (v := -1) C dX10_hear_15 (by decide) ?_
      obtain rfl := Option.some.inj h
      exact wa_iret C dX10_hear_16
def f_X9_forget_0 (a1 : Int32) (μ : Mem) : Option (Int32 × Mem) :=
  if a1 < 0 then
    some ((-1 : Int32), μ)
  else
    if a1 ≤ (μ.1 4 6) then
      some ((μ.1 4 6), (pI μ 4 6 a1))
    else
      some ((-1 : Int32), μ)
set_option maxRecDepth 100000 in
set_option maxHeartbeats 4000000 in
theorem r_X9_forget_0 {a1 : Int32} {μ : Mem} {ρ : (Int32 × Mem)} (h : f_X9_forget_0 a1 μ = some ρ) : HT 0 yX9_forget cX9_forget 3 (some .int) [.ref 0, .int a1] μ (some (.int ρ.1)) ρ.2 := by
  refine HT.of (by decide +kernel) (Nat.le_of_ble_eq_true rfl) (fun C => ?_)
  unfold f_X9_forget_0 at h
  refine wa_iload_n C dX9_forget_0 rfl ?_
  refine wa_if_lt (tgt := 15) C dX9_forget_1 (by decide) (fun c1 => ?_) (fun c1 => ?_)
  · replace h := (if_pos c1).symm.trans h
    refine wa_iconst (v := -1) C dX9_forget_15 (by decide) ?_
    obtain rfl := Option.some.inj h
    exact wa_iret C dX9_forget_16
  · replace h := (if_neg c1).symm.trans h
    refine wa_iload_n C dX9_forget_4 rfl ?_
    refine wa_aload_n C dX9_forget_5 rfl ?_
    refine wa_getr C fl_RX9_19 rfl rfl (by decide) dX9_forget_6 ?_
    refine wa_geti (x := (μ.1 4 6)) C fl_RX9_252 rfl rfl (by decide) rfl dX9_forget_9 ?_
    refine wa_icmp_le (tgt := 17) C dX9_forget_12 (by decide) (fun c2 => ?_) (fun c2 => ?_)
    · replace h := (if_pos c2).symm.trans h
      refine wa_aload_n C dX9_forget_17 rfl ?_
      refine wa_getr C fl_RX9_19 rfl rfl (by decide) dX9_forget_18 ?_
      refine wa_geti (x := (μ.1 4 6)) C fl_RX9_252 rfl rfl (by decide) rfl dX9_forget_21 ?_
      refine wa_istore_n C dX9_forget_24 (by decide) ?_
      refine wa_aload_n C dX9_forget_25 rfl ?_
      refine wa_getr C fl_RX9_19 rfl rfl (by decide) dX9_forget_26 ?_
      refine wa_iload_n C dX9_forget_29 rfl ?_
      refine wa_puti C fl_RX9_252 fp_4_6 rfl rfl (by decide) rfl rfl dX9_forget_30 ?_
      refine wa_iload_n C dX9_forget_33 rfl ?_
      obtain rfl := Option.some.inj h
      exact wa_iret C dX9_forget_34
    · replace h := (if_neg c2).symm.trans h
      refine wa_iconst (v := -1) C dX9_forget_15 (by decide) ?_
      obtain rfl := Option.some.inj h
      exact wa_iret C dX9_forget_16
def f_X10_forget_62 (a1 : Int32) (μ : Mem) : Option (Int32 × Mem) :=
  (f_X10_in (a1.toInt64) (0 : Int64) ((μ.1 63 29).toInt64) μ).bind fun q1 =>
  if q1.1 = 0 then
    some ((-1 : Int32), q1.2)
  else
    some ((q1.2.1 63 29), (pI q1.2 63 29 a1))
set_option maxRecDepth 100000 in
set_option maxHeartbeats 4000000 in
theorem r_X10_forget_62 {a1 : Int32} {μ : Mem} {ρ : (Int32 × Mem)} (h : f_X10_forget_62 a1 μ = some ρ) : HT 1 yX10_forget cX10_forget 3 (some .int) [.ref 62, .int a1] μ (some (.int ρ.1)) ρ.2 := by
  refine HT.of (by decide +kernel) (Nat.le_of_ble_eq_true rfl) (fun C => ?_)
  unfold f_X10_forget_62 at h
  refine wa_iload_n C dX10_forget_0 rfl ?_
  refine wa_i2l (v := (a1.toInt64)) C dX10_forget_1 rfl ?_
  refine wa_lconst (v := 0) C dX10_forget_2 (by decide) ?_
  refine wa_aload_n C dX10_forget_3 rfl ?_
  refine wa_getr C fl_RX10_7 rfl rfl (by decide) dX10_forget_4 ?_
  refine wa_bipush (v := 29) C dX10_forget_7 (by decide) ?_
  refine wa_iald (j := 29) (x := (μ.1 63 29)) C rfl (by decide) (by decide) (by decide) rfl dX10_forget_9 ?_
  refine wa_i2l (v := ((μ.1 63 29).toInt64)) C dX10_forget_10 rfl ?_
  obtain ⟨q1, hq1, h⟩ := bd h
  refine wa_callS C (r_X10_in hq1) mk_X10_in ms_X10_in qw_198 rfl ⟨Nat.le_of_ble_eq_true rfl, Nat.le_of_ble_eq_true rfl⟩ ⟨Nat.zero_le _, Nat.zero_le _⟩ (Nat.le_of_ble_eq_true rfl) dX10_forget_11 rfl ?_
  refine wa_if_ne (tgt := 19) C dX10_forget_14 (by decide) (fun c2 => ?_) (fun c2 => ?_)
  · replace h := (if_neg c2).symm.trans h
    refine wa_aload_n C dX10_forget_19 rfl ?_
    refine wa_getr C fl_RX10_7 rfl rfl (by decide) dX10_forget_20 ?_
    refine wa_bipush (v := 29) C dX10_forget_23 (by decide) ?_
    refine wa_iald (j := 29) (x := (q1.2.1 63 29)) C rfl (by decide) (by decide) (by decide) rfl dX10_forget_25 ?_
    refine wa_istore_n C dX10_forget_26 (by decide) ?_
    refine wa_aload_n C dX10_forget_27 rfl ?_
    refine wa_getr C fl_RX10_7 rfl rfl (by decide) dX10_forget_28 ?_
    refine wa_bipush (v := 29) C dX10_forget_31 (by decide) ?_
    refine wa_iload_n C dX10_forget_33 rfl ?_
    refine wa_iast (j := 29) C rfl (by decide) (by decide) (by decide) dX10_forget_34 ?_
    refine wa_iload_n C dX10_forget_35 rfl ?_
    obtain rfl := Option.some.inj h
    exact wa_iret C dX10_forget_36
  · replace h := (if_pos c2).symm.trans h
    refine wa_iconst (v := -1) C dX10_forget_17 (by decide) ?_
    obtain rfl := Option.some.inj h
    exact wa_iret C dX10_forget_18
def f_X9_isAsHeard_0_J96 (k12 : Int32 → Mem → Option (Int32 × Mem)) (a1 : Int32) (a3 : Int32) (a4 : Int32) (μ : Mem) : Option (Int32 × Mem) :=
  k12 (a4 + 1) μ
def f_X9_isAsHeard_0_J89 (k12 : Int32 → Mem → Option (Int32 × Mem)) (a1 : Int32) (a3 : Int32) (a4 : Int32) (a6 : Int32) (t0 : Int32) (μ : Mem) : Option (Int32 × Mem) :=
  if t0 = a6 then
    f_X9_isAsHeard_0_J96 k12 a1 a3 a4 μ
  else
    some ((0 : Int32), μ)
def f_X9_isAsHeard_0_J59 (k12 : Int32 → Mem → Option (Int32 × Mem)) (a1 : Int32) (a3 : Int32) (a4 : Int32) (a5 : Int32) (t0 : Int32) (μ : Mem) : Option (Int32 × Mem) :=
  if (a5 / (4 : Int32)) = a1 then
    (f_X7_countOf_47 (a5 - a5 / (4 : Int32) * (4 : Int32)) a3 μ).bind fun q7 =>
    if q7.1 ≤ 0 then
      f_X9_isAsHeard_0_J89 k12 a1 a3 a4 t0 (0 : Int32) q7.2
    else
      f_X9_isAsHeard_0_J89 k12 a1 a3 a4 t0 (1 : Int32) q7.2
  else
    f_X9_isAsHeard_0_J96 k12 a1 a3 a4 μ
def f_X9_isAsHeard_0_L12 (a1 : Int32) (a3 : Int32) (k12 : Int32 → Mem → Option (Int32 × Mem)) (a4 : Int32) (μ : Mem) : Option (Int32 × Mem) :=
    if (μ.1 4 6) ≤ a4 then
      some ((1 : Int32), μ)
    else
      if inb a4 8 = false then none else
      if inb a4 8 = false then none else
      if ((μ.1 10 (a4.toNatClampNeg)) &&& (1 : Int32)) = (1 : Int32) then
        f_X9_isAsHeard_0_J59 k12 a1 a3 a4 ((μ.1 10 (a4.toNatClampNeg)) >>> ((1 : Int32) &&& 31)) (1 : Int32) μ
      else
        f_X9_isAsHeard_0_J59 k12 a1 a3 a4 ((μ.1 10 (a4.toNatClampNeg)) >>> ((1 : Int32) &&& 31)) (0 : Int32) μ
def f_X9_isAsHeard_0 (a1 : Int32) (a2 : Int32) (μ : Mem) : Option (Int32 × Mem) :=
  (f_X7_openBy_47 a2 μ).bind fun q1 =>
  it2 (f_X9_isAsHeard_0_L12 a1 q1.1) FU (0 : Int32) q1.2
set_option maxRecDepth 100000 in
set_option maxHeartbeats 4000000 in
theorem r_X9_isAsHeard_0_J96 {p : Program} {l : Launch} {e : Env} {s : State} {m : MethodId} {args : Array Value} {below : List Frame} {meth : Method} {c : Code} {D : va_G} {cy : Nat → ClassId} {ad : Nat → Nat} (C : CX p s m args meth c cX9_isAsHeard 7 RX9 (some .boolean) D cy ad (AD ad)) {a1 : Int32} {a3 : Int32} {a4 : Int32} {μ : Mem} {ρ : (Int32 × Mem)} (k12 : Int32 → Mem → Option (Int32 × Mem)) (hk12 : ∀ (a4 : Int32) (μ : Mem), k12 a4 μ = some ρ → WA p l e (rmD 1) s m args below meth c 7 D cy ad (AD ad) 0 0 (ZZ below args s D cy ad (AD ad) 0 0 (some (.int ρ.1)) ρ.2) μ [(0, .ref 0), (1, .int a1), (3, .int a3), (4, .int a4)] 12 []) (h : f_X9_isAsHeard_0_J96 k12 a1 a3 a4 μ = some ρ) : WA p l e (rmD 1) s m args below meth c 7 D cy ad (AD ad) 0 0 (ZZ below args s D cy ad (AD ad) 0 0 (some (.int ρ.1)) ρ.2) μ [(0, .ref 0), (1, .int a1), (3, .int a3), (4, .int a4)] 96 [] := by
  unfold f_X9_isAsHeard_0_J96 at h
  refine wa_iinc (v := (a4 + 1)) C dX9_isAsHeard_96 rfl rfl (by decide) ?_
  refine wa_goto (tgt := 12) C dX9_isAsHeard_99 (by decide) ?_
  exact WA.sub (lsub_c rfl (lsub_c rfl (lsub_c rfl (lsub_c rfl lsub_n)))) (hk12 _ _ h)
set_option maxRecDepth 100000 in
set_option maxHeartbeats 4000000 in
theorem r_X9_isAsHeard_0_J89 {p : Program} {l : Launch} {e : Env} {s : State} {m : MethodId} {args : Array Value} {below : List Frame} {meth : Method} {c : Code} {D : va_G} {cy : Nat → ClassId} {ad : Nat → Nat} (C : CX p s m args meth c cX9_isAsHeard 7 RX9 (some .boolean) D cy ad (AD ad)) {a1 : Int32} {a3 : Int32} {a4 : Int32} {a6 : Int32} {t0 : Int32} {μ : Mem} {ρ : (Int32 × Mem)} (k12 : Int32 → Mem → Option (Int32 × Mem)) (hk12 : ∀ (a4 : Int32) (μ : Mem), k12 a4 μ = some ρ → WA p l e (rmD 1) s m args below meth c 7 D cy ad (AD ad) 0 0 (ZZ below args s D cy ad (AD ad) 0 0 (some (.int ρ.1)) ρ.2) μ [(0, .ref 0), (1, .int a1), (3, .int a3), (4, .int a4)] 12 []) (h : f_X9_isAsHeard_0_J89 k12 a1 a3 a4 a6 t0 μ = some ρ) : WA p l e (rmD 1) s m args below meth c 7 D cy ad (AD ad) 0 0 (ZZ below args s D cy ad (AD ad) 0 0 (some (.int ρ.1)) ρ.2) μ [(0, .ref 0), (1, .int a1), (3, .int a3), (4, .int a4), (6, .int a6)] 89 [.int t0] := by
  unfold f_X9_isAsHeard_0_J89 at h
  refine wa_iload C dX9_isAsHeard_89 rfl ?_
  refine wa_icmp_eq (tgt := 96) C dX9_isAsHeard_91 (by decide) (fun c9 => ?_) (fun c9 => ?_)
  · replace h := (if_pos c9).symm.trans h
    exact WA.sub (lsub_c rfl (lsub_c rfl (lsub_c rfl (lsub_c rfl lsub_n)))) (r_X9_isAsHeard_0_J96 C _ hk12 h)
  · replace h := (if_neg c9).symm.trans h
    refine wa_iconst (v := 0) C dX9_isAsHeard_94 (by decide) ?_
    obtain rfl := Option.some.inj h
    exact wa_zret C rfl dX9_isAsHeard_95
set_option maxRecDepth 100000 in
set_option maxHeartbeats 4000000 in
theorem r_X9_isAsHeard_0_J59 {p : Program} {l : Launch} {e : Env} {s : State} {m : MethodId} {args : Array Value} {below : List Frame} {meth : Method} {c : Code} {D : va_G} {cy : Nat → ClassId} {ad : Nat → Nat} (C : CX p s m args meth c cX9_isAsHeard 7 RX9 (some .boolean) D cy ad (AD ad)) {a1 : Int32} {a3 : Int32} {a4 : Int32} {a5 : Int32} {t0 : Int32} {μ : Mem} {ρ : (Int32 × Mem)} (k12 : Int32 → Mem → Option (Int32 × Mem)) (hk12 : ∀ (a4 : Int32) (μ : Mem), k12 a4 μ = some ρ → WA p l e (rmD 1) s m args below meth c 7 D cy ad (AD ad) 0 0 (ZZ below args s D cy ad (AD ad) 0 0 (some (.int ρ.1)) ρ.2) μ [(0, .ref 0), (1, .int a1), (3, .int a3), (4, .int a4)] 12 []) (h : f_X9_isAsHeard_0_J59 k12 a1 a3 a4 a5 t0 μ = some ρ) : WA p l e (rmD 1) s m args below meth c 7 D cy ad (AD ad) 0 0 (ZZ below args s D cy ad (AD ad) 0 0 (some (.int ρ.1)) ρ.2) μ [(0, .ref 0), (1, .int a1), (3, .int a3), (4, .int a4), (5, .int a5)] 59 [.int t0] := by
  unfold f_X9_isAsHeard_0_J59 at h
  refine wa_istore C dX9_isAsHeard_59 (by decide) ?_
  refine wa_iload C dX9_isAsHeard_61 rfl ?_
  refine wa_iconst (v := 4) C dX9_isAsHeard_63 (by decide) ?_
  refine wa_idiv C dX9_isAsHeard_64 (by decide) ?_
  refine wa_iload_n C dX9_isAsHeard_65 rfl ?_
  refine wa_icmp_ne (tgt := 96) C dX9_isAsHeard_66 (by decide) (fun c6 => ?_) (fun c6 => ?_)
  · replace h := (if_neg c6).symm.trans h
    exact WA.sub (lsub_c rfl (lsub_c rfl (lsub_c rfl (lsub_c rfl lsub_n)))) (r_X9_isAsHeard_0_J96 C _ hk12 h)
  · replace h := (if_pos c6).symm.trans h
    refine wa_aload_n C dX9_isAsHeard_69 rfl ?_
    refine wa_getr C fl_RX9_44 rfl rfl (by decide) dX9_isAsHeard_70 ?_
    refine wa_iload C dX9_isAsHeard_73 rfl ?_
    refine wa_iconst (v := 4) C dX9_isAsHeard_75 (by decide) ?_
    refine wa_irem C dX9_isAsHeard_76 (by decide) ?_
    refine wa_iload_n C dX9_isAsHeard_77 rfl ?_
    obtain ⟨q7, hq7, h⟩ := bd h
    refine wa_callV C (r_X7_countOf_47 hq7) mk_X7_countOf mv_X7_countOf qw_639 rfl (by decide) rfl rfl ⟨Nat.le_of_ble_eq_true rfl, Nat.le_of_ble_eq_true rfl⟩ ⟨Nat.zero_le _, Nat.zero_le _⟩ (Nat.le_of_ble_eq_true rfl) dX9_isAsHeard_78 rfl ?_
    refine wa_if_le (tgt := 88) C dX9_isAsHeard_81 (by decide) (fun c8 => ?_) (fun c8 => ?_)
    · replace h := (if_pos c8).symm.trans h
      refine wa_iconst (v := 0) C dX9_isAsHeard_88 (by decide) ?_
      exact WA.sub (lsub_c rfl (lsub_c rfl (lsub_c rfl (lsub_c rfl (lsub_c rfl lsub_n))))) (r_X9_isAsHeard_0_J89 C _ hk12 h)
    · replace h := (if_neg c8).symm.trans h
      refine wa_iconst (v := 1) C dX9_isAsHeard_84 (by decide) ?_
      refine wa_goto (tgt := 89) C dX9_isAsHeard_85 (by decide) ?_
      exact WA.sub (lsub_c rfl (lsub_c rfl (lsub_c rfl (lsub_c rfl (lsub_c rfl lsub_n))))) (r_X9_isAsHeard_0_J89 C _ hk12 h)
set_option maxRecDepth 100000 in
set_option maxHeartbeats 4000000 in
theorem r_X9_isAsHeard_0_L12 {p : Program} {l : Launch} {e : Env} {s : State} {m : MethodId} {args : Array Value} {below : List Frame} {meth : Method} {c : Code} {D : va_G} {cy : Nat → ClassId} {ad : Nat → Nat} (C : CX p s m args meth c cX9_isAsHeard 7 RX9 (some .boolean) D cy ad (AD ad)) (a1 : Int32) (a3 : Int32) {ρ : (Int32 × Mem)} : ∀ (n : Nat) (a4 : Int32) (μ : Mem), it2 (f_X9_isAsHeard_0_L12 a1 a3) n a4 μ = some ρ → WA p l e (rmD 1) s m args below meth c 7 D cy ad (AD ad) 0 0 (ZZ below args s D cy ad (AD ad) 0 0 (some (.int ρ.1)) ρ.2) μ [(0, .ref 0), (1, .int a1), (3, .int a3), (4, .int a4)] 12 [] := by
  intro n
  induction n with
  | zero =>
    intro a4 μ h
    exact absurd h (fun h => by cases h)
  | succ n ih =>
    intro a4 μ h
    replace h : f_X9_isAsHeard_0_L12 a1 a3 (it2 (f_X9_isAsHeard_0_L12 a1 a3) n) a4 μ = some ρ := h
    unfold f_X9_isAsHeard_0_L12 at h
    refine wa_iload C dX9_isAsHeard_12 rfl ?_
    refine wa_aload_n C dX9_isAsHeard_14 rfl ?_
    refine wa_getr C fl_RX9_19 rfl rfl (by decide) dX9_isAsHeard_15 ?_
    refine wa_geti (x := (μ.1 4 6)) C fl_RX9_252 rfl rfl (by decide) rfl dX9_isAsHeard_18 ?_
    refine wa_icmp_ge (tgt := 102) C dX9_isAsHeard_21 (by decide) (fun c2 => ?_) (fun c2 => ?_)
    · replace h := (if_pos c2).symm.trans h
      refine wa_iconst (v := 1) C dX9_isAsHeard_102 (by decide) ?_
      obtain rfl := Option.some.inj h
      exact wa_zret C rfl dX9_isAsHeard_103
    · replace h := (if_neg c2).symm.trans h
      refine wa_aload_n C dX9_isAsHeard_24 rfl ?_
      refine wa_getr C fl_RX9_19 rfl rfl (by decide) dX9_isAsHeard_25 ?_
      refine wa_getr C fl_RX9_255 rfl rfl (by decide) dX9_isAsHeard_28 ?_
      refine wa_iload C dX9_isAsHeard_31 rfl ?_
      obtain ⟨g3, h⟩ := gd h
      refine wa_iald (j := (a4.toNatClampNeg)) (x := (μ.1 10 (a4.toNatClampNeg))) C rfl (by decide) g3 rfl rfl dX9_isAsHeard_33 ?_
      refine wa_iconst (v := 1) C dX9_isAsHeard_34 (by decide) ?_
      refine wa_ishr C dX9_isAsHeard_35 ?_
      refine wa_istore C dX9_isAsHeard_36 (by decide) ?_
      refine wa_aload_n C dX9_isAsHeard_38 rfl ?_
      refine wa_getr C fl_RX9_19 rfl rfl (by decide) dX9_isAsHeard_39 ?_
      refine wa_getr C fl_RX9_255 rfl rfl (by decide) dX9_isAsHeard_42 ?_
      refine wa_iload C dX9_isAsHeard_45 rfl ?_
      obtain ⟨g4, h⟩ := gd h
      refine wa_iald (j := (a4.toNatClampNeg)) (x := (μ.1 10 (a4.toNatClampNeg))) C rfl (by decide) g4 rfl rfl dX9_isAsHeard_47 ?_
      refine wa_iconst (v := 1) C dX9_isAsHeard_48 (by decide) ?_
      refine wa_iand C dX9_isAsHeard_49 ?_
      refine wa_iconst (v := 1) C dX9_isAsHeard_50 (by decide) ?_
      refine wa_icmp_ne (tgt := 58) C dX9_isAsHeard_51 (by decide) (fun c5 => ?_) (fun c5 => ?_)
      · replace h := (if_neg c5).symm.trans h
        refine wa_iconst (v := 0) C dX9_isAsHeard_58 (by decide) ?_
        exact WA.sub (lsub_c rfl (lsub_c rfl (lsub_c rfl (lsub_c rfl (lsub_c rfl lsub_n))))) (r_X9_isAsHeard_0_J59 C _ (fun _ _ h => ih _ _ h) h)
      · replace h := (if_pos c5).symm.trans h
        refine wa_iconst (v := 1) C dX9_isAsHeard_54 (by decide) ?_
        refine wa_goto (tgt := 59) C dX9_isAsHeard_55 (by decide) ?_
        exact WA.sub (lsub_c rfl (lsub_c rfl (lsub_c rfl (lsub_c rfl (lsub_c rfl lsub_n))))) (r_X9_isAsHeard_0_J59 C _ (fun _ _ h => ih _ _ h) h)
set_option maxRecDepth 100000 in
set_option maxHeartbeats 4000000 in
theorem r_X9_isAsHeard_0 {a1 : Int32} {a2 : Int32} {μ : Mem} {ρ : (Int32 × Mem)} (h : f_X9_isAsHeard_0 a1 a2 μ = some ρ) : HT 1 yX9_isAsHeard cX9_isAsHeard 7 (some .boolean) [.ref 0, .int a1, .int a2] μ (some (.int ρ.1)) ρ.2 := by
  refine HT.of (by decide +kernel) (Nat.le_of_ble_eq_true rfl) (fun C => ?_)
  unfold f_X9_isAsHeard_0 at h
  refine wa_aload_n C dX9_isAsHeard_0 rfl ?_
  refine wa_getr C fl_RX9_44 rfl rfl (by decide) dX9_isAsHeard_1 ?_
  refine wa_iload_n C dX9_isAsHeard_4 rfl ?_
  obtain ⟨q1, hq1, h⟩ := bd h
  refine wa_callV C (r_X7_openBy_47 hq1) mk_X7_openBy mv_X7_openBy qw_635 rfl (by decide) rfl rfl ⟨Nat.le_of_ble_eq_true rfl, Nat.le_of_ble_eq_true rfl⟩ ⟨Nat.zero_le _, Nat.zero_le _⟩ (Nat.le_of_ble_eq_true rfl) dX9_isAsHeard_5 rfl ?_
  refine wa_istore_n C dX9_isAsHeard_8 (by decide) ?_
  refine wa_iconst (v := 0) C dX9_isAsHeard_9 (by decide) ?_
  refine wa_istore C dX9_isAsHeard_10 (by decide) ?_
  exact WA.sub (lsub_c rfl (lsub_c rfl (lsub_c rfl (lsub_c rfl lsub_n)))) (r_X9_isAsHeard_0_L12 C _ _ _ _ _ h)
def f_X9_fits_0_J108 (k48 : Int32 → Int32 → Int32 → Int32 → Int32 → Mem → Option (Int32 × Mem)) (a1 : Int32) (a2 : Int32) (a3 : Int32) (a4 : Int32) (a5 : Int32) (a6 : Int32) (a7 : Int32) (μ : Mem) : Option (Int32 × Mem) :=
  k48 a3 a4 a5 a6 (a7 + 1) μ
def f_X9_fits_0_J81 (k48 : Int32 → Int32 → Int32 → Int32 → Int32 → Mem → Option (Int32 × Mem)) (a1 : Int32) (a2 : Int32) (a3 : Int32) (a5 : Int32) (a6 : Int32) (a7 : Int32) (t0 : Int32) (μ : Mem) : Option (Int32 × Mem) :=
  if inb a7 27 = false then none else
  if inb a7 27 = false then none else
  f_X9_fits_0_J108 k48 a1 a2 (a3 + 1) t0 (a5 &&& (shuF (a7.toNatClampNeg))) (a6 ||| (shuF (a7.toNatClampNeg))) a7 μ
def f_X9_fits_0_L48 (a1 : Int32) (a2 : Int32) (k48 : Int32 → Int32 → Int32 → Int32 → Int32 → Mem → Option (Int32 × Mem)) (a3 : Int32) (a4 : Int32) (a5 : Int32) (a6 : Int32) (a7 : Int32) (μ : Mem) : Option (Int32 × Mem) :=
    (f_X1_watches_1 μ).bind fun q6 =>
    if q6.1 ≤ a7 then
      if a2 = 0 then
        some (a3, q6.2)
      else
        if a3 = 0 then
          some (a4, q6.2)
        else
          if a2 = (1 : Int32) then
            some (a4, q6.2)
          else
            if a2 = (2 : Int32) then
              some (a5, q6.2)
            else
              some (((q6.2.1 47 1) &&& (a6 ^^^ (-1 : Int32))), q6.2)
    else
      (f_X9_isAsHeard_0 a1 a7 q6.2).bind fun q12 =>
      if q12.1 = 0 then
        f_X9_fits_0_J108 k48 a1 a2 a3 a4 a5 a6 a7 q12.2
      else
        if a3 = 0 then
          f_X9_fits_0_J81 k48 a1 a2 a3 a5 a6 a7 a7 q12.2
        else
          f_X9_fits_0_J81 k48 a1 a2 a3 a5 a6 a7 a4 q12.2
def f_X9_fits_0 (a1 : Int32) (a2 : Int32) (μ : Mem) : Option (Int32 × Mem) :=
  (f_X1_hasQuarter_1 a1 μ).bind fun q1 =>
  if q1.1 = 0 then
    some ((-1 : Int32), q1.2)
  else
    if a2 < 0 then
      some ((-1 : Int32), q1.2)
    else
      if a2 ≤ (3 : Int32) then
        (f_X9_look_0 q1.2).bind fun q5 =>
        it6 (f_X9_fits_0_L48 a1 a2) FU (0 : Int32) (-4 : Int32) (q5.1 47 1) (0 : Int32) (0 : Int32) q5
      else
        some ((-1 : Int32), q1.2)
set_option maxRecDepth 100000 in
set_option maxHeartbeats 4000000 in
theorem r_X9_fits_0_J108 {p : Program} {l : Launch} {e : Env} {s : State} {m : MethodId} {args : Array Value} {below : List Frame} {meth : Method} {c : Code} {D : va_G} {cy : Nat → ClassId} {ad : Nat → Nat} (C : CX p s m args meth c cX9_fits 8 RX9 (some .int) D cy ad (AD ad)) {a1 : Int32} {a2 : Int32} {a3 : Int32} {a4 : Int32} {a5 : Int32} {a6 : Int32} {a7 : Int32} {μ : Mem} {ρ : (Int32 × Mem)} (k48 : Int32 → Int32 → Int32 → Int32 → Int32 → Mem → Option (Int32 × Mem)) (hk48 : ∀ (a3 : Int32) (a4 : Int32) (a5 : Int32) (a6 : Int32) (a7 : Int32) (μ : Mem), k48 a3 a4 a5 a6 a7 μ = some ρ → WA p l e (rmD 3) s m args below meth c 8 D cy ad (AD ad) 0 0 (ZZ below args s D cy ad (AD ad) 0 0 (some (.int ρ.1)) ρ.2) μ [(0, .ref 0), (1, .int a1), (2, .int a2), (3, .int a3), (4, .int a4), (5, .int a5), (6, .int a6), (7, .int a7)] 48 []) (h : f_X9_fits_0_J108 k48 a1 a2 a3 a4 a5 a6 a7 μ = some ρ) : WA p l e (rmD 3) s m args below meth c 8 D cy ad (AD ad) 0 0 (ZZ below args s D cy ad (AD ad) 0 0 (some (.int ρ.1)) ρ.2) μ [(0, .ref 0), (1, .int a1), (2, .int a2), (3, .int a3), (4, .int a4), (5, .int a5), (6, .int a6), (7, .int a7)] 108 [] := by
  unfold f_X9_fits_0_J108 at h
  refine wa_iinc (v := (a7 + 1)) C dX9_fits_108 rfl rfl (by decide) ?_
  refine wa_goto (tgt := 48) C dX9_fits_111 (by decide) ?_
  exact WA.sub (lsub_c rfl (lsub_c rfl (lsub_c rfl (lsub_c rfl (lsub_c rfl (lsub_c rfl (lsub_c rfl (lsub_c rfl lsub_n)))))))) (hk48 _ _ _ _ _ _ h)
set_option maxRecDepth 100000 in
set_option maxHeartbeats 4000000 in
theorem r_X9_fits_0_J81 {p : Program} {l : Launch} {e : Env} {s : State} {m : MethodId} {args : Array Value} {below : List Frame} {meth : Method} {c : Code} {D : va_G} {cy : Nat → ClassId} {ad : Nat → Nat} (C : CX p s m args meth c cX9_fits 8 RX9 (some .int) D cy ad (AD ad)) {a1 : Int32} {a2 : Int32} {a3 : Int32} {a5 : Int32} {a6 : Int32} {a7 : Int32} {t0 : Int32} {μ : Mem} {ρ : (Int32 × Mem)} (k48 : Int32 → Int32 → Int32 → Int32 → Int32 → Mem → Option (Int32 × Mem)) (hk48 : ∀ (a3 : Int32) (a4 : Int32) (a5 : Int32) (a6 : Int32) (a7 : Int32) (μ : Mem), k48 a3 a4 a5 a6 a7 μ = some ρ → WA p l e (rmD 3) s m args below meth c 8 D cy ad (AD ad) 0 0 (ZZ below args s D cy ad (AD ad) 0 0 (some (.int ρ.1)) ρ.2) μ [(0, .ref 0), (1, .int a1), (2, .int a2), (3, .int a3), (4, .int a4), (5, .int a5), (6, .int a6), (7, .int a7)] 48 []) (h : f_X9_fits_0_J81 k48 a1 a2 a3 a5 a6 a7 t0 μ = some ρ) : WA p l e (rmD 3) s m args below meth c 8 D cy ad (AD ad) 0 0 (ZZ below args s D cy ad (AD ad) 0 0 (some (.int ρ.1)) ρ.2) μ [(0, .ref 0), (1, .int a1), (2, .int a2), (3, .int a3), (5, .int a5), (6, .int a6), (7, .int a7)] 81 [.int t0] := by
  unfold f_X9_fits_0_J81 at h
  refine wa_istore C dX9_fits_81 (by decide) ?_
  refine wa_iinc (v := (a3 + 1)) C dX9_fits_83 rfl rfl (by decide) ?_
  refine wa_iload C dX9_fits_86 rfl ?_
  refine wa_gshu C qw_692 dX9_fits_88 ?_
  refine wa_iload C dX9_fits_91 rfl ?_
  obtain ⟨g15, h⟩ := gd h
  refine wa_sald (j := (a7.toNatClampNeg)) C g15 rfl dX9_fits_93 ?_
  refine wa_iand C dX9_fits_94 ?_
  refine wa_istore C dX9_fits_95 (by decide) ?_
  refine wa_iload C dX9_fits_97 rfl ?_
  refine wa_gshu C qw_692 dX9_fits_99 ?_
  refine wa_iload C dX9_fits_102 rfl ?_
  obtain ⟨g16, h⟩ := gd h
  refine wa_sald (j := (a7.toNatClampNeg)) C g16 rfl dX9_fits_104 ?_
  refine wa_ior C dX9_fits_105 ?_
  refine wa_istore C dX9_fits_106 (by decide) ?_
  exact WA.sub (lsub_c rfl (lsub_c rfl (lsub_c rfl (lsub_c rfl (lsub_c rfl (lsub_c rfl (lsub_c rfl (lsub_c rfl lsub_n)))))))) (r_X9_fits_0_J108 C _ hk48 h)
set_option maxRecDepth 100000 in
set_option maxHeartbeats 4000000 in
theorem r_X9_fits_0_L48 {p : Program} {l : Launch} {e : Env} {s : State} {m : MethodId} {args : Array Value} {below : List Frame} {meth : Method} {c : Code} {D : va_G} {cy : Nat → ClassId} {ad : Nat → Nat} (C : CX p s m args meth c cX9_fits 8 RX9 (some .int) D cy ad (AD ad)) (a1 : Int32) (a2 : Int32) {ρ : (Int32 × Mem)} : ∀ (n : Nat) (a3 : Int32) (a4 : Int32) (a5 : Int32) (a6 : Int32) (a7 : Int32) (μ : Mem), it6 (f_X9_fits_0_L48 a1 a2) n a3 a4 a5 a6 a7 μ = some ρ → WA p l e (rmD 3) s m args below meth c 8 D cy ad (AD ad) 0 0 (ZZ below args s D cy ad (AD ad) 0 0 (some (.int ρ.1)) ρ.2) μ [(0, .ref 0), (1, .int a1), (2, .int a2), (3, .int a3), (4, .int a4), (5, .int a5), (6, .int a6), (7, .int a7)] 48 [] := by
  intro n
  induction n with
  | zero =>
    intro a3 a4 a5 a6 a7 μ h
    exact absurd h (fun h => by cases h)
  | succ n ih =>
    intro a3 a4 a5 a6 a7 μ h
    replace h : f_X9_fits_0_L48 a1 a2 (it6 (f_X9_fits_0_L48 a1 a2) n) a3 a4 a5 a6 a7 μ = some ρ := h
    unfold f_X9_fits_0_L48 at h
    refine wa_iload C dX9_fits_48 rfl ?_
    refine wa_aload_n C dX9_fits_50 rfl ?_
    refine wa_getr C fl_RX9_10 rfl rfl (by decide) dX9_fits_51 ?_
    obtain ⟨q6, hq6, h⟩ := bd h
    refine wa_callV C (r_X1_watches_1 hq6) mk_X1_watches mv_X1_watches qw_694 rfl (by decide) rfl rfl ⟨Nat.le_of_ble_eq_true rfl, Nat.le_of_ble_eq_true rfl⟩ ⟨Nat.zero_le _, Nat.zero_le _⟩ (Nat.le_of_ble_eq_true rfl) dX9_fits_54 rfl ?_
    refine wa_icmp_ge (tgt := 114) C dX9_fits_57 (by decide) (fun c7 => ?_) (fun c7 => ?_)
    · replace h := (if_pos c7).symm.trans h
      refine wa_iload_n C dX9_fits_114 rfl ?_
      refine wa_if_ne (tgt := 120) C dX9_fits_115 (by decide) (fun c8 => ?_) (fun c8 => ?_)
      · replace h := (if_neg c8).symm.trans h
        refine wa_iload_n C dX9_fits_120 rfl ?_
        refine wa_if_eq (tgt := 129) C dX9_fits_121 (by decide) (fun c9 => ?_) (fun c9 => ?_)
        · replace h := (if_pos c9).symm.trans h
          refine wa_iload C dX9_fits_129 rfl ?_
          obtain rfl := Option.some.inj h
          exact wa_iret C dX9_fits_131
        · replace h := (if_neg c9).symm.trans h
          refine wa_iload_n C dX9_fits_124 rfl ?_
          refine wa_iconst (v := 1) C dX9_fits_125 (by decide) ?_
          refine wa_icmp_ne (tgt := 132) C dX9_fits_126 (by decide) (fun c10 => ?_) (fun c10 => ?_)
          · replace h := (if_neg c10).symm.trans h
            refine wa_iload_n C dX9_fits_132 rfl ?_
            refine wa_iconst (v := 2) C dX9_fits_133 (by decide) ?_
            refine wa_icmp_ne (tgt := 142) C dX9_fits_134 (by decide) (fun c11 => ?_) (fun c11 => ?_)
            · replace h := (if_neg c11).symm.trans h
              refine wa_aload_n C dX9_fits_142 rfl ?_
              refine wa_getr C fl_RX9_44 rfl rfl (by decide) dX9_fits_143 ?_
              refine wa_geti (x := (q6.2.1 47 1)) C fl_RX9_258 rfl rfl (by decide) rfl dX9_fits_146 ?_
              refine wa_iload C dX9_fits_149 rfl ?_
              refine wa_iconst (v := -1) C dX9_fits_151 (by decide) ?_
              refine wa_ixor C dX9_fits_152 ?_
              refine wa_iand C dX9_fits_153 ?_
              obtain rfl := Option.some.inj h
              exact wa_iret C dX9_fits_154
            · replace h := (if_pos c11).symm.trans h
              refine wa_iload C dX9_fits_137 rfl ?_
              refine wa_goto (tgt := 154) C dX9_fits_139 (by decide) ?_
              obtain rfl := Option.some.inj h
              exact wa_iret C dX9_fits_154
          · replace h := (if_pos c10).symm.trans h
            refine wa_iload C dX9_fits_129 rfl ?_
            obtain rfl := Option.some.inj h
            exact wa_iret C dX9_fits_131
      · replace h := (if_pos c8).symm.trans h
        refine wa_iload_n C dX9_fits_118 rfl ?_
        obtain rfl := Option.some.inj h
        exact wa_iret C dX9_fits_119
    · replace h := (if_neg c7).symm.trans h
      refine wa_aload_n C dX9_fits_60 rfl ?_
      refine wa_iload_n C dX9_fits_61 rfl ?_
      refine wa_iload C dX9_fits_62 rfl ?_
      obtain ⟨q12, hq12, h⟩ := bd h
      refine wa_callV C (r_X9_isAsHeard_0 hq12) mk_X9_isAsHeard mv_X9_isAsHeard qw_1028 rfl (by decide) rfl rfl ⟨Nat.le_of_ble_eq_true rfl, Nat.le_of_ble_eq_true rfl⟩ ⟨Nat.zero_le _, Nat.zero_le _⟩ (Nat.le_of_ble_eq_true rfl) dX9_fits_64 rfl ?_
      refine wa_if_eq (tgt := 108) C dX9_fits_67 (by decide) (fun c13 => ?_) (fun c13 => ?_)
      · replace h := (if_pos c13).symm.trans h
        exact WA.sub (lsub_c rfl (lsub_c rfl (lsub_c rfl (lsub_c rfl (lsub_c rfl (lsub_c rfl (lsub_c rfl (lsub_c rfl lsub_n)))))))) (r_X9_fits_0_J108 C _ (fun _ _ _ _ _ _ h => ih _ _ _ _ _ _ h) h)
      · replace h := (if_neg c13).symm.trans h
        refine wa_iload_n C dX9_fits_70 rfl ?_
        refine wa_if_ne (tgt := 79) C dX9_fits_71 (by decide) (fun c14 => ?_) (fun c14 => ?_)
        · replace h := (if_neg c14).symm.trans h
          refine wa_iload C dX9_fits_79 rfl ?_
          exact WA.sub (lsub_c rfl (lsub_c rfl (lsub_c rfl (lsub_c rfl (lsub_c rfl (lsub_c rfl (lsub_c rfl lsub_n))))))) (r_X9_fits_0_J81 C _ (fun _ _ _ _ _ _ h => ih _ _ _ _ _ _ h) h)
        · replace h := (if_pos c14).symm.trans h
          refine wa_iload C dX9_fits_74 rfl ?_
          refine wa_goto (tgt := 81) C dX9_fits_76 (by decide) ?_
          exact WA.sub (lsub_c rfl (lsub_c rfl (lsub_c rfl (lsub_c rfl (lsub_c rfl (lsub_c rfl (lsub_c rfl lsub_n))))))) (r_X9_fits_0_J81 C _ (fun _ _ _ _ _ _ h => ih _ _ _ _ _ _ h) h)
set_option maxRecDepth 100000 in
set_option maxHeartbeats 4000000 in
theorem r_X9_fits_0 {a1 : Int32} {a2 : Int32} {μ : Mem} {ρ : (Int32 × Mem)} (h : f_X9_fits_0 a1 a2 μ = some ρ) : HT 3 yX9_fits cX9_fits 8 (some .int) [.ref 0, .int a1, .int a2] μ (some (.int ρ.1)) ρ.2 := by
  refine HT.of (by decide +kernel) (Nat.le_of_ble_eq_true rfl) (fun C => ?_)
  unfold f_X9_fits_0 at h
  refine wa_aload_n C dX9_fits_0 rfl ?_
  refine wa_getr C fl_RX9_10 rfl rfl (by decide) dX9_fits_1 ?_
  refine wa_iload_n C dX9_fits_4 rfl ?_
  obtain ⟨q1, hq1, h⟩ := bd h
  refine wa_callV C (r_X1_hasQuarter_1 hq1) mk_X1_hasQuarter mv_X1_hasQuarter qw_546 rfl (by decide) rfl rfl ⟨Nat.le_of_ble_eq_true rfl, Nat.le_of_ble_eq_true rfl⟩ ⟨Nat.zero_le _, Nat.zero_le _⟩ (Nat.le_of_ble_eq_true rfl) dX9_fits_5 rfl ?_
  refine wa_if_eq (tgt := 20) C dX9_fits_8 (by decide) (fun c2 => ?_) (fun c2 => ?_)
  · replace h := (if_pos c2).symm.trans h
    refine wa_iconst (v := -1) C dX9_fits_20 (by decide) ?_
    obtain rfl := Option.some.inj h
    exact wa_iret C dX9_fits_21
  · replace h := (if_neg c2).symm.trans h
    refine wa_iload_n C dX9_fits_11 rfl ?_
    refine wa_if_lt (tgt := 20) C dX9_fits_12 (by decide) (fun c3 => ?_) (fun c3 => ?_)
    · replace h := (if_pos c3).symm.trans h
      refine wa_iconst (v := -1) C dX9_fits_20 (by decide) ?_
      obtain rfl := Option.some.inj h
      exact wa_iret C dX9_fits_21
    · replace h := (if_neg c3).symm.trans h
      refine wa_iload_n C dX9_fits_15 rfl ?_
      refine wa_iconst (v := 3) C dX9_fits_16 (by decide) ?_
      refine wa_icmp_le (tgt := 22) C dX9_fits_17 (by decide) (fun c4 => ?_) (fun c4 => ?_)
      · replace h := (if_pos c4).symm.trans h
        refine wa_aload_n C dX9_fits_22 rfl ?_
        obtain ⟨q5, hq5, h⟩ := bd h
        refine wa_callV C (r_X9_look_0 hq5) mk_X9_look mv_X9_look qw_508 rfl (by decide) rfl rfl ⟨Nat.le_of_ble_eq_true rfl, Nat.le_of_ble_eq_true rfl⟩ ⟨Nat.zero_le _, Nat.zero_le _⟩ (Nat.le_of_ble_eq_true rfl) dX9_fits_23 rfl ?_
        refine wa_pop C dX9_fits_26 rfl ?_
        refine wa_iconst (v := 0) C dX9_fits_27 (by decide) ?_
        refine wa_istore_n C dX9_fits_28 (by decide) ?_
        refine wa_bipush (v := -4) C dX9_fits_29 (by decide) ?_
        refine wa_istore C dX9_fits_31 (by decide) ?_
        refine wa_aload_n C dX9_fits_33 rfl ?_
        refine wa_getr C fl_RX9_44 rfl rfl (by decide) dX9_fits_34 ?_
        refine wa_geti (x := (q5.1 47 1)) C fl_RX9_258 rfl rfl (by decide) rfl dX9_fits_37 ?_
        refine wa_istore C dX9_fits_40 (by decide) ?_
        refine wa_iconst (v := 0) C dX9_fits_42 (by decide) ?_
        refine wa_istore C dX9_fits_43 (by decide) ?_
        refine wa_iconst (v := 0) C dX9_fits_45 (by decide) ?_
        refine wa_istore C dX9_fits_46 (by decide) ?_
        exact WA.sub (lsub_c rfl (lsub_c rfl (lsub_c rfl (lsub_c rfl (lsub_c rfl (lsub_c rfl (lsub_c rfl (lsub_c rfl lsub_n)))))))) (r_X9_fits_0_L48 C _ _ _ _ _ _ _ _ _ h)
      · replace h := (if_neg c4).symm.trans h
        refine wa_iconst (v := -1) C dX9_fits_20 (by decide) ?_
        obtain rfl := Option.some.inj h
        exact wa_iret C dX9_fits_21
def f_X10_isFit_62_J93 (k5 : Int32 → Int32 → Mem → Option (Int32 × Mem)) (a1 : Int32) (a2 : Int32) (a4 : Int32) (t0 : Int32) (μ : Mem) : Option (Int32 × Mem) :=
  k5 t0 (a4 + 1) μ
def f_X10_isFit_62_J92 (k5 : Int32 → Int32 → Mem → Option (Int32 × Mem)) (a1 : Int32) (a2 : Int32) (a4 : Int32) (μ : Mem) : Option (Int32 × Mem) :=
  f_X10_isFit_62_J93 k5 a1 a2 a4 (0 : Int32) μ
def f_X10_isFit_62_J88 (k5 : Int32 → Int32 → Mem → Option (Int32 × Mem)) (a1 : Int32) (a2 : Int32) (a4 : Int32) (μ : Mem) : Option (Int32 × Mem) :=
  f_X10_isFit_62_J93 k5 a1 a2 a4 (1 : Int32) μ
def f_X10_isFit_62_J85 (k5 : Int32 → Int32 → Mem → Option (Int32 × Mem)) (a1 : Int32) (a2 : Int32) (a4 : Int32) (t0 : Int32) (t1 : Int32) (μ : Mem) : Option (Int32 × Mem) :=
  if t0 = t1 then
    f_X10_isFit_62_J88 k5 a1 a2 a4 μ
  else
    f_X10_isFit_62_J92 k5 a1 a2 a4 μ
def f_X10_isFit_62_J67 (k5 : Int32 → Int32 → Mem → Option (Int32 × Mem)) (a1 : Int32) (a2 : Int32) (a4 : Int32) (a5 : Int32) (t0 : Int32) (μ : Mem) : Option (Int32 × Mem) :=
  if inb (a5 + (2 : Int32)) 162 = false then none else
  if (μ.1 63 ((a5 + (2 : Int32)).toNatClampNeg)) = (1 : Int32) then
    f_X10_isFit_62_J85 k5 a1 a2 a4 t0 (1 : Int32) μ
  else
    f_X10_isFit_62_J85 k5 a1 a2 a4 t0 (0 : Int32) μ
def f_X10_isFit_62_L5 (a1 : Int32) (a2 : Int32) (k5 : Int32 → Int32 → Mem → Option (Int32 × Mem)) (a3 : Int32) (a4 : Int32) (μ : Mem) : Option (Int32 × Mem) :=
    if (μ.1 63 29) ≤ a4 then
      if zb a3 = false then none else
      some (a3, μ)
    else
      if a3 = 0 then
        f_X10_isFit_62_J92 k5 a1 a2 a4 μ
      else
        if inb ((30 : Int32) + ((3 : Int32) * a4)) 162 = false then none else
        if (μ.1 63 (((30 : Int32) + ((3 : Int32) * a4)).toNatClampNeg)) = a1 then
          if inb (((30 : Int32) + ((3 : Int32) * a4)) + (1 : Int32)) 162 = false then none else
          (f_X10_shutBy_62 a2 μ).bind fun q7 =>
          (f_X10_countOf_62 (μ.1 63 ((((30 : Int32) + ((3 : Int32) * a4)) + (1 : Int32)).toNatClampNeg)) q7.1 q7.2).bind fun q8 =>
          if q8.1 ≤ 0 then
            f_X10_isFit_62_J67 k5 a1 a2 a4 ((30 : Int32) + ((3 : Int32) * a4)) (0 : Int32) q8.2
          else
            f_X10_isFit_62_J67 k5 a1 a2 a4 ((30 : Int32) + ((3 : Int32) * a4)) (1 : Int32) q8.2
        else
          f_X10_isFit_62_J88 k5 a1 a2 a4 μ
def f_X10_isFit_62 (a1 : Int32) (a2 : Int32) (μ : Mem) : Option (Int32 × Mem) :=
  it3 (f_X10_isFit_62_L5 a1 a2) FU (1 : Int32) (0 : Int32) μ
set_option maxRecDepth 100000 in
set_option maxHeartbeats 4000000 in
theorem r_X10_isFit_62_J93 {p : Program} {l : Launch} {e : Env} {s : State} {m : MethodId} {args : Array Value} {below : List Frame} {meth : Method} {c : Code} {D : va_G} {cy : Nat → ClassId} {ad : Nat → Nat} (C : CX p s m args meth c cX10_isFit 6 RX10 (some .boolean) D cy ad (AD ad)) {a1 : Int32} {a2 : Int32} {a4 : Int32} {t0 : Int32} {μ : Mem} {ρ : (Int32 × Mem)} (k5 : Int32 → Int32 → Mem → Option (Int32 × Mem)) (hk5 : ∀ (a3 : Int32) (a4 : Int32) (μ : Mem), k5 a3 a4 μ = some ρ → WA p l e (rmD 2) s m args below meth c 6 D cy ad (AD ad) 0 0 (ZZ below args s D cy ad (AD ad) 0 0 (some (.int ρ.1)) ρ.2) μ [(0, .ref 62), (1, .int a1), (2, .int a2), (3, .int a3), (4, .int a4)] 5 []) (h : f_X10_isFit_62_J93 k5 a1 a2 a4 t0 μ = some ρ) : WA p l e (rmD 2) s m args below meth c 6 D cy ad (AD ad) 0 0 (ZZ below args s D cy ad (AD ad) 0 0 (some (.int ρ.1)) ρ.2) μ [(0, .ref 62), (1, .int a1), (2, .int a2), (4, .int a4)] 93 [.int t0] := by
  unfold f_X10_isFit_62_J93 at h
  refine wa_istore_n C dX10_isFit_93 (by decide) ?_
  refine wa_iinc (v := (a4 + 1)) C dX10_isFit_94 rfl rfl (by decide) ?_
  refine wa_goto (tgt := 5) C dX10_isFit_97 (by decide) ?_
  exact WA.sub (lsub_c rfl (lsub_c rfl (lsub_c rfl (lsub_c rfl (lsub_c rfl lsub_n))))) (hk5 _ _ _ h)
set_option maxRecDepth 100000 in
set_option maxHeartbeats 4000000 in
theorem r_X10_isFit_62_J92 {p : Program} {l : Launch} {e : Env} {s : State} {m : MethodId} {args : Array Value} {below : List Frame} {meth : Method} {c : Code} {D : va_G} {cy : Nat → ClassId} {ad : Nat → Nat} (C : CX p s m args meth c cX10_isFit 6 RX10 (some .boolean) D cy ad (AD ad)) {a1 : Int32} {a2 : Int32} {a4 : Int32} {μ : Mem} {ρ : (Int32 × Mem)} (k5 : Int32 → Int32 → Mem → Option (Int32 × Mem)) (hk5 : ∀ (a3 : Int32) (a4 : Int32) (μ : Mem), k5 a3 a4 μ = some ρ → WA p l e (rmD 2) s m args below meth c 6 D cy ad (AD ad) 0 0 (ZZ below args s D cy ad (AD ad) 0 0 (some (.int ρ.1)) ρ.2) μ [(0, .ref 62), (1, .int a1), (2, .int a2), (3, .int a3), (4, .int a4)] 5 []) (h : f_X10_isFit_62_J92 k5 a1 a2 a4 μ = some ρ) : WA p l e (rmD 2) s m args below meth c 6 D cy ad (AD ad) 0 0 (ZZ below args s D cy ad (AD ad) 0 0 (some (.int ρ.1)) ρ.2) μ [(0, .ref 62), (1, .int a1), (2, .int a2), (4, .int a4)] 92 [] := by
  unfold f_X10_isFit_62_J92 at h
  refine wa_iconst (v := 0) C dX10_isFit_92 (by decide) ?_
  exact WA.sub (lsub_c rfl (lsub_c rfl (lsub_c rfl (lsub_c rfl lsub_n)))) (r_X10_isFit_62_J93 C _ hk5 h)
set_option maxRecDepth 100000 in
set_option maxHeartbeats 4000000 in
theorem r_X10_isFit_62_J88 {p : Program} {l : Launch} {e : Env} {s : State} {m : MethodId} {args : Array Value} {below : List Frame} {meth : Method} {c : Code} {D : va_G} {cy : Nat → ClassId} {ad : Nat → Nat} (C : CX p s m args meth c cX10_isFit 6 RX10 (some .boolean) D cy ad (AD ad)) {a1 : Int32} {a2 : Int32} {a4 : Int32} {μ : Mem} {ρ : (Int32 × Mem)} (k5 : Int32 → Int32 → Mem → Option (Int32 × Mem)) (hk5 : ∀ (a3 : Int32) (a4 : Int32) (μ : Mem), k5 a3 a4 μ = some ρ → WA p l e (rmD 2) s m args below meth c 6 D cy ad (AD ad) 0 0 (ZZ below args s D cy ad (AD ad) 0 0 (some (.int ρ.1)) ρ.2) μ [(0, .ref 62), (1, .int a1), (2, .int a2), (3, .int a3), (4, .int a4)] 5 []) (h : f_X10_isFit_62_J88 k5 a1 a2 a4 μ = some ρ) : WA p l e (rmD 2) s m args below meth c 6 D cy ad (AD ad) 0 0 (ZZ below args s D cy ad (AD ad) 0 0 (some (.int ρ.1)) ρ.2) μ [(0, .ref 62), (1, .int a1), (2, .int a2), (4, .int a4)] 88 [] := by
  unfold f_X10_isFit_62_J88 at h
  refine wa_iconst (v := 1) C dX10_isFit_88 (by decide) ?_
  refine wa_goto (tgt := 93) C dX10_isFit_89 (by decide) ?_
  exact WA.sub (lsub_c rfl (lsub_c rfl (lsub_c rfl (lsub_c rfl lsub_n)))) (r_X10_isFit_62_J93 C _ hk5 h)
set_option maxRecDepth 100000 in
set_option maxHeartbeats 4000000 in
theorem r_X10_isFit_62_J85 {p : Program} {l : Launch} {e : Env} {s : State} {m : MethodId} {args : Array Value} {below : List Frame} {meth : Method} {c : Code} {D : va_G} {cy : Nat → ClassId} {ad : Nat → Nat} (C : CX p s m args meth c cX10_isFit 6 RX10 (some .boolean) D cy ad (AD ad)) {a1 : Int32} {a2 : Int32} {a4 : Int32} {t0 : Int32} {t1 : Int32} {μ : Mem} {ρ : (Int32 × Mem)} (k5 : Int32 → Int32 → Mem → Option (Int32 × Mem)) (hk5 : ∀ (a3 : Int32) (a4 : Int32) (μ : Mem), k5 a3 a4 μ = some ρ → WA p l e (rmD 2) s m args below meth c 6 D cy ad (AD ad) 0 0 (ZZ below args s D cy ad (AD ad) 0 0 (some (.int ρ.1)) ρ.2) μ [(0, .ref 62), (1, .int a1), (2, .int a2), (3, .int a3), (4, .int a4)] 5 []) (h : f_X10_isFit_62_J85 k5 a1 a2 a4 t0 t1 μ = some ρ) : WA p l e (rmD 2) s m args below meth c 6 D cy ad (AD ad) 0 0 (ZZ below args s D cy ad (AD ad) 0 0 (some (.int ρ.1)) ρ.2) μ [(0, .ref 62), (1, .int a1), (2, .int a2), (4, .int a4)] 85 [.int t1, .int t0] := by
  unfold f_X10_isFit_62_J85 at h
  refine wa_icmp_ne (tgt := 92) C dX10_isFit_85 (by decide) (fun c12 => ?_) (fun c12 => ?_)
  · replace h := (if_neg c12).symm.trans h
    exact WA.sub (lsub_c rfl (lsub_c rfl (lsub_c rfl (lsub_c rfl lsub_n)))) (r_X10_isFit_62_J92 C _ hk5 h)
  · replace h := (if_pos c12).symm.trans h
    exact WA.sub (lsub_c rfl (lsub_c rfl (lsub_c rfl (lsub_c rfl lsub_n)))) (r_X10_isFit_62_J88 C _ hk5 h)
set_option maxRecDepth 100000 in
set_option maxHeartbeats 4000000 in
theorem r_X10_isFit_62_J67 {p : Program} {l : Launch} {e : Env} {s : State} {m : MethodId} {args : Array Value} {below : List Frame} {meth : Method} {c : Code} {D : va_G} {cy : Nat → ClassId} {ad : Nat → Nat} (C : CX p s m args meth c cX10_isFit 6 RX10 (some .boolean) D cy ad (AD ad)) {a1 : Int32} {a2 : Int32} {a4 : Int32} {a5 : Int32} {t0 : Int32} {μ : Mem} {ρ : (Int32 × Mem)} (k5 : Int32 → Int32 → Mem → Option (Int32 × Mem)) (hk5 : ∀ (a3 : Int32) (a4 : Int32) (μ : Mem), k5 a3 a4 μ = some ρ → WA p l e (rmD 2) s m args below meth c 6 D cy ad (AD ad) 0 0 (ZZ below args s D cy ad (AD ad) 0 0 (some (.int ρ.1)) ρ.2) μ [(0, .ref 62), (1, .int a1), (2, .int a2), (3, .int a3), (4, .int a4)] 5 []) (h : f_X10_isFit_62_J67 k5 a1 a2 a4 a5 t0 μ = some ρ) : WA p l e (rmD 2) s m args below meth c 6 D cy ad (AD ad) 0 0 (ZZ below args s D cy ad (AD ad) 0 0 (some (.int ρ.1)) ρ.2) μ [(0, .ref 62), (1, .int a1), (2, .int a2), (4, .int a4), (5, .int a5)] 67 [.int t0] := by
  unfold f_X10_isFit_62_J67 at h
  refine wa_aload_n C dX10_isFit_67 rfl ?_
  refine wa_getr C fl_RX10_7 rfl rfl (by decide) dX10_isFit_68 ?_
  refine wa_iload C dX10_isFit_71 rfl ?_
  refine wa_iconst (v := 2) C dX10_isFit_73 (by decide) ?_
  refine wa_iadd C dX10_isFit_74 ?_
  obtain ⟨g10, h⟩ := gd h
  refine wa_iald (j := ((a5 + (2 : Int32)).toNatClampNeg)) (x := (μ.1 63 ((a5 + (2 : Int32)).toNatClampNeg))) C rfl (by decide) g10 rfl rfl dX10_isFit_75 ?_
  refine wa_iconst (v := 1) C dX10_isFit_76 (by decide) ?_
  refine wa_icmp_ne (tgt := 84) C dX10_isFit_77 (by decide) (fun c11 => ?_) (fun c11 => ?_)
  · replace h := (if_neg c11).symm.trans h
    refine wa_iconst (v := 0) C dX10_isFit_84 (by decide) ?_
    exact WA.sub (lsub_c rfl (lsub_c rfl (lsub_c rfl (lsub_c rfl lsub_n)))) (r_X10_isFit_62_J85 C _ hk5 h)
  · replace h := (if_pos c11).symm.trans h
    refine wa_iconst (v := 1) C dX10_isFit_80 (by decide) ?_
    refine wa_goto (tgt := 85) C dX10_isFit_81 (by decide) ?_
    exact WA.sub (lsub_c rfl (lsub_c rfl (lsub_c rfl (lsub_c rfl lsub_n)))) (r_X10_isFit_62_J85 C _ hk5 h)
set_option maxRecDepth 100000 in
set_option maxHeartbeats 4000000 in
theorem r_X10_isFit_62_L5 {p : Program} {l : Launch} {e : Env} {s : State} {m : MethodId} {args : Array Value} {below : List Frame} {meth : Method} {c : Code} {D : va_G} {cy : Nat → ClassId} {ad : Nat → Nat} (C : CX p s m args meth c cX10_isFit 6 RX10 (some .boolean) D cy ad (AD ad)) (a1 : Int32) (a2 : Int32) {ρ : (Int32 × Mem)} : ∀ (n : Nat) (a3 : Int32) (a4 : Int32) (μ : Mem), it3 (f_X10_isFit_62_L5 a1 a2) n a3 a4 μ = some ρ → WA p l e (rmD 2) s m args below meth c 6 D cy ad (AD ad) 0 0 (ZZ below args s D cy ad (AD ad) 0 0 (some (.int ρ.1)) ρ.2) μ [(0, .ref 62), (1, .int a1), (2, .int a2), (3, .int a3), (4, .int a4)] 5 [] := by
  intro n
  induction n with
  | zero =>
    intro a3 a4 μ h
    exact absurd h (fun h => by cases h)
  | succ n ih =>
    intro a3 a4 μ h
    replace h : f_X10_isFit_62_L5 a1 a2 (it3 (f_X10_isFit_62_L5 a1 a2) n) a3 a4 μ = some ρ := h
    unfold f_X10_isFit_62_L5 at h
    refine wa_iload C dX10_isFit_5 rfl ?_
    refine wa_aload_n C dX10_isFit_7 rfl ?_
    refine wa_getr C fl_RX10_7 rfl rfl (by decide) dX10_isFit_8 ?_
    refine wa_bipush (v := 29) C dX10_isFit_11 (by decide) ?_
    refine wa_iald (j := 29) (x := (μ.1 63 29)) C rfl (by decide) (by decide) (by decide) rfl dX10_isFit_13 ?_
    refine wa_icmp_ge (tgt := 100) C dX10_isFit_14 (by decide) (fun c1 => ?_) (fun c1 => ?_)
    · replace h := (if_pos c1).symm.trans h
      refine wa_iload_n C dX10_isFit_100 rfl ?_
      obtain ⟨g2, h⟩ := gd h
      obtain rfl := Option.some.inj h
      exact wa_zret C g2 dX10_isFit_101
    · replace h := (if_neg c1).symm.trans h
      refine wa_bipush (v := 30) C dX10_isFit_17 (by decide) ?_
      refine wa_iconst (v := 3) C dX10_isFit_19 (by decide) ?_
      refine wa_iload C dX10_isFit_20 rfl ?_
      refine wa_imul C dX10_isFit_22 ?_
      refine wa_iadd C dX10_isFit_23 ?_
      refine wa_istore C dX10_isFit_24 (by decide) ?_
      refine wa_iload_n C dX10_isFit_26 rfl ?_
      refine wa_if_eq (tgt := 92) C dX10_isFit_27 (by decide) (fun c3 => ?_) (fun c3 => ?_)
      · replace h := (if_pos c3).symm.trans h
        exact WA.sub (lsub_c rfl (lsub_c rfl (lsub_c rfl (lsub_c rfl lsub_n)))) (r_X10_isFit_62_J92 C _ (fun _ _ _ h => ih _ _ _ h) h)
      · replace h := (if_neg c3).symm.trans h
        refine wa_aload_n C dX10_isFit_30 rfl ?_
        refine wa_getr C fl_RX10_7 rfl rfl (by decide) dX10_isFit_31 ?_
        refine wa_iload C dX10_isFit_34 rfl ?_
        obtain ⟨g4, h⟩ := gd h
        refine wa_iald (j := (((30 : Int32) + ((3 : Int32) * a4)).toNatClampNeg)) (x := (μ.1 63 (((30 : Int32) + ((3 : Int32) * a4)).toNatClampNeg))) C rfl (by decide) g4 rfl rfl dX10_isFit_36 ?_
        refine wa_iload_n C dX10_isFit_37 rfl ?_
        refine wa_icmp_ne (tgt := 88) C dX10_isFit_38 (by decide) (fun c5 => ?_) (fun c5 => ?_)
        · replace h := (if_neg c5).symm.trans h
          exact WA.sub (lsub_c rfl (lsub_c rfl (lsub_c rfl (lsub_c rfl lsub_n)))) (r_X10_isFit_62_J88 C _ (fun _ _ _ h => ih _ _ _ h) h)
        · replace h := (if_pos c5).symm.trans h
          refine wa_aload_n C dX10_isFit_41 rfl ?_
          refine wa_aload_n C dX10_isFit_42 rfl ?_
          refine wa_getr C fl_RX10_7 rfl rfl (by decide) dX10_isFit_43 ?_
          refine wa_iload C dX10_isFit_46 rfl ?_
          refine wa_iconst (v := 1) C dX10_isFit_48 (by decide) ?_
          refine wa_iadd C dX10_isFit_49 ?_
          obtain ⟨g6, h⟩ := gd h
          refine wa_iald (j := ((((30 : Int32) + ((3 : Int32) * a4)) + (1 : Int32)).toNatClampNeg)) (x := (μ.1 63 ((((30 : Int32) + ((3 : Int32) * a4)) + (1 : Int32)).toNatClampNeg))) C rfl (by decide) g6 rfl rfl dX10_isFit_50 ?_
          refine wa_aload_n C dX10_isFit_51 rfl ?_
          refine wa_iload_n C dX10_isFit_52 rfl ?_
          obtain ⟨q7, hq7, h⟩ := bd h
          refine wa_callV C (r_X10_shutBy_62 hq7) mk_X10_shutBy mv_X10_shutBy qw_647 rfl (by decide) rfl rfl ⟨Nat.le_of_ble_eq_true rfl, Nat.le_of_ble_eq_true rfl⟩ ⟨Nat.zero_le _, Nat.zero_le _⟩ (Nat.le_of_ble_eq_true rfl) dX10_isFit_53 rfl ?_
          obtain ⟨q8, hq8, h⟩ := bd h
          refine wa_callV C (r_X10_countOf_62 hq8) mk_X10_countOf mv_X10_countOf qw_651 rfl (by decide) rfl rfl ⟨Nat.le_of_ble_eq_true rfl, Nat.le_of_ble_eq_true rfl⟩ ⟨Nat.zero_le _, Nat.zero_le _⟩ (Nat.le_of_ble_eq_true rfl) dX10_isFit_56 rfl ?_
          refine wa_if_le (tgt := 66) C dX10_isFit_59 (by decide) (fun c9 => ?_) (fun c9 => ?_)
          · replace h := (if_pos c9).symm.trans h
            refine wa_iconst (v := 0) C dX10_isFit_66 (by decide) ?_
            exact WA.sub (lsub_c rfl (lsub_c rfl (lsub_c rfl (lsub_c rfl (lsub_c rfl lsub_n))))) (r_X10_isFit_62_J67 C _ (fun _ _ _ h => ih _ _ _ h) h)
          · replace h := (if_neg c9).symm.trans h
            refine wa_iconst (v := 1) C dX10_isFit_62 (by decide) ?_
            refine wa_goto (tgt := 67) C dX10_isFit_63 (by decide) ?_
            exact WA.sub (lsub_c rfl (lsub_c rfl (lsub_c rfl (lsub_c rfl (lsub_c rfl lsub_n))))) (r_X10_isFit_62_J67 C _ (fun _ _ _ h => ih _ _ _ h) h)
set_option maxRecDepth 100000 in
set_option maxHeartbeats 4000000 in
theorem r_X10_isFit_62 {a1 : Int32} {a2 : Int32} {μ : Mem} {ρ : (Int32 × Mem)} (h : f_X10_isFit_62 a1 a2 μ = some ρ) : HT 2 yX10_isFit cX10_isFit 6 (some .boolean) [.ref 62, .int a1, .int a2] μ (some (.int ρ.1)) ρ.2 := by
  refine HT.of (by decide +kernel) (Nat.le_of_ble_eq_true rfl) (fun C => ?_)
  unfold f_X10_isFit_62 at h
  refine wa_iconst (v := 1) C dX10_isFit_0 (by decide) ?_
  refine wa_istore_n C dX10_isFit_1 (by decide) ?_
  refine wa_iconst (v := 0) C dX10_isFit_2 (by decide) ?_
  refine wa_istore C dX10_isFit_3 (by decide) ?_
  exact WA.sub (lsub_c rfl (lsub_c rfl (lsub_c rfl (lsub_c rfl (lsub_c rfl lsub_n))))) (r_X10_isFit_62_L5 C _ _ _ _ _ _ h)
def f_X10_fits_62_J117 (a2 : Int32) (a3 : Int32) (μ : Mem) : Option (Int32 × Mem) :=
  if a2 = 0 then
    some (a3, μ)
  else
    some ((-4 : Int32), μ)
def f_X10_fits_62_J103 (k46 : Int32 → Int32 → Int32 → Int32 → Int32 → Mem → Option (Int32 × Mem)) (a1 : Int32) (a2 : Int32) (a3 : Int32) (a4 : Int32) (a5 : Int32) (a6 : Int32) (a7 : Int32) (μ : Mem) : Option (Int32 × Mem) :=
  k46 a3 a4 a5 a6 (a7 + 1) μ
def f_X10_fits_62_J76 (k46 : Int32 → Int32 → Int32 → Int32 → Int32 → Mem → Option (Int32 × Mem)) (a1 : Int32) (a2 : Int32) (a3 : Int32) (a5 : Int32) (a6 : Int32) (a7 : Int32) (t0 : Int32) (μ : Mem) : Option (Int32 × Mem) :=
  (f_X10_shutBy_62 a7 μ).bind fun q14 =>
  (f_X10_shutBy_62 a7 q14.2).bind fun q15 =>
  f_X10_fits_62_J103 k46 a1 a2 (a3 + 1) t0 (a5 &&& q14.1) (a6 ||| q15.1) a7 q15.2
def f_X10_fits_62_L46 (a1 : Int32) (a2 : Int32) (k46 : Int32 → Int32 → Int32 → Int32 → Int32 → Mem → Option (Int32 × Mem)) (a3 : Int32) (a4 : Int32) (a5 : Int32) (a6 : Int32) (a7 : Int32) (μ : Mem) : Option (Int32 × Mem) :=
    if (μ.1 62 4) ≤ a7 then
      if a2 = 0 then
        f_X10_fits_62_J117 a2 a3 μ
      else
        if a3 = 0 then
          f_X10_fits_62_J117 a2 a3 μ
        else
          if a2 = (1 : Int32) then
            some (a4, μ)
          else
            if a2 = (2 : Int32) then
              some (a5, μ)
            else
              some (((((1 : Int32) <<< (((2 : Int32) * (μ.1 62 2)) &&& 31)) - (1 : Int32)) &&& (a6 ^^^ (-1 : Int32))), μ)
    else
      (f_X10_isFit_62 a1 a7 μ).bind fun q11 =>
      if q11.1 = 0 then
        f_X10_fits_62_J103 k46 a1 a2 a3 a4 a5 a6 a7 q11.2
      else
        if a3 = 0 then
          f_X10_fits_62_J76 k46 a1 a2 a3 a5 a6 a7 a7 q11.2
        else
          f_X10_fits_62_J76 k46 a1 a2 a3 a5 a6 a7 a4 q11.2
def f_X10_fits_62 (a1 : Int32) (a2 : Int32) (μ : Mem) : Option (Int32 × Mem) :=
  (f_X10_isQuarter_62 a1 μ).bind fun q1 =>
  if q1.1 = 0 then
    some ((-1 : Int32), q1.2)
  else
    (f_X10_in (a2.toInt64) (0 : Int64) (3 : Int64) q1.2).bind fun q3 =>
    if q3.1 = 0 then
      some ((-1 : Int32), q3.2)
    else
      it6 (f_X10_fits_62_L46 a1 a2) FU (0 : Int32) (-4 : Int32) (((1 : Int32) <<< (((2 : Int32) * (q3.2.1 62 2)) &&& 31)) - (1 : Int32)) (0 : Int32) (0 : Int32) q3.2
set_option maxRecDepth 100000 in
set_option maxHeartbeats 4000000 in
theorem r_X10_fits_62_J117 {p : Program} {l : Launch} {e : Env} {s : State} {m : MethodId} {args : Array Value} {below : List Frame} {meth : Method} {c : Code} {D : va_G} {cy : Nat → ClassId} {ad : Nat → Nat} (C : CX p s m args meth c cX10_fits 8 RX10 (some .int) D cy ad (AD ad)) {a2 : Int32} {a3 : Int32} {μ : Mem} {ρ : (Int32 × Mem)} (h : f_X10_fits_62_J117 a2 a3 μ = some ρ) : WA p l e (rmD 3) s m args below meth c 8 D cy ad (AD ad) 0 0 (ZZ below args s D cy ad (AD ad) 0 0 (some (.int ρ.1)) ρ.2) μ [(2, .int a2), (3, .int a3)] 117 [] := by
  unfold f_X10_fits_62_J117 at h
  refine wa_iload_n C dX10_fits_117 rfl ?_
  refine wa_if_ne (tgt := 125) C dX10_fits_118 (by decide) (fun c7 => ?_) (fun c7 => ?_)
  · replace h := (if_neg c7).symm.trans h
    refine wa_bipush (v := -4) C dX10_fits_125 (by decide) ?_
    obtain rfl := Option.some.inj h
    exact wa_iret C dX10_fits_127
  · replace h := (if_pos c7).symm.trans h
    refine wa_iload_n C dX10_fits_121 rfl ?_
    refine wa_goto (tgt := 127) C dX10_fits_122 (by decide) ?_
    obtain rfl := Option.some.inj h
    exact wa_iret C dX10_fits_127
set_option maxRecDepth 100000 in
set_option maxHeartbeats 4000000 in
theorem r_X10_fits_62_J103 {p : Program} {l : Launch} {e : Env} {s : State} {m : MethodId} {args : Array Value} {below : List Frame} {meth : Method} {c : Code} {D : va_G} {cy : Nat → ClassId} {ad : Nat → Nat} (C : CX p s m args meth c cX10_fits 8 RX10 (some .int) D cy ad (AD ad)) {a1 : Int32} {a2 : Int32} {a3 : Int32} {a4 : Int32} {a5 : Int32} {a6 : Int32} {a7 : Int32} {μ : Mem} {ρ : (Int32 × Mem)} (k46 : Int32 → Int32 → Int32 → Int32 → Int32 → Mem → Option (Int32 × Mem)) (hk46 : ∀ (a3 : Int32) (a4 : Int32) (a5 : Int32) (a6 : Int32) (a7 : Int32) (μ : Mem), k46 a3 a4 a5 a6 a7 μ = some ρ → WA p l e (rmD 3) s m args below meth c 8 D cy ad (AD ad) 0 0 (ZZ below args s D cy ad (AD ad) 0 0 (some (.int ρ.1)) ρ.2) μ [(0, .ref 62), (1, .int a1), (2, .int a2), (3, .int a3), (4, .int a4), (5, .int a5), (6, .int a6), (7, .int a7)] 46 []) (h : f_X10_fits_62_J103 k46 a1 a2 a3 a4 a5 a6 a7 μ = some ρ) : WA p l e (rmD 3) s m args below meth c 8 D cy ad (AD ad) 0 0 (ZZ below args s D cy ad (AD ad) 0 0 (some (.int ρ.1)) ρ.2) μ [(0, .ref 62), (1, .int a1), (2, .int a2), (3, .int a3), (4, .int a4), (5, .int a5), (6, .int a6), (7, .int a7)] 103 [] := by
  unfold f_X10_fits_62_J103 at h
  refine wa_iinc (v := (a7 + 1)) C dX10_fits_103 rfl rfl (by decide) ?_
  refine wa_goto (tgt := 46) C dX10_fits_106 (by decide) ?_
  exact WA.sub (lsub_c rfl (lsub_c rfl (lsub_c rfl (lsub_c rfl (lsub_c rfl (lsub_c rfl (lsub_c rfl (lsub_c rfl lsub_n)))))))) (hk46 _ _ _ _ _ _ h)
set_option maxRecDepth 100000 in
set_option maxHeartbeats 4000000 in
theorem r_X10_fits_62_J76 {p : Program} {l : Launch} {e : Env} {s : State} {m : MethodId} {args : Array Value} {below : List Frame} {meth : Method} {c : Code} {D : va_G} {cy : Nat → ClassId} {ad : Nat → Nat} (C : CX p s m args meth c cX10_fits 8 RX10 (some .int) D cy ad (AD ad)) {a1 : Int32} {a2 : Int32} {a3 : Int32} {a5 : Int32} {a6 : Int32} {a7 : Int32} {t0 : Int32} {μ : Mem} {ρ : (Int32 × Mem)} (k46 : Int32 → Int32 → Int32 → Int32 → Int32 → Mem → Option (Int32 × Mem)) (hk46 : ∀ (a3 : Int32) (a4 : Int32) (a5 : Int32) (a6 : Int32) (a7 : Int32) (μ : Mem), k46 a3 a4 a5 a6 a7 μ = some ρ → WA p l e (rmD 3) s m args below meth c 8 D cy ad (AD ad) 0 0 (ZZ below args s D cy ad (AD ad) 0 0 (some (.int ρ.1)) ρ.2) μ [(0, .ref 62), (1, .int a1), (2, .int a2), (3, .int a3), (4, .int a4), (5, .int a5), (6, .int a6), (7, .int a7)] 46 []) (h : f_X10_fits_62_J76 k46 a1 a2 a3 a5 a6 a7 t0 μ = some ρ) : WA p l e (rmD 3) s m args below meth c 8 D cy ad (AD ad) 0 0 (ZZ below args s D cy ad (AD ad) 0 0 (some (.int ρ.1)) ρ.2) μ [(0, .ref 62), (1, .int a1), (2, .int a2), (3, .int a3), (5, .int a5), (6, .int a6), (7, .int a7)] 76 [.int t0] := by
  unfold f_X10_fits_62_J76 at h
  refine wa_istore C dX10_fits_76 (by decide) ?_
  refine wa_iload C dX10_fits_78 rfl ?_
  refine wa_aload_n C dX10_fits_80 rfl ?_
  refine wa_iload C dX10_fits_81 rfl ?_
  obtain ⟨q14, hq14, h⟩ := bd h
  refine wa_callV C (r_X10_shutBy_62 hq14) mk_X10_shutBy mv_X10_shutBy qw_647 rfl (by decide) rfl rfl ⟨Nat.le_of_ble_eq_true rfl, Nat.le_of_ble_eq_true rfl⟩ ⟨Nat.zero_le _, Nat.zero_le _⟩ (Nat.le_of_ble_eq_true rfl) dX10_fits_83 rfl ?_
  refine wa_iand C dX10_fits_86 ?_
  refine wa_istore C dX10_fits_87 (by decide) ?_
  refine wa_iload C dX10_fits_89 rfl ?_
  refine wa_aload_n C dX10_fits_91 rfl ?_
  refine wa_iload C dX10_fits_92 rfl ?_
  obtain ⟨q15, hq15, h⟩ := bd h
  refine wa_callV C (r_X10_shutBy_62 hq15) mk_X10_shutBy mv_X10_shutBy qw_647 rfl (by decide) rfl rfl ⟨Nat.le_of_ble_eq_true rfl, Nat.le_of_ble_eq_true rfl⟩ ⟨Nat.zero_le _, Nat.zero_le _⟩ (Nat.le_of_ble_eq_true rfl) dX10_fits_94 rfl ?_
  refine wa_ior C dX10_fits_97 ?_
  refine wa_istore C dX10_fits_98 (by decide) ?_
  refine wa_iinc (v := (a3 + 1)) C dX10_fits_100 rfl rfl (by decide) ?_
  exact WA.sub (lsub_c rfl (lsub_c rfl (lsub_c rfl (lsub_c rfl (lsub_c rfl (lsub_c rfl (lsub_c rfl (lsub_c rfl lsub_n)))))))) (r_X10_fits_62_J103 C _ hk46 h)
set_option maxRecDepth 100000 in
set_option maxHeartbeats 4000000 in
theorem r_X10_fits_62_L46 {p : Program} {l : Launch} {e : Env} {s : State} {m : MethodId} {args : Array Value} {below : List Frame} {meth : Method} {c : Code} {D : va_G} {cy : Nat → ClassId} {ad : Nat → Nat} (C : CX p s m args meth c cX10_fits 8 RX10 (some .int) D cy ad (AD ad)) (a1 : Int32) (a2 : Int32) {ρ : (Int32 × Mem)} : ∀ (n : Nat) (a3 : Int32) (a4 : Int32) (a5 : Int32) (a6 : Int32) (a7 : Int32) (μ : Mem), it6 (f_X10_fits_62_L46 a1 a2) n a3 a4 a5 a6 a7 μ = some ρ → WA p l e (rmD 3) s m args below meth c 8 D cy ad (AD ad) 0 0 (ZZ below args s D cy ad (AD ad) 0 0 (some (.int ρ.1)) ρ.2) μ [(0, .ref 62), (1, .int a1), (2, .int a2), (3, .int a3), (4, .int a4), (5, .int a5), (6, .int a6), (7, .int a7)] 46 [] := by
  intro n
  induction n with
  | zero =>
    intro a3 a4 a5 a6 a7 μ h
    exact absurd h (fun h => by cases h)
  | succ n ih =>
    intro a3 a4 a5 a6 a7 μ h
    replace h : f_X10_fits_62_L46 a1 a2 (it6 (f_X10_fits_62_L46 a1 a2) n) a3 a4 a5 a6 a7 μ = some ρ := h
    unfold f_X10_fits_62_L46 at h
    refine wa_iload C dX10_fits_46 rfl ?_
    refine wa_aload_n C dX10_fits_48 rfl ?_
    refine wa_geti (x := (μ.1 62 4)) C fl_RX10_104 rfl rfl (by decide) rfl dX10_fits_49 ?_
    refine wa_icmp_ge (tgt := 109) C dX10_fits_52 (by decide) (fun c5 => ?_) (fun c5 => ?_)
    · replace h := (if_pos c5).symm.trans h
      refine wa_iload_n C dX10_fits_109 rfl ?_
      refine wa_if_eq (tgt := 117) C dX10_fits_110 (by decide) (fun c6 => ?_) (fun c6 => ?_)
      · replace h := (if_pos c6).symm.trans h
        exact WA.sub (lsub_c rfl (lsub_c rfl lsub_n)) (r_X10_fits_62_J117 C h)
      · replace h := (if_neg c6).symm.trans h
        refine wa_iload_n C dX10_fits_113 rfl ?_
        refine wa_if_ne (tgt := 128) C dX10_fits_114 (by decide) (fun c8 => ?_) (fun c8 => ?_)
        · replace h := (if_neg c8).symm.trans h
          refine wa_iload_n C dX10_fits_128 rfl ?_
          refine wa_iconst (v := 1) C dX10_fits_129 (by decide) ?_
          refine wa_icmp_ne (tgt := 138) C dX10_fits_130 (by decide) (fun c9 => ?_) (fun c9 => ?_)
          · replace h := (if_neg c9).symm.trans h
            refine wa_iload_n C dX10_fits_138 rfl ?_
            refine wa_iconst (v := 2) C dX10_fits_139 (by decide) ?_
            refine wa_icmp_ne (tgt := 148) C dX10_fits_140 (by decide) (fun c10 => ?_) (fun c10 => ?_)
            · replace h := (if_neg c10).symm.trans h
              refine wa_iconst (v := 1) C dX10_fits_148 (by decide) ?_
              refine wa_iconst (v := 2) C dX10_fits_149 (by decide) ?_
              refine wa_aload_n C dX10_fits_150 rfl ?_
              refine wa_geti (x := (μ.1 62 2)) C fl_RX10_94 rfl rfl (by decide) rfl dX10_fits_151 ?_
              refine wa_imul C dX10_fits_154 ?_
              refine wa_ishl C dX10_fits_155 ?_
              refine wa_iconst (v := 1) C dX10_fits_156 (by decide) ?_
              refine wa_isub C dX10_fits_157 ?_
              refine wa_iload C dX10_fits_158 rfl ?_
              refine wa_iconst (v := -1) C dX10_fits_160 (by decide) ?_
              refine wa_ixor C dX10_fits_161 ?_
              refine wa_iand C dX10_fits_162 ?_
              obtain rfl := Option.some.inj h
              exact wa_iret C dX10_fits_163
            · replace h := (if_pos c10).symm.trans h
              refine wa_iload C dX10_fits_143 rfl ?_
              refine wa_goto (tgt := 163) C dX10_fits_145 (by decide) ?_
              obtain rfl := Option.some.inj h
              exact wa_iret C dX10_fits_163
          · replace h := (if_pos c9).symm.trans h
            refine wa_iload C dX10_fits_133 rfl ?_
            refine wa_goto (tgt := 163) C dX10_fits_135 (by decide) ?_
            obtain rfl := Option.some.inj h
            exact wa_iret C dX10_fits_163
        · replace h := (if_pos c8).symm.trans h
          exact WA.sub (lsub_c rfl (lsub_c rfl lsub_n)) (r_X10_fits_62_J117 C h)
    · replace h := (if_neg c5).symm.trans h
      refine wa_aload_n C dX10_fits_55 rfl ?_
      refine wa_iload_n C dX10_fits_56 rfl ?_
      refine wa_iload C dX10_fits_57 rfl ?_
      obtain ⟨q11, hq11, h⟩ := bd h
      refine wa_callV C (r_X10_isFit_62 hq11) mk_X10_isFit mv_X10_isFit qw_1036 rfl (by decide) rfl rfl ⟨Nat.le_of_ble_eq_true rfl, Nat.le_of_ble_eq_true rfl⟩ ⟨Nat.zero_le _, Nat.zero_le _⟩ (Nat.le_of_ble_eq_true rfl) dX10_fits_59 rfl ?_
      refine wa_if_eq (tgt := 103) C dX10_fits_62 (by decide) (fun c12 => ?_) (fun c12 => ?_)
      · replace h := (if_pos c12).symm.trans h
        exact WA.sub (lsub_c rfl (lsub_c rfl (lsub_c rfl (lsub_c rfl (lsub_c rfl (lsub_c rfl (lsub_c rfl (lsub_c rfl lsub_n)))))))) (r_X10_fits_62_J103 C _ (fun _ _ _ _ _ _ h => ih _ _ _ _ _ _ h) h)
      · replace h := (if_neg c12).symm.trans h
        refine wa_iload_n C dX10_fits_65 rfl ?_
        refine wa_if_ne (tgt := 74) C dX10_fits_66 (by decide) (fun c13 => ?_) (fun c13 => ?_)
        · replace h := (if_neg c13).symm.trans h
          refine wa_iload C dX10_fits_74 rfl ?_
          exact WA.sub (lsub_c rfl (lsub_c rfl (lsub_c rfl (lsub_c rfl (lsub_c rfl (lsub_c rfl (lsub_c rfl lsub_n))))))) (r_X10_fits_62_J76 C _ (fun _ _ _ _ _ _ h => ih _ _ _ _ _ _ h) h)
        · replace h := (if_pos c13).symm.trans h
          refine wa_iload C dX10_fits_69 rfl ?_
          refine wa_goto (tgt := 76) C dX10_fits_71 (by decide) ?_
          exact WA.sub (lsub_c rfl (lsub_c rfl (lsub_c rfl (lsub_c rfl (lsub_c rfl (lsub_c rfl (lsub_c rfl lsub_n))))))) (r_X10_fits_62_J76 C _ (fun _ _ _ _ _ _ h => ih _ _ _ _ _ _ h) h)
set_option maxRecDepth 100000 in
set_option maxHeartbeats 4000000 in
theorem r_X10_fits_62 {a1 : Int32} {a2 : Int32} {μ : Mem} {ρ : (Int32 × Mem)} (h : f_X10_fits_62 a1 a2 μ = some ρ) : HT 3 yX10_fits cX10_fits 8 (some .int) [.ref 62, .int a1, .int a2] μ (some (.int ρ.1)) ρ.2 := by
  refine HT.of (by decide +kernel) (Nat.le_of_ble_eq_true rfl) (fun C => ?_)
  unfold f_X10_fits_62 at h
  refine wa_aload_n C dX10_fits_0 rfl ?_
  refine wa_iload_n C dX10_fits_1 rfl ?_
  obtain ⟨q1, hq1, h⟩ := bd h
  refine wa_callV C (r_X10_isQuarter_62 hq1) mk_X10_isQuarter mv_X10_isQuarter qw_558 rfl (by decide) rfl rfl ⟨Nat.le_of_ble_eq_true rfl, Nat.le_of_ble_eq_true rfl⟩ ⟨Nat.zero_le _, Nat.zero_le _⟩ (Nat.le_of_ble_eq_true rfl) dX10_fits_2 rfl ?_
  refine wa_if_eq (tgt := 20) C dX10_fits_5 (by decide) (fun c2 => ?_) (fun c2 => ?_)
  · replace h := (if_pos c2).symm.trans h
    refine wa_iconst (v := -1) C dX10_fits_20 (by decide) ?_
    obtain rfl := Option.some.inj h
    exact wa_iret C dX10_fits_21
  · replace h := (if_neg c2).symm.trans h
    refine wa_iload_n C dX10_fits_8 rfl ?_
    refine wa_i2l (v := (a2.toInt64)) C dX10_fits_9 rfl ?_
    refine wa_lconst (v := 0) C dX10_fits_10 (by decide) ?_
    refine wa_ldc2 (v := 3) C qw_557 dX10_fits_11 ?_
    obtain ⟨q3, hq3, h⟩ := bd h
    refine wa_callS C (r_X10_in hq3) mk_X10_in ms_X10_in qw_198 rfl ⟨Nat.le_of_ble_eq_true rfl, Nat.le_of_ble_eq_true rfl⟩ ⟨Nat.zero_le _, Nat.zero_le _⟩ (Nat.le_of_ble_eq_true rfl) dX10_fits_14 rfl ?_
    refine wa_if_ne (tgt := 22) C dX10_fits_17 (by decide) (fun c4 => ?_) (fun c4 => ?_)
    · replace h := (if_neg c4).symm.trans h
      refine wa_iconst (v := 0) C dX10_fits_22 (by decide) ?_
      refine wa_istore_n C dX10_fits_23 (by decide) ?_
      refine wa_bipush (v := -4) C dX10_fits_24 (by decide) ?_
      refine wa_istore C dX10_fits_26 (by decide) ?_
      refine wa_iconst (v := 1) C dX10_fits_28 (by decide) ?_
      refine wa_iconst (v := 2) C dX10_fits_29 (by decide) ?_
      refine wa_aload_n C dX10_fits_30 rfl ?_
      refine wa_geti (x := (q3.2.1 62 2)) C fl_RX10_94 rfl rfl (by decide) rfl dX10_fits_31 ?_
      refine wa_imul C dX10_fits_34 ?_
      refine wa_ishl C dX10_fits_35 ?_
      refine wa_iconst (v := 1) C dX10_fits_36 (by decide) ?_
      refine wa_isub C dX10_fits_37 ?_
      refine wa_istore C dX10_fits_38 (by decide) ?_
      refine wa_iconst (v := 0) C dX10_fits_40 (by decide) ?_
      refine wa_istore C dX10_fits_41 (by decide) ?_
      refine wa_iconst (v := 0) C dX10_fits_43 (by decide) ?_
      refine wa_istore C dX10_fits_44 (by decide) ?_
      exact WA.sub (lsub_c rfl (lsub_c rfl (lsub_c rfl (lsub_c rfl (lsub_c rfl (lsub_c rfl (lsub_c rfl (lsub_c rfl lsub_n)))))))) (r_X10_fits_62_L46 C _ _ _ _ _ _ _ _ _ h)
    · replace h := (if_pos c4).symm.trans h
      refine wa_iconst (v := -1) C dX10_fits_20 (by decide) ?_
      obtain rfl := Option.some.inj h
      exact wa_iret C dX10_fits_21
def f_X9_isImage (a0 : Int32) (μ : Mem) : Option (Int32 × Mem) :=
  if a0 < 0 then
    some ((0 : Int32), μ)
  else
    if (2 : Int32) ≤ a0 then
      some ((0 : Int32), μ)
    else
      some ((1 : Int32), μ)
set_option maxRecDepth 100000 in
set_option maxHeartbeats 4000000 in
theorem r_X9_isImage {a0 : Int32} {μ : Mem} {ρ : (Int32 × Mem)} (h : f_X9_isImage a0 μ = some ρ) : HT 0 yX9_isImage cX9_isImage 1 (some .boolean) [.int a0] μ (some (.int ρ.1)) ρ.2 := by
  refine HT.of (by decide +kernel) (Nat.le_of_ble_eq_true rfl) (fun C => ?_)
  unfold f_X9_isImage at h
  refine wa_iload_n C dX9_isImage_0 rfl ?_
  refine wa_if_lt (tgt := 13) C dX9_isImage_1 (by decide) (fun c1 => ?_) (fun c1 => ?_)
  · replace h := (if_pos c1).symm.trans h
    refine wa_iconst (v := 0) C dX9_isImage_13 (by decide) ?_
    obtain rfl := Option.some.inj h
    exact wa_zret C rfl dX9_isImage_14
  · replace h := (if_neg c1).symm.trans h
    refine wa_iload_n C dX9_isImage_4 rfl ?_
    refine wa_iconst (v := 2) C dX9_isImage_5 (by decide) ?_
    refine wa_icmp_ge (tgt := 13) C dX9_isImage_6 (by decide) (fun c2 => ?_) (fun c2 => ?_)
    · replace h := (if_pos c2).symm.trans h
      refine wa_iconst (v := 0) C dX9_isImage_13 (by decide) ?_
      obtain rfl := Option.some.inj h
      exact wa_zret C rfl dX9_isImage_14
    · replace h := (if_neg c2).symm.trans h
      refine wa_iconst (v := 1) C dX9_isImage_9 (by decide) ?_
      refine wa_goto (tgt := 14) C dX9_isImage_10 (by decide) ?_
      obtain rfl := Option.some.inj h
      exact wa_zret C rfl dX9_isImage_14
def f_X4_become_12_4 (μ : Mem) : Option Mem :=
  some (pI (cpI (cpI (cpI (cpI (cpI (cpI μ 5 13 3) 6 14 6) 7 15 4) 8 16 6) 9 17 6) 10 18 8) 12 6 (μ.1 4 6))
set_option maxRecDepth 100000 in
set_option maxHeartbeats 4000000 in
theorem r_X4_become_12_4 {μ : Mem} {ρ : Mem} (h : f_X4_become_12_4 μ = some ρ) : HT 0 yX4_become cX4_become 2 none [.ref 12, .ref 4] μ none ρ := by
  refine HT.of (by decide +kernel) (Nat.le_of_ble_eq_true rfl) (fun C => ?_)
  unfold f_X4_become_12_4 at h
  refine wa_aload_n C dX4_become_0 rfl ?_
  refine wa_getr C fl_RX4_9 rfl rfl (by decide) dX4_become_1 ?_
  refine wa_iconst (v := 0) C dX4_become_4 (by decide) ?_
  refine wa_aload_n C dX4_become_5 rfl ?_
  refine wa_getr C fl_RX4_9 rfl rfl (by decide) dX4_become_6 ?_
  refine wa_iconst (v := 0) C dX4_become_9 (by decide) ?_
  refine wa_iconst (v := 3) C dX4_become_10 (by decide) ?_
  refine wa_copy (k := 3) C qw_383 qw_376 qw_377 qw_378 rfl rfl (by decide) (by decide) rfl (by decide) (by decide) (by decide) ⟨Nat.le_of_ble_eq_true rfl, Nat.le_of_ble_eq_true rfl⟩ dX4_become_11 ?_
  refine wa_aload_n C dX4_become_14 rfl ?_
  refine wa_getr C fl_RX4_15 rfl rfl (by decide) dX4_become_15 ?_
  refine wa_iconst (v := 0) C dX4_become_18 (by decide) ?_
  refine wa_aload_n C dX4_become_19 rfl ?_
  refine wa_getr C fl_RX4_15 rfl rfl (by decide) dX4_become_20 ?_
  refine wa_iconst (v := 0) C dX4_become_23 (by decide) ?_
  refine wa_bipush (v := 6) C dX4_become_24 (by decide) ?_
  refine wa_copy (k := 6) C qw_383 qw_376 qw_377 qw_378 rfl rfl (by decide) (by decide) rfl (by decide) (by decide) (by decide) ⟨Nat.le_of_ble_eq_true rfl, Nat.le_of_ble_eq_true rfl⟩ dX4_become_26 ?_
  refine wa_aload_n C dX4_become_29 rfl ?_
  refine wa_getr C fl_RX4_18 rfl rfl (by decide) dX4_become_30 ?_
  refine wa_iconst (v := 0) C dX4_become_33 (by decide) ?_
  refine wa_aload_n C dX4_become_34 rfl ?_
  refine wa_getr C fl_RX4_18 rfl rfl (by decide) dX4_become_35 ?_
  refine wa_iconst (v := 0) C dX4_become_38 (by decide) ?_
  refine wa_iconst (v := 4) C dX4_become_39 (by decide) ?_
  refine wa_copy (k := 4) C qw_383 qw_376 qw_377 qw_378 rfl rfl (by decide) (by decide) rfl (by decide) (by decide) (by decide) ⟨Nat.le_of_ble_eq_true rfl, Nat.le_of_ble_eq_true rfl⟩ dX4_become_40 ?_
  refine wa_aload_n C dX4_become_43 rfl ?_
  refine wa_getr C fl_RX4_21 rfl rfl (by decide) dX4_become_44 ?_
  refine wa_iconst (v := 0) C dX4_become_47 (by decide) ?_
  refine wa_aload_n C dX4_become_48 rfl ?_
  refine wa_getr C fl_RX4_21 rfl rfl (by decide) dX4_become_49 ?_
  refine wa_iconst (v := 0) C dX4_become_52 (by decide) ?_
  refine wa_bipush (v := 6) C dX4_become_53 (by decide) ?_
  refine wa_copy (k := 6) C qw_383 qw_376 qw_377 qw_378 rfl rfl (by decide) (by decide) rfl (by decide) (by decide) (by decide) ⟨Nat.le_of_ble_eq_true rfl, Nat.le_of_ble_eq_true rfl⟩ dX4_become_55 ?_
  refine wa_aload_n C dX4_become_58 rfl ?_
  refine wa_getr C fl_RX4_24 rfl rfl (by decide) dX4_become_59 ?_
  refine wa_iconst (v := 0) C dX4_become_62 (by decide) ?_
  refine wa_aload_n C dX4_become_63 rfl ?_
  refine wa_getr C fl_RX4_24 rfl rfl (by decide) dX4_become_64 ?_
  refine wa_iconst (v := 0) C dX4_become_67 (by decide) ?_
  refine wa_bipush (v := 6) C dX4_become_68 (by decide) ?_
  refine wa_copy (k := 6) C qw_383 qw_376 qw_377 qw_378 rfl rfl (by decide) (by decide) rfl (by decide) (by decide) (by decide) ⟨Nat.le_of_ble_eq_true rfl, Nat.le_of_ble_eq_true rfl⟩ dX4_become_70 ?_
  refine wa_aload_n C dX4_become_73 rfl ?_
  refine wa_getr C fl_RX4_27 rfl rfl (by decide) dX4_become_74 ?_
  refine wa_iconst (v := 0) C dX4_become_77 (by decide) ?_
  refine wa_aload_n C dX4_become_78 rfl ?_
  refine wa_getr C fl_RX4_27 rfl rfl (by decide) dX4_become_79 ?_
  refine wa_iconst (v := 0) C dX4_become_82 (by decide) ?_
  refine wa_bipush (v := 8) C dX4_become_83 (by decide) ?_
  refine wa_copy (k := 8) C qw_383 qw_376 qw_377 qw_378 rfl rfl (by decide) (by decide) rfl (by decide) (by decide) (by decide) ⟨Nat.le_of_ble_eq_true rfl, Nat.le_of_ble_eq_true rfl⟩ dX4_become_85 ?_
  refine wa_aload_n C dX4_become_88 rfl ?_
  refine wa_aload_n C dX4_become_89 rfl ?_
  refine wa_geti (x := (μ.1 4 6)) C fl_RX4_30 rfl rfl (by decide) rfl dX4_become_90 ?_
  refine wa_puti C fl_RX4_30 fp_4_6 rfl rfl (by decide) rfl rfl dX4_become_93 ?_
  obtain rfl := Option.some.inj h
  exact wa_vret C dX4_become_96
def f_X4_become_19_4 (μ : Mem) : Option Mem :=
  some (pI (cpI (cpI (cpI (cpI (cpI (cpI μ 5 20 3) 6 21 6) 7 22 4) 8 23 6) 9 24 6) 10 25 8) 19 6 (μ.1 4 6))
set_option maxRecDepth 100000 in
set_option maxHeartbeats 4000000 in
theorem r_X4_become_19_4 {μ : Mem} {ρ : Mem} (h : f_X4_become_19_4 μ = some ρ) : HT 0 yX4_become cX4_become 2 none [.ref 19, .ref 4] μ none ρ := by
  refine HT.of (by decide +kernel) (Nat.le_of_ble_eq_true rfl) (fun C => ?_)
  unfold f_X4_become_19_4 at h
  refine wa_aload_n C dX4_become_0 rfl ?_
  refine wa_getr C fl_RX4_9 rfl rfl (by decide) dX4_become_1 ?_
  refine wa_iconst (v := 0) C dX4_become_4 (by decide) ?_
  refine wa_aload_n C dX4_become_5 rfl ?_
  refine wa_getr C fl_RX4_9 rfl rfl (by decide) dX4_become_6 ?_
  refine wa_iconst (v := 0) C dX4_become_9 (by decide) ?_
  refine wa_iconst (v := 3) C dX4_become_10 (by decide) ?_
  refine wa_copy (k := 3) C qw_383 qw_376 qw_377 qw_378 rfl rfl (by decide) (by decide) rfl (by decide) (by decide) (by decide) ⟨Nat.le_of_ble_eq_true rfl, Nat.le_of_ble_eq_true rfl⟩ dX4_become_11 ?_
  refine wa_aload_n C dX4_become_14 rfl ?_
  refine wa_getr C fl_RX4_15 rfl rfl (by decide) dX4_become_15 ?_
  refine wa_iconst (v := 0) C dX4_become_18 (by decide) ?_
  refine wa_aload_n C dX4_become_19 rfl ?_
  refine wa_getr C fl_RX4_15 rfl rfl (by decide) dX4_become_20 ?_
  refine wa_iconst (v := 0) C dX4_become_23 (by decide) ?_
  refine wa_bipush (v := 6) C dX4_become_24 (by decide) ?_
  refine wa_copy (k := 6) C qw_383 qw_376 qw_377 qw_378 rfl rfl (by decide) (by decide) rfl (by decide) (by decide) (by decide) ⟨Nat.le_of_ble_eq_true rfl, Nat.le_of_ble_eq_true rfl⟩ dX4_become_26 ?_
  refine wa_aload_n C dX4_become_29 rfl ?_
  refine wa_getr C fl_RX4_18 rfl rfl (by decide) dX4_become_30 ?_
  refine wa_iconst (v := 0) C dX4_become_33 (by decide) ?_
  refine wa_aload_n C dX4_become_34 rfl ?_
  refine wa_getr C fl_RX4_18 rfl rfl (by decide) dX4_become_35 ?_
  refine wa_iconst (v := 0) C dX4_become_38 (by decide) ?_
  refine wa_iconst (v := 4) C dX4_become_39 (by decide) ?_
  refine wa_copy (k := 4) C qw_383 qw_376 qw_377 qw_378 rfl rfl (by decide) (by decide) rfl (by decide) (by decide) (by decide) ⟨Nat.le_of_ble_eq_true rfl, Nat.le_of_ble_eq_true rfl⟩ dX4_become_40 ?_
  refine wa_aload_n C dX4_become_43 rfl ?_
  refine wa_getr C fl_RX4_21 rfl rfl (by decide) dX4_become_44 ?_
  refine wa_iconst (v := 0) C dX4_become_47 (by decide) ?_
  refine wa_aload_n C dX4_become_48 rfl ?_
  refine wa_getr C fl_RX4_21 rfl rfl (by decide) dX4_become_49 ?_
  refine wa_iconst (v := 0) C dX4_become_52 (by decide) ?_
  refine wa_bipush (v := 6) C dX4_become_53 (by decide) ?_
  refine wa_copy (k := 6) C qw_383 qw_376 qw_377 qw_378 rfl rfl (by decide) (by decide) rfl (by decide) (by decide) (by decide) ⟨Nat.le_of_ble_eq_true rfl, Nat.le_of_ble_eq_true rfl⟩ dX4_become_55 ?_
  refine wa_aload_n C dX4_become_58 rfl ?_
  refine wa_getr C fl_RX4_24 rfl rfl (by decide) dX4_become_59 ?_
  refine wa_iconst (v := 0) C dX4_become_62 (by decide) ?_
  refine wa_aload_n C dX4_become_63 rfl ?_
  refine wa_getr C fl_RX4_24 rfl rfl (by decide) dX4_become_64 ?_
  refine wa_iconst (v := 0) C dX4_become_67 (by decide) ?_
  refine wa_bipush (v := 6) C dX4_become_68 (by decide) ?_
  refine wa_copy (k := 6) C qw_383 qw_376 qw_377 qw_378 rfl rfl (by decide) (by decide) rfl (by decide) (by decide) (by decide) ⟨Nat.le_of_ble_eq_true rfl, Nat.le_of_ble_eq_true rfl⟩ dX4_become_70 ?_
  refine wa_aload_n C dX4_become_73 rfl ?_
  refine wa_getr C fl_RX4_27 rfl rfl (by decide) dX4_become_74 ?_
  refine wa_iconst (v := 0) C dX4_become_77 (by decide) ?_
  refine wa_aload_n C dX4_become_78 rfl ?_
  refine wa_getr C fl_RX4_27 rfl rfl (by decide) dX4_become_79 ?_
  refine wa_iconst (v := 0) C dX4_become_82 (by decide) ?_
  refine wa_bipush (v := 8) C dX4_become_83 (by decide) ?_
  refine wa_copy (k := 8) C qw_383 qw_376 qw_377 qw_378 rfl rfl (by decide) (by decide) rfl (by decide) (by decide) (by decide) ⟨Nat.le_of_ble_eq_true rfl, Nat.le_of_ble_eq_true rfl⟩ dX4_become_85 ?_
  refine wa_aload_n C dX4_become_88 rfl ?_
  refine wa_aload_n C dX4_become_89 rfl ?_
  refine wa_geti (x := (μ.1 4 6)) C fl_RX4_30 rfl rfl (by decide) rfl dX4_become_90 ?_
  refine wa_puti C fl_RX4_30 fp_4_6 rfl rfl (by decide) rfl rfl dX4_become_93 ?_
  obtain rfl := Option.some.inj h
  exact wa_vret C dX4_become_96
def f_X9_keep_0 (a1 : Int32) (μ : Mem) : Option (Int32 × Mem) :=
  (f_X9_isImage a1 μ).bind fun q1 =>
  if q1.1 = 0 then
    some ((-1 : Int32), q1.2)
  else
    if a1 = 0 then
      (f_X4_become_12_4 q1.2).bind fun q4 =>
      some ((((q1.2.1 0 3) >>> (a1 &&& 31)) &&& (1 : Int32)), (pI q4 0 3 ((q4.1 0 3) ||| ((1 : Int32) <<< (a1 &&& 31)))))
    else
    if a1 = 1 then
      (f_X4_become_19_4 q1.2).bind fun q6 =>
      some ((((q1.2.1 0 3) >>> (a1 &&& 31)) &&& (1 : Int32)), (pI q6 0 3 ((q6.1 0 3) ||| ((1 : Int32) <<< (a1 &&& 31)))))
    else
    none
set_option maxRecDepth 100000 in
set_option maxHeartbeats 4000000 in
theorem r_X9_keep_0 {a1 : Int32} {μ : Mem} {ρ : (Int32 × Mem)} (h : f_X9_keep_0 a1 μ = some ρ) : HT 1 yX9_keep cX9_keep 3 (some .int) [.ref 0, .int a1] μ (some (.int ρ.1)) ρ.2 := by
  refine HT.of (by decide +kernel) (Nat.le_of_ble_eq_true rfl) (fun C => ?_)
  unfold f_X9_keep_0 at h
  refine wa_iload_n C dX9_keep_0 rfl ?_
  obtain ⟨q1, hq1, h⟩ := bd h
  refine wa_callS C (r_X9_isImage hq1) mk_X9_isImage ms_X9_isImage qw_1044 rfl ⟨Nat.le_of_ble_eq_true rfl, Nat.le_of_ble_eq_true rfl⟩ ⟨Nat.zero_le _, Nat.zero_le _⟩ (Nat.le_of_ble_eq_true rfl) dX9_keep_1 rfl ?_
  refine wa_if_ne (tgt := 9) C dX9_keep_4 (by decide) (fun c2 => ?_) (fun c2 => ?_)
  · replace h := (if_neg c2).symm.trans h
    refine wa_aload_n C dX9_keep_9 rfl ?_
    refine wa_geti (x := (q1.2.1 0 3)) C fl_RX9_104 rfl rfl (by decide) rfl dX9_keep_10 ?_
    refine wa_iload_n C dX9_keep_13 rfl ?_
    refine wa_ishr C dX9_keep_14 ?_
    refine wa_iconst (v := 1) C dX9_keep_15 (by decide) ?_
    refine wa_iand C dX9_keep_16 ?_
    refine wa_istore_n C dX9_keep_17 (by decide) ?_
    refine wa_aload_n C dX9_keep_18 rfl ?_
    refine wa_getr C fl_RX9_23 rfl rfl (by decide) dX9_keep_19 ?_
    refine wa_iload_n C dX9_keep_22 rfl ?_
    by_cases c3 : a1 = 0
    · replace h := (if_pos c3).symm.trans h
      refine wa_aald4 (j := 0) (q := 12) C (by rw [c3]; rfl) (by rw [c3]; rfl) rfl dX9_keep_23 ?_
      refine wa_aload_n C dX9_keep_24 rfl ?_
      refine wa_getr C fl_RX9_19 rfl rfl (by decide) dX9_keep_25 ?_
      obtain ⟨q4, hq4, h⟩ := bd h
      refine wa_callV C (r_X4_become_12_4 hq4) mk_X4_become mv_X4_become qw_379 rfl (by decide) rfl rfl ⟨Nat.le_of_ble_eq_true rfl, Nat.le_of_ble_eq_true rfl⟩ ⟨Nat.zero_le _, Nat.zero_le _⟩ (Nat.le_of_ble_eq_true rfl) dX9_keep_28 rfl ?_
      refine wa_aload_n C dX9_keep_31 rfl ?_
      refine wa_dup C dX9_keep_32 rfl ?_
      refine wa_geti (x := (q4.1 0 3)) C fl_RX9_104 rfl rfl (by decide) rfl dX9_keep_33 ?_
      refine wa_iconst (v := 1) C dX9_keep_36 (by decide) ?_
      refine wa_iload_n C dX9_keep_37 rfl ?_
      refine wa_ishl C dX9_keep_38 ?_
      refine wa_ior C dX9_keep_39 ?_
      refine wa_puti C fl_RX9_104 fp_9_3 rfl rfl (by decide) rfl rfl dX9_keep_40 ?_
      refine wa_iload_n C dX9_keep_43 rfl ?_
      obtain rfl := Option.some.inj h
      exact wa_iret C dX9_keep_44
    replace h := (if_neg c3).symm.trans h
    by_cases c5 : a1 = 1
    · replace h := (if_pos c5).symm.trans h
      refine wa_aald4 (j := 1) (q := 19) C (by rw [c5]; rfl) (by rw [c5]; rfl) rfl dX9_keep_23 ?_
      refine wa_aload_n C dX9_keep_24 rfl ?_
      refine wa_getr C fl_RX9_19 rfl rfl (by decide) dX9_keep_25 ?_
      obtain ⟨q6, hq6, h⟩ := bd h
      refine wa_callV C (r_X4_become_19_4 hq6) mk_X4_become mv_X4_become qw_379 rfl (by decide) rfl rfl ⟨Nat.le_of_ble_eq_true rfl, Nat.le_of_ble_eq_true rfl⟩ ⟨Nat.zero_le _, Nat.zero_le _⟩ (Nat.le_of_ble_eq_true rfl) dX9_keep_28 rfl ?_
      refine wa_aload_n C dX9_keep_31 rfl ?_
      refine wa_dup C dX9_keep_32 rfl ?_
      refine wa_geti (x := (q6.1 0 3)) C fl_RX9_104 rfl rfl (by decide) rfl dX9_keep_33 ?_
      refine wa_iconst (v := 1) C dX9_keep_36 (by decide) ?_
      refine wa_iload_n C dX9_keep_37 rfl ?_
      refine wa_ishl C dX9_keep_38 ?_
      refine wa_ior C dX9_keep_39 ?_
      refine wa_puti C fl_RX9_104 fp_9_3 rfl rfl (by decide) rfl rfl dX9_keep_40 ?_
      refine wa_iload_n C dX9_keep_43 rfl ?_
      obtain rfl := Option.some.inj h
      exact wa_iret C dX9_keep_44
    replace h := (if_neg c5).symm.trans h
    cases h
  · replace h := (if_pos c2).symm.trans h
    refine wa_iconst (v := -1) C dX9_keep_7 (by decide) ?_
    obtain rfl := Option.some.inj h
    exact wa_iret C dX9_keep_8
def f_X10_copies_62_L2 (a1 : Int32) (a2 : Int32) (k2 : Int32 → Mem → Option Mem) (a3 : Int32) (μ : Mem) : Option Mem :=
    if (54 : Int32) ≤ a3 then
      some μ
    else
      if inb (a2 + a3) 162 = false then none else
      if inb (a1 + a3) 162 = false then none else
      k2 (a3 + 1) (pI μ 63 ((a1 + a3).toNatClampNeg) (μ.1 63 ((a2 + a3).toNatClampNeg)))
def f_X10_copies_62 (a1 : Int32) (a2 : Int32) (μ : Mem) : Option Mem :=
  it2 (f_X10_copies_62_L2 a1 a2) FU (0 : Int32) μ
set_option maxRecDepth 100000 in
set_option maxHeartbeats 4000000 in
theorem r_X10_copies_62_L2 {p : Program} {l : Launch} {e : Env} {s : State} {m : MethodId} {args : Array Value} {below : List Frame} {meth : Method} {c : Code} {D : va_G} {cy : Nat → ClassId} {ad : Nat → Nat} (C : CX p s m args meth c cX10_copies 4 RX10 none D cy ad (AD ad)) (a1 : Int32) (a2 : Int32) {ρ : Mem} : ∀ (n : Nat) (a3 : Int32) (μ : Mem), it2 (f_X10_copies_62_L2 a1 a2) n a3 μ = some ρ → WA p l e (rmD 0) s m args below meth c 4 D cy ad (AD ad) 0 0 (ZZ below args s D cy ad (AD ad) 0 0 none ρ) μ [(0, .ref 62), (1, .int a1), (2, .int a2), (3, .int a3)] 2 [] := by
  intro n
  induction n with
  | zero =>
    intro a3 μ h
    exact absurd h (fun h => by cases h)
  | succ n ih =>
    intro a3 μ h
    replace h : f_X10_copies_62_L2 a1 a2 (it2 (f_X10_copies_62_L2 a1 a2) n) a3 μ = some ρ := h
    unfold f_X10_copies_62_L2 at h
    refine wa_iload_n C dX10_copies_2 rfl ?_
    refine wa_bipush (v := 54) C dX10_copies_3 (by decide) ?_
    refine wa_icmp_ge (tgt := 30) C dX10_copies_5 (by decide) (fun c1 => ?_) (fun c1 => ?_)
    · replace h := (if_pos c1).symm.trans h
      obtain rfl := Option.some.inj h
      exact wa_vret C dX10_copies_30
    · replace h := (if_neg c1).symm.trans h
      refine wa_aload_n C dX10_copies_8 rfl ?_
      refine wa_getr C fl_RX10_7 rfl rfl (by decide) dX10_copies_9 ?_
      refine wa_iload_n C dX10_copies_12 rfl ?_
      refine wa_iload_n C dX10_copies_13 rfl ?_
      refine wa_iadd C dX10_copies_14 ?_
      refine wa_aload_n C dX10_copies_15 rfl ?_
      refine wa_getr C fl_RX10_7 rfl rfl (by decide) dX10_copies_16 ?_
      refine wa_iload_n C dX10_copies_19 rfl ?_
      refine wa_iload_n C dX10_copies_20 rfl ?_
      refine wa_iadd C dX10_copies_21 ?_
      obtain ⟨g2, h⟩ := gd h
      refine wa_iald (j := ((a2 + a3).toNatClampNeg)) (x := (μ.1 63 ((a2 + a3).toNatClampNeg))) C rfl (by decide) g2 rfl rfl dX10_copies_22 ?_
      obtain ⟨g3, h⟩ := gd h
      refine wa_iast (j := ((a1 + a3).toNatClampNeg)) C rfl (by decide) g3 rfl dX10_copies_23 ?_
      refine wa_iinc (v := (a3 + 1)) C dX10_copies_24 rfl rfl (by decide) ?_
      refine wa_goto (tgt := 2) C dX10_copies_27 (by decide) ?_
      exact WA.sub (lsub_c rfl (lsub_c rfl (lsub_c rfl (lsub_c rfl lsub_n)))) (ih _ _ h)
set_option maxRecDepth 100000 in
set_option maxHeartbeats 4000000 in
theorem r_X10_copies_62 {a1 : Int32} {a2 : Int32} {μ : Mem} {ρ : Mem} (h : f_X10_copies_62 a1 a2 μ = some ρ) : HT 0 yX10_copies cX10_copies 4 none [.ref 62, .int a1, .int a2] μ none ρ := by
  refine HT.of (by decide +kernel) (Nat.le_of_ble_eq_true rfl) (fun C => ?_)
  unfold f_X10_copies_62 at h
  refine wa_iconst (v := 0) C dX10_copies_0 (by decide) ?_
  refine wa_istore_n C dX10_copies_1 (by decide) ?_
  exact WA.sub (lsub_c rfl (lsub_c rfl (lsub_c rfl (lsub_c rfl lsub_n)))) (r_X10_copies_62_L2 C _ _ _ _ _ h)
def f_X10_keep_62 (a1 : Int32) (μ : Mem) : Option (Int32 × Mem) :=
  (f_X10_in (a1.toInt64) (0 : Int64) (1 : Int64) μ).bind fun q1 =>
  if q1.1 = 0 then
    some ((-1 : Int32), q1.2)
  else
    if inb a1 2 = false then none else
    (f_X10_flag (q1.2.1 64 (a1.toNatClampNeg)) q1.2).bind fun q4 =>
    if inb a1 2 = false then none else
    (f_X10_copies_62 ((54 : Int32) * (a1 + (1 : Int32))) (0 : Int32) (pI q4.2 64 (a1.toNatClampNeg) (1 : Int32))).bind fun q6 =>
    some (q4.1, q6)
set_option maxRecDepth 100000 in
set_option maxHeartbeats 4000000 in
theorem r_X10_keep_62 {a1 : Int32} {μ : Mem} {ρ : (Int32 × Mem)} (h : f_X10_keep_62 a1 μ = some ρ) : HT 1 yX10_keep cX10_keep 3 (some .int) [.ref 62, .int a1] μ (some (.int ρ.1)) ρ.2 := by
  refine HT.of (by decide +kernel) (Nat.le_of_ble_eq_true rfl) (fun C => ?_)
  unfold f_X10_keep_62 at h
  refine wa_iload_n C dX10_keep_0 rfl ?_
  refine wa_i2l (v := (a1.toInt64)) C dX10_keep_1 rfl ?_
  refine wa_lconst (v := 0) C dX10_keep_2 (by decide) ?_
  refine wa_lconst (v := 1) C dX10_keep_3 (by decide) ?_
  obtain ⟨q1, hq1, h⟩ := bd h
  refine wa_callS C (r_X10_in hq1) mk_X10_in ms_X10_in qw_198 rfl ⟨Nat.le_of_ble_eq_true rfl, Nat.le_of_ble_eq_true rfl⟩ ⟨Nat.zero_le _, Nat.zero_le _⟩ (Nat.le_of_ble_eq_true rfl) dX10_keep_4 rfl ?_
  refine wa_if_ne (tgt := 12) C dX10_keep_7 (by decide) (fun c2 => ?_) (fun c2 => ?_)
  · replace h := (if_neg c2).symm.trans h
    refine wa_aload_n C dX10_keep_12 rfl ?_
    refine wa_getr C fl_RX10_13 rfl rfl (by decide) dX10_keep_13 ?_
    refine wa_iload_n C dX10_keep_16 rfl ?_
    obtain ⟨g3, h⟩ := gd h
    refine wa_zald (j := (a1.toNatClampNeg)) (x := (q1.2.1 64 (a1.toNatClampNeg))) C rfl (by decide) g3 rfl rfl dX10_keep_17 ?_
    obtain ⟨q4, hq4, h⟩ := bd h
    refine wa_callS C (r_X10_flag hq4) mk_X10_flag ms_X10_flag qw_660 rfl ⟨Nat.le_of_ble_eq_true rfl, Nat.le_of_ble_eq_true rfl⟩ ⟨Nat.zero_le _, Nat.zero_le _⟩ (Nat.le_of_ble_eq_true rfl) dX10_keep_18 rfl ?_
    refine wa_istore_n C dX10_keep_21 (by decide) ?_
    refine wa_aload_n C dX10_keep_22 rfl ?_
    refine wa_getr C fl_RX10_13 rfl rfl (by decide) dX10_keep_23 ?_
    refine wa_iload_n C dX10_keep_26 rfl ?_
    refine wa_iconst (v := 1) C dX10_keep_27 (by decide) ?_
    obtain ⟨g5, h⟩ := gd h
    refine wa_zast (j := (a1.toNatClampNeg)) C rfl (by decide) g5 rfl rfl dX10_keep_28 ?_
    refine wa_aload_n C dX10_keep_29 rfl ?_
    refine wa_bipush (v := 54) C dX10_keep_30 (by decide) ?_
    refine wa_iload_n C dX10_keep_32 rfl ?_
    refine wa_iconst (v := 1) C dX10_keep_33 (by decide) ?_
    refine wa_iadd C dX10_keep_34 ?_
    refine wa_imul C dX10_keep_35 ?_
    refine wa_iconst (v := 0) C dX10_keep_36 (by decide) ?_
    obtain ⟨q6, hq6, h⟩ := bd h
    refine wa_callV C (r_X10_copies_62 hq6) mk_X10_copies mv_X10_copies qw_1051 rfl (by decide) rfl rfl ⟨Nat.le_of_ble_eq_true rfl, Nat.le_of_ble_eq_true rfl⟩ ⟨Nat.zero_le _, Nat.zero_le _⟩ (Nat.le_of_ble_eq_true rfl) dX10_keep_37 rfl ?_
    refine wa_iload_n C dX10_keep_40 rfl ?_
    obtain rfl := Option.some.inj h
    exact wa_iret C dX10_keep_41
  · replace h := (if_pos c2).symm.trans h
    refine wa_iconst (v := -1) C dX10_keep_10 (by decide) ?_
    obtain rfl := Option.some.inj h
    exact wa_iret C dX10_keep_11
def f_X4_become_4_12 (μ : Mem) : Option Mem :=
  some (pI (cpI (cpI (cpI (cpI (cpI (cpI μ 13 5 3) 14 6 6) 15 7 4) 16 8 6) 17 9 6) 18 10 8) 4 6 (μ.1 12 6))
set_option maxRecDepth 100000 in
set_option maxHeartbeats 4000000 in
theorem r_X4_become_4_12 {μ : Mem} {ρ : Mem} (h : f_X4_become_4_12 μ = some ρ) : HT 0 yX4_become cX4_become 2 none [.ref 4, .ref 12] μ none ρ := by
  refine HT.of (by decide +kernel) (Nat.le_of_ble_eq_true rfl) (fun C => ?_)
  unfold f_X4_become_4_12 at h
  refine wa_aload_n C dX4_become_0 rfl ?_
  refine wa_getr C fl_RX4_9 rfl rfl (by decide) dX4_become_1 ?_
  refine wa_iconst (v := 0) C dX4_become_4 (by decide) ?_
  refine wa_aload_n C dX4_become_5 rfl ?_
  refine wa_getr C fl_RX4_9 rfl rfl (by decide) dX4_become_6 ?_
  refine wa_iconst (v := 0) C dX4_become_9 (by decide) ?_
  refine wa_iconst (v := 3) C dX4_become_10 (by decide) ?_
  refine wa_copy (k := 3) C qw_383 qw_376 qw_377 qw_378 rfl rfl (by decide) (by decide) rfl (by decide) (by decide) (by decide) ⟨Nat.le_of_ble_eq_true rfl, Nat.le_of_ble_eq_true rfl⟩ dX4_become_11 ?_
  refine wa_aload_n C dX4_become_14 rfl ?_
  refine wa_getr C fl_RX4_15 rfl rfl (by decide) dX4_become_15 ?_
  refine wa_iconst (v := 0) C dX4_become_18 (by decide) ?_
  refine wa_aload_n C dX4_become_19 rfl ?_
  refine wa_getr C fl_RX4_15 rfl rfl (by decide) dX4_become_20 ?_
  refine wa_iconst (v := 0) C dX4_become_23 (by decide) ?_
  refine wa_bipush (v := 6) C dX4_become_24 (by decide) ?_
  refine wa_copy (k := 6) C qw_383 qw_376 qw_377 qw_378 rfl rfl (by decide) (by decide) rfl (by decide) (by decide) (by decide) ⟨Nat.le_of_ble_eq_true rfl, Nat.le_of_ble_eq_true rfl⟩ dX4_become_26 ?_
  refine wa_aload_n C dX4_become_29 rfl ?_
  refine wa_getr C fl_RX4_18 rfl rfl (by decide) dX4_become_30 ?_
  refine wa_iconst (v := 0) C dX4_become_33 (by decide) ?_
  refine wa_aload_n C dX4_become_34 rfl ?_
  refine wa_getr C fl_RX4_18 rfl rfl (by decide) dX4_become_35 ?_
  refine wa_iconst (v := 0) C dX4_become_38 (by decide) ?_
  refine wa_iconst (v := 4) C dX4_become_39 (by decide) ?_
  refine wa_copy (k := 4) C qw_383 qw_376 qw_377 qw_378 rfl rfl (by decide) (by decide) rfl (by decide) (by decide) (by decide) ⟨Nat.le_of_ble_eq_true rfl, Nat.le_of_ble_eq_true rfl⟩ dX4_become_40 ?_
  refine wa_aload_n C dX4_become_43 rfl ?_
  refine wa_getr C fl_RX4_21 rfl rfl (by decide) dX4_become_44 ?_
  refine wa_iconst (v := 0) C dX4_become_47 (by decide) ?_
  refine wa_aload_n C dX4_become_48 rfl ?_
  refine wa_getr C fl_RX4_21 rfl rfl (by decide) dX4_become_49 ?_
  refine wa_iconst (v := 0) C dX4_become_52 (by decide) ?_
  refine wa_bipush (v := 6) C dX4_become_53 (by decide) ?_
  refine wa_copy (k := 6) C qw_383 qw_376 qw_377 qw_378 rfl rfl (by decide) (by decide) rfl (by decide) (by decide) (by decide) ⟨Nat.le_of_ble_eq_true rfl, Nat.le_of_ble_eq_true rfl⟩ dX4_become_55 ?_
  refine wa_aload_n C dX4_become_58 rfl ?_
  refine wa_getr C fl_RX4_24 rfl rfl (by decide) dX4_become_59 ?_
  refine wa_iconst (v := 0) C dX4_become_62 (by decide) ?_
  refine wa_aload_n C dX4_become_63 rfl ?_
  refine wa_getr C fl_RX4_24 rfl rfl (by decide) dX4_become_64 ?_
  refine wa_iconst (v := 0) C dX4_become_67 (by decide) ?_
  refine wa_bipush (v := 6) C dX4_become_68 (by decide) ?_
  refine wa_copy (k := 6) C qw_383 qw_376 qw_377 qw_378 rfl rfl (by decide) (by decide) rfl (by decide) (by decide) (by decide) ⟨Nat.le_of_ble_eq_true rfl, Nat.le_of_ble_eq_true rfl⟩ dX4_become_70 ?_
  refine wa_aload_n C dX4_become_73 rfl ?_
  refine wa_getr C fl_RX4_27 rfl rfl (by decide) dX4_become_74 ?_
  refine wa_iconst (v := 0) C dX4_become_77 (by decide) ?_
  refine wa_aload_n C dX4_become_78 rfl ?_
  refine wa_getr C fl_RX4_27 rfl rfl (by decide) dX4_become_79 ?_
  refine wa_iconst (v := 0) C dX4_become_82 (by decide) ?_
  refine wa_bipush (v := 8) C dX4_become_83 (by decide) ?_
  refine wa_copy (k := 8) C qw_383 qw_376 qw_377 qw_378 rfl rfl (by decide) (by decide) rfl (by decide) (by decide) (by decide) ⟨Nat.le_of_ble_eq_true rfl, Nat.le_of_ble_eq_true rfl⟩ dX4_become_85 ?_
  refine wa_aload_n C dX4_become_88 rfl ?_
  refine wa_aload_n C dX4_become_89 rfl ?_
  refine wa_geti (x := (μ.1 12 6)) C fl_RX4_30 rfl rfl (by decide) rfl dX4_become_90 ?_
  refine wa_puti C fl_RX4_30 fp_4_6 rfl rfl (by decide) rfl rfl dX4_become_93 ?_
  obtain rfl := Option.some.inj h
  exact wa_vret C dX4_become_96
def f_X4_become_4_19 (μ : Mem) : Option Mem :=
  some (pI (cpI (cpI (cpI (cpI (cpI (cpI μ 20 5 3) 21 6 6) 22 7 4) 23 8 6) 24 9 6) 25 10 8) 4 6 (μ.1 19 6))
set_option maxRecDepth 100000 in
set_option maxHeartbeats 4000000 in
theorem r_X4_become_4_19 {μ : Mem} {ρ : Mem} (h : f_X4_become_4_19 μ = some ρ) : HT 0 yX4_become cX4_become 2 none [.ref 4, .ref 19] μ none ρ := by
  refine HT.of (by decide +kernel) (Nat.le_of_ble_eq_true rfl) (fun C => ?_)
  unfold f_X4_become_4_19 at h
  refine wa_aload_n C dX4_become_0 rfl ?_
  refine wa_getr C fl_RX4_9 rfl rfl (by decide) dX4_become_1 ?_
  refine wa_iconst (v := 0) C dX4_become_4 (by decide) ?_
  refine wa_aload_n C dX4_become_5 rfl ?_
  refine wa_getr C fl_RX4_9 rfl rfl (by decide) dX4_become_6 ?_
  refine wa_iconst (v := 0) C dX4_become_9 (by decide) ?_
  refine wa_iconst (v := 3) C dX4_become_10 (by decide) ?_
  refine wa_copy (k := 3) C qw_383 qw_376 qw_377 qw_378 rfl rfl (by decide) (by decide) rfl (by decide) (by decide) (by decide) ⟨Nat.le_of_ble_eq_true rfl, Nat.le_of_ble_eq_true rfl⟩ dX4_become_11 ?_
  refine wa_aload_n C dX4_become_14 rfl ?_
  refine wa_getr C fl_RX4_15 rfl rfl (by decide) dX4_become_15 ?_
  refine wa_iconst (v := 0) C dX4_become_18 (by decide) ?_
  refine wa_aload_n C dX4_become_19 rfl ?_
  refine wa_getr C fl_RX4_15 rfl rfl (by decide) dX4_become_20 ?_
  refine wa_iconst (v := 0) C dX4_become_23 (by decide) ?_
  refine wa_bipush (v := 6) C dX4_become_24 (by decide) ?_
  refine wa_copy (k := 6) C qw_383 qw_376 qw_377 qw_378 rfl rfl (by decide) (by decide) rfl (by decide) (by decide) (by decide) ⟨Nat.le_of_ble_eq_true rfl, Nat.le_of_ble_eq_true rfl⟩ dX4_become_26 ?_
  refine wa_aload_n C dX4_become_29 rfl ?_
  refine wa_getr C fl_RX4_18 rfl rfl (by decide) dX4_become_30 ?_
  refine wa_iconst (v := 0) C dX4_become_33 (by decide) ?_
  refine wa_aload_n C dX4_become_34 rfl ?_
  refine wa_getr C fl_RX4_18 rfl rfl (by decide) dX4_become_35 ?_
  refine wa_iconst (v := 0) C dX4_become_38 (by decide) ?_
  refine wa_iconst (v := 4) C dX4_become_39 (by decide) ?_
  refine wa_copy (k := 4) C qw_383 qw_376 qw_377 qw_378 rfl rfl (by decide) (by decide) rfl (by decide) (by decide) (by decide) ⟨Nat.le_of_ble_eq_true rfl, Nat.le_of_ble_eq_true rfl⟩ dX4_become_40 ?_
  refine wa_aload_n C dX4_become_43 rfl ?_
  refine wa_getr C fl_RX4_21 rfl rfl (by decide) dX4_become_44 ?_
  refine wa_iconst (v := 0) C dX4_become_47 (by decide) ?_
  refine wa_aload_n C dX4_become_48 rfl ?_
  refine wa_getr C fl_RX4_21 rfl rfl (by decide) dX4_become_49 ?_
  refine wa_iconst (v := 0) C dX4_become_52 (by decide) ?_
  refine wa_bipush (v := 6) C dX4_become_53 (by decide) ?_
  refine wa_copy (k := 6) C qw_383 qw_376 qw_377 qw_378 rfl rfl (by decide) (by decide) rfl (by decide) (by decide) (by decide) ⟨Nat.le_of_ble_eq_true rfl, Nat.le_of_ble_eq_true rfl⟩ dX4_become_55 ?_
  refine wa_aload_n C dX4_become_58 rfl ?_
  refine wa_getr C fl_RX4_24 rfl rfl (by decide) dX4_become_59 ?_
  refine wa_iconst (v := 0) C dX4_become_62 (by decide) ?_
  refine wa_aload_n C dX4_become_63 rfl ?_
  refine wa_getr C fl_RX4_24 rfl rfl (by decide) dX4_become_64 ?_
  refine wa_iconst (v := 0) C dX4_become_67 (by decide) ?_
  refine wa_bipush (v := 6) C dX4_become_68 (by decide) ?_
  refine wa_copy (k := 6) C qw_383 qw_376 qw_377 qw_378 rfl rfl (by decide) (by decide) rfl (by decide) (by decide) (by decide) ⟨Nat.le_of_ble_eq_true rfl, Nat.le_of_ble_eq_true rfl⟩ dX4_become_70 ?_
  refine wa_aload_n C dX4_become_73 rfl ?_
  refine wa_getr C fl_RX4_27 rfl rfl (by decide) dX4_become_74 ?_
  refine wa_iconst (v := 0) C dX4_become_77 (by decide) ?_
  refine wa_aload_n C dX4_become_78 rfl ?_
  refine wa_getr C fl_RX4_27 rfl rfl (by decide) dX4_become_79 ?_
  refine wa_iconst (v := 0) C dX4_become_82 (by decide) ?_
  refine wa_bipush (v := 8) C dX4_become_83 (by decide) ?_
  refine wa_copy (k := 8) C qw_383 qw_376 qw_377 qw_378 rfl rfl (by decide) (by decide) rfl (by decide) (by decide) (by decide) ⟨Nat.le_of_ble_eq_true rfl, Nat.le_of_ble_eq_true rfl⟩ dX4_become_85 ?_
  refine wa_aload_n C dX4_become_88 rfl ?_
  refine wa_aload_n C dX4_become_89 rfl ?_
  refine wa_geti (x := (μ.1 19 6)) C fl_RX4_30 rfl rfl (by decide) rfl dX4_become_90 ?_
  refine wa_puti C fl_RX4_30 fp_4_6 rfl rfl (by decide) rfl rfl dX4_become_93 ?_
  obtain rfl := Option.some.inj h
  exact wa_vret C dX4_become_96
def f_X9_back_0 (a1 : Int32) (μ : Mem) : Option (Int32 × Mem) :=
  (f_X9_isImage a1 μ).bind fun q1 =>
  if q1.1 = 0 then
    some ((-1 : Int32), q1.2)
  else
    if (((q1.2.1 0 3) >>> (a1 &&& 31)) &&& (1 : Int32)) = 0 then
      some ((-2 : Int32), q1.2)
    else
      if a1 = 0 then
        (f_X4_become_4_12 q1.2).bind fun q5 =>
        some ((q5.1 1 0), q5)
      else
      if a1 = 1 then
        (f_X4_become_4_19 q1.2).bind fun q7 =>
        some ((q7.1 1 0), q7)
      else
      none
set_option maxRecDepth 100000 in
set_option maxHeartbeats 4000000 in
theorem r_X9_back_0 {a1 : Int32} {μ : Mem} {ρ : (Int32 × Mem)} (h : f_X9_back_0 a1 μ = some ρ) : HT 1 yX9_back cX9_back 2 (some .int) [.ref 0, .int a1] μ (some (.int ρ.1)) ρ.2 := by
  refine HT.of (by decide +kernel) (Nat.le_of_ble_eq_true rfl) (fun C => ?_)
  unfold f_X9_back_0 at h
  refine wa_iload_n C dX9_back_0 rfl ?_
  obtain ⟨q1, hq1, h⟩ := bd h
  refine wa_callS C (r_X9_isImage hq1) mk_X9_isImage ms_X9_isImage qw_1044 rfl ⟨Nat.le_of_ble_eq_true rfl, Nat.le_of_ble_eq_true rfl⟩ ⟨Nat.zero_le _, Nat.zero_le _⟩ (Nat.le_of_ble_eq_true rfl) dX9_back_1 rfl ?_
  refine wa_if_ne (tgt := 9) C dX9_back_4 (by decide) (fun c2 => ?_) (fun c2 => ?_)
  · replace h := (if_neg c2).symm.trans h
    refine wa_aload_n C dX9_back_9 rfl ?_
    refine wa_geti (x := (q1.2.1 0 3)) C fl_RX9_104 rfl rfl (by decide) rfl dX9_back_10 ?_
    refine wa_iload_n C dX9_back_13 rfl ?_
    refine wa_ishr C dX9_back_14 ?_
    refine wa_iconst (v := 1) C dX9_back_15 (by decide) ?_
    refine wa_iand C dX9_back_16 ?_
    refine wa_if_ne (tgt := 23) C dX9_back_17 (by decide) (fun c3 => ?_) (fun c3 => ?_)
    · replace h := (if_neg c3).symm.trans h
      refine wa_aload_n C dX9_back_23 rfl ?_
      refine wa_getr C fl_RX9_19 rfl rfl (by decide) dX9_back_24 ?_
      refine wa_aload_n C dX9_back_27 rfl ?_
      refine wa_getr C fl_RX9_23 rfl rfl (by decide) dX9_back_28 ?_
      refine wa_iload_n C dX9_back_31 rfl ?_
      by_cases c4 : a1 = 0
      · replace h := (if_pos c4).symm.trans h
        refine wa_aald4 (j := 0) (q := 12) C (by rw [c4]; rfl) (by rw [c4]; rfl) rfl dX9_back_32 ?_
        obtain ⟨q5, hq5, h⟩ := bd h
        refine wa_callV C (r_X4_become_4_12 hq5) mk_X4_become mv_X4_become qw_379 rfl (by decide) rfl rfl ⟨Nat.le_of_ble_eq_true rfl, Nat.le_of_ble_eq_true rfl⟩ ⟨Nat.zero_le _, Nat.zero_le _⟩ (Nat.le_of_ble_eq_true rfl) dX9_back_33 rfl ?_
        refine wa_aload_n C dX9_back_36 rfl ?_
        refine wa_getr C fl_RX9_10 rfl rfl (by decide) dX9_back_37 ?_
        refine wa_geti (x := (q5.1 1 0)) C fl_RX9_113 rfl rfl (by decide) rfl dX9_back_40 ?_
        obtain rfl := Option.some.inj h
        exact wa_iret C dX9_back_43
      replace h := (if_neg c4).symm.trans h
      by_cases c6 : a1 = 1
      · replace h := (if_pos c6).symm.trans h
        refine wa_aald4 (j := 1) (q := 19) C (by rw [c6]; rfl) (by rw [c6]; rfl) rfl dX9_back_32 ?_
        obtain ⟨q7, hq7, h⟩ := bd h
        refine wa_callV C (r_X4_become_4_19 hq7) mk_X4_become mv_X4_become qw_379 rfl (by decide) rfl rfl ⟨Nat.le_of_ble_eq_true rfl, Nat.le_of_ble_eq_true rfl⟩ ⟨Nat.zero_le _, Nat.zero_le _⟩ (Nat.le_of_ble_eq_true rfl) dX9_back_33 rfl ?_
        refine wa_aload_n C dX9_back_36 rfl ?_
        refine wa_getr C fl_RX9_10 rfl rfl (by decide) dX9_back_37 ?_
        refine wa_geti (x := (q7.1 1 0)) C fl_RX9_113 rfl rfl (by decide) rfl dX9_back_40 ?_
        obtain rfl := Option.some.inj h
        exact wa_iret C dX9_back_43
      replace h := (if_neg c6).symm.trans h
      cases h
    · replace h := (if_pos c3).symm.trans h
      refine wa_bipush (v := -2) C dX9_back_20 (by decide) ?_
      obtain rfl := Option.some.inj h
      exact wa_iret C dX9_back_22
  · replace h := (if_pos c2).symm.trans h
    refine wa_iconst (v := -1) C dX9_back_7 (by decide) ?_
    obtain rfl := Option.some.inj h
    exact wa_iret C dX9_back_8
def f_X10_back_62 (a1 : Int32) (μ : Mem) : Option (Int32 × Mem) :=
  (f_X10_in (a1.toInt64) (0 : Int64) (1 : Int64) μ).bind fun q1 =>
  if q1.1 = 0 then
    some ((-1 : Int32), q1.2)
  else
    if inb a1 2 = false then none else
    if (q1.2.1 64 (a1.toNatClampNeg)) = 0 then
      some ((-2 : Int32), q1.2)
    else
      (f_X10_copies_62 (0 : Int32) ((54 : Int32) * (a1 + (1 : Int32))) q1.2).bind fun q5 =>
      some ((q5.1 62 2), q5)
set_option maxRecDepth 100000 in
set_option maxHeartbeats 4000000 in
theorem r_X10_back_62 {a1 : Int32} {μ : Mem} {ρ : (Int32 × Mem)} (h : f_X10_back_62 a1 μ = some ρ) : HT 1 yX10_back cX10_back 2 (some .int) [.ref 62, .int a1] μ (some (.int ρ.1)) ρ.2 := by
  refine HT.of (by decide +kernel) (Nat.le_of_ble_eq_true rfl) (fun C => ?_)
  unfold f_X10_back_62 at h
  refine wa_iload_n C dX10_back_0 rfl ?_
  refine wa_i2l (v := (a1.toInt64)) C dX10_back_1 rfl ?_
  refine wa_lconst (v := 0) C dX10_back_2 (by decide) ?_
  refine wa_lconst (v := 1) C dX10_back_3 (by decide) ?_
  obtain ⟨q1, hq1, h⟩ := bd h
  refine wa_callS C (r_X10_in hq1) mk_X10_in ms_X10_in qw_198 rfl ⟨Nat.le_of_ble_eq_true rfl, Nat.le_of_ble_eq_true rfl⟩ ⟨Nat.zero_le _, Nat.zero_le _⟩ (Nat.le_of_ble_eq_true rfl) dX10_back_4 rfl ?_
  refine wa_if_ne (tgt := 12) C dX10_back_7 (by decide) (fun c2 => ?_) (fun c2 => ?_)
  · replace h := (if_neg c2).symm.trans h
    refine wa_aload_n C dX10_back_12 rfl ?_
    refine wa_getr C fl_RX10_13 rfl rfl (by decide) dX10_back_13 ?_
    refine wa_iload_n C dX10_back_16 rfl ?_
    obtain ⟨g3, h⟩ := gd h
    refine wa_zald (j := (a1.toNatClampNeg)) (x := (q1.2.1 64 (a1.toNatClampNeg))) C rfl (by decide) g3 rfl rfl dX10_back_17 ?_
    refine wa_if_ne (tgt := 24) C dX10_back_18 (by decide) (fun c4 => ?_) (fun c4 => ?_)
    · replace h := (if_neg c4).symm.trans h
      refine wa_aload_n C dX10_back_24 rfl ?_
      refine wa_iconst (v := 0) C dX10_back_25 (by decide) ?_
      refine wa_bipush (v := 54) C dX10_back_26 (by decide) ?_
      refine wa_iload_n C dX10_back_28 rfl ?_
      refine wa_iconst (v := 1) C dX10_back_29 (by decide) ?_
      refine wa_iadd C dX10_back_30 ?_
      refine wa_imul C dX10_back_31 ?_
      obtain ⟨q5, hq5, h⟩ := bd h
      refine wa_callV C (r_X10_copies_62 hq5) mk_X10_copies mv_X10_copies qw_1051 rfl (by decide) rfl rfl ⟨Nat.le_of_ble_eq_true rfl, Nat.le_of_ble_eq_true rfl⟩ ⟨Nat.zero_le _, Nat.zero_le _⟩ (Nat.le_of_ble_eq_true rfl) dX10_back_32 rfl ?_
      refine wa_aload_n C dX10_back_35 rfl ?_
      refine wa_geti (x := (q5.1 62 2)) C fl_RX10_94 rfl rfl (by decide) rfl dX10_back_36 ?_
      obtain rfl := Option.some.inj h
      exact wa_iret C dX10_back_39
    · replace h := (if_pos c4).symm.trans h
      refine wa_bipush (v := -2) C dX10_back_21 (by decide) ?_
      obtain rfl := Option.some.inj h
      exact wa_iret C dX10_back_23
  · replace h := (if_pos c2).symm.trans h
    refine wa_iconst (v := -1) C dX10_back_10 (by decide) ?_
    obtain rfl := Option.some.inj h
    exact wa_iret C dX10_back_11
def f_X9_isSheet (a0 : Int32) (μ : Mem) : Option (Int32 × Mem) :=
  if a0 < 0 then
    some ((0 : Int32), μ)
  else
    if (4 : Int32) ≤ a0 then
      some ((0 : Int32), μ)
    else
      some ((1 : Int32), μ)
set_option maxRecDepth 100000 in
set_option maxHeartbeats 4000000 in
theorem r_X9_isSheet {a0 : Int32} {μ : Mem} {ρ : (Int32 × Mem)} (h : f_X9_isSheet a0 μ = some ρ) : HT 0 yX9_isSheet cX9_isSheet 1 (some .boolean) [.int a0] μ (some (.int ρ.1)) ρ.2 := by
  refine HT.of (by decide +kernel) (Nat.le_of_ble_eq_true rfl) (fun C => ?_)
  unfold f_X9_isSheet at h
  refine wa_iload_n C dX9_isSheet_0 rfl ?_
  refine wa_if_lt (tgt := 13) C dX9_isSheet_1 (by decide) (fun c1 => ?_) (fun c1 => ?_)
  · replace h := (if_pos c1).symm.trans h
    refine wa_iconst (v := 0) C dX9_isSheet_13 (by decide) ?_
    obtain rfl := Option.some.inj h
    exact wa_zret C rfl dX9_isSheet_14
  · replace h := (if_neg c1).symm.trans h
    refine wa_iload_n C dX9_isSheet_4 rfl ?_
    refine wa_iconst (v := 4) C dX9_isSheet_5 (by decide) ?_
    refine wa_icmp_ge (tgt := 13) C dX9_isSheet_6 (by decide) (fun c2 => ?_) (fun c2 => ?_)
    · replace h := (if_pos c2).symm.trans h
      refine wa_iconst (v := 0) C dX9_isSheet_13 (by decide) ?_
      obtain rfl := Option.some.inj h
      exact wa_zret C rfl dX9_isSheet_14
    · replace h := (if_neg c2).symm.trans h
      refine wa_iconst (v := 1) C dX9_isSheet_9 (by decide) ?_
      refine wa_goto (tgt := 14) C dX9_isSheet_10 (by decide) ?_
      obtain rfl := Option.some.inj h
      exact wa_zret C rfl dX9_isSheet_14
def f_X9_isLane (a0 : Int32) (μ : Mem) : Option (Int32 × Mem) :=
  if a0 < 0 then
    some ((0 : Int32), μ)
  else
    if (3 : Int32) ≤ a0 then
      some ((0 : Int32), μ)
    else
      some ((1 : Int32), μ)
set_option maxRecDepth 100000 in
set_option maxHeartbeats 4000000 in
theorem r_X9_isLane {a0 : Int32} {μ : Mem} {ρ : (Int32 × Mem)} (h : f_X9_isLane a0 μ = some ρ) : HT 0 yX9_isLane cX9_isLane 1 (some .boolean) [.int a0] μ (some (.int ρ.1)) ρ.2 := by
  refine HT.of (by decide +kernel) (Nat.le_of_ble_eq_true rfl) (fun C => ?_)
  unfold f_X9_isLane at h
  refine wa_iload_n C dX9_isLane_0 rfl ?_
  refine wa_if_lt (tgt := 13) C dX9_isLane_1 (by decide) (fun c1 => ?_) (fun c1 => ?_)
  · replace h := (if_pos c1).symm.trans h
    refine wa_iconst (v := 0) C dX9_isLane_13 (by decide) ?_
    obtain rfl := Option.some.inj h
    exact wa_zret C rfl dX9_isLane_14
  · replace h := (if_neg c1).symm.trans h
    refine wa_iload_n C dX9_isLane_4 rfl ?_
    refine wa_iconst (v := 3) C dX9_isLane_5 (by decide) ?_
    refine wa_icmp_ge (tgt := 13) C dX9_isLane_6 (by decide) (fun c2 => ?_) (fun c2 => ?_)
    · replace h := (if_pos c2).symm.trans h
      refine wa_iconst (v := 0) C dX9_isLane_13 (by decide) ?_
      obtain rfl := Option.some.inj h
      exact wa_zret C rfl dX9_isLane_14
    · replace h := (if_neg c2).symm.trans h
      refine wa_iconst (v := 1) C dX9_isLane_9 (by decide) ?_
      refine wa_goto (tgt := 14) C dX9_isLane_10 (by decide) ?_
      obtain rfl := Option.some.inj h
      exact wa_zret C rfl dX9_isLane_14
def f_J7_fill_53178_28_L5 (a1 : Int32) (a3 : Int32) (k5 : Int32 → Mem → Option Mem) (a2 : Int32) (μ : Mem) : Option Mem :=
    if a3 ≤ a2 then
      some μ
    else
      if inb a2 40 = false then none else
      k5 (a2 + 1) (pI μ 28 (a2.toNatClampNeg) a1)
def f_J7_fill_53178_28 (a1 : Int32) (μ : Mem) : Option Mem :=
  it2 (f_J7_fill_53178_28_L5 a1 (40 : Int32)) FU (0 : Int32) μ
set_option maxRecDepth 100000 in
set_option maxHeartbeats 4000000 in
theorem r_J7_fill_53178_28_L5 {p : Program} {l : Launch} {e : Env} {s : State} {m : MethodId} {args : Array Value} {below : List Frame} {meth : Method} {c : Code} {D : va_G} {cy : Nat → ClassId} {ad : Nat → Nat} (C : CX p s m args meth c cJ7_fill_53178 4 RJ7 none D cy ad (AD ad)) (a1 : Int32) (a3 : Int32) {ρ : Mem} : ∀ (n : Nat) (a2 : Int32) (μ : Mem), it2 (f_J7_fill_53178_28_L5 a1 a3) n a2 μ = some ρ → WA p l e (rmD 0) s m args below meth c 4 D cy ad (AD ad) 0 0 (ZZ below args s D cy ad (AD ad) 0 0 none ρ) μ [(0, .ref 28), (1, .int a1), (2, .int a2), (3, .int a3)] 5 [] := by
  intro n
  induction n with
  | zero =>
    intro a2 μ h
    exact absurd h (fun h => by cases h)
  | succ n ih =>
    intro a2 μ h
    replace h : f_J7_fill_53178_28_L5 a1 a3 (it2 (f_J7_fill_53178_28_L5 a1 a3) n) a2 μ = some ρ := h
    unfold f_J7_fill_53178_28_L5 at h
    refine wa_iload_n C dJ7_fill_53178_5 rfl ?_
    refine wa_iload_n C dJ7_fill_53178_6 rfl ?_
    refine wa_icmp_ge (tgt := 20) C dJ7_fill_53178_7 (by decide) (fun c1 => ?_) (fun c1 => ?_)
    · replace h := (if_pos c1).symm.trans h
      obtain rfl := Option.some.inj h
      exact wa_vret C dJ7_fill_53178_20
    · replace h := (if_neg c1).symm.trans h
      refine wa_aload_n C dJ7_fill_53178_10 rfl ?_
      refine wa_iload_n C dJ7_fill_53178_11 rfl ?_
      refine wa_iload_n C dJ7_fill_53178_12 rfl ?_
      obtain ⟨g2, h⟩ := gd h
      refine wa_iast (j := (a2.toNatClampNeg)) C rfl (by decide) g2 rfl dJ7_fill_53178_13 ?_
      refine wa_iinc (v := (a2 + 1)) C dJ7_fill_53178_14 rfl rfl (by decide) ?_
      refine wa_goto (tgt := 5) C dJ7_fill_53178_17 (by decide) ?_
      exact WA.sub (lsub_c rfl (lsub_c rfl (lsub_c rfl (lsub_c rfl lsub_n)))) (ih _ _ h)
set_option maxRecDepth 100000 in
set_option maxHeartbeats 4000000 in
theorem r_J7_fill_53178_28 {a1 : Int32} {μ : Mem} {ρ : Mem} (h : f_J7_fill_53178_28 a1 μ = some ρ) : HT 0 yJ7_fill_53178 cJ7_fill_53178 4 none [.ref 28, .int a1] μ none ρ := by
  refine HT.of (by decide +kernel) (Nat.le_of_ble_eq_true rfl) (fun C => ?_)
  unfold f_J7_fill_53178_28 at h
  refine wa_iconst (v := 0) C dJ7_fill_53178_0 (by decide) ?_
  refine wa_istore_n C dJ7_fill_53178_1 (by decide) ?_
  refine wa_aload_n C dJ7_fill_53178_2 rfl ?_
  refine wa_alen (v := 40) C rfl (by decide) (by decide) rfl dJ7_fill_53178_3 ?_
  refine wa_istore_n C dJ7_fill_53178_4 (by decide) ?_
  exact WA.sub (lsub_c rfl (lsub_c rfl (lsub_c rfl (lsub_c rfl lsub_n)))) (r_J7_fill_53178_28_L5 C _ _ _ _ _ h)
def f_X6_begin_27 (a1 : Int32) (a2 : Int32) (μ : Mem) : Option Mem :=
  (f_J7_fill_53178_28 (0 : Int32) (pI (pI μ 27 0 a1) 27 1 a2)).bind fun q1 =>
  some q1
set_option maxRecDepth 100000 in
set_option maxHeartbeats 4000000 in
theorem r_X6_begin_27 {a1 : Int32} {a2 : Int32} {μ : Mem} {ρ : Mem} (h : f_X6_begin_27 a1 a2 μ = some ρ) : HT 1 yX6_begin cX6_begin 3 none [.ref 27, .int a1, .int a2] μ none ρ := by
  refine HT.of (by decide +kernel) (Nat.le_of_ble_eq_true rfl) (fun C => ?_)
  unfold f_X6_begin_27 at h
  refine wa_aload_n C dX6_begin_0 rfl ?_
  refine wa_iload_n C dX6_begin_1 rfl ?_
  refine wa_puti C fl_RX6_9 fp_6_0 rfl rfl (by decide) rfl rfl dX6_begin_2 ?_
  refine wa_aload_n C dX6_begin_5 rfl ?_
  refine wa_iload_n C dX6_begin_6 rfl ?_
  refine wa_puti C fl_RX6_15 fp_6_1 rfl rfl (by decide) rfl rfl dX6_begin_7 ?_
  refine wa_aload_n C dX6_begin_10 rfl ?_
  refine wa_getr C fl_RX6_18 rfl rfl (by decide) dX6_begin_11 ?_
  refine wa_iconst (v := 0) C dX6_begin_14 (by decide) ?_
  obtain ⟨q1, hq1, h⟩ := bd h
  refine wa_callS C (r_J7_fill_53178_28 hq1) mk_J7_fill_53178 ms_J7_fill_53178 qw_1077 rfl ⟨Nat.le_of_ble_eq_true rfl, Nat.le_of_ble_eq_true rfl⟩ ⟨Nat.zero_le _, Nat.zero_le _⟩ (Nat.le_of_ble_eq_true rfl) dX6_begin_15 rfl ?_
  obtain rfl := Option.some.inj h
  exact wa_vret C dX6_begin_18
def f_J7_fill_53178_30_L5 (a1 : Int32) (a3 : Int32) (k5 : Int32 → Mem → Option Mem) (a2 : Int32) (μ : Mem) : Option Mem :=
    if a3 ≤ a2 then
      some μ
    else
      if inb a2 40 = false then none else
      k5 (a2 + 1) (pI μ 30 (a2.toNatClampNeg) a1)
def f_J7_fill_53178_30 (a1 : Int32) (μ : Mem) : Option Mem :=
  it2 (f_J7_fill_53178_30_L5 a1 (40 : Int32)) FU (0 : Int32) μ
set_option maxRecDepth 100000 in
set_option maxHeartbeats 4000000 in
theorem r_J7_fill_53178_30_L5 {p : Program} {l : Launch} {e : Env} {s : State} {m : MethodId} {args : Array Value} {below : List Frame} {meth : Method} {c : Code} {D : va_G} {cy : Nat → ClassId} {ad : Nat → Nat} (C : CX p s m args meth c cJ7_fill_53178 4 RJ7 none D cy ad (AD ad)) (a1 : Int32) (a3 : Int32) {ρ : Mem} : ∀ (n : Nat) (a2 : Int32) (μ : Mem), it2 (f_J7_fill_53178_30_L5 a1 a3) n a2 μ = some ρ → WA p l e (rmD 0) s m args below meth c 4 D cy ad (AD ad) 0 0 (ZZ below args s D cy ad (AD ad) 0 0 none ρ) μ [(0, .ref 30), (1, .int a1), (2, .int a2), (3, .int a3)] 5 [] := by
  intro n
  induction n with
  | zero =>
    intro a2 μ h
    exact absurd h (fun h => by cases h)
  | succ n ih =>
    intro a2 μ h
    replace h : f_J7_fill_53178_30_L5 a1 a3 (it2 (f_J7_fill_53178_30_L5 a1 a3) n) a2 μ = some ρ := h
    unfold f_J7_fill_53178_30_L5 at h
    refine wa_iload_n C dJ7_fill_53178_5 rfl ?_
    refine wa_iload_n C dJ7_fill_53178_6 rfl ?_
    refine wa_icmp_ge (tgt := 20) C dJ7_fill_53178_7 (by decide) (fun c1 => ?_) (fun c1 => ?_)
    · replace h := (if_pos c1).symm.trans h
      obtain rfl := Option.some.inj h
      exact wa_vret C dJ7_fill_53178_20
    · replace h := (if_neg c1).symm.trans h
      refine wa_aload_n C dJ7_fill_53178_10 rfl ?_
      refine wa_iload_n C dJ7_fill_53178_11 rfl ?_
      refine wa_iload_n C dJ7_fill_53178_12 rfl ?_
      obtain ⟨g2, h⟩ := gd h
      refine wa_iast (j := (a2.toNatClampNeg)) C rfl (by decide) g2 rfl dJ7_fill_53178_13 ?_
      refine wa_iinc (v := (a2 + 1)) C dJ7_fill_53178_14 rfl rfl (by decide) ?_
      refine wa_goto (tgt := 5) C dJ7_fill_53178_17 (by decide) ?_
      exact WA.sub (lsub_c rfl (lsub_c rfl (lsub_c rfl (lsub_c rfl lsub_n)))) (ih _ _ h)
set_option maxRecDepth 100000 in
set_option maxHeartbeats 4000000 in
theorem r_J7_fill_53178_30 {a1 : Int32} {μ : Mem} {ρ : Mem} (h : f_J7_fill_53178_30 a1 μ = some ρ) : HT 0 yJ7_fill_53178 cJ7_fill_53178 4 none [.ref 30, .int a1] μ none ρ := by
  refine HT.of (by decide +kernel) (Nat.le_of_ble_eq_true rfl) (fun C => ?_)
  unfold f_J7_fill_53178_30 at h
  refine wa_iconst (v := 0) C dJ7_fill_53178_0 (by decide) ?_
  refine wa_istore_n C dJ7_fill_53178_1 (by decide) ?_
  refine wa_aload_n C dJ7_fill_53178_2 rfl ?_
  refine wa_alen (v := 40) C rfl (by decide) (by decide) rfl dJ7_fill_53178_3 ?_
  refine wa_istore_n C dJ7_fill_53178_4 (by decide) ?_
  exact WA.sub (lsub_c rfl (lsub_c rfl (lsub_c rfl (lsub_c rfl lsub_n)))) (r_J7_fill_53178_30_L5 C _ _ _ _ _ h)
def f_X6_begin_29 (a1 : Int32) (a2 : Int32) (μ : Mem) : Option Mem :=
  (f_J7_fill_53178_30 (0 : Int32) (pI (pI μ 29 0 a1) 29 1 a2)).bind fun q1 =>
  some q1
set_option maxRecDepth 100000 in
set_option maxHeartbeats 4000000 in
theorem r_X6_begin_29 {a1 : Int32} {a2 : Int32} {μ : Mem} {ρ : Mem} (h : f_X6_begin_29 a1 a2 μ = some ρ) : HT 1 yX6_begin cX6_begin 3 none [.ref 29, .int a1, .int a2] μ none ρ := by
  refine HT.of (by decide +kernel) (Nat.le_of_ble_eq_true rfl) (fun C => ?_)
  unfold f_X6_begin_29 at h
  refine wa_aload_n C dX6_begin_0 rfl ?_
  refine wa_iload_n C dX6_begin_1 rfl ?_
  refine wa_puti C fl_RX6_9 fp_6_0 rfl rfl (by decide) rfl rfl dX6_begin_2 ?_
  refine wa_aload_n C dX6_begin_5 rfl ?_
  refine wa_iload_n C dX6_begin_6 rfl ?_
  refine wa_puti C fl_RX6_15 fp_6_1 rfl rfl (by decide) rfl rfl dX6_begin_7 ?_
  refine wa_aload_n C dX6_begin_10 rfl ?_
  refine wa_getr C fl_RX6_18 rfl rfl (by decide) dX6_begin_11 ?_
  refine wa_iconst (v := 0) C dX6_begin_14 (by decide) ?_
  obtain ⟨q1, hq1, h⟩ := bd h
  refine wa_callS C (r_J7_fill_53178_30 hq1) mk_J7_fill_53178 ms_J7_fill_53178 qw_1077 rfl ⟨Nat.le_of_ble_eq_true rfl, Nat.le_of_ble_eq_true rfl⟩ ⟨Nat.zero_le _, Nat.zero_le _⟩ (Nat.le_of_ble_eq_true rfl) dX6_begin_15 rfl ?_
  obtain rfl := Option.some.inj h
  exact wa_vret C dX6_begin_18
def f_J7_fill_53178_32_L5 (a1 : Int32) (a3 : Int32) (k5 : Int32 → Mem → Option Mem) (a2 : Int32) (μ : Mem) : Option Mem :=
    if a3 ≤ a2 then
      some μ
    else
      if inb a2 40 = false then none else
      k5 (a2 + 1) (pI μ 32 (a2.toNatClampNeg) a1)
def f_J7_fill_53178_32 (a1 : Int32) (μ : Mem) : Option Mem :=
  it2 (f_J7_fill_53178_32_L5 a1 (40 : Int32)) FU (0 : Int32) μ
set_option maxRecDepth 100000 in
set_option maxHeartbeats 4000000 in
theorem r_J7_fill_53178_32_L5 {p : Program} {l : Launch} {e : Env} {s : State} {m : MethodId} {args : Array Value} {below : List Frame} {meth : Method} {c : Code} {D : va_G} {cy : Nat → ClassId} {ad : Nat → Nat} (C : CX p s m args meth c cJ7_fill_53178 4 RJ7 none D cy ad (AD ad)) (a1 : Int32) (a3 : Int32) {ρ : Mem} : ∀ (n : Nat) (a2 : Int32) (μ : Mem), it2 (f_J7_fill_53178_32_L5 a1 a3) n a2 μ = some ρ → WA p l e (rmD 0) s m args below meth c 4 D cy ad (AD ad) 0 0 (ZZ below args s D cy ad (AD ad) 0 0 none ρ) μ [(0, .ref 32), (1, .int a1), (2, .int a2), (3, .int a3)] 5 [] := by
  intro n
  induction n with
  | zero =>
    intro a2 μ h
    exact absurd h (fun h => by cases h)
  | succ n ih =>
    intro a2 μ h
    replace h : f_J7_fill_53178_32_L5 a1 a3 (it2 (f_J7_fill_53178_32_L5 a1 a3) n) a2 μ = some ρ := h
    unfold f_J7_fill_53178_32_L5 at h
    refine wa_iload_n C dJ7_fill_53178_5 rfl ?_
    refine wa_iload_n C dJ7_fill_53178_6 rfl ?_
    refine wa_icmp_ge (tgt := 20) C dJ7_fill_53178_7 (by decide) (fun c1 => ?_) (fun c1 => ?_)
    · replace h := (if_pos c1).symm.trans h
      obtain rfl := Option.some.inj h
      exact wa_vret C dJ7_fill_53178_20
    · replace h := (if_neg c1).symm.trans h
      refine wa_aload_n C dJ7_fill_53178_10 rfl ?_
      refine wa_iload_n C dJ7_fill_53178_11 rfl ?_
      refine wa_iload_n C dJ7_fill_53178_12 rfl ?_
      obtain ⟨g2, h⟩ := gd h
      refine wa_iast (j := (a2.toNatClampNeg)) C rfl (by decide) g2 rfl dJ7_fill_53178_13 ?_
      refine wa_iinc (v := (a2 + 1)) C dJ7_fill_53178_14 rfl rfl (by decide) ?_
      refine wa_goto (tgt := 5) C dJ7_fill_53178_17 (by decide) ?_
      exact WA.sub (lsub_c rfl (lsub_c rfl (lsub_c rfl (lsub_c rfl lsub_n)))) (ih _ _ h)
set_option maxRecDepth 100000 in
set_option maxHeartbeats 4000000 in
theorem r_J7_fill_53178_32 {a1 : Int32} {μ : Mem} {ρ : Mem} (h : f_J7_fill_53178_32 a1 μ = some ρ) : HT 0 yJ7_fill_53178 cJ7_fill_53178 4 none [.ref 32, .int a1] μ none ρ := by
  refine HT.of (by decide +kernel) (Nat.le_of_ble_eq_true rfl) (fun C => ?_)
  unfold f_J7_fill_53178_32 at h
  refine wa_iconst (v := 0) C dJ7_fill_53178_0 (by decide) ?_
  refine wa_istore_n C dJ7_fill_53178_1 (by decide) ?_
  refine wa_aload_n C dJ7_fill_53178_2 rfl ?_
  refine wa_alen (v := 40) C rfl (by decide) (by decide) rfl dJ7_fill_53178_3 ?_
  refine wa_istore_n C dJ7_fill_53178_4 (by decide) ?_
  exact WA.sub (lsub_c rfl (lsub_c rfl (lsub_c rfl (lsub_c rfl lsub_n)))) (r_J7_fill_53178_32_L5 C _ _ _ _ _ h)
def f_X6_begin_31 (a1 : Int32) (a2 : Int32) (μ : Mem) : Option Mem :=
  (f_J7_fill_53178_32 (0 : Int32) (pI (pI μ 31 0 a1) 31 1 a2)).bind fun q1 =>
  some q1
set_option maxRecDepth 100000 in
set_option maxHeartbeats 4000000 in
theorem r_X6_begin_31 {a1 : Int32} {a2 : Int32} {μ : Mem} {ρ : Mem} (h : f_X6_begin_31 a1 a2 μ = some ρ) : HT 1 yX6_begin cX6_begin 3 none [.ref 31, .int a1, .int a2] μ none ρ := by
  refine HT.of (by decide +kernel) (Nat.le_of_ble_eq_true rfl) (fun C => ?_)
  unfold f_X6_begin_31 at h
  refine wa_aload_n C dX6_begin_0 rfl ?_
  refine wa_iload_n C dX6_begin_1 rfl ?_
  refine wa_puti C fl_RX6_9 fp_6_0 rfl rfl (by decide) rfl rfl dX6_begin_2 ?_
  refine wa_aload_n C dX6_begin_5 rfl ?_
  refine wa_iload_n C dX6_begin_6 rfl ?_
  refine wa_puti C fl_RX6_15 fp_6_1 rfl rfl (by decide) rfl rfl dX6_begin_7 ?_
  refine wa_aload_n C dX6_begin_10 rfl ?_
  refine wa_getr C fl_RX6_18 rfl rfl (by decide) dX6_begin_11 ?_
  refine wa_iconst (v := 0) C dX6_begin_14 (by decide) ?_
  obtain ⟨q1, hq1, h⟩ := bd h
  refine wa_callS C (r_J7_fill_53178_32 hq1) mk_J7_fill_53178 ms_J7_fill_53178 qw_1077 rfl ⟨Nat.le_of_ble_eq_true rfl, Nat.le_of_ble_eq_true rfl⟩ ⟨Nat.zero_le _, Nat.zero_le _⟩ (Nat.le_of_ble_eq_true rfl) dX6_begin_15 rfl ?_
  obtain rfl := Option.some.inj h
  exact wa_vret C dX6_begin_18
def f_J7_fill_53178_34_L5 (a1 : Int32) (a3 : Int32) (k5 : Int32 → Mem → Option Mem) (a2 : Int32) (μ : Mem) : Option Mem :=
    if a3 ≤ a2 then
      some μ
    else
      if inb a2 40 = false then none else
      k5 (a2 + 1) (pI μ 34 (a2.toNatClampNeg) a1)
def f_J7_fill_53178_34 (a1 : Int32) (μ : Mem) : Option Mem :=
  it2 (f_J7_fill_53178_34_L5 a1 (40 : Int32)) FU (0 : Int32) μ
set_option maxRecDepth 100000 in
set_option maxHeartbeats 4000000 in
theorem r_J7_fill_53178_34_L5 {p : Program} {l : Launch} {e : Env} {s : State} {m : MethodId} {args : Array Value} {below : List Frame} {meth : Method} {c : Code} {D : va_G} {cy : Nat → ClassId} {ad : Nat → Nat} (C : CX p s m args meth c cJ7_fill_53178 4 RJ7 none D cy ad (AD ad)) (a1 : Int32) (a3 : Int32) {ρ : Mem} : ∀ (n : Nat) (a2 : Int32) (μ : Mem), it2 (f_J7_fill_53178_34_L5 a1 a3) n a2 μ = some ρ → WA p l e (rmD 0) s m args below meth c 4 D cy ad (AD ad) 0 0 (ZZ below args s D cy ad (AD ad) 0 0 none ρ) μ [(0, .ref 34), (1, .int a1), (2, .int a2), (3, .int a3)] 5 [] := by
  intro n
  induction n with
  | zero =>
    intro a2 μ h
    exact absurd h (fun h => by cases h)
  | succ n ih =>
    intro a2 μ h
    replace h : f_J7_fill_53178_34_L5 a1 a3 (it2 (f_J7_fill_53178_34_L5 a1 a3) n) a2 μ = some ρ := h
    unfold f_J7_fill_53178_34_L5 at h
    refine wa_iload_n C dJ7_fill_53178_5 rfl ?_
    refine wa_iload_n C dJ7_fill_53178_6 rfl ?_
    refine wa_icmp_ge (tgt := 20) C dJ7_fill_53178_7 (by decide) (fun c1 => ?_) (fun c1 => ?_)
    · replace h := (if_pos c1).symm.trans h
      obtain rfl := Option.some.inj h
      exact wa_vret C dJ7_fill_53178_20
    · replace h := (if_neg c1).symm.trans h
      refine wa_aload_n C dJ7_fill_53178_10 rfl ?_
      refine wa_iload_n C dJ7_fill_53178_11 rfl ?_
      refine wa_iload_n C dJ7_fill_53178_12 rfl ?_
      obtain ⟨g2, h⟩ := gd h
      refine wa_iast (j := (a2.toNatClampNeg)) C rfl (by decide) g2 rfl dJ7_fill_53178_13 ?_
      refine wa_iinc (v := (a2 + 1)) C dJ7_fill_53178_14 rfl rfl (by decide) ?_
      refine wa_goto (tgt := 5) C dJ7_fill_53178_17 (by decide) ?_
      exact WA.sub (lsub_c rfl (lsub_c rfl (lsub_c rfl (lsub_c rfl lsub_n)))) (ih _ _ h)
set_option maxRecDepth 100000 in
set_option maxHeartbeats 4000000 in
theorem r_J7_fill_53178_34 {a1 : Int32} {μ : Mem} {ρ : Mem} (h : f_J7_fill_53178_34 a1 μ = some ρ) : HT 0 yJ7_fill_53178 cJ7_fill_53178 4 none [.ref 34, .int a1] μ none ρ := by
  refine HT.of (by decide +kernel) (Nat.le_of_ble_eq_true rfl) (fun C => ?_)
  unfold f_J7_fill_53178_34 at h
  refine wa_iconst (v := 0) C dJ7_fill_53178_0 (by decide) ?_
  refine wa_istore_n C dJ7_fill_53178_1 (by decide) ?_
  refine wa_aload_n C dJ7_fill_53178_2 rfl ?_
  refine wa_alen (v := 40) C rfl (by decide) (by decide) rfl dJ7_fill_53178_3 ?_
  refine wa_istore_n C dJ7_fill_53178_4 (by decide) ?_
  exact WA.sub (lsub_c rfl (lsub_c rfl (lsub_c rfl (lsub_c rfl lsub_n)))) (r_J7_fill_53178_34_L5 C _ _ _ _ _ h)
def f_X6_begin_33 (a1 : Int32) (a2 : Int32) (μ : Mem) : Option Mem :=
  (f_J7_fill_53178_34 (0 : Int32) (pI (pI μ 33 0 a1) 33 1 a2)).bind fun q1 =>
  some q1
set_option maxRecDepth 100000 in
set_option maxHeartbeats 4000000 in
theorem r_X6_begin_33 {a1 : Int32} {a2 : Int32} {μ : Mem} {ρ : Mem} (h : f_X6_begin_33 a1 a2 μ = some ρ) : HT 1 yX6_begin cX6_begin 3 none [.ref 33, .int a1, .int a2] μ none ρ := by
  refine HT.of (by decide +kernel) (Nat.le_of_ble_eq_true rfl) (fun C => ?_)
  unfold f_X6_begin_33 at h
  refine wa_aload_n C dX6_begin_0 rfl ?_
  refine wa_iload_n C dX6_begin_1 rfl ?_
  refine wa_puti C fl_RX6_9 fp_6_0 rfl rfl (by decide) rfl rfl dX6_begin_2 ?_
  refine wa_aload_n C dX6_begin_5 rfl ?_
  refine wa_iload_n C dX6_begin_6 rfl ?_
  refine wa_puti C fl_RX6_15 fp_6_1 rfl rfl (by decide) rfl rfl dX6_begin_7 ?_
  refine wa_aload_n C dX6_begin_10 rfl ?_
  refine wa_getr C fl_RX6_18 rfl rfl (by decide) dX6_begin_11 ?_
  refine wa_iconst (v := 0) C dX6_begin_14 (by decide) ?_
  obtain ⟨q1, hq1, h⟩ := bd h
  refine wa_callS C (r_J7_fill_53178_34 hq1) mk_J7_fill_53178 ms_J7_fill_53178 qw_1077 rfl ⟨Nat.le_of_ble_eq_true rfl, Nat.le_of_ble_eq_true rfl⟩ ⟨Nat.zero_le _, Nat.zero_le _⟩ (Nat.le_of_ble_eq_true rfl) dX6_begin_15 rfl ?_
  obtain rfl := Option.some.inj h
  exact wa_vret C dX6_begin_18
def f_X9_sheet_0 (a1 : Int32) (a2 : Int32) (a3 : Int32) (μ : Mem) : Option (Int32 × Mem) :=
  (f_X9_isSheet a1 μ).bind fun q1 =>
  if q1.1 = 0 then
    some ((-1 : Int32), q1.2)
  else
    (f_X9_isLane a2 q1.2).bind fun q3 =>
    if q3.1 = 0 then
      some ((-1 : Int32), q3.2)
    else
      if a3 ≤ (40 : Int32) then
        if 0 ≤ a3 then
          if a1 = 0 then
            (f_X6_begin_27 a2 a3 q3.2).bind fun q8 =>
            some ((1 : Int32), q8)
          else
          if a1 = 1 then
            (f_X6_begin_29 a2 a3 q3.2).bind fun q10 =>
            some ((1 : Int32), q10)
          else
          if a1 = 2 then
            (f_X6_begin_31 a2 a3 q3.2).bind fun q12 =>
            some ((1 : Int32), q12)
          else
          if a1 = 3 then
            (f_X6_begin_33 a2 a3 q3.2).bind fun q14 =>
            some ((1 : Int32), q14)
          else
          none
        else
          some ((-14 : Int32), q3.2)
      else
        some ((-1 : Int32), q3.2)
set_option maxRecDepth 100000 in
set_option maxHeartbeats 4000000 in
theorem r_X9_sheet_0 {a1 : Int32} {a2 : Int32} {a3 : Int32} {μ : Mem} {ρ : (Int32 × Mem)} (h : f_X9_sheet_0 a1 a2 a3 μ = some ρ) : HT 2 yX9_sheet cX9_sheet 4 (some .int) [.ref 0, .int a1, .int a2, .int a3] μ (some (.int ρ.1)) ρ.2 := by
  refine HT.of (by decide +kernel) (Nat.le_of_ble_eq_true rfl) (fun C => ?_)
  unfold f_X9_sheet_0 at h
  refine wa_iload_n C dX9_sheet_0 rfl ?_
  obtain ⟨q1, hq1, h⟩ := bd h
  refine wa_callS C (r_X9_isSheet hq1) mk_X9_isSheet ms_X9_isSheet qw_1067 rfl ⟨Nat.le_of_ble_eq_true rfl, Nat.le_of_ble_eq_true rfl⟩ ⟨Nat.zero_le _, Nat.zero_le _⟩ (Nat.le_of_ble_eq_true rfl) dX9_sheet_1 rfl ?_
  refine wa_if_eq (tgt := 20) C dX9_sheet_4 (by decide) (fun c2 => ?_) (fun c2 => ?_)
  · replace h := (if_pos c2).symm.trans h
    refine wa_iconst (v := -1) C dX9_sheet_20 (by decide) ?_
    obtain rfl := Option.some.inj h
    exact wa_iret C dX9_sheet_21
  · replace h := (if_neg c2).symm.trans h
    refine wa_iload_n C dX9_sheet_7 rfl ?_
    obtain ⟨q3, hq3, h⟩ := bd h
    refine wa_callS C (r_X9_isLane hq3) mk_X9_isLane ms_X9_isLane qw_1070 rfl ⟨Nat.le_of_ble_eq_true rfl, Nat.le_of_ble_eq_true rfl⟩ ⟨Nat.zero_le _, Nat.zero_le _⟩ (Nat.le_of_ble_eq_true rfl) dX9_sheet_8 rfl ?_
    refine wa_if_eq (tgt := 20) C dX9_sheet_11 (by decide) (fun c4 => ?_) (fun c4 => ?_)
    · replace h := (if_pos c4).symm.trans h
      refine wa_iconst (v := -1) C dX9_sheet_20 (by decide) ?_
      obtain rfl := Option.some.inj h
      exact wa_iret C dX9_sheet_21
    · replace h := (if_neg c4).symm.trans h
      refine wa_iload_n C dX9_sheet_14 rfl ?_
      refine wa_bipush (v := 40) C dX9_sheet_15 (by decide) ?_
      refine wa_icmp_le (tgt := 22) C dX9_sheet_17 (by decide) (fun c5 => ?_) (fun c5 => ?_)
      · replace h := (if_pos c5).symm.trans h
        refine wa_iload_n C dX9_sheet_22 rfl ?_
        refine wa_if_ge (tgt := 29) C dX9_sheet_23 (by decide) (fun c6 => ?_) (fun c6 => ?_)
        · replace h := (if_pos c6).symm.trans h
          refine wa_aload_n C dX9_sheet_29 rfl ?_
          refine wa_getr C fl_RX9_30 rfl rfl (by decide) dX9_sheet_30 ?_
          refine wa_iload_n C dX9_sheet_33 rfl ?_
          by_cases c7 : a1 = 0
          · replace h := (if_pos c7).symm.trans h
            refine wa_aald5 (j := 0) (q := 27) C (by rw [c7]; rfl) (by rw [c7]; rfl) rfl dX9_sheet_34 ?_
            refine wa_iload_n C dX9_sheet_35 rfl ?_
            refine wa_iload_n C dX9_sheet_36 rfl ?_
            obtain ⟨q8, hq8, h⟩ := bd h
            refine wa_callV C (r_X6_begin_27 hq8) mk_X6_begin mv_X6_begin qw_1073 rfl (by decide) rfl rfl ⟨Nat.le_of_ble_eq_true rfl, Nat.le_of_ble_eq_true rfl⟩ ⟨Nat.zero_le _, Nat.zero_le _⟩ (Nat.le_of_ble_eq_true rfl) dX9_sheet_37 rfl ?_
            refine wa_iconst (v := 1) C dX9_sheet_40 (by decide) ?_
            obtain rfl := Option.some.inj h
            exact wa_iret C dX9_sheet_41
          replace h := (if_neg c7).symm.trans h
          by_cases c9 : a1 = 1
          · replace h := (if_pos c9).symm.trans h
            refine wa_aald5 (j := 1) (q := 29) C (by rw [c9]; rfl) (by rw [c9]; rfl) rfl dX9_sheet_34 ?_
            refine wa_iload_n C dX9_sheet_35 rfl ?_
            refine wa_iload_n C dX9_sheet_36 rfl ?_
            obtain ⟨q10, hq10, h⟩ := bd h
            refine wa_callV C (r_X6_begin_29 hq10) mk_X6_begin mv_X6_begin qw_1073 rfl (by decide) rfl rfl ⟨Nat.le_of_ble_eq_true rfl, Nat.le_of_ble_eq_true rfl⟩ ⟨Nat.zero_le _, Nat.zero_le _⟩ (Nat.le_of_ble_eq_true rfl) dX9_sheet_37 rfl ?_
            refine wa_iconst (v := 1) C dX9_sheet_40 (by decide) ?_
            obtain rfl := Option.some.inj h
            exact wa_iret C dX9_sheet_41
          replace h := (if_neg c9).symm.trans h
          by_cases c11 : a1 = 2
          · replace h := (if_pos c11).symm.trans h
            refine wa_aald5 (j := 2) (q := 31) C (by rw [c11]; rfl) (by rw [c11]; rfl) rfl dX9_sheet_34 ?_
            refine wa_iload_n C dX9_sheet_35 rfl ?_
            refine wa_iload_n C dX9_sheet_36 rfl ?_
            obtain ⟨q12, hq12, h⟩ := bd h
            refine wa_callV C (r_X6_begin_31 hq12) mk_X6_begin mv_X6_begin qw_1073 rfl (by decide) rfl rfl ⟨Nat.le_of_ble_eq_true rfl, Nat.le_of_ble_eq_true rfl⟩ ⟨Nat.zero_le _, Nat.zero_le _⟩ (Nat.le_of_ble_eq_true rfl) dX9_sheet_37 rfl ?_
            refine wa_iconst (v := 1) C dX9_sheet_40 (by decide) ?_
            obtain rfl := Option.some.inj h
            exact wa_iret C dX9_sheet_41
          replace h := (if_neg c11).symm.trans h
          by_cases c13 : a1 = 3
          · replace h := (if_pos c13).symm.trans h
            refine wa_aald5 (j := 3) (q := 33) C (by rw [c13]; rfl) (by rw [c13]; rfl) rfl dX9_sheet_34 ?_
            refine wa_iload_n C dX9_sheet_35 rfl ?_
            refine wa_iload_n C dX9_sheet_36 rfl ?_
            obtain ⟨q14, hq14, h⟩ := bd h
            refine wa_callV C (r_X6_begin_33 hq14) mk_X6_begin mv_X6_begin qw_1073 rfl (by decide) rfl rfl ⟨Nat.le_of_ble_eq_true rfl, Nat.le_of_ble_eq_true rfl⟩ ⟨Nat.zero_le _, Nat.zero_le _⟩ (Nat.le_of_ble_eq_true rfl) dX9_sheet_37 rfl ?_
            refine wa_iconst (v := 1) C dX9_sheet_40 (by decide) ?_
            obtain rfl := Option.some.inj h
            exact wa_iret C dX9_sheet_41
          replace h := (if_neg c13).symm.trans h
          cases h
        · replace h := (if_neg c6).symm.trans h
          refine wa_bipush (v := -14) C dX9_sheet_26 (by decide) ?_
          obtain rfl := Option.some.inj h
          exact wa_iret C dX9_sheet_28
      · replace h := (if_neg c5).symm.trans h
        refine wa_iconst (v := -1) C dX9_sheet_20 (by decide) ?_
        obtain rfl := Option.some.inj h
        exact wa_iret C dX9_sheet_21
def f_X10_isSheet (a0 : Int32) (a1 : Int32) (μ : Mem) : Option (Int32 × Mem) :=
  (f_X10_in (a0.toInt64) (0 : Int64) (3 : Int64) μ).bind fun q1 =>
  if q1.1 = 0 then
    some ((0 : Int32), q1.2)
  else
    (f_X10_in (a1.toInt64) (0 : Int64) (2 : Int64) q1.2).bind fun q3 =>
    if q3.1 = 0 then
      some ((0 : Int32), q3.2)
    else
      some ((1 : Int32), q3.2)
set_option maxRecDepth 100000 in
set_option maxHeartbeats 4000000 in
theorem r_X10_isSheet {a0 : Int32} {a1 : Int32} {μ : Mem} {ρ : (Int32 × Mem)} (h : f_X10_isSheet a0 a1 μ = some ρ) : HT 1 yX10_isSheet cX10_isSheet 2 (some .boolean) [.int a0, .int a1] μ (some (.int ρ.1)) ρ.2 := by
  refine HT.of (by decide +kernel) (Nat.le_of_ble_eq_true rfl) (fun C => ?_)
  unfold f_X10_isSheet at h
  refine wa_iload_n C dX10_isSheet_0 rfl ?_
  refine wa_i2l (v := (a0.toInt64)) C dX10_isSheet_1 rfl ?_
  refine wa_lconst (v := 0) C dX10_isSheet_2 (by decide) ?_
  refine wa_ldc2 (v := 3) C qw_557 dX10_isSheet_3 ?_
  obtain ⟨q1, hq1, h⟩ := bd h
  refine wa_callS C (r_X10_in hq1) mk_X10_in ms_X10_in qw_198 rfl ⟨Nat.le_of_ble_eq_true rfl, Nat.le_of_ble_eq_true rfl⟩ ⟨Nat.zero_le _, Nat.zero_le _⟩ (Nat.le_of_ble_eq_true rfl) dX10_isSheet_6 rfl ?_
  refine wa_if_eq (tgt := 28) C dX10_isSheet_9 (by decide) (fun c2 => ?_) (fun c2 => ?_)
  · replace h := (if_pos c2).symm.trans h
    refine wa_iconst (v := 0) C dX10_isSheet_28 (by decide) ?_
    obtain rfl := Option.some.inj h
    exact wa_zret C rfl dX10_isSheet_29
  · replace h := (if_neg c2).symm.trans h
    refine wa_iload_n C dX10_isSheet_12 rfl ?_
    refine wa_i2l (v := (a1.toInt64)) C dX10_isSheet_13 rfl ?_
    refine wa_lconst (v := 0) C dX10_isSheet_14 (by decide) ?_
    refine wa_ldc2 (v := 2) C qw_1085 dX10_isSheet_15 ?_
    obtain ⟨q3, hq3, h⟩ := bd h
    refine wa_callS C (r_X10_in hq3) mk_X10_in ms_X10_in qw_198 rfl ⟨Nat.le_of_ble_eq_true rfl, Nat.le_of_ble_eq_true rfl⟩ ⟨Nat.zero_le _, Nat.zero_le _⟩ (Nat.le_of_ble_eq_true rfl) dX10_isSheet_18 rfl ?_
    refine wa_if_eq (tgt := 28) C dX10_isSheet_21 (by decide) (fun c4 => ?_) (fun c4 => ?_)
    · replace h := (if_pos c4).symm.trans h
      refine wa_iconst (v := 0) C dX10_isSheet_28 (by decide) ?_
      obtain rfl := Option.some.inj h
      exact wa_zret C rfl dX10_isSheet_29
    · replace h := (if_neg c4).symm.trans h
      refine wa_iconst (v := 1) C dX10_isSheet_24 (by decide) ?_
      refine wa_goto (tgt := 29) C dX10_isSheet_25 (by decide) ?_
      obtain rfl := Option.some.inj h
      exact wa_zret C rfl dX10_isSheet_29
