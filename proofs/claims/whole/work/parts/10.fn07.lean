def f_X10_best_62_J32 (a2 : Int32) (μ : Mem) : Option (Int32 × Mem) :=
  some (a2, μ)
def f_X10_best_62_J49 (a1 : Int32) (t1 : Int32) (μ : Mem) : Option (Int32 × Mem) :=
  (f_X10_rowAt_62 t1 (a1 - (10 : Int32)) μ).bind fun q6 =>
  some (q6.1, q6.2)
def f_X10_best_62_J17 (a1 : Int32) (μ : Mem) : Option (Int32 × Mem) :=
  (f_X10_bestRest_62 μ).bind fun q2 =>
  if q2.1 = (-4 : Int32) then
    f_X10_best_62_J32 q2.1 q2.2
  else
    if a1 = 0 then
      f_X10_best_62_J32 q2.1 q2.2
    else
      if (q2.2.1 62 28) = 0 then
        f_X10_best_62_J49 a1 (0 : Int32) q2.2
      else
        f_X10_best_62_J49 a1 q2.1 q2.2
def f_X10_best_62 (a1 : Int32) (μ : Mem) : Option (Int32 × Mem) :=
  if a1 = 0 then
    f_X10_best_62_J17 a1 μ
  else
    (f_X10_isQuarter_62 (a1 - (10 : Int32)) μ).bind fun q7 =>
    if q7.1 = 0 then
      some ((-1 : Int32), q7.2)
    else
      f_X10_best_62_J17 a1 q7.2
set_option maxRecDepth 100000 in
set_option maxHeartbeats 4000000 in
theorem r_X10_best_62_J32 {p : Program} {l : Launch} {e : Env} {s : State} {m : MethodId} {args : Array Value} {below : List Frame} {meth : Method} {c : Code} {D : va_G} {cy : Nat → ClassId} {ad : Nat → Nat} (C : CX p s m args meth c cX10_best 3 RX10 (some .int) D cy ad (AD ad)) {a2 : Int32} {μ : Mem} {ρ : (Int32 × Mem)} (h : f_X10_best_62_J32 a2 μ = some ρ) : WA p l e (rmD 5) s m args below meth c 3 D cy ad (AD ad) 0 0 (ZZ below args s D cy ad (AD ad) 0 0 (some (.int ρ.1)) ρ.2) μ [(2, .int a2)] 32 [] := by
  unfold f_X10_best_62_J32 at h
  refine wa_iload_n C dX10_best_32 rfl ?_
  refine wa_goto (tgt := 56) C dX10_best_33 (by decide) ?_
  obtain rfl := Option.some.inj h
  exact wa_iret C dX10_best_56
set_option maxRecDepth 100000 in
set_option maxHeartbeats 4000000 in
theorem r_X10_best_62_J49 {p : Program} {l : Launch} {e : Env} {s : State} {m : MethodId} {args : Array Value} {below : List Frame} {meth : Method} {c : Code} {D : va_G} {cy : Nat → ClassId} {ad : Nat → Nat} (C : CX p s m args meth c cX10_best 3 RX10 (some .int) D cy ad (AD ad)) {a1 : Int32} {t1 : Int32} {μ : Mem} {ρ : (Int32 × Mem)} (h : f_X10_best_62_J49 a1 t1 μ = some ρ) : WA p l e (rmD 5) s m args below meth c 3 D cy ad (AD ad) 0 0 (ZZ below args s D cy ad (AD ad) 0 0 (some (.int ρ.1)) ρ.2) μ [(1, .int a1)] 49 [.int t1, .ref 62] := by
  unfold f_X10_best_62_J49 at h
  refine wa_iload_n C dX10_best_49 rfl ?_
  refine wa_bipush (v := 10) C dX10_best_50 (by decide) ?_
  refine wa_isub C dX10_best_52 ?_
  obtain ⟨q6, hq6, h⟩ := bd h
  refine wa_callV C (r_X10_rowAt_62 hq6) mk_X10_rowAt mv_X10_rowAt qw_852 rfl (by decide) rfl rfl ⟨Nat.le_of_ble_eq_true rfl, Nat.le_of_ble_eq_true rfl⟩ ⟨Nat.zero_le _, Nat.zero_le _⟩ (Nat.le_of_ble_eq_true rfl) dX10_best_53 rfl ?_
  obtain rfl := Option.some.inj h
  exact wa_iret C dX10_best_56
set_option maxRecDepth 100000 in
set_option maxHeartbeats 4000000 in
theorem r_X10_best_62_J17 {p : Program} {l : Launch} {e : Env} {s : State} {m : MethodId} {args : Array Value} {below : List Frame} {meth : Method} {c : Code} {D : va_G} {cy : Nat → ClassId} {ad : Nat → Nat} (C : CX p s m args meth c cX10_best 3 RX10 (some .int) D cy ad (AD ad)) {a1 : Int32} {μ : Mem} {ρ : (Int32 × Mem)} (h : f_X10_best_62_J17 a1 μ = some ρ) : WA p l e (rmD 5) s m args below meth c 3 D cy ad (AD ad) 0 0 (ZZ below args s D cy ad (AD ad) 0 0 (some (.int ρ.1)) ρ.2) μ [(0, .ref 62), (1, .int a1)] 17 [] := by
  unfold f_X10_best_62_J17 at h
  refine wa_aload_n C dX10_best_17 rfl ?_
  obtain ⟨q2, hq2, h⟩ := bd h
  refine wa_callV C (r_X10_bestRest_62 hq2) mk_X10_bestRest mv_X10_bestRest qw_909 rfl (by decide) rfl rfl ⟨Nat.le_of_ble_eq_true rfl, Nat.le_of_ble_eq_true rfl⟩ ⟨Nat.zero_le _, Nat.zero_le _⟩ (Nat.le_of_ble_eq_true rfl) dX10_best_18 rfl ?_
  refine wa_istore_n C dX10_best_21 (by decide) ?_
  refine wa_iload_n C dX10_best_22 rfl ?_
  refine wa_bipush (v := -4) C dX10_best_23 (by decide) ?_
  refine wa_icmp_eq (tgt := 32) C dX10_best_25 (by decide) (fun c3 => ?_) (fun c3 => ?_)
  · replace h := (if_pos c3).symm.trans h
    exact WA.sub (lsub_c rfl lsub_n) (r_X10_best_62_J32 C h)
  · replace h := (if_neg c3).symm.trans h
    refine wa_iload_n C dX10_best_28 rfl ?_
    refine wa_if_ne (tgt := 36) C dX10_best_29 (by decide) (fun c4 => ?_) (fun c4 => ?_)
    · replace h := (if_neg c4).symm.trans h
      refine wa_aload_n C dX10_best_36 rfl ?_
      refine wa_aload_n C dX10_best_37 rfl ?_
      refine wa_geti (x := (q2.2.1 62 28)) C fl_RX10_273 rfl rfl (by decide) rfl dX10_best_38 ?_
      refine wa_if_ne (tgt := 48) C dX10_best_41 (by decide) (fun c5 => ?_) (fun c5 => ?_)
      · replace h := (if_neg c5).symm.trans h
        refine wa_iload_n C dX10_best_48 rfl ?_
        exact WA.sub (lsub_c rfl lsub_n) (r_X10_best_62_J49 C h)
      · replace h := (if_pos c5).symm.trans h
        refine wa_iconst (v := 0) C dX10_best_44 (by decide) ?_
        refine wa_goto (tgt := 49) C dX10_best_45 (by decide) ?_
        exact WA.sub (lsub_c rfl lsub_n) (r_X10_best_62_J49 C h)
    · replace h := (if_pos c4).symm.trans h
      exact WA.sub (lsub_c rfl lsub_n) (r_X10_best_62_J32 C h)
set_option maxRecDepth 100000 in
set_option maxHeartbeats 4000000 in
theorem r_X10_best_62 {a1 : Int32} {μ : Mem} {ρ : (Int32 × Mem)} (h : f_X10_best_62 a1 μ = some ρ) : HT 5 yX10_best cX10_best 3 (some .int) [.ref 62, .int a1] μ (some (.int ρ.1)) ρ.2 := by
  refine HT.of (by decide +kernel) (Nat.le_of_ble_eq_true rfl) (fun C => ?_)
  unfold f_X10_best_62 at h
  refine wa_iload_n C dX10_best_0 rfl ?_
  refine wa_if_eq (tgt := 17) C dX10_best_1 (by decide) (fun c1 => ?_) (fun c1 => ?_)
  · replace h := (if_pos c1).symm.trans h
    exact WA.sub (lsub_c rfl (lsub_c rfl lsub_n)) (r_X10_best_62_J17 C h)
  · replace h := (if_neg c1).symm.trans h
    refine wa_aload_n C dX10_best_4 rfl ?_
    refine wa_iload_n C dX10_best_5 rfl ?_
    refine wa_bipush (v := 10) C dX10_best_6 (by decide) ?_
    refine wa_isub C dX10_best_8 ?_
    obtain ⟨q7, hq7, h⟩ := bd h
    refine wa_callV C (r_X10_isQuarter_62 hq7) mk_X10_isQuarter mv_X10_isQuarter qw_558 rfl (by decide) rfl rfl ⟨Nat.le_of_ble_eq_true rfl, Nat.le_of_ble_eq_true rfl⟩ ⟨Nat.zero_le _, Nat.zero_le _⟩ (Nat.le_of_ble_eq_true rfl) dX10_best_9 rfl ?_
    refine wa_if_ne (tgt := 17) C dX10_best_12 (by decide) (fun c8 => ?_) (fun c8 => ?_)
    · replace h := (if_neg c8).symm.trans h
      exact WA.sub (lsub_c rfl (lsub_c rfl lsub_n)) (r_X10_best_62_J17 C h)
    · replace h := (if_pos c8).symm.trans h
      refine wa_iconst (v := -1) C dX10_best_15 (by decide) ?_
      obtain rfl := Option.some.inj h
      exact wa_iret C dX10_best_16
def f_X9_without_0 (a1 : Int32) (μ : Mem) : Option (Int32 × Mem) :=
  (f_X1_hasSister_1 a1 μ).bind fun q1 =>
  if q1.1 = 0 then
    some ((-1 : Int32), q1.2)
  else
    (f_X1_everybody_1 q1.2).bind fun q3 =>
    (f_X7_look_47_1_5 (q3.1 &&& (((1 : Int32) <<< (a1 &&& 31)) ^^^ (-1 : Int32))) q3.2).bind fun q4 =>
    (f_X3_prepare_51_1_4_47 q4).bind fun q5 =>
    (f_X3_greatest_51 (-1 : Int32) q5).bind fun q6 =>
    if 0 ≤ q6.1 then
      some (q6.1, q6.2)
    else
      some ((-4 : Int32), q6.2)
set_option maxRecDepth 100000 in
set_option maxHeartbeats 4000000 in
theorem r_X9_without_0 {a1 : Int32} {μ : Mem} {ρ : (Int32 × Mem)} (h : f_X9_without_0 a1 μ = some ρ) : HT 17 yX9_without cX9_without 3 (some .int) [.ref 0, .int a1] μ (some (.int ρ.1)) ρ.2 := by
  refine HT.of (by decide +kernel) (Nat.le_of_ble_eq_true rfl) (fun C => ?_)
  unfold f_X9_without_0 at h
  refine wa_aload_n C dX9_without_0 rfl ?_
  refine wa_getr C fl_RX9_10 rfl rfl (by decide) dX9_without_1 ?_
  refine wa_iload_n C dX9_without_4 rfl ?_
  obtain ⟨q1, hq1, h⟩ := bd h
  refine wa_callV C (r_X1_hasSister_1 hq1) mk_X1_hasSister mv_X1_hasSister qw_483 rfl (by decide) rfl rfl ⟨Nat.le_of_ble_eq_true rfl, Nat.le_of_ble_eq_true rfl⟩ ⟨Nat.zero_le _, Nat.zero_le _⟩ (Nat.le_of_ble_eq_true rfl) dX9_without_5 rfl ?_
  refine wa_if_ne (tgt := 13) C dX9_without_8 (by decide) (fun c2 => ?_) (fun c2 => ?_)
  · replace h := (if_neg c2).symm.trans h
    refine wa_aload_n C dX9_without_13 rfl ?_
    refine wa_getr C fl_RX9_44 rfl rfl (by decide) dX9_without_14 ?_
    refine wa_aload_n C dX9_without_17 rfl ?_
    refine wa_getr C fl_RX9_10 rfl rfl (by decide) dX9_without_18 ?_
    refine wa_aload_n C dX9_without_21 rfl ?_
    refine wa_getr C fl_RX9_19 rfl rfl (by decide) dX9_without_22 ?_
    refine wa_getr C fl_RX9_129 rfl rfl (by decide) dX9_without_25 ?_
    refine wa_aload_n C dX9_without_28 rfl ?_
    refine wa_getr C fl_RX9_10 rfl rfl (by decide) dX9_without_29 ?_
    obtain ⟨q3, hq3, h⟩ := bd h
    refine wa_callV C (r_X1_everybody_1 hq3) mk_X1_everybody mv_X1_everybody qw_512 rfl (by decide) rfl rfl ⟨Nat.le_of_ble_eq_true rfl, Nat.le_of_ble_eq_true rfl⟩ ⟨Nat.zero_le _, Nat.zero_le _⟩ (Nat.le_of_ble_eq_true rfl) dX9_without_32 rfl ?_
    refine wa_iconst (v := 1) C dX9_without_35 (by decide) ?_
    refine wa_iload_n C dX9_without_36 rfl ?_
    refine wa_ishl C dX9_without_37 ?_
    refine wa_iconst (v := -1) C dX9_without_38 (by decide) ?_
    refine wa_ixor C dX9_without_39 ?_
    refine wa_iand C dX9_without_40 ?_
    obtain ⟨q4, hq4, h⟩ := bd h
    refine wa_callV C (r_X7_look_47_1_5 hq4) mk_X7_look mv_X7_look qw_516 rfl (by decide) rfl rfl ⟨Nat.le_of_ble_eq_true rfl, Nat.le_of_ble_eq_true rfl⟩ ⟨Nat.zero_le _, Nat.zero_le _⟩ (Nat.le_of_ble_eq_true rfl) dX9_without_41 rfl ?_
    refine wa_aload_n C dX9_without_44 rfl ?_
    refine wa_getr C fl_RX9_58 rfl rfl (by decide) dX9_without_45 ?_
    refine wa_aload_n C dX9_without_48 rfl ?_
    refine wa_getr C fl_RX9_10 rfl rfl (by decide) dX9_without_49 ?_
    refine wa_aload_n C dX9_without_52 rfl ?_
    refine wa_getr C fl_RX9_19 rfl rfl (by decide) dX9_without_53 ?_
    refine wa_aload_n C dX9_without_56 rfl ?_
    refine wa_getr C fl_RX9_44 rfl rfl (by decide) dX9_without_57 ?_
    obtain ⟨q5, hq5, h⟩ := bd h
    refine wa_callV C (r_X3_prepare_51_1_4_47 hq5) mk_X3_prepare mv_X3_prepare qw_861 rfl (by decide) rfl rfl ⟨Nat.le_of_ble_eq_true rfl, Nat.le_of_ble_eq_true rfl⟩ ⟨Nat.zero_le _, Nat.zero_le _⟩ (Nat.le_of_ble_eq_true rfl) dX9_without_60 rfl ?_
    refine wa_aload_n C dX9_without_63 rfl ?_
    refine wa_getr C fl_RX9_58 rfl rfl (by decide) dX9_without_64 ?_
    refine wa_iconst (v := -1) C dX9_without_67 (by decide) ?_
    obtain ⟨q6, hq6, h⟩ := bd h
    refine wa_callV C (r_X3_greatest_51 hq6) mk_X3_greatest mv_X3_greatest qw_878 rfl (by decide) rfl rfl ⟨Nat.le_of_ble_eq_true rfl, Nat.le_of_ble_eq_true rfl⟩ ⟨Nat.zero_le _, Nat.zero_le _⟩ (Nat.le_of_ble_eq_true rfl) dX9_without_68 rfl ?_
    refine wa_istore_n C dX9_without_71 (by decide) ?_
    refine wa_iload_n C dX9_without_72 rfl ?_
    refine wa_if_ge (tgt := 81) C dX9_without_73 (by decide) (fun c7 => ?_) (fun c7 => ?_)
    · replace h := (if_pos c7).symm.trans h
      refine wa_iload_n C dX9_without_81 rfl ?_
      obtain rfl := Option.some.inj h
      exact wa_iret C dX9_without_82
    · replace h := (if_neg c7).symm.trans h
      refine wa_bipush (v := -4) C dX9_without_76 (by decide) ?_
      refine wa_goto (tgt := 82) C dX9_without_78 (by decide) ?_
      obtain rfl := Option.some.inj h
      exact wa_iret C dX9_without_82
  · replace h := (if_pos c2).symm.trans h
    refine wa_iconst (v := -1) C dX9_without_11 (by decide) ?_
    obtain rfl := Option.some.inj h
    exact wa_iret C dX9_without_12
def f_X10_without_62 (a1 : Int32) (μ : Mem) : Option (Int32 × Mem) :=
  (f_X10_isSister_62 a1 μ).bind fun q1 =>
  if q1.1 = 0 then
    some ((-1 : Int32), q1.2)
  else
    (f_X10_bestRest_62 (pI q1.2 62 26 (a1 + (1 : Int32)))).bind fun q3 =>
    some (q3.1, (pI q3.2 62 26 (0 : Int32)))
set_option maxRecDepth 100000 in
set_option maxHeartbeats 4000000 in
theorem r_X10_without_62 {a1 : Int32} {μ : Mem} {ρ : (Int32 × Mem)} (h : f_X10_without_62 a1 μ = some ρ) : HT 5 yX10_without cX10_without 3 (some .int) [.ref 62, .int a1] μ (some (.int ρ.1)) ρ.2 := by
  refine HT.of (by decide +kernel) (Nat.le_of_ble_eq_true rfl) (fun C => ?_)
  unfold f_X10_without_62 at h
  refine wa_aload_n C dX10_without_0 rfl ?_
  refine wa_iload_n C dX10_without_1 rfl ?_
  obtain ⟨q1, hq1, h⟩ := bd h
  refine wa_callV C (r_X10_isSister_62 hq1) mk_X10_isSister mv_X10_isSister qw_494 rfl (by decide) rfl rfl ⟨Nat.le_of_ble_eq_true rfl, Nat.le_of_ble_eq_true rfl⟩ ⟨Nat.zero_le _, Nat.zero_le _⟩ (Nat.le_of_ble_eq_true rfl) dX10_without_2 rfl ?_
  refine wa_if_ne (tgt := 10) C dX10_without_5 (by decide) (fun c2 => ?_) (fun c2 => ?_)
  · replace h := (if_neg c2).symm.trans h
    refine wa_aload_n C dX10_without_10 rfl ?_
    refine wa_iload_n C dX10_without_11 rfl ?_
    refine wa_iconst (v := 1) C dX10_without_12 (by decide) ?_
    refine wa_iadd C dX10_without_13 ?_
    refine wa_puti C fl_RX10_225 fp_10_26 rfl rfl (by decide) rfl rfl dX10_without_14 ?_
    refine wa_aload_n C dX10_without_17 rfl ?_
    obtain ⟨q3, hq3, h⟩ := bd h
    refine wa_callV C (r_X10_bestRest_62 hq3) mk_X10_bestRest mv_X10_bestRest qw_909 rfl (by decide) rfl rfl ⟨Nat.le_of_ble_eq_true rfl, Nat.le_of_ble_eq_true rfl⟩ ⟨Nat.zero_le _, Nat.zero_le _⟩ (Nat.le_of_ble_eq_true rfl) dX10_without_18 rfl ?_
    refine wa_istore_n C dX10_without_21 (by decide) ?_
    refine wa_aload_n C dX10_without_22 rfl ?_
    refine wa_iconst (v := 0) C dX10_without_23 (by decide) ?_
    refine wa_puti C fl_RX10_225 fp_10_26 rfl rfl (by decide) rfl rfl dX10_without_24 ?_
    refine wa_iload_n C dX10_without_27 rfl ?_
    obtain rfl := Option.some.inj h
    exact wa_iret C dX10_without_28
  · replace h := (if_pos c2).symm.trans h
    refine wa_iconst (v := -1) C dX10_without_8 (by decide) ?_
    obtain rfl := Option.some.inj h
    exact wa_iret C dX10_without_9
def f_X9_layBeds_0_L2 (a1 : Int32) (k2 : Int32 → Mem → Option Mem) (a2 : Int32) (μ : Mem) : Option Mem :=
    if (μ.1 1 0) ≤ a2 then
      some μ
    else
      if inb a2 3 = false then none else
      k2 (a2 + 1) (pI μ 61 (a2.toNatClampNeg) ((a1 >>> (((2 : Int32) * (((μ.1 1 0) - (1 : Int32)) - a2)) &&& 31)) &&& (3 : Int32)))
def f_X9_layBeds_0 (a1 : Int32) (μ : Mem) : Option Mem :=
  it2 (f_X9_layBeds_0_L2 a1) FU (0 : Int32) μ
set_option maxRecDepth 100000 in
set_option maxHeartbeats 4000000 in
theorem r_X9_layBeds_0_L2 {p : Program} {l : Launch} {e : Env} {s : State} {m : MethodId} {args : Array Value} {below : List Frame} {meth : Method} {c : Code} {D : va_G} {cy : Nat → ClassId} {ad : Nat → Nat} (C : CX p s m args meth c cX9_layBeds 3 RX9 none D cy ad (AD ad)) (a1 : Int32) {ρ : Mem} : ∀ (n : Nat) (a2 : Int32) (μ : Mem), it2 (f_X9_layBeds_0_L2 a1) n a2 μ = some ρ → WA p l e (rmD 0) s m args below meth c 3 D cy ad (AD ad) 0 0 (ZZ below args s D cy ad (AD ad) 0 0 none ρ) μ [(0, .ref 0), (1, .int a1), (2, .int a2)] 2 [] := by
  intro n
  induction n with
  | zero =>
    intro a2 μ h
    exact absurd h (fun h => by cases h)
  | succ n ih =>
    intro a2 μ h
    replace h : f_X9_layBeds_0_L2 a1 (it2 (f_X9_layBeds_0_L2 a1) n) a2 μ = some ρ := h
    unfold f_X9_layBeds_0_L2 at h
    refine wa_iload_n C dX9_layBeds_2 rfl ?_
    refine wa_aload_n C dX9_layBeds_3 rfl ?_
    refine wa_getr C fl_RX9_10 rfl rfl (by decide) dX9_layBeds_4 ?_
    refine wa_geti (x := (μ.1 1 0)) C fl_RX9_113 rfl rfl (by decide) rfl dX9_layBeds_7 ?_
    refine wa_icmp_ge (tgt := 42) C dX9_layBeds_10 (by decide) (fun c1 => ?_) (fun c1 => ?_)
    · replace h := (if_pos c1).symm.trans h
      obtain rfl := Option.some.inj h
      exact wa_vret C dX9_layBeds_42
    · replace h := (if_neg c1).symm.trans h
      refine wa_aload_n C dX9_layBeds_13 rfl ?_
      refine wa_getr C fl_RX9_76 rfl rfl (by decide) dX9_layBeds_14 ?_
      refine wa_iload_n C dX9_layBeds_17 rfl ?_
      refine wa_iload_n C dX9_layBeds_18 rfl ?_
      refine wa_iconst (v := 2) C dX9_layBeds_19 (by decide) ?_
      refine wa_aload_n C dX9_layBeds_20 rfl ?_
      refine wa_getr C fl_RX9_10 rfl rfl (by decide) dX9_layBeds_21 ?_
      refine wa_geti (x := (μ.1 1 0)) C fl_RX9_113 rfl rfl (by decide) rfl dX9_layBeds_24 ?_
      refine wa_iconst (v := 1) C dX9_layBeds_27 (by decide) ?_
      refine wa_isub C dX9_layBeds_28 ?_
      refine wa_iload_n C dX9_layBeds_29 rfl ?_
      refine wa_isub C dX9_layBeds_30 ?_
      refine wa_imul C dX9_layBeds_31 ?_
      refine wa_ishr C dX9_layBeds_32 ?_
      refine wa_iconst (v := 3) C dX9_layBeds_33 (by decide) ?_
      refine wa_iand C dX9_layBeds_34 ?_
      obtain ⟨g2, h⟩ := gd h
      refine wa_iast (j := (a2.toNatClampNeg)) C rfl (by decide) g2 rfl dX9_layBeds_35 ?_
      refine wa_iinc (v := (a2 + 1)) C dX9_layBeds_36 rfl rfl (by decide) ?_
      refine wa_goto (tgt := 2) C dX9_layBeds_39 (by decide) ?_
      exact WA.sub (lsub_c rfl (lsub_c rfl (lsub_c rfl lsub_n))) (ih _ _ h)
set_option maxRecDepth 100000 in
set_option maxHeartbeats 4000000 in
theorem r_X9_layBeds_0 {a1 : Int32} {μ : Mem} {ρ : Mem} (h : f_X9_layBeds_0 a1 μ = some ρ) : HT 0 yX9_layBeds cX9_layBeds 3 none [.ref 0, .int a1] μ none ρ := by
  refine HT.of (by decide +kernel) (Nat.le_of_ble_eq_true rfl) (fun C => ?_)
  unfold f_X9_layBeds_0 at h
  refine wa_iconst (v := 0) C dX9_layBeds_0 (by decide) ?_
  refine wa_istore_n C dX9_layBeds_1 (by decide) ?_
  exact WA.sub (lsub_c rfl (lsub_c rfl (lsub_c rfl lsub_n))) (r_X9_layBeds_0_L2 C _ _ _ _ h)
def f_X7_look_47_1_61_J199 (k18 : Int32 → Mem → Option Mem) (a3 : Int32) (a4 : Int32) (μ : Mem) : Option Mem :=
  k18 (a4 + 1) μ
def f_X7_look_47_1_61_J195 (k18 : Int32 → Mem → Option Mem) (a3 : Int32) (a4 : Int32) (t1 : Int32) (t2 : Int32) (μ : Mem) : Option Mem :=
  f_X7_look_47_1_61_J199 k18 a3 a4 (pI μ 47 3 (t1 ||| t2))
def f_X7_look_47_1_61_J173 (k18 : Int32 → Mem → Option Mem) (a3 : Int32) (a4 : Int32) (a5 : Int32) (μ : Mem) : Option Mem :=
  if inb a4 3 = false then none else
  if (μ.1 2 (a4.toNatClampNeg)) = (3 : Int32) then
    f_X7_look_47_1_61_J195 k18 a3 a4 (μ.1 47 3) a5 μ
  else
    f_X7_look_47_1_61_J195 k18 a3 a4 (μ.1 47 3) (0 : Int32) μ
def f_X7_look_47_1_61_J120 (k18 : Int32 → Mem → Option Mem) (a3 : Int32) (a4 : Int32) (a5 : Int32) (a6 : Int32) (t1 : Int32) (t2 : Int32) (μ : Mem) : Option Mem :=
  if inb t1 6 = false then none else
  if a6 = 0 then
    f_X7_look_47_1_61_J199 k18 a3 a4 (pI μ 48 (t1.toNatClampNeg) t2)
  else
    if inb a4 3 = false then none else
    if (μ.1 2 (a4.toNatClampNeg)) = (1 : Int32) then
      if inb ((2 : Int32) * a4) 6 = false then none else
      f_X7_look_47_1_61_J173 k18 a3 a4 a5 (pI (pI (pI (pI μ 48 (t1.toNatClampNeg) t2) 47 1 ((μ.1 47 1) ||| a5)) 47 2 ((μ.1 47 2) ||| ((1 : Int32) <<< (((2 : Int32) * a4) &&& 31)))) 48 (((2 : Int32) * a4).toNatClampNeg) (0 : Int32))
    else
      f_X7_look_47_1_61_J173 k18 a3 a4 a5 (pI (pI μ 48 (t1.toNatClampNeg) t2) 47 1 ((μ.1 47 1) ||| a5))
def f_X7_look_47_1_61_J82 (k18 : Int32 → Mem → Option Mem) (a3 : Int32) (a4 : Int32) (a5 : Int32) (a6 : Int32) (t1 : Int32) (t2 : Int32) (μ : Mem) : Option Mem :=
  if inb t1 6 = false then none else
  if a6 = 0 then
    f_X7_look_47_1_61_J120 k18 a3 a4 a5 a6 (((2 : Int32) * a4) + (1 : Int32)) (0 : Int32) (pI μ 48 (t1.toNatClampNeg) t2)
  else
    if inb (((2 : Int32) * a4) + (1 : Int32)) 6 = false then none else
    if inb a4 3 = false then none else
    (f_X7_turned (μ.1 3 ((((2 : Int32) * a4) + (1 : Int32)).toNatClampNeg)) (μ.1 61 (a4.toNatClampNeg)) (pI μ 48 (t1.toNatClampNeg) t2)).bind fun q15 =>
    f_X7_look_47_1_61_J120 k18 a3 a4 a5 a6 (((2 : Int32) * a4) + (1 : Int32)) q15.1 q15.2
def f_X7_look_47_1_61_J47 (k18 : Int32 → Mem → Option Mem) (a3 : Int32) (a4 : Int32) (a5 : Int32) (t0 : Int32) (μ : Mem) : Option Mem :=
  if t0 = 0 then
    f_X7_look_47_1_61_J82 k18 a3 a4 a5 t0 ((2 : Int32) * a4) (0 : Int32) μ
  else
    if inb ((2 : Int32) * a4) 6 = false then none else
    if inb a4 3 = false then none else
    (f_X7_turned (μ.1 3 (((2 : Int32) * a4).toNatClampNeg)) (μ.1 61 (a4.toNatClampNeg)) μ).bind fun q18 =>
    f_X7_look_47_1_61_J82 k18 a3 a4 a5 t0 ((2 : Int32) * a4) q18.1 q18.2
def f_X7_look_47_1_61_L18 (a3 : Int32) (k18 : Int32 → Mem → Option Mem) (a4 : Int32) (μ : Mem) : Option Mem :=
    if (3 : Int32) ≤ a4 then
      some μ
    else
      if ((a3 >>> (a4 &&& 31)) &&& (1 : Int32)) = (1 : Int32) then
        f_X7_look_47_1_61_J47 k18 a3 a4 ((3 : Int32) <<< (((2 : Int32) * a4) &&& 31)) (1 : Int32) μ
      else
        f_X7_look_47_1_61_J47 k18 a3 a4 ((3 : Int32) <<< (((2 : Int32) * a4) &&& 31)) (0 : Int32) μ
def f_X7_look_47_1_61 (a3 : Int32) (μ : Mem) : Option Mem :=
  it2 (f_X7_look_47_1_61_L18 a3) FU (0 : Int32) (pI (pI (pI μ 47 1 (0 : Int32)) 47 2 (0 : Int32)) 47 3 (0 : Int32))
set_option maxRecDepth 100000 in
set_option maxHeartbeats 4000000 in
theorem r_X7_look_47_1_61_J199 {p : Program} {l : Launch} {e : Env} {s : State} {m : MethodId} {args : Array Value} {below : List Frame} {meth : Method} {c : Code} {D : va_G} {cy : Nat → ClassId} {ad : Nat → Nat} (C : CX p s m args meth c cX7_look 7 RX7 none D cy ad (AD ad)) {a3 : Int32} {a4 : Int32} {μ : Mem} {ρ : Mem} (k18 : Int32 → Mem → Option Mem) (hk18 : ∀ (a4 : Int32) (μ : Mem), k18 a4 μ = some ρ → WA p l e (rmD 1) s m args below meth c 7 D cy ad (AD ad) 0 0 (ZZ below args s D cy ad (AD ad) 0 0 none ρ) μ [(0, .ref 47), (1, .ref 1), (2, .ref 61), (3, .int a3), (4, .int a4)] 18 []) (h : f_X7_look_47_1_61_J199 k18 a3 a4 μ = some ρ) : WA p l e (rmD 1) s m args below meth c 7 D cy ad (AD ad) 0 0 (ZZ below args s D cy ad (AD ad) 0 0 none ρ) μ [(0, .ref 47), (1, .ref 1), (2, .ref 61), (3, .int a3), (4, .int a4)] 199 [] := by
  unfold f_X7_look_47_1_61_J199 at h
  refine wa_iinc (v := (a4 + 1)) C dX7_look_199 rfl rfl (by decide) ?_
  refine wa_goto (tgt := 18) C dX7_look_202 (by decide) ?_
  exact WA.sub (lsub_c rfl (lsub_c rfl (lsub_c rfl (lsub_c rfl (lsub_c rfl lsub_n))))) (hk18 _ _ h)
set_option maxRecDepth 100000 in
set_option maxHeartbeats 4000000 in
theorem r_X7_look_47_1_61_J195 {p : Program} {l : Launch} {e : Env} {s : State} {m : MethodId} {args : Array Value} {below : List Frame} {meth : Method} {c : Code} {D : va_G} {cy : Nat → ClassId} {ad : Nat → Nat} (C : CX p s m args meth c cX7_look 7 RX7 none D cy ad (AD ad)) {a3 : Int32} {a4 : Int32} {t1 : Int32} {t2 : Int32} {μ : Mem} {ρ : Mem} (k18 : Int32 → Mem → Option Mem) (hk18 : ∀ (a4 : Int32) (μ : Mem), k18 a4 μ = some ρ → WA p l e (rmD 1) s m args below meth c 7 D cy ad (AD ad) 0 0 (ZZ below args s D cy ad (AD ad) 0 0 none ρ) μ [(0, .ref 47), (1, .ref 1), (2, .ref 61), (3, .int a3), (4, .int a4)] 18 []) (h : f_X7_look_47_1_61_J195 k18 a3 a4 t1 t2 μ = some ρ) : WA p l e (rmD 1) s m args below meth c 7 D cy ad (AD ad) 0 0 (ZZ below args s D cy ad (AD ad) 0 0 none ρ) μ [(0, .ref 47), (1, .ref 1), (2, .ref 61), (3, .int a3), (4, .int a4)] 195 [.int t2, .int t1, .ref 47] := by
  unfold f_X7_look_47_1_61_J195 at h
  refine wa_ior C dX7_look_195 ?_
  refine wa_puti C fl_RX7_22 fp_7_3 rfl rfl (by decide) rfl rfl dX7_look_196 ?_
  exact WA.sub (lsub_c rfl (lsub_c rfl (lsub_c rfl (lsub_c rfl (lsub_c rfl lsub_n))))) (r_X7_look_47_1_61_J199 C _ hk18 h)
set_option maxRecDepth 100000 in
set_option maxHeartbeats 4000000 in
theorem r_X7_look_47_1_61_J173 {p : Program} {l : Launch} {e : Env} {s : State} {m : MethodId} {args : Array Value} {below : List Frame} {meth : Method} {c : Code} {D : va_G} {cy : Nat → ClassId} {ad : Nat → Nat} (C : CX p s m args meth c cX7_look 7 RX7 none D cy ad (AD ad)) {a3 : Int32} {a4 : Int32} {a5 : Int32} {μ : Mem} {ρ : Mem} (k18 : Int32 → Mem → Option Mem) (hk18 : ∀ (a4 : Int32) (μ : Mem), k18 a4 μ = some ρ → WA p l e (rmD 1) s m args below meth c 7 D cy ad (AD ad) 0 0 (ZZ below args s D cy ad (AD ad) 0 0 none ρ) μ [(0, .ref 47), (1, .ref 1), (2, .ref 61), (3, .int a3), (4, .int a4)] 18 []) (h : f_X7_look_47_1_61_J173 k18 a3 a4 a5 μ = some ρ) : WA p l e (rmD 1) s m args below meth c 7 D cy ad (AD ad) 0 0 (ZZ below args s D cy ad (AD ad) 0 0 none ρ) μ [(0, .ref 47), (1, .ref 1), (2, .ref 61), (3, .int a3), (4, .int a4), (5, .int a5)] 173 [] := by
  unfold f_X7_look_47_1_61_J173 at h
  refine wa_aload_n C dX7_look_173 rfl ?_
  refine wa_dup C dX7_look_174 rfl ?_
  refine wa_geti (x := (μ.1 47 3)) C fl_RX7_22 rfl rfl (by decide) rfl dX7_look_175 ?_
  refine wa_aload_n C dX7_look_178 rfl ?_
  refine wa_getr C fl_RX7_34 rfl rfl (by decide) dX7_look_179 ?_
  refine wa_iload C dX7_look_182 rfl ?_
  obtain ⟨g11, h⟩ := gd h
  refine wa_iald (j := (a4.toNatClampNeg)) (x := (μ.1 2 (a4.toNatClampNeg))) C rfl (by decide) g11 rfl rfl dX7_look_184 ?_
  refine wa_iconst (v := 3) C dX7_look_185 (by decide) ?_
  refine wa_icmp_ne (tgt := 194) C dX7_look_186 (by decide) (fun c12 => ?_) (fun c12 => ?_)
  · replace h := (if_neg c12).symm.trans h
    refine wa_iconst (v := 0) C dX7_look_194 (by decide) ?_
    exact WA.sub (lsub_c rfl (lsub_c rfl (lsub_c rfl (lsub_c rfl (lsub_c rfl lsub_n))))) (r_X7_look_47_1_61_J195 C _ hk18 h)
  · replace h := (if_pos c12).symm.trans h
    refine wa_iload C dX7_look_189 rfl ?_
    refine wa_goto (tgt := 195) C dX7_look_191 (by decide) ?_
    exact WA.sub (lsub_c rfl (lsub_c rfl (lsub_c rfl (lsub_c rfl (lsub_c rfl lsub_n))))) (r_X7_look_47_1_61_J195 C _ hk18 h)
set_option maxRecDepth 100000 in
set_option maxHeartbeats 4000000 in
theorem r_X7_look_47_1_61_J120 {p : Program} {l : Launch} {e : Env} {s : State} {m : MethodId} {args : Array Value} {below : List Frame} {meth : Method} {c : Code} {D : va_G} {cy : Nat → ClassId} {ad : Nat → Nat} (C : CX p s m args meth c cX7_look 7 RX7 none D cy ad (AD ad)) {a3 : Int32} {a4 : Int32} {a5 : Int32} {a6 : Int32} {t1 : Int32} {t2 : Int32} {μ : Mem} {ρ : Mem} (k18 : Int32 → Mem → Option Mem) (hk18 : ∀ (a4 : Int32) (μ : Mem), k18 a4 μ = some ρ → WA p l e (rmD 1) s m args below meth c 7 D cy ad (AD ad) 0 0 (ZZ below args s D cy ad (AD ad) 0 0 none ρ) μ [(0, .ref 47), (1, .ref 1), (2, .ref 61), (3, .int a3), (4, .int a4)] 18 []) (h : f_X7_look_47_1_61_J120 k18 a3 a4 a5 a6 t1 t2 μ = some ρ) : WA p l e (rmD 1) s m args below meth c 7 D cy ad (AD ad) 0 0 (ZZ below args s D cy ad (AD ad) 0 0 none ρ) μ [(0, .ref 47), (1, .ref 1), (2, .ref 61), (3, .int a3), (4, .int a4), (5, .int a5), (6, .int a6)] 120 [.int t2, .int t1, .ref 48] := by
  unfold f_X7_look_47_1_61_J120 at h
  obtain ⟨g6, h⟩ := gd h
  refine wa_iast (j := (t1.toNatClampNeg)) C rfl (by decide) g6 rfl dX7_look_120 ?_
  refine wa_iload C dX7_look_121 rfl ?_
  refine wa_if_eq (tgt := 199) C dX7_look_123 (by decide) (fun c7 => ?_) (fun c7 => ?_)
  · replace h := (if_pos c7).symm.trans h
    exact WA.sub (lsub_c rfl (lsub_c rfl (lsub_c rfl (lsub_c rfl (lsub_c rfl lsub_n))))) (r_X7_look_47_1_61_J199 C _ hk18 h)
  · replace h := (if_neg c7).symm.trans h
    refine wa_aload_n C dX7_look_126 rfl ?_
    refine wa_dup C dX7_look_127 rfl ?_
    refine wa_geti (x := (μ.1 47 1)) C fl_RX7_15 rfl rfl (by decide) rfl dX7_look_128 ?_
    refine wa_iload C dX7_look_131 rfl ?_
    refine wa_ior C dX7_look_133 ?_
    refine wa_puti C fl_RX7_15 fp_7_1 rfl rfl (by decide) rfl rfl dX7_look_134 ?_
    refine wa_aload_n C dX7_look_137 rfl ?_
    refine wa_getr C fl_RX7_34 rfl rfl (by decide) dX7_look_138 ?_
    refine wa_iload C dX7_look_141 rfl ?_
    obtain ⟨g8, h⟩ := gd h
    refine wa_iald (j := (a4.toNatClampNeg)) (x := (μ.1 2 (a4.toNatClampNeg))) C rfl (by decide) g8 rfl rfl dX7_look_143 ?_
    refine wa_iconst (v := 1) C dX7_look_144 (by decide) ?_
    refine wa_icmp_ne (tgt := 173) C dX7_look_145 (by decide) (fun c9 => ?_) (fun c9 => ?_)
    · replace h := (if_neg c9).symm.trans h
      exact WA.sub (lsub_c rfl (lsub_c rfl (lsub_c rfl (lsub_c rfl (lsub_c rfl (lsub_c rfl lsub_n)))))) (r_X7_look_47_1_61_J173 C _ hk18 h)
    · replace h := (if_pos c9).symm.trans h
      refine wa_aload_n C dX7_look_148 rfl ?_
      refine wa_dup C dX7_look_149 rfl ?_
      refine wa_geti (x := (μ.1 47 2)) C fl_RX7_19 rfl rfl (by decide) rfl dX7_look_150 ?_
      refine wa_iconst (v := 1) C dX7_look_153 (by decide) ?_
      refine wa_iconst (v := 2) C dX7_look_154 (by decide) ?_
      refine wa_iload C dX7_look_155 rfl ?_
      refine wa_imul C dX7_look_157 ?_
      refine wa_ishl C dX7_look_158 ?_
      refine wa_ior C dX7_look_159 ?_
      refine wa_puti C fl_RX7_19 fp_7_2 rfl rfl (by decide) rfl rfl dX7_look_160 ?_
      refine wa_aload_n C dX7_look_163 rfl ?_
      refine wa_getr C fl_RX7_9 rfl rfl (by decide) dX7_look_164 ?_
      refine wa_iconst (v := 2) C dX7_look_167 (by decide) ?_
      refine wa_iload C dX7_look_168 rfl ?_
      refine wa_imul C dX7_look_170 ?_
      refine wa_iconst (v := 0) C dX7_look_171 (by decide) ?_
      obtain ⟨g10, h⟩ := gd h
      refine wa_iast (j := (((2 : Int32) * a4).toNatClampNeg)) C rfl (by decide) g10 rfl dX7_look_172 ?_
      exact WA.sub (lsub_c rfl (lsub_c rfl (lsub_c rfl (lsub_c rfl (lsub_c rfl (lsub_c rfl lsub_n)))))) (r_X7_look_47_1_61_J173 C _ hk18 h)
set_option maxRecDepth 100000 in
set_option maxHeartbeats 4000000 in
theorem r_X7_look_47_1_61_J82 {p : Program} {l : Launch} {e : Env} {s : State} {m : MethodId} {args : Array Value} {below : List Frame} {meth : Method} {c : Code} {D : va_G} {cy : Nat → ClassId} {ad : Nat → Nat} (C : CX p s m args meth c cX7_look 7 RX7 none D cy ad (AD ad)) {a3 : Int32} {a4 : Int32} {a5 : Int32} {a6 : Int32} {t1 : Int32} {t2 : Int32} {μ : Mem} {ρ : Mem} (k18 : Int32 → Mem → Option Mem) (hk18 : ∀ (a4 : Int32) (μ : Mem), k18 a4 μ = some ρ → WA p l e (rmD 1) s m args below meth c 7 D cy ad (AD ad) 0 0 (ZZ below args s D cy ad (AD ad) 0 0 none ρ) μ [(0, .ref 47), (1, .ref 1), (2, .ref 61), (3, .int a3), (4, .int a4)] 18 []) (h : f_X7_look_47_1_61_J82 k18 a3 a4 a5 a6 t1 t2 μ = some ρ) : WA p l e (rmD 1) s m args below meth c 7 D cy ad (AD ad) 0 0 (ZZ below args s D cy ad (AD ad) 0 0 none ρ) μ [(0, .ref 47), (1, .ref 1), (2, .ref 61), (3, .int a3), (4, .int a4), (5, .int a5), (6, .int a6)] 82 [.int t2, .int t1, .ref 48] := by
  unfold f_X7_look_47_1_61_J82 at h
  obtain ⟨g4, h⟩ := gd h
  refine wa_iast (j := (t1.toNatClampNeg)) C rfl (by decide) g4 rfl dX7_look_82 ?_
  refine wa_aload_n C dX7_look_83 rfl ?_
  refine wa_getr C fl_RX7_9 rfl rfl (by decide) dX7_look_84 ?_
  refine wa_iconst (v := 2) C dX7_look_87 (by decide) ?_
  refine wa_iload C dX7_look_88 rfl ?_
  refine wa_imul C dX7_look_90 ?_
  refine wa_iconst (v := 1) C dX7_look_91 (by decide) ?_
  refine wa_iadd C dX7_look_92 ?_
  refine wa_iload C dX7_look_93 rfl ?_
  refine wa_if_eq (tgt := 119) C dX7_look_95 (by decide) (fun c5 => ?_) (fun c5 => ?_)
  · replace h := (if_pos c5).symm.trans h
    refine wa_iconst (v := 0) C dX7_look_119 (by decide) ?_
    exact WA.sub (lsub_c rfl (lsub_c rfl (lsub_c rfl (lsub_c rfl (lsub_c rfl (lsub_c rfl (lsub_c rfl lsub_n))))))) (r_X7_look_47_1_61_J120 C _ hk18 h)
  · replace h := (if_neg c5).symm.trans h
    refine wa_aload_n C dX7_look_98 rfl ?_
    refine wa_getr C fl_RX7_25 rfl rfl (by decide) dX7_look_99 ?_
    refine wa_iconst (v := 2) C dX7_look_102 (by decide) ?_
    refine wa_iload C dX7_look_103 rfl ?_
    refine wa_imul C dX7_look_105 ?_
    refine wa_iconst (v := 1) C dX7_look_106 (by decide) ?_
    refine wa_iadd C dX7_look_107 ?_
    obtain ⟨g13, h⟩ := gd h
    refine wa_iald (j := ((((2 : Int32) * a4) + (1 : Int32)).toNatClampNeg)) (x := (μ.1 3 ((((2 : Int32) * a4) + (1 : Int32)).toNatClampNeg))) C rfl (by decide) g13 rfl rfl dX7_look_108 ?_
    refine wa_aload_n C dX7_look_109 rfl ?_
    refine wa_iload C dX7_look_110 rfl ?_
    obtain ⟨g14, h⟩ := gd h
    refine wa_iald (j := (a4.toNatClampNeg)) (x := (μ.1 61 (a4.toNatClampNeg))) C rfl (by decide) g14 rfl rfl dX7_look_112 ?_
    obtain ⟨q15, hq15, h⟩ := bd h
    refine wa_callS C (r_X7_turned hq15) mk_X7_turned ms_X7_turned qw_522 rfl ⟨Nat.le_of_ble_eq_true rfl, Nat.le_of_ble_eq_true rfl⟩ ⟨Nat.zero_le _, Nat.zero_le _⟩ (Nat.le_of_ble_eq_true rfl) dX7_look_113 rfl ?_
    refine wa_goto (tgt := 120) C dX7_look_116 (by decide) ?_
    exact WA.sub (lsub_c rfl (lsub_c rfl (lsub_c rfl (lsub_c rfl (lsub_c rfl (lsub_c rfl (lsub_c rfl lsub_n))))))) (r_X7_look_47_1_61_J120 C _ hk18 h)
set_option maxRecDepth 100000 in
set_option maxHeartbeats 4000000 in
theorem r_X7_look_47_1_61_J47 {p : Program} {l : Launch} {e : Env} {s : State} {m : MethodId} {args : Array Value} {below : List Frame} {meth : Method} {c : Code} {D : va_G} {cy : Nat → ClassId} {ad : Nat → Nat} (C : CX p s m args meth c cX7_look 7 RX7 none D cy ad (AD ad)) {a3 : Int32} {a4 : Int32} {a5 : Int32} {t0 : Int32} {μ : Mem} {ρ : Mem} (k18 : Int32 → Mem → Option Mem) (hk18 : ∀ (a4 : Int32) (μ : Mem), k18 a4 μ = some ρ → WA p l e (rmD 1) s m args below meth c 7 D cy ad (AD ad) 0 0 (ZZ below args s D cy ad (AD ad) 0 0 none ρ) μ [(0, .ref 47), (1, .ref 1), (2, .ref 61), (3, .int a3), (4, .int a4)] 18 []) (h : f_X7_look_47_1_61_J47 k18 a3 a4 a5 t0 μ = some ρ) : WA p l e (rmD 1) s m args below meth c 7 D cy ad (AD ad) 0 0 (ZZ below args s D cy ad (AD ad) 0 0 none ρ) μ [(0, .ref 47), (1, .ref 1), (2, .ref 61), (3, .int a3), (4, .int a4), (5, .int a5)] 47 [.int t0] := by
  unfold f_X7_look_47_1_61_J47 at h
  refine wa_istore C dX7_look_47 (by decide) ?_
  refine wa_aload_n C dX7_look_49 rfl ?_
  refine wa_getr C fl_RX7_9 rfl rfl (by decide) dX7_look_50 ?_
  refine wa_iconst (v := 2) C dX7_look_53 (by decide) ?_
  refine wa_iload C dX7_look_54 rfl ?_
  refine wa_imul C dX7_look_56 ?_
  refine wa_iload C dX7_look_57 rfl ?_
  refine wa_if_eq (tgt := 81) C dX7_look_59 (by decide) (fun c3 => ?_) (fun c3 => ?_)
  · replace h := (if_pos c3).symm.trans h
    refine wa_iconst (v := 0) C dX7_look_81 (by decide) ?_
    exact WA.sub (lsub_c rfl (lsub_c rfl (lsub_c rfl (lsub_c rfl (lsub_c rfl (lsub_c rfl (lsub_c rfl lsub_n))))))) (r_X7_look_47_1_61_J82 C _ hk18 h)
  · replace h := (if_neg c3).symm.trans h
    refine wa_aload_n C dX7_look_62 rfl ?_
    refine wa_getr C fl_RX7_25 rfl rfl (by decide) dX7_look_63 ?_
    refine wa_iconst (v := 2) C dX7_look_66 (by decide) ?_
    refine wa_iload C dX7_look_67 rfl ?_
    refine wa_imul C dX7_look_69 ?_
    obtain ⟨g16, h⟩ := gd h
    refine wa_iald (j := (((2 : Int32) * a4).toNatClampNeg)) (x := (μ.1 3 (((2 : Int32) * a4).toNatClampNeg))) C rfl (by decide) g16 rfl rfl dX7_look_70 ?_
    refine wa_aload_n C dX7_look_71 rfl ?_
    refine wa_iload C dX7_look_72 rfl ?_
    obtain ⟨g17, h⟩ := gd h
    refine wa_iald (j := (a4.toNatClampNeg)) (x := (μ.1 61 (a4.toNatClampNeg))) C rfl (by decide) g17 rfl rfl dX7_look_74 ?_
    obtain ⟨q18, hq18, h⟩ := bd h
    refine wa_callS C (r_X7_turned hq18) mk_X7_turned ms_X7_turned qw_522 rfl ⟨Nat.le_of_ble_eq_true rfl, Nat.le_of_ble_eq_true rfl⟩ ⟨Nat.zero_le _, Nat.zero_le _⟩ (Nat.le_of_ble_eq_true rfl) dX7_look_75 rfl ?_
    refine wa_goto (tgt := 82) C dX7_look_78 (by decide) ?_
    exact WA.sub (lsub_c rfl (lsub_c rfl (lsub_c rfl (lsub_c rfl (lsub_c rfl (lsub_c rfl (lsub_c rfl lsub_n))))))) (r_X7_look_47_1_61_J82 C _ hk18 h)
set_option maxRecDepth 100000 in
set_option maxHeartbeats 4000000 in
theorem r_X7_look_47_1_61_L18 {p : Program} {l : Launch} {e : Env} {s : State} {m : MethodId} {args : Array Value} {below : List Frame} {meth : Method} {c : Code} {D : va_G} {cy : Nat → ClassId} {ad : Nat → Nat} (C : CX p s m args meth c cX7_look 7 RX7 none D cy ad (AD ad)) (a3 : Int32) {ρ : Mem} : ∀ (n : Nat) (a4 : Int32) (μ : Mem), it2 (f_X7_look_47_1_61_L18 a3) n a4 μ = some ρ → WA p l e (rmD 1) s m args below meth c 7 D cy ad (AD ad) 0 0 (ZZ below args s D cy ad (AD ad) 0 0 none ρ) μ [(0, .ref 47), (1, .ref 1), (2, .ref 61), (3, .int a3), (4, .int a4)] 18 [] := by
  intro n
  induction n with
  | zero =>
    intro a4 μ h
    exact absurd h (fun h => by cases h)
  | succ n ih =>
    intro a4 μ h
    replace h : f_X7_look_47_1_61_L18 a3 (it2 (f_X7_look_47_1_61_L18 a3) n) a4 μ = some ρ := h
    unfold f_X7_look_47_1_61_L18 at h
    refine wa_iload C dX7_look_18 rfl ?_
    refine wa_iconst (v := 3) C dX7_look_20 (by decide) ?_
    refine wa_icmp_ge (tgt := 205) C dX7_look_21 (by decide) (fun c1 => ?_) (fun c1 => ?_)
    · replace h := (if_pos c1).symm.trans h
      obtain rfl := Option.some.inj h
      exact wa_vret C dX7_look_205
    · replace h := (if_neg c1).symm.trans h
      refine wa_iconst (v := 3) C dX7_look_24 (by decide) ?_
      refine wa_iconst (v := 2) C dX7_look_25 (by decide) ?_
      refine wa_iload C dX7_look_26 rfl ?_
      refine wa_imul C dX7_look_28 ?_
      refine wa_ishl C dX7_look_29 ?_
      refine wa_istore C dX7_look_30 (by decide) ?_
      refine wa_iload_n C dX7_look_32 rfl ?_
      refine wa_iload C dX7_look_33 rfl ?_
      refine wa_ishr C dX7_look_35 ?_
      refine wa_iconst (v := 1) C dX7_look_36 (by decide) ?_
      refine wa_iand C dX7_look_37 ?_
      refine wa_iconst (v := 1) C dX7_look_38 (by decide) ?_
      refine wa_icmp_ne (tgt := 46) C dX7_look_39 (by decide) (fun c2 => ?_) (fun c2 => ?_)
      · replace h := (if_neg c2).symm.trans h
        refine wa_iconst (v := 0) C dX7_look_46 (by decide) ?_
        exact WA.sub (lsub_c rfl (lsub_c rfl (lsub_c rfl (lsub_c rfl (lsub_c rfl (lsub_c rfl lsub_n)))))) (r_X7_look_47_1_61_J47 C _ (fun _ _ h => ih _ _ h) h)
      · replace h := (if_pos c2).symm.trans h
        refine wa_iconst (v := 1) C dX7_look_42 (by decide) ?_
        refine wa_goto (tgt := 47) C dX7_look_43 (by decide) ?_
        exact WA.sub (lsub_c rfl (lsub_c rfl (lsub_c rfl (lsub_c rfl (lsub_c rfl (lsub_c rfl lsub_n)))))) (r_X7_look_47_1_61_J47 C _ (fun _ _ h => ih _ _ h) h)
set_option maxRecDepth 100000 in
set_option maxHeartbeats 4000000 in
theorem r_X7_look_47_1_61 {a3 : Int32} {μ : Mem} {ρ : Mem} (h : f_X7_look_47_1_61 a3 μ = some ρ) : HT 1 yX7_look cX7_look 7 none [.ref 47, .ref 1, .ref 61, .int a3] μ none ρ := by
  refine HT.of (by decide +kernel) (Nat.le_of_ble_eq_true rfl) (fun C => ?_)
  unfold f_X7_look_47_1_61 at h
  refine wa_aload_n C dX7_look_0 rfl ?_
  refine wa_iconst (v := 0) C dX7_look_1 (by decide) ?_
  refine wa_puti C fl_RX7_15 fp_7_1 rfl rfl (by decide) rfl rfl dX7_look_2 ?_
  refine wa_aload_n C dX7_look_5 rfl ?_
  refine wa_iconst (v := 0) C dX7_look_6 (by decide) ?_
  refine wa_puti C fl_RX7_19 fp_7_2 rfl rfl (by decide) rfl rfl dX7_look_7 ?_
  refine wa_aload_n C dX7_look_10 rfl ?_
  refine wa_iconst (v := 0) C dX7_look_11 (by decide) ?_
  refine wa_puti C fl_RX7_22 fp_7_3 rfl rfl (by decide) rfl rfl dX7_look_12 ?_
  refine wa_iconst (v := 0) C dX7_look_15 (by decide) ?_
  refine wa_istore C dX7_look_16 (by decide) ?_
  exact WA.sub (lsub_c rfl (lsub_c rfl (lsub_c rfl (lsub_c rfl (lsub_c rfl lsub_n))))) (r_X7_look_47_1_61_L18 C _ _ _ _ h)
def f_X9_beds_0_J122 (k46 : Int32 → Int32 → Int32 → Mem → Option (Int32 × Mem)) (a1 : Int32) (a2 : Int32) (a3 : Int32) (a4 : Int32) (a5 : Int32) (μ : Mem) : Option (Int32 × Mem) :=
  k46 a2 a3 (a5 + 1) μ
def f_X9_beds_0_L46 (a1 : Int32) (a4 : Int32) (k46 : Int32 → Int32 → Int32 → Mem → Option (Int32 × Mem)) (a2 : Int32) (a3 : Int32) (a5 : Int32) (μ : Mem) : Option (Int32 × Mem) :=
    if a4 ≤ a5 then
      if 0 ≤ a2 then
        (f_X9_layBeds_0 a3 μ).bind fun q4 =>
        if a1 = 0 then
          some (a2, q4)
        else
          if inb (a1 - (10 : Int32)) 3 = false then none else
          some ((q4.1 61 ((a1 - (10 : Int32)).toNatClampNeg)), q4)
      else
        some ((-4 : Int32), μ)
    else
      (f_X9_layBeds_0 a5 μ).bind fun q7 =>
      (f_X1_everybody_1 q7).bind fun q8 =>
      (f_X7_look_47_1_61 q8.1 q8.2).bind fun q9 =>
      (f_X3_prepare_51_1_4_47 q9).bind fun q10 =>
      (f_X3_greatest_51 a2 q10).bind fun q11 =>
      if q11.1 ≤ a2 then
        f_X9_beds_0_J122 k46 a1 a2 a3 a4 a5 q11.2
      else
        f_X9_beds_0_J122 k46 a1 q11.1 a5 a4 a5 q11.2
def f_X9_beds_0_J26 (a1 : Int32) (μ : Mem) : Option (Int32 × Mem) :=
  it4 (f_X9_beds_0_L46 a1 ((1 : Int32) <<< (((2 : Int32) * (μ.1 1 0)) &&& 31))) FU (-1 : Int32) (0 : Int32) (0 : Int32) μ
def f_X9_beds_0 (a1 : Int32) (μ : Mem) : Option (Int32 × Mem) :=
  if a1 = 0 then
    f_X9_beds_0_J26 a1 μ
  else
    if a1 < (10 : Int32) then
      some ((-1 : Int32), μ)
    else
      (f_X1_hasSister_1 (a1 - (10 : Int32)) μ).bind fun q14 =>
      if q14.1 = 0 then
        some ((-1 : Int32), q14.2)
      else
        f_X9_beds_0_J26 a1 q14.2
set_option maxRecDepth 100000 in
set_option maxHeartbeats 4000000 in
theorem r_X9_beds_0_J122 {p : Program} {l : Launch} {e : Env} {s : State} {m : MethodId} {args : Array Value} {below : List Frame} {meth : Method} {c : Code} {D : va_G} {cy : Nat → ClassId} {ad : Nat → Nat} (C : CX p s m args meth c cX9_beds 7 RX9 (some .int) D cy ad (AD ad)) {a1 : Int32} {a2 : Int32} {a3 : Int32} {a4 : Int32} {a5 : Int32} {μ : Mem} {ρ : (Int32 × Mem)} (k46 : Int32 → Int32 → Int32 → Mem → Option (Int32 × Mem)) (hk46 : ∀ (a2 : Int32) (a3 : Int32) (a5 : Int32) (μ : Mem), k46 a2 a3 a5 μ = some ρ → WA p l e (rmD 17) s m args below meth c 7 D cy ad (AD ad) 0 0 (ZZ below args s D cy ad (AD ad) 0 0 (some (.int ρ.1)) ρ.2) μ [(0, .ref 0), (1, .int a1), (2, .int a2), (3, .int a3), (4, .int a4), (5, .int a5)] 46 []) (h : f_X9_beds_0_J122 k46 a1 a2 a3 a4 a5 μ = some ρ) : WA p l e (rmD 17) s m args below meth c 7 D cy ad (AD ad) 0 0 (ZZ below args s D cy ad (AD ad) 0 0 (some (.int ρ.1)) ρ.2) μ [(0, .ref 0), (1, .int a1), (2, .int a2), (3, .int a3), (4, .int a4), (5, .int a5)] 122 [] := by
  unfold f_X9_beds_0_J122 at h
  refine wa_iinc (v := (a5 + 1)) C dX9_beds_122 rfl rfl (by decide) ?_
  refine wa_goto (tgt := 46) C dX9_beds_125 (by decide) ?_
  exact WA.sub (lsub_c rfl (lsub_c rfl (lsub_c rfl (lsub_c rfl (lsub_c rfl (lsub_c rfl lsub_n)))))) (hk46 _ _ _ _ h)
set_option maxRecDepth 100000 in
set_option maxHeartbeats 4000000 in
theorem r_X9_beds_0_L46 {p : Program} {l : Launch} {e : Env} {s : State} {m : MethodId} {args : Array Value} {below : List Frame} {meth : Method} {c : Code} {D : va_G} {cy : Nat → ClassId} {ad : Nat → Nat} (C : CX p s m args meth c cX9_beds 7 RX9 (some .int) D cy ad (AD ad)) (a1 : Int32) (a4 : Int32) {ρ : (Int32 × Mem)} : ∀ (n : Nat) (a2 : Int32) (a3 : Int32) (a5 : Int32) (μ : Mem), it4 (f_X9_beds_0_L46 a1 a4) n a2 a3 a5 μ = some ρ → WA p l e (rmD 17) s m args below meth c 7 D cy ad (AD ad) 0 0 (ZZ below args s D cy ad (AD ad) 0 0 (some (.int ρ.1)) ρ.2) μ [(0, .ref 0), (1, .int a1), (2, .int a2), (3, .int a3), (4, .int a4), (5, .int a5)] 46 [] := by
  intro n
  induction n with
  | zero =>
    intro a2 a3 a5 μ h
    exact absurd h (fun h => by cases h)
  | succ n ih =>
    intro a2 a3 a5 μ h
    replace h : f_X9_beds_0_L46 a1 a4 (it4 (f_X9_beds_0_L46 a1 a4) n) a2 a3 a5 μ = some ρ := h
    unfold f_X9_beds_0_L46 at h
    refine wa_iload C dX9_beds_46 rfl ?_
    refine wa_iload C dX9_beds_48 rfl ?_
    refine wa_icmp_ge (tgt := 128) C dX9_beds_50 (by decide) (fun c2 => ?_) (fun c2 => ?_)
    · replace h := (if_pos c2).symm.trans h
      refine wa_iload_n C dX9_beds_128 rfl ?_
      refine wa_if_ge (tgt := 135) C dX9_beds_129 (by decide) (fun c3 => ?_) (fun c3 => ?_)
      · replace h := (if_pos c3).symm.trans h
        refine wa_aload_n C dX9_beds_135 rfl ?_
        refine wa_iload_n C dX9_beds_136 rfl ?_
        obtain ⟨q4, hq4, h⟩ := bd h
        refine wa_callV C (r_X9_layBeds_0 hq4) mk_X9_layBeds mv_X9_layBeds qw_929 rfl (by decide) rfl rfl ⟨Nat.le_of_ble_eq_true rfl, Nat.le_of_ble_eq_true rfl⟩ ⟨Nat.zero_le _, Nat.zero_le _⟩ (Nat.le_of_ble_eq_true rfl) dX9_beds_137 rfl ?_
        refine wa_iload_n C dX9_beds_140 rfl ?_
        refine wa_if_ne (tgt := 148) C dX9_beds_141 (by decide) (fun c5 => ?_) (fun c5 => ?_)
        · replace h := (if_neg c5).symm.trans h
          refine wa_aload_n C dX9_beds_148 rfl ?_
          refine wa_getr C fl_RX9_76 rfl rfl (by decide) dX9_beds_149 ?_
          refine wa_iload_n C dX9_beds_152 rfl ?_
          refine wa_bipush (v := 10) C dX9_beds_153 (by decide) ?_
          refine wa_isub C dX9_beds_155 ?_
          obtain ⟨g6, h⟩ := gd h
          refine wa_iald (j := ((a1 - (10 : Int32)).toNatClampNeg)) (x := (q4.1 61 ((a1 - (10 : Int32)).toNatClampNeg))) C rfl (by decide) g6 rfl rfl dX9_beds_156 ?_
          obtain rfl := Option.some.inj h
          exact wa_iret C dX9_beds_157
        · replace h := (if_pos c5).symm.trans h
          refine wa_iload_n C dX9_beds_144 rfl ?_
          refine wa_goto (tgt := 157) C dX9_beds_145 (by decide) ?_
          obtain rfl := Option.some.inj h
          exact wa_iret C dX9_beds_157
      · replace h := (if_neg c3).symm.trans h
        refine wa_bipush (v := -4) C dX9_beds_132 (by decide) ?_
        obtain rfl := Option.some.inj h
        exact wa_iret C dX9_beds_134
    · replace h := (if_neg c2).symm.trans h
      refine wa_aload_n C dX9_beds_53 rfl ?_
      refine wa_iload C dX9_beds_54 rfl ?_
      obtain ⟨q7, hq7, h⟩ := bd h
      refine wa_callV C (r_X9_layBeds_0 hq7) mk_X9_layBeds mv_X9_layBeds qw_929 rfl (by decide) rfl rfl ⟨Nat.le_of_ble_eq_true rfl, Nat.le_of_ble_eq_true rfl⟩ ⟨Nat.zero_le _, Nat.zero_le _⟩ (Nat.le_of_ble_eq_true rfl) dX9_beds_56 rfl ?_
      refine wa_aload_n C dX9_beds_59 rfl ?_
      refine wa_getr C fl_RX9_44 rfl rfl (by decide) dX9_beds_60 ?_
      refine wa_aload_n C dX9_beds_63 rfl ?_
      refine wa_getr C fl_RX9_10 rfl rfl (by decide) dX9_beds_64 ?_
      refine wa_aload_n C dX9_beds_67 rfl ?_
      refine wa_getr C fl_RX9_76 rfl rfl (by decide) dX9_beds_68 ?_
      refine wa_aload_n C dX9_beds_71 rfl ?_
      refine wa_getr C fl_RX9_10 rfl rfl (by decide) dX9_beds_72 ?_
      obtain ⟨q8, hq8, h⟩ := bd h
      refine wa_callV C (r_X1_everybody_1 hq8) mk_X1_everybody mv_X1_everybody qw_512 rfl (by decide) rfl rfl ⟨Nat.le_of_ble_eq_true rfl, Nat.le_of_ble_eq_true rfl⟩ ⟨Nat.zero_le _, Nat.zero_le _⟩ (Nat.le_of_ble_eq_true rfl) dX9_beds_75 rfl ?_
      obtain ⟨q9, hq9, h⟩ := bd h
      refine wa_callV C (r_X7_look_47_1_61 hq9) mk_X7_look mv_X7_look qw_516 rfl (by decide) rfl rfl ⟨Nat.le_of_ble_eq_true rfl, Nat.le_of_ble_eq_true rfl⟩ ⟨Nat.zero_le _, Nat.zero_le _⟩ (Nat.le_of_ble_eq_true rfl) dX9_beds_78 rfl ?_
      refine wa_aload_n C dX9_beds_81 rfl ?_
      refine wa_getr C fl_RX9_58 rfl rfl (by decide) dX9_beds_82 ?_
      refine wa_aload_n C dX9_beds_85 rfl ?_
      refine wa_getr C fl_RX9_10 rfl rfl (by decide) dX9_beds_86 ?_
      refine wa_aload_n C dX9_beds_89 rfl ?_
      refine wa_getr C fl_RX9_19 rfl rfl (by decide) dX9_beds_90 ?_
      refine wa_aload_n C dX9_beds_93 rfl ?_
      refine wa_getr C fl_RX9_44 rfl rfl (by decide) dX9_beds_94 ?_
      obtain ⟨q10, hq10, h⟩ := bd h
      refine wa_callV C (r_X3_prepare_51_1_4_47 hq10) mk_X3_prepare mv_X3_prepare qw_861 rfl (by decide) rfl rfl ⟨Nat.le_of_ble_eq_true rfl, Nat.le_of_ble_eq_true rfl⟩ ⟨Nat.zero_le _, Nat.zero_le _⟩ (Nat.le_of_ble_eq_true rfl) dX9_beds_97 rfl ?_
      refine wa_aload_n C dX9_beds_100 rfl ?_
      refine wa_getr C fl_RX9_58 rfl rfl (by decide) dX9_beds_101 ?_
      refine wa_iload_n C dX9_beds_104 rfl ?_
      obtain ⟨q11, hq11, h⟩ := bd h
      refine wa_callV C (r_X3_greatest_51 hq11) mk_X3_greatest mv_X3_greatest qw_878 rfl (by decide) rfl rfl ⟨Nat.le_of_ble_eq_true rfl, Nat.le_of_ble_eq_true rfl⟩ ⟨Nat.zero_le _, Nat.zero_le _⟩ (Nat.le_of_ble_eq_true rfl) dX9_beds_105 rfl ?_
      refine wa_istore C dX9_beds_108 (by decide) ?_
      refine wa_iload C dX9_beds_110 rfl ?_
      refine wa_iload_n C dX9_beds_112 rfl ?_
      refine wa_icmp_le (tgt := 122) C dX9_beds_113 (by decide) (fun c12 => ?_) (fun c12 => ?_)
      · replace h := (if_pos c12).symm.trans h
        exact WA.sub (lsub_c rfl (lsub_c rfl (lsub_c rfl (lsub_c rfl (lsub_c rfl (lsub_c rfl lsub_n)))))) (r_X9_beds_0_J122 C _ (fun _ _ _ _ h => ih _ _ _ _ h) h)
      · replace h := (if_neg c12).symm.trans h
        refine wa_iload C dX9_beds_116 rfl ?_
        refine wa_istore_n C dX9_beds_118 (by decide) ?_
        refine wa_iload C dX9_beds_119 rfl ?_
        refine wa_istore_n C dX9_beds_121 (by decide) ?_
        exact WA.sub (lsub_c rfl (lsub_c rfl (lsub_c rfl (lsub_c rfl (lsub_c rfl (lsub_c rfl lsub_n)))))) (r_X9_beds_0_J122 C _ (fun _ _ _ _ h => ih _ _ _ _ h) h)
set_option maxRecDepth 100000 in
set_option maxHeartbeats 4000000 in
theorem r_X9_beds_0_J26 {p : Program} {l : Launch} {e : Env} {s : State} {m : MethodId} {args : Array Value} {below : List Frame} {meth : Method} {c : Code} {D : va_G} {cy : Nat → ClassId} {ad : Nat → Nat} (C : CX p s m args meth c cX9_beds 7 RX9 (some .int) D cy ad (AD ad)) {a1 : Int32} {μ : Mem} {ρ : (Int32 × Mem)} (h : f_X9_beds_0_J26 a1 μ = some ρ) : WA p l e (rmD 17) s m args below meth c 7 D cy ad (AD ad) 0 0 (ZZ below args s D cy ad (AD ad) 0 0 (some (.int ρ.1)) ρ.2) μ [(0, .ref 0), (1, .int a1)] 26 [] := by
  unfold f_X9_beds_0_J26 at h
  refine wa_iconst (v := -1) C dX9_beds_26 (by decide) ?_
  refine wa_istore_n C dX9_beds_27 (by decide) ?_
  refine wa_iconst (v := 0) C dX9_beds_28 (by decide) ?_
  refine wa_istore_n C dX9_beds_29 (by decide) ?_
  refine wa_iconst (v := 1) C dX9_beds_30 (by decide) ?_
  refine wa_iconst (v := 2) C dX9_beds_31 (by decide) ?_
  refine wa_aload_n C dX9_beds_32 rfl ?_
  refine wa_getr C fl_RX9_10 rfl rfl (by decide) dX9_beds_33 ?_
  refine wa_geti (x := (μ.1 1 0)) C fl_RX9_113 rfl rfl (by decide) rfl dX9_beds_36 ?_
  refine wa_imul C dX9_beds_39 ?_
  refine wa_ishl C dX9_beds_40 ?_
  refine wa_istore C dX9_beds_41 (by decide) ?_
  refine wa_iconst (v := 0) C dX9_beds_43 (by decide) ?_
  refine wa_istore C dX9_beds_44 (by decide) ?_
  exact WA.sub (lsub_c rfl (lsub_c rfl (lsub_c rfl (lsub_c rfl (lsub_c rfl (lsub_c rfl lsub_n)))))) (r_X9_beds_0_L46 C _ _ _ _ _ _ _ h)
set_option maxRecDepth 100000 in
set_option maxHeartbeats 4000000 in
theorem r_X9_beds_0 {a1 : Int32} {μ : Mem} {ρ : (Int32 × Mem)} (h : f_X9_beds_0 a1 μ = some ρ) : HT 17 yX9_beds cX9_beds 7 (some .int) [.ref 0, .int a1] μ (some (.int ρ.1)) ρ.2 := by
  refine HT.of (by decide +kernel) (Nat.le_of_ble_eq_true rfl) (fun C => ?_)
  unfold f_X9_beds_0 at h
  refine wa_iload_n C dX9_beds_0 rfl ?_
  refine wa_if_eq (tgt := 26) C dX9_beds_1 (by decide) (fun c1 => ?_) (fun c1 => ?_)
  · replace h := (if_pos c1).symm.trans h
    exact WA.sub (lsub_c rfl (lsub_c rfl lsub_n)) (r_X9_beds_0_J26 C h)
  · replace h := (if_neg c1).symm.trans h
    refine wa_iload_n C dX9_beds_4 rfl ?_
    refine wa_bipush (v := 10) C dX9_beds_5 (by decide) ?_
    refine wa_icmp_lt (tgt := 24) C dX9_beds_7 (by decide) (fun c13 => ?_) (fun c13 => ?_)
    · replace h := (if_pos c13).symm.trans h
      refine wa_iconst (v := -1) C dX9_beds_24 (by decide) ?_
      obtain rfl := Option.some.inj h
      exact wa_iret C dX9_beds_25
    · replace h := (if_neg c13).symm.trans h
      refine wa_aload_n C dX9_beds_10 rfl ?_
      refine wa_getr C fl_RX9_10 rfl rfl (by decide) dX9_beds_11 ?_
      refine wa_iload_n C dX9_beds_14 rfl ?_
      refine wa_bipush (v := 10) C dX9_beds_15 (by decide) ?_
      refine wa_isub C dX9_beds_17 ?_
      obtain ⟨q14, hq14, h⟩ := bd h
      refine wa_callV C (r_X1_hasSister_1 hq14) mk_X1_hasSister mv_X1_hasSister qw_483 rfl (by decide) rfl rfl ⟨Nat.le_of_ble_eq_true rfl, Nat.le_of_ble_eq_true rfl⟩ ⟨Nat.zero_le _, Nat.zero_le _⟩ (Nat.le_of_ble_eq_true rfl) dX9_beds_18 rfl ?_
      refine wa_if_ne (tgt := 26) C dX9_beds_21 (by decide) (fun c15 => ?_) (fun c15 => ?_)
      · replace h := (if_neg c15).symm.trans h
        exact WA.sub (lsub_c rfl (lsub_c rfl lsub_n)) (r_X9_beds_0_J26 C h)
      · replace h := (if_pos c15).symm.trans h
        refine wa_iconst (v := -1) C dX9_beds_24 (by decide) ?_
        obtain rfl := Option.some.inj h
        exact wa_iret C dX9_beds_25
def f_X10_beds_62_J187 (a2 : Int32) (μ : Mem) : Option (Int32 × Mem) :=
  some (a2, μ)
def f_X10_beds_62_L149 (a1 : Int32) (a2 : Int32) (a3 : Int32) (k149 : Int32 → Mem → Option (Int32 × Mem)) (a4 : Int32) (μ : Mem) : Option (Int32 × Mem) :=
    if (3 : Int32) ≤ a4 then
      if a2 = (-4 : Int32) then
        f_X10_beds_62_J187 a2 μ
      else
        if a1 = 0 then
          f_X10_beds_62_J187 a2 μ
        else
          some (((a3 >>> (((2 : Int32) * (((μ.1 62 2) - (1 : Int32)) - (a1 - (10 : Int32)))) &&& 31)) &&& (3 : Int32)), μ)
    else
      if inb a4 3 = false then none else
      if inb ((0 : Int32) + a4) 162 = false then none else
      k149 (a4 + 1) (pI μ 63 (((0 : Int32) + a4).toNatClampNeg) (μ.1 75 (a4.toNatClampNeg)))
def f_X10_beds_62_J139 (k52 : Int32 → Int32 → Int32 → Mem → Option (Int32 × Mem)) (a1 : Int32) (a3 : Int32) (a4 : Int32) (t0 : Int32) (μ : Mem) : Option (Int32 × Mem) :=
  k52 t0 a3 (a4 + 1) μ
def f_X10_beds_62_J126 (k52 : Int32 → Int32 → Int32 → Mem → Option (Int32 × Mem)) (a1 : Int32) (a2 : Int32) (a4 : Int32) (a5 : Int32) (t0 : Int32) (μ : Mem) : Option (Int32 × Mem) :=
  if a5 ≤ a2 then
    f_X10_beds_62_J139 k52 a1 t0 a4 a2 μ
  else
    f_X10_beds_62_J139 k52 a1 t0 a4 a5 μ
def f_X10_beds_62_L68 (a1 : Int32) (a2 : Int32) (a3 : Int32) (a4 : Int32) (k52 : Int32 → Int32 → Int32 → Mem → Option (Int32 × Mem)) (k68 : Int32 → Mem → Option (Int32 × Mem)) (a5 : Int32) (μ : Mem) : Option (Int32 × Mem) :=
    if (μ.1 62 2) ≤ a5 then
      (f_X10_bestRest_62 μ).bind fun q11 =>
      if q11.1 ≤ a2 then
        f_X10_beds_62_J126 k52 a1 a2 a4 q11.1 a3 q11.2
      else
        f_X10_beds_62_J126 k52 a1 a2 a4 q11.1 a4 q11.2
    else
      if inb ((0 : Int32) + a5) 162 = false then none else
      k68 (a5 + 1) (pI μ 63 (((0 : Int32) + a5).toNatClampNeg) ((a4 >>> (((2 : Int32) * (((μ.1 62 2) - (1 : Int32)) - a5)) &&& 31)) &&& (3 : Int32)))
def f_X10_beds_62_L52 (a1 : Int32) (k52 : Int32 → Int32 → Int32 → Mem → Option (Int32 × Mem)) (a2 : Int32) (a3 : Int32) (a4 : Int32) (μ : Mem) : Option (Int32 × Mem) :=
    (f_X10_power (4 : Int32) (μ.1 62 2) μ).bind fun q3 =>
    if q3.1 ≤ a4 then
      it2 (f_X10_beds_62_L149 a1 a2 a3) FU (0 : Int32) q3.2
    else
      it2 (f_X10_beds_62_L68 a1 a2 a3 a4 k52) FU (0 : Int32) q3.2
def f_X10_beds_62_L19 (a1 : Int32) (k19 : Int32 → Mem → Option (Int32 × Mem)) (a2 : Int32) (μ : Mem) : Option (Int32 × Mem) :=
    if (3 : Int32) ≤ a2 then
      it4 (f_X10_beds_62_L52 a1) FU (-4 : Int32) (0 : Int32) (0 : Int32) μ
    else
      if inb ((0 : Int32) + a2) 162 = false then none else
      if inb a2 3 = false then none else
      k19 (a2 + 1) (pI μ 75 (a2.toNatClampNeg) (μ.1 63 (((0 : Int32) + a2).toNatClampNeg)))
def f_X10_beds_62_J17 (a1 : Int32) (μ : Mem) : Option (Int32 × Mem) :=
  it2 (f_X10_beds_62_L19 a1) FU (0 : Int32) μ
def f_X10_beds_62 (a1 : Int32) (μ : Mem) : Option (Int32 × Mem) :=
  if a1 = 0 then
    f_X10_beds_62_J17 a1 μ
  else
    (f_X10_isSister_62 (a1 - (10 : Int32)) μ).bind fun q17 =>
    if q17.1 = 0 then
      some ((-1 : Int32), q17.2)
    else
      f_X10_beds_62_J17 a1 q17.2
set_option maxRecDepth 100000 in
set_option maxHeartbeats 4000000 in
theorem r_X10_beds_62_J187 {p : Program} {l : Launch} {e : Env} {s : State} {m : MethodId} {args : Array Value} {below : List Frame} {meth : Method} {c : Code} {D : va_G} {cy : Nat → ClassId} {ad : Nat → Nat} (C : CX p s m args meth c cX10_beds 6 RX10 (some .int) D cy ad (AD ad)) {a2 : Int32} {μ : Mem} {ρ : (Int32 × Mem)} (h : f_X10_beds_62_J187 a2 μ = some ρ) : WA p l e (rmD 5) s m args below meth c 6 D cy ad (AD ad) 0 0 (ZZ below args s D cy ad (AD ad) 0 0 (some (.int ρ.1)) ρ.2) μ [(2, .int a2)] 187 [] := by
  unfold f_X10_beds_62_J187 at h
  refine wa_iload_n C dX10_beds_187 rfl ?_
  refine wa_goto (tgt := 208) C dX10_beds_188 (by decide) ?_
  obtain rfl := Option.some.inj h
  exact wa_iret C dX10_beds_208
set_option maxRecDepth 100000 in
set_option maxHeartbeats 4000000 in
theorem r_X10_beds_62_L149 {p : Program} {l : Launch} {e : Env} {s : State} {m : MethodId} {args : Array Value} {below : List Frame} {meth : Method} {c : Code} {D : va_G} {cy : Nat → ClassId} {ad : Nat → Nat} (C : CX p s m args meth c cX10_beds 6 RX10 (some .int) D cy ad (AD ad)) (a1 : Int32) (a2 : Int32) (a3 : Int32) {ρ : (Int32 × Mem)} : ∀ (n : Nat) (a4 : Int32) (μ : Mem), it2 (f_X10_beds_62_L149 a1 a2 a3) n a4 μ = some ρ → WA p l e (rmD 5) s m args below meth c 6 D cy ad (AD ad) 0 0 (ZZ below args s D cy ad (AD ad) 0 0 (some (.int ρ.1)) ρ.2) μ [(0, .ref 62), (1, .int a1), (2, .int a2), (3, .int a3), (4, .int a4)] 149 [] := by
  intro n
  induction n with
  | zero =>
    intro a4 μ h
    exact absurd h (fun h => by cases h)
  | succ n ih =>
    intro a4 μ h
    replace h : f_X10_beds_62_L149 a1 a2 a3 (it2 (f_X10_beds_62_L149 a1 a2 a3) n) a4 μ = some ρ := h
    unfold f_X10_beds_62_L149 at h
    refine wa_iload C dX10_beds_149 rfl ?_
    refine wa_iconst (v := 3) C dX10_beds_151 (by decide) ?_
    refine wa_icmp_ge (tgt := 177) C dX10_beds_152 (by decide) (fun c5 => ?_) (fun c5 => ?_)
    · replace h := (if_pos c5).symm.trans h
      refine wa_iload_n C dX10_beds_177 rfl ?_
      refine wa_bipush (v := -4) C dX10_beds_178 (by decide) ?_
      refine wa_icmp_eq (tgt := 187) C dX10_beds_180 (by decide) (fun c6 => ?_) (fun c6 => ?_)
      · replace h := (if_pos c6).symm.trans h
        exact WA.sub (lsub_c rfl lsub_n) (r_X10_beds_62_J187 C h)
      · replace h := (if_neg c6).symm.trans h
        refine wa_iload_n C dX10_beds_183 rfl ?_
        refine wa_if_ne (tgt := 191) C dX10_beds_184 (by decide) (fun c7 => ?_) (fun c7 => ?_)
        · replace h := (if_neg c7).symm.trans h
          refine wa_iload_n C dX10_beds_191 rfl ?_
          refine wa_iconst (v := 2) C dX10_beds_192 (by decide) ?_
          refine wa_aload_n C dX10_beds_193 rfl ?_
          refine wa_geti (x := (μ.1 62 2)) C fl_RX10_94 rfl rfl (by decide) rfl dX10_beds_194 ?_
          refine wa_iconst (v := 1) C dX10_beds_197 (by decide) ?_
          refine wa_isub C dX10_beds_198 ?_
          refine wa_iload_n C dX10_beds_199 rfl ?_
          refine wa_bipush (v := 10) C dX10_beds_200 (by decide) ?_
          refine wa_isub C dX10_beds_202 ?_
          refine wa_isub C dX10_beds_203 ?_
          refine wa_imul C dX10_beds_204 ?_
          refine wa_ishr C dX10_beds_205 ?_
          refine wa_iconst (v := 3) C dX10_beds_206 (by decide) ?_
          refine wa_iand C dX10_beds_207 ?_
          obtain rfl := Option.some.inj h
          exact wa_iret C dX10_beds_208
        · replace h := (if_pos c7).symm.trans h
          exact WA.sub (lsub_c rfl lsub_n) (r_X10_beds_62_J187 C h)
    · replace h := (if_neg c5).symm.trans h
      refine wa_aload_n C dX10_beds_155 rfl ?_
      refine wa_getr C fl_RX10_7 rfl rfl (by decide) dX10_beds_156 ?_
      refine wa_iconst (v := 0) C dX10_beds_159 (by decide) ?_
      refine wa_iload C dX10_beds_160 rfl ?_
      refine wa_iadd C dX10_beds_162 ?_
      refine wa_aload_n C dX10_beds_163 rfl ?_
      refine wa_getr C fl_RX10_47 rfl rfl (by decide) dX10_beds_164 ?_
      refine wa_iload C dX10_beds_167 rfl ?_
      obtain ⟨g8, h⟩ := gd h
      refine wa_iald (j := (a4.toNatClampNeg)) (x := (μ.1 75 (a4.toNatClampNeg))) C rfl (by decide) g8 rfl rfl dX10_beds_169 ?_
      obtain ⟨g9, h⟩ := gd h
      refine wa_iast (j := (((0 : Int32) + a4).toNatClampNeg)) C rfl (by decide) g9 rfl dX10_beds_170 ?_
      refine wa_iinc (v := (a4 + 1)) C dX10_beds_171 rfl rfl (by decide) ?_
      refine wa_goto (tgt := 149) C dX10_beds_174 (by decide) ?_
      exact WA.sub (lsub_c rfl (lsub_c rfl (lsub_c rfl (lsub_c rfl (lsub_c rfl lsub_n))))) (ih _ _ h)
set_option maxRecDepth 100000 in
set_option maxHeartbeats 4000000 in
theorem r_X10_beds_62_J139 {p : Program} {l : Launch} {e : Env} {s : State} {m : MethodId} {args : Array Value} {below : List Frame} {meth : Method} {c : Code} {D : va_G} {cy : Nat → ClassId} {ad : Nat → Nat} (C : CX p s m args meth c cX10_beds 6 RX10 (some .int) D cy ad (AD ad)) {a1 : Int32} {a3 : Int32} {a4 : Int32} {t0 : Int32} {μ : Mem} {ρ : (Int32 × Mem)} (k52 : Int32 → Int32 → Int32 → Mem → Option (Int32 × Mem)) (hk52 : ∀ (a2 : Int32) (a3 : Int32) (a4 : Int32) (μ : Mem), k52 a2 a3 a4 μ = some ρ → WA p l e (rmD 5) s m args below meth c 6 D cy ad (AD ad) 0 0 (ZZ below args s D cy ad (AD ad) 0 0 (some (.int ρ.1)) ρ.2) μ [(0, .ref 62), (1, .int a1), (2, .int a2), (3, .int a3), (4, .int a4)] 52 []) (h : f_X10_beds_62_J139 k52 a1 a3 a4 t0 μ = some ρ) : WA p l e (rmD 5) s m args below meth c 6 D cy ad (AD ad) 0 0 (ZZ below args s D cy ad (AD ad) 0 0 (some (.int ρ.1)) ρ.2) μ [(0, .ref 62), (1, .int a1), (3, .int a3), (4, .int a4)] 139 [.int t0] := by
  unfold f_X10_beds_62_J139 at h
  refine wa_istore_n C dX10_beds_139 (by decide) ?_
  refine wa_iinc (v := (a4 + 1)) C dX10_beds_140 rfl rfl (by decide) ?_
  refine wa_goto (tgt := 52) C dX10_beds_143 (by decide) ?_
  exact WA.sub (lsub_c rfl (lsub_c rfl (lsub_c rfl (lsub_c rfl (lsub_c rfl lsub_n))))) (hk52 _ _ _ _ h)
set_option maxRecDepth 100000 in
set_option maxHeartbeats 4000000 in
theorem r_X10_beds_62_J126 {p : Program} {l : Launch} {e : Env} {s : State} {m : MethodId} {args : Array Value} {below : List Frame} {meth : Method} {c : Code} {D : va_G} {cy : Nat → ClassId} {ad : Nat → Nat} (C : CX p s m args meth c cX10_beds 6 RX10 (some .int) D cy ad (AD ad)) {a1 : Int32} {a2 : Int32} {a4 : Int32} {a5 : Int32} {t0 : Int32} {μ : Mem} {ρ : (Int32 × Mem)} (k52 : Int32 → Int32 → Int32 → Mem → Option (Int32 × Mem)) (hk52 : ∀ (a2 : Int32) (a3 : Int32) (a4 : Int32) (μ : Mem), k52 a2 a3 a4 μ = some ρ → WA p l e (rmD 5) s m args below meth c 6 D cy ad (AD ad) 0 0 (ZZ below args s D cy ad (AD ad) 0 0 (some (.int ρ.1)) ρ.2) μ [(0, .ref 62), (1, .int a1), (2, .int a2), (3, .int a3), (4, .int a4)] 52 []) (h : f_X10_beds_62_J126 k52 a1 a2 a4 a5 t0 μ = some ρ) : WA p l e (rmD 5) s m args below meth c 6 D cy ad (AD ad) 0 0 (ZZ below args s D cy ad (AD ad) 0 0 (some (.int ρ.1)) ρ.2) μ [(0, .ref 62), (1, .int a1), (2, .int a2), (4, .int a4), (5, .int a5)] 126 [.int t0] := by
  unfold f_X10_beds_62_J126 at h
  refine wa_istore_n C dX10_beds_126 (by decide) ?_
  refine wa_iload C dX10_beds_127 rfl ?_
  refine wa_iload_n C dX10_beds_129 rfl ?_
  refine wa_icmp_le (tgt := 138) C dX10_beds_130 (by decide) (fun c13 => ?_) (fun c13 => ?_)
  · replace h := (if_pos c13).symm.trans h
    refine wa_iload_n C dX10_beds_138 rfl ?_
    exact WA.sub (lsub_c rfl (lsub_c rfl (lsub_c rfl (lsub_c rfl lsub_n)))) (r_X10_beds_62_J139 C _ hk52 h)
  · replace h := (if_neg c13).symm.trans h
    refine wa_iload C dX10_beds_133 rfl ?_
    refine wa_goto (tgt := 139) C dX10_beds_135 (by decide) ?_
    exact WA.sub (lsub_c rfl (lsub_c rfl (lsub_c rfl (lsub_c rfl lsub_n)))) (r_X10_beds_62_J139 C _ hk52 h)
set_option maxRecDepth 100000 in
set_option maxHeartbeats 4000000 in
theorem r_X10_beds_62_L68 {p : Program} {l : Launch} {e : Env} {s : State} {m : MethodId} {args : Array Value} {below : List Frame} {meth : Method} {c : Code} {D : va_G} {cy : Nat → ClassId} {ad : Nat → Nat} (C : CX p s m args meth c cX10_beds 6 RX10 (some .int) D cy ad (AD ad)) (a1 : Int32) (a2 : Int32) (a3 : Int32) (a4 : Int32) {ρ : (Int32 × Mem)} (k52 : Int32 → Int32 → Int32 → Mem → Option (Int32 × Mem)) (hk52 : ∀ (a2 : Int32) (a3 : Int32) (a4 : Int32) (μ : Mem), k52 a2 a3 a4 μ = some ρ → WA p l e (rmD 5) s m args below meth c 6 D cy ad (AD ad) 0 0 (ZZ below args s D cy ad (AD ad) 0 0 (some (.int ρ.1)) ρ.2) μ [(0, .ref 62), (1, .int a1), (2, .int a2), (3, .int a3), (4, .int a4)] 52 []) : ∀ (n : Nat) (a5 : Int32) (μ : Mem), it2 (f_X10_beds_62_L68 a1 a2 a3 a4 k52) n a5 μ = some ρ → WA p l e (rmD 5) s m args below meth c 6 D cy ad (AD ad) 0 0 (ZZ below args s D cy ad (AD ad) 0 0 (some (.int ρ.1)) ρ.2) μ [(0, .ref 62), (1, .int a1), (2, .int a2), (3, .int a3), (4, .int a4), (5, .int a5)] 68 [] := by
  intro n
  induction n with
  | zero =>
    intro a5 μ h
    exact absurd h (fun h => by cases h)
  | succ n ih =>
    intro a5 μ h
    replace h : f_X10_beds_62_L68 a1 a2 a3 a4 k52 (it2 (f_X10_beds_62_L68 a1 a2 a3 a4 k52) n) a5 μ = some ρ := h
    unfold f_X10_beds_62_L68 at h
    refine wa_iload C dX10_beds_68 rfl ?_
    refine wa_aload_n C dX10_beds_70 rfl ?_
    refine wa_geti (x := (μ.1 62 2)) C fl_RX10_94 rfl rfl (by decide) rfl dX10_beds_71 ?_
    refine wa_icmp_ge (tgt := 108) C dX10_beds_74 (by decide) (fun c10 => ?_) (fun c10 => ?_)
    · replace h := (if_pos c10).symm.trans h
      refine wa_aload_n C dX10_beds_108 rfl ?_
      obtain ⟨q11, hq11, h⟩ := bd h
      refine wa_callV C (r_X10_bestRest_62 hq11) mk_X10_bestRest mv_X10_bestRest qw_909 rfl (by decide) rfl rfl ⟨Nat.le_of_ble_eq_true rfl, Nat.le_of_ble_eq_true rfl⟩ ⟨Nat.zero_le _, Nat.zero_le _⟩ (Nat.le_of_ble_eq_true rfl) dX10_beds_109 rfl ?_
      refine wa_istore C dX10_beds_112 (by decide) ?_
      refine wa_iload C dX10_beds_114 rfl ?_
      refine wa_iload_n C dX10_beds_116 rfl ?_
      refine wa_icmp_le (tgt := 125) C dX10_beds_117 (by decide) (fun c12 => ?_) (fun c12 => ?_)
      · replace h := (if_pos c12).symm.trans h
        refine wa_iload_n C dX10_beds_125 rfl ?_
        exact WA.sub (lsub_c rfl (lsub_c rfl (lsub_c rfl (lsub_c rfl (lsub_c rfl lsub_n))))) (r_X10_beds_62_J126 C _ hk52 h)
      · replace h := (if_neg c12).symm.trans h
        refine wa_iload C dX10_beds_120 rfl ?_
        refine wa_goto (tgt := 126) C dX10_beds_122 (by decide) ?_
        exact WA.sub (lsub_c rfl (lsub_c rfl (lsub_c rfl (lsub_c rfl (lsub_c rfl lsub_n))))) (r_X10_beds_62_J126 C _ hk52 h)
    · replace h := (if_neg c10).symm.trans h
      refine wa_aload_n C dX10_beds_77 rfl ?_
      refine wa_getr C fl_RX10_7 rfl rfl (by decide) dX10_beds_78 ?_
      refine wa_iconst (v := 0) C dX10_beds_81 (by decide) ?_
      refine wa_iload C dX10_beds_82 rfl ?_
      refine wa_iadd C dX10_beds_84 ?_
      refine wa_iload C dX10_beds_85 rfl ?_
      refine wa_iconst (v := 2) C dX10_beds_87 (by decide) ?_
      refine wa_aload_n C dX10_beds_88 rfl ?_
      refine wa_geti (x := (μ.1 62 2)) C fl_RX10_94 rfl rfl (by decide) rfl dX10_beds_89 ?_
      refine wa_iconst (v := 1) C dX10_beds_92 (by decide) ?_
      refine wa_isub C dX10_beds_93 ?_
      refine wa_iload C dX10_beds_94 rfl ?_
      refine wa_isub C dX10_beds_96 ?_
      refine wa_imul C dX10_beds_97 ?_
      refine wa_ishr C dX10_beds_98 ?_
      refine wa_iconst (v := 3) C dX10_beds_99 (by decide) ?_
      refine wa_iand C dX10_beds_100 ?_
      obtain ⟨g14, h⟩ := gd h
      refine wa_iast (j := (((0 : Int32) + a5).toNatClampNeg)) C rfl (by decide) g14 rfl dX10_beds_101 ?_
      refine wa_iinc (v := (a5 + 1)) C dX10_beds_102 rfl rfl (by decide) ?_
      refine wa_goto (tgt := 68) C dX10_beds_105 (by decide) ?_
      exact WA.sub (lsub_c rfl (lsub_c rfl (lsub_c rfl (lsub_c rfl (lsub_c rfl (lsub_c rfl lsub_n)))))) (ih _ _ h)
set_option maxRecDepth 100000 in
set_option maxHeartbeats 4000000 in
theorem r_X10_beds_62_L52 {p : Program} {l : Launch} {e : Env} {s : State} {m : MethodId} {args : Array Value} {below : List Frame} {meth : Method} {c : Code} {D : va_G} {cy : Nat → ClassId} {ad : Nat → Nat} (C : CX p s m args meth c cX10_beds 6 RX10 (some .int) D cy ad (AD ad)) (a1 : Int32) {ρ : (Int32 × Mem)} : ∀ (n : Nat) (a2 : Int32) (a3 : Int32) (a4 : Int32) (μ : Mem), it4 (f_X10_beds_62_L52 a1) n a2 a3 a4 μ = some ρ → WA p l e (rmD 5) s m args below meth c 6 D cy ad (AD ad) 0 0 (ZZ below args s D cy ad (AD ad) 0 0 (some (.int ρ.1)) ρ.2) μ [(0, .ref 62), (1, .int a1), (2, .int a2), (3, .int a3), (4, .int a4)] 52 [] := by
  intro n
  induction n with
  | zero =>
    intro a2 a3 a4 μ h
    exact absurd h (fun h => by cases h)
  | succ n ih =>
    intro a2 a3 a4 μ h
    replace h : f_X10_beds_62_L52 a1 (it4 (f_X10_beds_62_L52 a1) n) a2 a3 a4 μ = some ρ := h
    unfold f_X10_beds_62_L52 at h
    refine wa_iload C dX10_beds_52 rfl ?_
    refine wa_iconst (v := 4) C dX10_beds_54 (by decide) ?_
    refine wa_aload_n C dX10_beds_55 rfl ?_
    refine wa_geti (x := (μ.1 62 2)) C fl_RX10_94 rfl rfl (by decide) rfl dX10_beds_56 ?_
    obtain ⟨q3, hq3, h⟩ := bd h
    refine wa_callS C (r_X10_power hq3) mk_X10_power ms_X10_power qw_172 rfl ⟨Nat.le_of_ble_eq_true rfl, Nat.le_of_ble_eq_true rfl⟩ ⟨Nat.zero_le _, Nat.zero_le _⟩ (Nat.le_of_ble_eq_true rfl) dX10_beds_59 rfl ?_
    refine wa_icmp_ge (tgt := 146) C dX10_beds_62 (by decide) (fun c4 => ?_) (fun c4 => ?_)
    · replace h := (if_pos c4).symm.trans h
      refine wa_iconst (v := 0) C dX10_beds_146 (by decide) ?_
      refine wa_istore C dX10_beds_147 (by decide) ?_
      exact WA.sub (lsub_c rfl (lsub_c rfl (lsub_c rfl (lsub_c rfl (lsub_c rfl lsub_n))))) (r_X10_beds_62_L149 C _ _ _ _ _ _ h)
    · replace h := (if_neg c4).symm.trans h
      refine wa_iconst (v := 0) C dX10_beds_65 (by decide) ?_
      refine wa_istore C dX10_beds_66 (by decide) ?_
      exact WA.sub (lsub_c rfl (lsub_c rfl (lsub_c rfl (lsub_c rfl (lsub_c rfl (lsub_c rfl lsub_n)))))) (r_X10_beds_62_L68 C _ _ _ _ _ (fun _ _ _ _ h => ih _ _ _ _ h) _ _ _ h)
set_option maxRecDepth 100000 in
set_option maxHeartbeats 4000000 in
theorem r_X10_beds_62_L19 {p : Program} {l : Launch} {e : Env} {s : State} {m : MethodId} {args : Array Value} {below : List Frame} {meth : Method} {c : Code} {D : va_G} {cy : Nat → ClassId} {ad : Nat → Nat} (C : CX p s m args meth c cX10_beds 6 RX10 (some .int) D cy ad (AD ad)) (a1 : Int32) {ρ : (Int32 × Mem)} : ∀ (n : Nat) (a2 : Int32) (μ : Mem), it2 (f_X10_beds_62_L19 a1) n a2 μ = some ρ → WA p l e (rmD 5) s m args below meth c 6 D cy ad (AD ad) 0 0 (ZZ below args s D cy ad (AD ad) 0 0 (some (.int ρ.1)) ρ.2) μ [(0, .ref 62), (1, .int a1), (2, .int a2)] 19 [] := by
  intro n
  induction n with
  | zero =>
    intro a2 μ h
    exact absurd h (fun h => by cases h)
  | succ n ih =>
    intro a2 μ h
    replace h : f_X10_beds_62_L19 a1 (it2 (f_X10_beds_62_L19 a1) n) a2 μ = some ρ := h
    unfold f_X10_beds_62_L19 at h
    refine wa_iload_n C dX10_beds_19 rfl ?_
    refine wa_iconst (v := 3) C dX10_beds_20 (by decide) ?_
    refine wa_icmp_ge (tgt := 44) C dX10_beds_21 (by decide) (fun c2 => ?_) (fun c2 => ?_)
    · replace h := (if_pos c2).symm.trans h
      refine wa_bipush (v := -4) C dX10_beds_44 (by decide) ?_
      refine wa_istore_n C dX10_beds_46 (by decide) ?_
      refine wa_iconst (v := 0) C dX10_beds_47 (by decide) ?_
      refine wa_istore_n C dX10_beds_48 (by decide) ?_
      refine wa_iconst (v := 0) C dX10_beds_49 (by decide) ?_
      refine wa_istore C dX10_beds_50 (by decide) ?_
      exact WA.sub (lsub_c rfl (lsub_c rfl (lsub_c rfl (lsub_c rfl (lsub_c rfl lsub_n))))) (r_X10_beds_62_L52 C _ _ _ _ _ _ h)
    · replace h := (if_neg c2).symm.trans h
      refine wa_aload_n C dX10_beds_24 rfl ?_
      refine wa_getr C fl_RX10_47 rfl rfl (by decide) dX10_beds_25 ?_
      refine wa_iload_n C dX10_beds_28 rfl ?_
      refine wa_aload_n C dX10_beds_29 rfl ?_
      refine wa_getr C fl_RX10_7 rfl rfl (by decide) dX10_beds_30 ?_
      refine wa_iconst (v := 0) C dX10_beds_33 (by decide) ?_
      refine wa_iload_n C dX10_beds_34 rfl ?_
      refine wa_iadd C dX10_beds_35 ?_
      obtain ⟨g15, h⟩ := gd h
      refine wa_iald (j := (((0 : Int32) + a2).toNatClampNeg)) (x := (μ.1 63 (((0 : Int32) + a2).toNatClampNeg))) C rfl (by decide) g15 rfl rfl dX10_beds_36 ?_
      obtain ⟨g16, h⟩ := gd h
      refine wa_iast (j := (a2.toNatClampNeg)) C rfl (by decide) g16 rfl dX10_beds_37 ?_
      refine wa_iinc (v := (a2 + 1)) C dX10_beds_38 rfl rfl (by decide) ?_
      refine wa_goto (tgt := 19) C dX10_beds_41 (by decide) ?_
      exact WA.sub (lsub_c rfl (lsub_c rfl (lsub_c rfl lsub_n))) (ih _ _ h)
set_option maxRecDepth 100000 in
set_option maxHeartbeats 4000000 in
theorem r_X10_beds_62_J17 {p : Program} {l : Launch} {e : Env} {s : State} {m : MethodId} {args : Array Value} {below : List Frame} {meth : Method} {c : Code} {D : va_G} {cy : Nat → ClassId} {ad : Nat → Nat} (C : CX p s m args meth c cX10_beds 6 RX10 (some .int) D cy ad (AD ad)) {a1 : Int32} {μ : Mem} {ρ : (Int32 × Mem)} (h : f_X10_beds_62_J17 a1 μ = some ρ) : WA p l e (rmD 5) s m args below meth c 6 D cy ad (AD ad) 0 0 (ZZ below args s D cy ad (AD ad) 0 0 (some (.int ρ.1)) ρ.2) μ [(0, .ref 62), (1, .int a1)] 17 [] := by
  unfold f_X10_beds_62_J17 at h
  refine wa_iconst (v := 0) C dX10_beds_17 (by decide) ?_
  refine wa_istore_n C dX10_beds_18 (by decide) ?_
  exact WA.sub (lsub_c rfl (lsub_c rfl (lsub_c rfl lsub_n))) (r_X10_beds_62_L19 C _ _ _ _ h)
set_option maxRecDepth 100000 in
set_option maxHeartbeats 4000000 in
theorem r_X10_beds_62 {a1 : Int32} {μ : Mem} {ρ : (Int32 × Mem)} (h : f_X10_beds_62 a1 μ = some ρ) : HT 5 yX10_beds cX10_beds 6 (some .int) [.ref 62, .int a1] μ (some (.int ρ.1)) ρ.2 := by
  refine HT.of (by decide +kernel) (Nat.le_of_ble_eq_true rfl) (fun C => ?_)
  unfold f_X10_beds_62 at h
  refine wa_iload_n C dX10_beds_0 rfl ?_
  refine wa_if_eq (tgt := 17) C dX10_beds_1 (by decide) (fun c1 => ?_) (fun c1 => ?_)
  · replace h := (if_pos c1).symm.trans h
    exact WA.sub (lsub_c rfl (lsub_c rfl lsub_n)) (r_X10_beds_62_J17 C h)
  · replace h := (if_neg c1).symm.trans h
    refine wa_aload_n C dX10_beds_4 rfl ?_
    refine wa_iload_n C dX10_beds_5 rfl ?_
    refine wa_bipush (v := 10) C dX10_beds_6 (by decide) ?_
    refine wa_isub C dX10_beds_8 ?_
    obtain ⟨q17, hq17, h⟩ := bd h
    refine wa_callV C (r_X10_isSister_62 hq17) mk_X10_isSister mv_X10_isSister qw_494 rfl (by decide) rfl rfl ⟨Nat.le_of_ble_eq_true rfl, Nat.le_of_ble_eq_true rfl⟩ ⟨Nat.zero_le _, Nat.zero_le _⟩ (Nat.le_of_ble_eq_true rfl) dX10_beds_9 rfl ?_
    refine wa_if_ne (tgt := 17) C dX10_beds_12 (by decide) (fun c18 => ?_) (fun c18 => ?_)
    · replace h := (if_neg c18).symm.trans h
      exact WA.sub (lsub_c rfl (lsub_c rfl lsub_n)) (r_X10_beds_62_J17 C h)
    · replace h := (if_pos c18).symm.trans h
      refine wa_iconst (v := -1) C dX10_beds_15 (by decide) ?_
      obtain rfl := Option.some.inj h
      exact wa_iret C dX10_beds_16
def f_X9_opened_J49 (k4 : Int32 → Int32 → Option (Int32 × Mem)) (a0 : Int32) (a1 : Int32) (a2 : Int32) (a3 : Int32) (μ : Mem) : Option (Int32 × Mem) :=
  k4 a2 (a3 + 1)
def f_X9_opened_L4 (a0 : Int32) (a1 : Int32) (μ : Mem) (k4 : Int32 → Int32 → Option (Int32 × Mem)) (a2 : Int32) (a3 : Int32) : Option (Int32 × Mem) :=
    if (3 : Int32) ≤ a3 then
      some (a2, μ)
    else
      if ((a1 >>> (a3 &&& 31)) &&& (1 : Int32)) = (1 : Int32) then
        if inb a0 27 = false then none else
        if (((shuF (a0.toNatClampNeg)) >>> (((2 : Int32) * a3) &&& 31)) &&& (3 : Int32)) = 0 then
          some ((-1 : Int32), μ)
        else
          if inb a3 4 = false then none else
          f_X9_opened_J49 k4 a0 a1 (a2 - ((((shuF (a0.toNatClampNeg)) >>> (((2 : Int32) * a3) &&& 31)) &&& (3 : Int32)) * (powF (a3.toNatClampNeg)))) a3 μ
      else
        f_X9_opened_J49 k4 a0 a1 a2 a3 μ
def f_X9_opened (a0 : Int32) (a1 : Int32) (μ : Mem) : Option (Int32 × Mem) :=
  it2 (f_X9_opened_L4 a0 a1 μ) FU a0 (0 : Int32)
set_option maxRecDepth 100000 in
set_option maxHeartbeats 4000000 in
theorem r_X9_opened_J49 {p : Program} {l : Launch} {e : Env} {s : State} {m : MethodId} {args : Array Value} {below : List Frame} {meth : Method} {c : Code} {D : va_G} {cy : Nat → ClassId} {ad : Nat → Nat} (C : CX p s m args meth c cX9_opened 5 RX9 (some .int) D cy ad (AD ad)) {a0 : Int32} {a1 : Int32} {a2 : Int32} {a3 : Int32} {μ : Mem} {ρ : (Int32 × Mem)} (k4 : Int32 → Int32 → Option (Int32 × Mem)) (hk4 : ∀ (a2 : Int32) (a3 : Int32), k4 a2 a3 = some ρ → WA p l e (rmD 0) s m args below meth c 5 D cy ad (AD ad) 0 0 (ZZ below args s D cy ad (AD ad) 0 0 (some (.int ρ.1)) ρ.2) μ [(0, .int a0), (1, .int a1), (2, .int a2), (3, .int a3)] 4 []) (h : f_X9_opened_J49 k4 a0 a1 a2 a3 μ = some ρ) : WA p l e (rmD 0) s m args below meth c 5 D cy ad (AD ad) 0 0 (ZZ below args s D cy ad (AD ad) 0 0 (some (.int ρ.1)) ρ.2) μ [(0, .int a0), (1, .int a1), (2, .int a2), (3, .int a3)] 49 [] := by
  unfold f_X9_opened_J49 at h
  refine wa_iinc (v := (a3 + 1)) C dX9_opened_49 rfl rfl (by decide) ?_
  refine wa_goto (tgt := 4) C dX9_opened_52 (by decide) ?_
  exact WA.sub (lsub_c rfl (lsub_c rfl (lsub_c rfl (lsub_c rfl lsub_n)))) (hk4 _ _ h)
set_option maxRecDepth 100000 in
set_option maxHeartbeats 4000000 in
theorem r_X9_opened_L4 {p : Program} {l : Launch} {e : Env} {s : State} {m : MethodId} {args : Array Value} {below : List Frame} {meth : Method} {c : Code} {D : va_G} {cy : Nat → ClassId} {ad : Nat → Nat} (C : CX p s m args meth c cX9_opened 5 RX9 (some .int) D cy ad (AD ad)) (a0 : Int32) (a1 : Int32) (μ : Mem) {ρ : (Int32 × Mem)} : ∀ (n : Nat) (a2 : Int32) (a3 : Int32), it2 (f_X9_opened_L4 a0 a1 μ) n a2 a3 = some ρ → WA p l e (rmD 0) s m args below meth c 5 D cy ad (AD ad) 0 0 (ZZ below args s D cy ad (AD ad) 0 0 (some (.int ρ.1)) ρ.2) μ [(0, .int a0), (1, .int a1), (2, .int a2), (3, .int a3)] 4 [] := by
  intro n
  induction n with
  | zero =>
    intro a2 a3 h
    exact absurd h (fun h => by cases h)
  | succ n ih =>
    intro a2 a3 h
    replace h : f_X9_opened_L4 a0 a1 μ (it2 (f_X9_opened_L4 a0 a1 μ) n) a2 a3 = some ρ := h
    unfold f_X9_opened_L4 at h
    refine wa_iload_n C dX9_opened_4 rfl ?_
    refine wa_iconst (v := 3) C dX9_opened_5 (by decide) ?_
    refine wa_icmp_ge (tgt := 55) C dX9_opened_6 (by decide) (fun c1 => ?_) (fun c1 => ?_)
    · replace h := (if_pos c1).symm.trans h
      refine wa_iload_n C dX9_opened_55 rfl ?_
      obtain rfl := Option.some.inj h
      exact wa_iret C dX9_opened_56
    · replace h := (if_neg c1).symm.trans h
      refine wa_iload_n C dX9_opened_9 rfl ?_
      refine wa_iload_n C dX9_opened_10 rfl ?_
      refine wa_ishr C dX9_opened_11 ?_
      refine wa_iconst (v := 1) C dX9_opened_12 (by decide) ?_
      refine wa_iand C dX9_opened_13 ?_
      refine wa_iconst (v := 1) C dX9_opened_14 (by decide) ?_
      refine wa_icmp_ne (tgt := 49) C dX9_opened_15 (by decide) (fun c2 => ?_) (fun c2 => ?_)
      · replace h := (if_neg c2).symm.trans h
        exact WA.sub (lsub_c rfl (lsub_c rfl (lsub_c rfl (lsub_c rfl lsub_n)))) (r_X9_opened_J49 C _ (fun _ _ h => ih _ _ h) h)
      · replace h := (if_pos c2).symm.trans h
        refine wa_gshu C qw_692 dX9_opened_18 ?_
        refine wa_iload_n C dX9_opened_21 rfl ?_
        obtain ⟨g3, h⟩ := gd h
        refine wa_sald (j := (a0.toNatClampNeg)) C g3 rfl dX9_opened_22 ?_
        refine wa_iconst (v := 2) C dX9_opened_23 (by decide) ?_
        refine wa_iload_n C dX9_opened_24 rfl ?_
        refine wa_imul C dX9_opened_25 ?_
        refine wa_ishr C dX9_opened_26 ?_
        refine wa_iconst (v := 3) C dX9_opened_27 (by decide) ?_
        refine wa_iand C dX9_opened_28 ?_
        refine wa_istore C dX9_opened_29 (by decide) ?_
        refine wa_iload C dX9_opened_31 rfl ?_
        refine wa_if_ne (tgt := 38) C dX9_opened_33 (by decide) (fun c4 => ?_) (fun c4 => ?_)
        · replace h := (if_neg c4).symm.trans h
          refine wa_iload_n C dX9_opened_38 rfl ?_
          refine wa_iload C dX9_opened_39 rfl ?_
          refine wa_gpow C qw_944 dX9_opened_41 ?_
          refine wa_iload_n C dX9_opened_44 rfl ?_
          obtain ⟨g5, h⟩ := gd h
          refine wa_pald (j := (a3.toNatClampNeg)) C g5 rfl dX9_opened_45 ?_
          refine wa_imul C dX9_opened_46 ?_
          refine wa_isub C dX9_opened_47 ?_
          refine wa_istore_n C dX9_opened_48 (by decide) ?_
          exact WA.sub (lsub_c rfl (lsub_c rfl (lsub_c rfl (lsub_c rfl lsub_n)))) (r_X9_opened_J49 C _ (fun _ _ h => ih _ _ h) h)
        · replace h := (if_pos c4).symm.trans h
          refine wa_iconst (v := -1) C dX9_opened_36 (by decide) ?_
          obtain rfl := Option.some.inj h
          exact wa_iret C dX9_opened_37
set_option maxRecDepth 100000 in
set_option maxHeartbeats 4000000 in
theorem r_X9_opened {a0 : Int32} {a1 : Int32} {μ : Mem} {ρ : (Int32 × Mem)} (h : f_X9_opened a0 a1 μ = some ρ) : HT 0 yX9_opened cX9_opened 5 (some .int) [.int a0, .int a1] μ (some (.int ρ.1)) ρ.2 := by
  refine HT.of (by decide +kernel) (Nat.le_of_ble_eq_true rfl) (fun C => ?_)
  unfold f_X9_opened at h
  refine wa_iload_n C dX9_opened_0 rfl ?_
  refine wa_istore_n C dX9_opened_1 (by decide) ?_
  refine wa_iconst (v := 0) C dX9_opened_2 (by decide) ?_
  refine wa_istore_n C dX9_opened_3 (by decide) ?_
  exact WA.sub (lsub_c rfl (lsub_c rfl (lsub_c rfl (lsub_c rfl lsub_n)))) (r_X9_opened_L4 C _ _ _ _ _ _ h)
def f_X9_late_0_J111 (k33 : Int32 → Int32 → Int32 → Mem → Option (Int32 × Mem)) (a1 : Int32) (a2 : Int32) (a3 : Int32) (a4 : Int32) (a5 : Int32) (a6 : Int32) (μ : Mem) : Option (Int32 × Mem) :=
  k33 a4 a5 (a6 + 1) μ
def f_X9_late_0_J81 (k33 : Int32 → Int32 → Int32 → Mem → Option (Int32 × Mem)) (a1 : Int32) (a2 : Int32) (a3 : Int32) (a4 : Int32) (a5 : Int32) (a6 : Int32) (a7 : Int32) (a8 : Int32) (t0 : Int32) (μ : Mem) : Option (Int32 × Mem) :=
  if a7 < 0 then
    f_X9_late_0_J111 k33 a1 a2 a3 a4 a5 a6 μ
  else
    if t0 = 0 then
      f_X9_late_0_J111 k33 a1 a2 a3 a4 a5 a6 μ
    else
      (f_X9_isLawful_0 a1 a7 μ).bind fun q14 =>
      if q14.1 = 0 then
        f_X9_late_0_J111 k33 a1 a2 a3 a4 a5 a6 q14.2
      else
        f_X9_late_0_J111 k33 a1 a2 a3 a8 a7 a6 q14.2
def f_X9_late_0_J76 (k33 : Int32 → Int32 → Int32 → Mem → Option (Int32 × Mem)) (a1 : Int32) (a2 : Int32) (a3 : Int32) (a4 : Int32) (a5 : Int32) (a6 : Int32) (a7 : Int32) (a8 : Int32) (μ : Mem) : Option (Int32 × Mem) :=
  f_X9_late_0_J81 k33 a1 a2 a3 a4 a5 a6 a7 a8 (1 : Int32) μ
def f_X9_late_0_J80 (k33 : Int32 → Int32 → Int32 → Mem → Option (Int32 × Mem)) (a1 : Int32) (a2 : Int32) (a3 : Int32) (a4 : Int32) (a5 : Int32) (a6 : Int32) (a7 : Int32) (a8 : Int32) (μ : Mem) : Option (Int32 × Mem) :=
  f_X9_late_0_J81 k33 a1 a2 a3 a4 a5 a6 a7 a8 (0 : Int32) μ
def f_X9_late_0_L33 (a1 : Int32) (a2 : Int32) (a3 : Int32) (k33 : Int32 → Int32 → Int32 → Mem → Option (Int32 × Mem)) (a4 : Int32) (a5 : Int32) (a6 : Int32) (μ : Mem) : Option (Int32 × Mem) :=
    if (8 : Int32) ≤ a6 then
      if a5 = (-4 : Int32) then
        some ((-4 : Int32), μ)
      else
        if a3 = 0 then
          some (a4, μ)
        else
          some (a5, μ)
    else
      (f_X9_opened a2 a6 μ).bind fun q9 =>
      (f_J6_bitCount_0f7a4 a6 q9.2).bind fun q10 =>
      if q10.1 < a4 then
        f_X9_late_0_J76 k33 a1 a2 a3 a4 a5 a6 q9.1 q10.1 q10.2
      else
        if q10.1 = a4 then
          if a5 ≤ q9.1 then
            f_X9_late_0_J80 k33 a1 a2 a3 a4 a5 a6 q9.1 q10.1 q10.2
          else
            f_X9_late_0_J76 k33 a1 a2 a3 a4 a5 a6 q9.1 q10.1 q10.2
        else
          f_X9_late_0_J80 k33 a1 a2 a3 a4 a5 a6 q9.1 q10.1 q10.2
def f_X9_late_0 (a1 : Int32) (a2 : Int32) (a3 : Int32) (μ : Mem) : Option (Int32 × Mem) :=
  (f_X9_canTell_0 a1 a2 μ).bind fun q1 =>
  if q1.1 = 0 then
    some ((-1 : Int32), q1.2)
  else
    (f_X9_isEither a3 q1.2).bind fun q3 =>
    if q3.1 = 0 then
      some ((-1 : Int32), q3.2)
    else
      (f_X9_look_0 q3.2).bind fun q5 =>
      it4 (f_X9_late_0_L33 a1 a2 a3) FU (4 : Int32) (-4 : Int32) (0 : Int32) q5
set_option maxRecDepth 100000 in
set_option maxHeartbeats 4000000 in
theorem r_X9_late_0_J111 {p : Program} {l : Launch} {e : Env} {s : State} {m : MethodId} {args : Array Value} {below : List Frame} {meth : Method} {c : Code} {D : va_G} {cy : Nat → ClassId} {ad : Nat → Nat} (C : CX p s m args meth c cX9_late 10 RX9 (some .int) D cy ad (AD ad)) {a1 : Int32} {a2 : Int32} {a3 : Int32} {a4 : Int32} {a5 : Int32} {a6 : Int32} {μ : Mem} {ρ : (Int32 × Mem)} (k33 : Int32 → Int32 → Int32 → Mem → Option (Int32 × Mem)) (hk33 : ∀ (a4 : Int32) (a5 : Int32) (a6 : Int32) (μ : Mem), k33 a4 a5 a6 μ = some ρ → WA p l e (rmD 3) s m args below meth c 10 D cy ad (AD ad) 0 0 (ZZ below args s D cy ad (AD ad) 0 0 (some (.int ρ.1)) ρ.2) μ [(0, .ref 0), (1, .int a1), (2, .int a2), (3, .int a3), (4, .int a4), (5, .int a5), (6, .int a6)] 33 []) (h : f_X9_late_0_J111 k33 a1 a2 a3 a4 a5 a6 μ = some ρ) : WA p l e (rmD 3) s m args below meth c 10 D cy ad (AD ad) 0 0 (ZZ below args s D cy ad (AD ad) 0 0 (some (.int ρ.1)) ρ.2) μ [(0, .ref 0), (1, .int a1), (2, .int a2), (3, .int a3), (4, .int a4), (5, .int a5), (6, .int a6)] 111 [] := by
  unfold f_X9_late_0_J111 at h
  refine wa_iinc (v := (a6 + 1)) C dX9_late_111 rfl rfl (by decide) ?_
  refine wa_goto (tgt := 33) C dX9_late_114 (by decide) ?_
  exact WA.sub (lsub_c rfl (lsub_c rfl (lsub_c rfl (lsub_c rfl (lsub_c rfl (lsub_c rfl (lsub_c rfl lsub_n))))))) (hk33 _ _ _ _ h)
set_option maxRecDepth 100000 in
set_option maxHeartbeats 4000000 in
theorem r_X9_late_0_J81 {p : Program} {l : Launch} {e : Env} {s : State} {m : MethodId} {args : Array Value} {below : List Frame} {meth : Method} {c : Code} {D : va_G} {cy : Nat → ClassId} {ad : Nat → Nat} (C : CX p s m args meth c cX9_late 10 RX9 (some .int) D cy ad (AD ad)) {a1 : Int32} {a2 : Int32} {a3 : Int32} {a4 : Int32} {a5 : Int32} {a6 : Int32} {a7 : Int32} {a8 : Int32} {t0 : Int32} {μ : Mem} {ρ : (Int32 × Mem)} (k33 : Int32 → Int32 → Int32 → Mem → Option (Int32 × Mem)) (hk33 : ∀ (a4 : Int32) (a5 : Int32) (a6 : Int32) (μ : Mem), k33 a4 a5 a6 μ = some ρ → WA p l e (rmD 3) s m args below meth c 10 D cy ad (AD ad) 0 0 (ZZ below args s D cy ad (AD ad) 0 0 (some (.int ρ.1)) ρ.2) μ [(0, .ref 0), (1, .int a1), (2, .int a2), (3, .int a3), (4, .int a4), (5, .int a5), (6, .int a6)] 33 []) (h : f_X9_late_0_J81 k33 a1 a2 a3 a4 a5 a6 a7 a8 t0 μ = some ρ) : WA p l e (rmD 3) s m args below meth c 10 D cy ad (AD ad) 0 0 (ZZ below args s D cy ad (AD ad) 0 0 (some (.int ρ.1)) ρ.2) μ [(0, .ref 0), (1, .int a1), (2, .int a2), (3, .int a3), (4, .int a4), (5, .int a5), (6, .int a6), (7, .int a7), (8, .int a8)] 81 [.int t0] := by
  unfold f_X9_late_0_J81 at h
  refine wa_istore C dX9_late_81 (by decide) ?_
  refine wa_iload C dX9_late_83 rfl ?_
  refine wa_if_lt (tgt := 111) C dX9_late_85 (by decide) (fun c12 => ?_) (fun c12 => ?_)
  · replace h := (if_pos c12).symm.trans h
    exact WA.sub (lsub_c rfl (lsub_c rfl (lsub_c rfl (lsub_c rfl (lsub_c rfl (lsub_c rfl (lsub_c rfl lsub_n))))))) (r_X9_late_0_J111 C _ hk33 h)
  · replace h := (if_neg c12).symm.trans h
    refine wa_iload C dX9_late_88 rfl ?_
    refine wa_if_eq (tgt := 111) C dX9_late_90 (by decide) (fun c13 => ?_) (fun c13 => ?_)
    · replace h := (if_pos c13).symm.trans h
      exact WA.sub (lsub_c rfl (lsub_c rfl (lsub_c rfl (lsub_c rfl (lsub_c rfl (lsub_c rfl (lsub_c rfl lsub_n))))))) (r_X9_late_0_J111 C _ hk33 h)
    · replace h := (if_neg c13).symm.trans h
      refine wa_aload_n C dX9_late_93 rfl ?_
      refine wa_iload_n C dX9_late_94 rfl ?_
      refine wa_iload C dX9_late_95 rfl ?_
      obtain ⟨q14, hq14, h⟩ := bd h
      refine wa_callV C (r_X9_isLawful_0 hq14) mk_X9_isLawful mv_X9_isLawful qw_667 rfl (by decide) rfl rfl ⟨Nat.le_of_ble_eq_true rfl, Nat.le_of_ble_eq_true rfl⟩ ⟨Nat.zero_le _, Nat.zero_le _⟩ (Nat.le_of_ble_eq_true rfl) dX9_late_97 rfl ?_
      refine wa_if_eq (tgt := 111) C dX9_late_100 (by decide) (fun c15 => ?_) (fun c15 => ?_)
      · replace h := (if_pos c15).symm.trans h
        exact WA.sub (lsub_c rfl (lsub_c rfl (lsub_c rfl (lsub_c rfl (lsub_c rfl (lsub_c rfl (lsub_c rfl lsub_n))))))) (r_X9_late_0_J111 C _ hk33 h)
      · replace h := (if_neg c15).symm.trans h
        refine wa_iload C dX9_late_103 rfl ?_
        refine wa_istore C dX9_late_105 (by decide) ?_
        refine wa_iload C dX9_late_107 rfl ?_
        refine wa_istore C dX9_late_109 (by decide) ?_
        exact WA.sub (lsub_c rfl (lsub_c rfl (lsub_c rfl (lsub_c rfl (lsub_c rfl (lsub_c rfl (lsub_c rfl lsub_n))))))) (r_X9_late_0_J111 C _ hk33 h)
set_option maxRecDepth 100000 in
set_option maxHeartbeats 4000000 in
theorem r_X9_late_0_J76 {p : Program} {l : Launch} {e : Env} {s : State} {m : MethodId} {args : Array Value} {below : List Frame} {meth : Method} {c : Code} {D : va_G} {cy : Nat → ClassId} {ad : Nat → Nat} (C : CX p s m args meth c cX9_late 10 RX9 (some .int) D cy ad (AD ad)) {a1 : Int32} {a2 : Int32} {a3 : Int32} {a4 : Int32} {a5 : Int32} {a6 : Int32} {a7 : Int32} {a8 : Int32} {μ : Mem} {ρ : (Int32 × Mem)} (k33 : Int32 → Int32 → Int32 → Mem → Option (Int32 × Mem)) (hk33 : ∀ (a4 : Int32) (a5 : Int32) (a6 : Int32) (μ : Mem), k33 a4 a5 a6 μ = some ρ → WA p l e (rmD 3) s m args below meth c 10 D cy ad (AD ad) 0 0 (ZZ below args s D cy ad (AD ad) 0 0 (some (.int ρ.1)) ρ.2) μ [(0, .ref 0), (1, .int a1), (2, .int a2), (3, .int a3), (4, .int a4), (5, .int a5), (6, .int a6)] 33 []) (h : f_X9_late_0_J76 k33 a1 a2 a3 a4 a5 a6 a7 a8 μ = some ρ) : WA p l e (rmD 3) s m args below meth c 10 D cy ad (AD ad) 0 0 (ZZ below args s D cy ad (AD ad) 0 0 (some (.int ρ.1)) ρ.2) μ [(0, .ref 0), (1, .int a1), (2, .int a2), (3, .int a3), (4, .int a4), (5, .int a5), (6, .int a6), (7, .int a7), (8, .int a8)] 76 [] := by
  unfold f_X9_late_0_J76 at h
  refine wa_iconst (v := 1) C dX9_late_76 (by decide) ?_
  refine wa_goto (tgt := 81) C dX9_late_77 (by decide) ?_
  exact WA.sub (lsub_c rfl (lsub_c rfl (lsub_c rfl (lsub_c rfl (lsub_c rfl (lsub_c rfl (lsub_c rfl (lsub_c rfl (lsub_c rfl lsub_n))))))))) (r_X9_late_0_J81 C _ hk33 h)
set_option maxRecDepth 100000 in
set_option maxHeartbeats 4000000 in
theorem r_X9_late_0_J80 {p : Program} {l : Launch} {e : Env} {s : State} {m : MethodId} {args : Array Value} {below : List Frame} {meth : Method} {c : Code} {D : va_G} {cy : Nat → ClassId} {ad : Nat → Nat} (C : CX p s m args meth c cX9_late 10 RX9 (some .int) D cy ad (AD ad)) {a1 : Int32} {a2 : Int32} {a3 : Int32} {a4 : Int32} {a5 : Int32} {a6 : Int32} {a7 : Int32} {a8 : Int32} {μ : Mem} {ρ : (Int32 × Mem)} (k33 : Int32 → Int32 → Int32 → Mem → Option (Int32 × Mem)) (hk33 : ∀ (a4 : Int32) (a5 : Int32) (a6 : Int32) (μ : Mem), k33 a4 a5 a6 μ = some ρ → WA p l e (rmD 3) s m args below meth c 10 D cy ad (AD ad) 0 0 (ZZ below args s D cy ad (AD ad) 0 0 (some (.int ρ.1)) ρ.2) μ [(0, .ref 0), (1, .int a1), (2, .int a2), (3, .int a3), (4, .int a4), (5, .int a5), (6, .int a6)] 33 []) (h : f_X9_late_0_J80 k33 a1 a2 a3 a4 a5 a6 a7 a8 μ = some ρ) : WA p l e (rmD 3) s m args below meth c 10 D cy ad (AD ad) 0 0 (ZZ below args s D cy ad (AD ad) 0 0 (some (.int ρ.1)) ρ.2) μ [(0, .ref 0), (1, .int a1), (2, .int a2), (3, .int a3), (4, .int a4), (5, .int a5), (6, .int a6), (7, .int a7), (8, .int a8)] 80 [] := by
  unfold f_X9_late_0_J80 at h
  refine wa_iconst (v := 0) C dX9_late_80 (by decide) ?_
  exact WA.sub (lsub_c rfl (lsub_c rfl (lsub_c rfl (lsub_c rfl (lsub_c rfl (lsub_c rfl (lsub_c rfl (lsub_c rfl (lsub_c rfl lsub_n))))))))) (r_X9_late_0_J81 C _ hk33 h)
set_option maxRecDepth 100000 in
set_option maxHeartbeats 4000000 in
theorem r_X9_late_0_L33 {p : Program} {l : Launch} {e : Env} {s : State} {m : MethodId} {args : Array Value} {below : List Frame} {meth : Method} {c : Code} {D : va_G} {cy : Nat → ClassId} {ad : Nat → Nat} (C : CX p s m args meth c cX9_late 10 RX9 (some .int) D cy ad (AD ad)) (a1 : Int32) (a2 : Int32) (a3 : Int32) {ρ : (Int32 × Mem)} : ∀ (n : Nat) (a4 : Int32) (a5 : Int32) (a6 : Int32) (μ : Mem), it4 (f_X9_late_0_L33 a1 a2 a3) n a4 a5 a6 μ = some ρ → WA p l e (rmD 3) s m args below meth c 10 D cy ad (AD ad) 0 0 (ZZ below args s D cy ad (AD ad) 0 0 (some (.int ρ.1)) ρ.2) μ [(0, .ref 0), (1, .int a1), (2, .int a2), (3, .int a3), (4, .int a4), (5, .int a5), (6, .int a6)] 33 [] := by
  intro n
  induction n with
  | zero =>
    intro a4 a5 a6 μ h
    exact absurd h (fun h => by cases h)
  | succ n ih =>
    intro a4 a5 a6 μ h
    replace h : f_X9_late_0_L33 a1 a2 a3 (it4 (f_X9_late_0_L33 a1 a2 a3) n) a4 a5 a6 μ = some ρ := h
    unfold f_X9_late_0_L33 at h
    refine wa_iload C dX9_late_33 rfl ?_
    refine wa_bipush (v := 8) C dX9_late_35 (by decide) ?_
    refine wa_icmp_ge (tgt := 117) C dX9_late_37 (by decide) (fun c6 => ?_) (fun c6 => ?_)
    · replace h := (if_pos c6).symm.trans h
      refine wa_iload C dX9_late_117 rfl ?_
      refine wa_bipush (v := -4) C dX9_late_119 (by decide) ?_
      refine wa_icmp_ne (tgt := 127) C dX9_late_121 (by decide) (fun c7 => ?_) (fun c7 => ?_)
      · replace h := (if_neg c7).symm.trans h
        refine wa_iload_n C dX9_late_127 rfl ?_
        refine wa_if_ne (tgt := 136) C dX9_late_128 (by decide) (fun c8 => ?_) (fun c8 => ?_)
        · replace h := (if_neg c8).symm.trans h
          refine wa_iload C dX9_late_136 rfl ?_
          obtain rfl := Option.some.inj h
          exact wa_iret C dX9_late_138
        · replace h := (if_pos c8).symm.trans h
          refine wa_iload C dX9_late_131 rfl ?_
          refine wa_goto (tgt := 138) C dX9_late_133 (by decide) ?_
          obtain rfl := Option.some.inj h
          exact wa_iret C dX9_late_138
      · replace h := (if_pos c7).symm.trans h
        refine wa_bipush (v := -4) C dX9_late_124 (by decide) ?_
        obtain rfl := Option.some.inj h
        exact wa_iret C dX9_late_126
    · replace h := (if_neg c6).symm.trans h
      refine wa_iload_n C dX9_late_40 rfl ?_
      refine wa_iload C dX9_late_41 rfl ?_
      obtain ⟨q9, hq9, h⟩ := bd h
      refine wa_callS C (r_X9_opened hq9) mk_X9_opened ms_X9_opened qw_941 rfl ⟨Nat.le_of_ble_eq_true rfl, Nat.le_of_ble_eq_true rfl⟩ ⟨Nat.zero_le _, Nat.zero_le _⟩ (Nat.le_of_ble_eq_true rfl) dX9_late_43 rfl ?_
      refine wa_istore C dX9_late_46 (by decide) ?_
      refine wa_iload C dX9_late_48 rfl ?_
      obtain ⟨q10, hq10, h⟩ := bd h
      refine wa_callS C (r_J6_bitCount_0f7a4 hq10) mk_J6_bitCount_0f7a4 ms_J6_bitCount_0f7a4 qw_695 rfl ⟨Nat.le_of_ble_eq_true rfl, Nat.le_of_ble_eq_true rfl⟩ ⟨Nat.zero_le _, Nat.zero_le _⟩ (Nat.le_of_ble_eq_true rfl) dX9_late_50 rfl ?_
      refine wa_istore C dX9_late_53 (by decide) ?_
      refine wa_iload C dX9_late_55 rfl ?_
      refine wa_iload C dX9_late_57 rfl ?_
      refine wa_icmp_lt (tgt := 76) C dX9_late_59 (by decide) (fun c11 => ?_) (fun c11 => ?_)
      · replace h := (if_pos c11).symm.trans h
        exact WA.sub (lsub_c rfl (lsub_c rfl (lsub_c rfl (lsub_c rfl (lsub_c rfl (lsub_c rfl (lsub_c rfl (lsub_c rfl (lsub_c rfl lsub_n))))))))) (r_X9_late_0_J76 C _ (fun _ _ _ _ h => ih _ _ _ _ h) h)
      · replace h := (if_neg c11).symm.trans h
        refine wa_iload C dX9_late_62 rfl ?_
        refine wa_iload C dX9_late_64 rfl ?_
        refine wa_icmp_ne (tgt := 80) C dX9_late_66 (by decide) (fun c16 => ?_) (fun c16 => ?_)
        · replace h := (if_neg c16).symm.trans h
          exact WA.sub (lsub_c rfl (lsub_c rfl (lsub_c rfl (lsub_c rfl (lsub_c rfl (lsub_c rfl (lsub_c rfl (lsub_c rfl (lsub_c rfl lsub_n))))))))) (r_X9_late_0_J80 C _ (fun _ _ _ _ h => ih _ _ _ _ h) h)
        · replace h := (if_pos c16).symm.trans h
          refine wa_iload C dX9_late_69 rfl ?_
          refine wa_iload C dX9_late_71 rfl ?_
          refine wa_icmp_ge (tgt := 80) C dX9_late_73 (by decide) (fun c17 => ?_) (fun c17 => ?_)
          · replace h := (if_pos c17).symm.trans h
            exact WA.sub (lsub_c rfl (lsub_c rfl (lsub_c rfl (lsub_c rfl (lsub_c rfl (lsub_c rfl (lsub_c rfl (lsub_c rfl (lsub_c rfl lsub_n))))))))) (r_X9_late_0_J80 C _ (fun _ _ _ _ h => ih _ _ _ _ h) h)
          · replace h := (if_neg c17).symm.trans h
            exact WA.sub (lsub_c rfl (lsub_c rfl (lsub_c rfl (lsub_c rfl (lsub_c rfl (lsub_c rfl (lsub_c rfl (lsub_c rfl (lsub_c rfl lsub_n))))))))) (r_X9_late_0_J76 C _ (fun _ _ _ _ h => ih _ _ _ _ h) h)
set_option maxRecDepth 100000 in
set_option maxHeartbeats 4000000 in
theorem r_X9_late_0 {a1 : Int32} {a2 : Int32} {a3 : Int32} {μ : Mem} {ρ : (Int32 × Mem)} (h : f_X9_late_0 a1 a2 a3 μ = some ρ) : HT 3 yX9_late cX9_late 10 (some .int) [.ref 0, .int a1, .int a2, .int a3] μ (some (.int ρ.1)) ρ.2 := by
  refine HT.of (by decide +kernel) (Nat.le_of_ble_eq_true rfl) (fun C => ?_)
  unfold f_X9_late_0 at h
  refine wa_aload_n C dX9_late_0 rfl ?_
  refine wa_iload_n C dX9_late_1 rfl ?_
  refine wa_iload_n C dX9_late_2 rfl ?_
  obtain ⟨q1, hq1, h⟩ := bd h
  refine wa_callV C (r_X9_canTell_0 hq1) mk_X9_canTell mv_X9_canTell qw_579 rfl (by decide) rfl rfl ⟨Nat.le_of_ble_eq_true rfl, Nat.le_of_ble_eq_true rfl⟩ ⟨Nat.zero_le _, Nat.zero_le _⟩ (Nat.le_of_ble_eq_true rfl) dX9_late_3 rfl ?_
  refine wa_if_eq (tgt := 16) C dX9_late_6 (by decide) (fun c2 => ?_) (fun c2 => ?_)
  · replace h := (if_pos c2).symm.trans h
    refine wa_iconst (v := -1) C dX9_late_16 (by decide) ?_
    obtain rfl := Option.some.inj h
    exact wa_iret C dX9_late_17
  · replace h := (if_neg c2).symm.trans h
    refine wa_iload_n C dX9_late_9 rfl ?_
    obtain ⟨q3, hq3, h⟩ := bd h
    refine wa_callS C (r_X9_isEither hq3) mk_X9_isEither ms_X9_isEither qw_487 rfl ⟨Nat.le_of_ble_eq_true rfl, Nat.le_of_ble_eq_true rfl⟩ ⟨Nat.zero_le _, Nat.zero_le _⟩ (Nat.le_of_ble_eq_true rfl) dX9_late_10 rfl ?_
    refine wa_if_ne (tgt := 18) C dX9_late_13 (by decide) (fun c4 => ?_) (fun c4 => ?_)
    · replace h := (if_neg c4).symm.trans h
      refine wa_aload_n C dX9_late_18 rfl ?_
      obtain ⟨q5, hq5, h⟩ := bd h
      refine wa_callV C (r_X9_look_0 hq5) mk_X9_look mv_X9_look qw_508 rfl (by decide) rfl rfl ⟨Nat.le_of_ble_eq_true rfl, Nat.le_of_ble_eq_true rfl⟩ ⟨Nat.zero_le _, Nat.zero_le _⟩ (Nat.le_of_ble_eq_true rfl) dX9_late_19 rfl ?_
      refine wa_pop C dX9_late_22 rfl ?_
      refine wa_iconst (v := 4) C dX9_late_23 (by decide) ?_
      refine wa_istore C dX9_late_24 (by decide) ?_
      refine wa_bipush (v := -4) C dX9_late_26 (by decide) ?_
      refine wa_istore C dX9_late_28 (by decide) ?_
      refine wa_iconst (v := 0) C dX9_late_30 (by decide) ?_
      refine wa_istore C dX9_late_31 (by decide) ?_
      exact WA.sub (lsub_c rfl (lsub_c rfl (lsub_c rfl (lsub_c rfl (lsub_c rfl (lsub_c rfl (lsub_c rfl lsub_n))))))) (r_X9_late_0_L33 C _ _ _ _ _ _ _ _ h)
    · replace h := (if_pos c4).symm.trans h
      refine wa_iconst (v := -1) C dX9_late_16 (by decide) ?_
      obtain rfl := Option.some.inj h
      exact wa_iret C dX9_late_17
def f_X10_isOpened_62 (a1 : Int32) (a2 : Int32) (μ : Mem) : Option (Int32 × Mem) :=
  (f_X10_shutBy_62 a1 μ).bind fun q1 =>
  (f_X10_shutBy_62 a2 q1.2).bind fun q2 =>
  if (q1.1 &&& (q2.1 ^^^ (-1 : Int32))) = 0 then
    some ((1 : Int32), q2.2)
  else
    some ((0 : Int32), q2.2)
set_option maxRecDepth 100000 in
set_option maxHeartbeats 4000000 in
theorem r_X10_isOpened_62 {a1 : Int32} {a2 : Int32} {μ : Mem} {ρ : (Int32 × Mem)} (h : f_X10_isOpened_62 a1 a2 μ = some ρ) : HT 1 yX10_isOpened cX10_isOpened 3 (some .boolean) [.ref 62, .int a1, .int a2] μ (some (.int ρ.1)) ρ.2 := by
  refine HT.of (by decide +kernel) (Nat.le_of_ble_eq_true rfl) (fun C => ?_)
  unfold f_X10_isOpened_62 at h
  refine wa_aload_n C dX10_isOpened_0 rfl ?_
  refine wa_iload_n C dX10_isOpened_1 rfl ?_
  obtain ⟨q1, hq1, h⟩ := bd h
  refine wa_callV C (r_X10_shutBy_62 hq1) mk_X10_shutBy mv_X10_shutBy qw_647 rfl (by decide) rfl rfl ⟨Nat.le_of_ble_eq_true rfl, Nat.le_of_ble_eq_true rfl⟩ ⟨Nat.zero_le _, Nat.zero_le _⟩ (Nat.le_of_ble_eq_true rfl) dX10_isOpened_2 rfl ?_
  refine wa_aload_n C dX10_isOpened_5 rfl ?_
  refine wa_iload_n C dX10_isOpened_6 rfl ?_
  obtain ⟨q2, hq2, h⟩ := bd h
  refine wa_callV C (r_X10_shutBy_62 hq2) mk_X10_shutBy mv_X10_shutBy qw_647 rfl (by decide) rfl rfl ⟨Nat.le_of_ble_eq_true rfl, Nat.le_of_ble_eq_true rfl⟩ ⟨Nat.zero_le _, Nat.zero_le _⟩ (Nat.le_of_ble_eq_true rfl) dX10_isOpened_7 rfl ?_
  refine wa_iconst (v := -1) C dX10_isOpened_10 (by decide) ?_
  refine wa_ixor C dX10_isOpened_11 ?_
  refine wa_iand C dX10_isOpened_12 ?_
  refine wa_if_ne (tgt := 20) C dX10_isOpened_13 (by decide) (fun c3 => ?_) (fun c3 => ?_)
  · replace h := (if_neg c3).symm.trans h
    refine wa_iconst (v := 0) C dX10_isOpened_20 (by decide) ?_
    obtain rfl := Option.some.inj h
    exact wa_zret C rfl dX10_isOpened_21
  · replace h := (if_pos c3).symm.trans h
    refine wa_iconst (v := 1) C dX10_isOpened_16 (by decide) ?_
    refine wa_goto (tgt := 21) C dX10_isOpened_17 (by decide) ?_
    obtain rfl := Option.some.inj h
    exact wa_zret C rfl dX10_isOpened_21
def f_X10_late_62_J134 (k36 : Int32 → Int32 → Int32 → Mem → Option (Int32 × Mem)) (a1 : Int32) (a2 : Int32) (a3 : Int32) (a4 : Int32) (a5 : Int32) (a6 : Int32) (μ : Mem) : Option (Int32 × Mem) :=
  k36 a4 a5 (a6 + 1) μ
def f_X10_late_62_J132 (k36 : Int32 → Int32 → Int32 → Mem → Option (Int32 × Mem)) (a1 : Int32) (a2 : Int32) (a3 : Int32) (a5 : Int32) (a6 : Int32) (t0 : Int32) (μ : Mem) : Option (Int32 × Mem) :=
  f_X10_late_62_J134 k36 a1 a2 a3 t0 a5 a6 μ
def f_X10_late_62_J118 (k36 : Int32 → Int32 → Int32 → Mem → Option (Int32 × Mem)) (a1 : Int32) (a2 : Int32) (a3 : Int32) (a4 : Int32) (a6 : Int32) (a7 : Int32) (a8 : Int32) (t0 : Int32) (μ : Mem) : Option (Int32 × Mem) :=
  if a8 = 0 then
    f_X10_late_62_J132 k36 a1 a2 a3 t0 a6 a4 μ
  else
    f_X10_late_62_J132 k36 a1 a2 a3 t0 a6 a7 μ
def f_X10_late_62_J104 (k36 : Int32 → Int32 → Int32 → Mem → Option (Int32 × Mem)) (a1 : Int32) (a2 : Int32) (a3 : Int32) (a4 : Int32) (a5 : Int32) (a6 : Int32) (a7 : Int32) (t0 : Int32) (μ : Mem) : Option (Int32 × Mem) :=
  if t0 = 0 then
    f_X10_late_62_J118 k36 a1 a2 a3 a4 a6 a7 t0 a5 μ
  else
    f_X10_late_62_J118 k36 a1 a2 a3 a4 a6 a7 t0 a6 μ
def f_X10_late_62_J99 (k36 : Int32 → Int32 → Int32 → Mem → Option (Int32 × Mem)) (a1 : Int32) (a2 : Int32) (a3 : Int32) (a4 : Int32) (a5 : Int32) (a6 : Int32) (a7 : Int32) (μ : Mem) : Option (Int32 × Mem) :=
  f_X10_late_62_J104 k36 a1 a2 a3 a4 a5 a6 a7 (1 : Int32) μ
def f_X10_late_62_L36 (a1 : Int32) (a2 : Int32) (a3 : Int32) (k36 : Int32 → Int32 → Int32 → Mem → Option (Int32 × Mem)) (a4 : Int32) (a5 : Int32) (a6 : Int32) (μ : Mem) : Option (Int32 × Mem) :=
    if (μ.1 62 4) ≤ a6 then
      if a3 = 0 then
        some (a4, μ)
      else
        some (a5, μ)
    else
      (f_X10_isOpened_62 a6 a2 μ).bind fun q9 =>
      if q9.1 = 0 then
        f_X10_late_62_J134 k36 a1 a2 a3 a4 a5 a6 q9.2
      else
        (f_X10_isLawful_62 a1 a6 q9.2).bind fun q11 =>
        if q11.1 = 0 then
          f_X10_late_62_J134 k36 a1 a2 a3 a4 a5 a6 q11.2
        else
          (f_X10_shutBy_62 a2 q11.2).bind fun q13 =>
          (f_X10_bitsOf q13.1 q13.2).bind fun q14 =>
          (f_X10_shutBy_62 a6 q14.2).bind fun q15 =>
          (f_X10_bitsOf q15.1 q15.2).bind fun q16 =>
          if a4 = (-4 : Int32) then
            f_X10_late_62_J99 k36 a1 a2 a3 a4 a5 a6 (q14.1 - q16.1) q16.2
          else
            if a4 ≤ (q14.1 - q16.1) then
              f_X10_late_62_J104 k36 a1 a2 a3 a4 a5 a6 (q14.1 - q16.1) (0 : Int32) q16.2
            else
              f_X10_late_62_J99 k36 a1 a2 a3 a4 a5 a6 (q14.1 - q16.1) q16.2
def f_X10_late_62 (a1 : Int32) (a2 : Int32) (a3 : Int32) (μ : Mem) : Option (Int32 × Mem) :=
  (f_X10_isQuarter_62 a1 μ).bind fun q1 =>
  if q1.1 = 0 then
    some ((-1 : Int32), q1.2)
  else
    (f_X10_isWatch_62 a2 q1.2).bind fun q3 =>
    if q3.1 = 0 then
      some ((-1 : Int32), q3.2)
    else
      (f_X10_isPart a3 q3.2).bind fun q5 =>
      if q5.1 = 0 then
        some ((-1 : Int32), q5.2)
      else
        it4 (f_X10_late_62_L36 a1 a2 a3) FU (-4 : Int32) (-4 : Int32) (0 : Int32) q5.2
set_option maxRecDepth 100000 in
set_option maxHeartbeats 4000000 in
theorem r_X10_late_62_J134 {p : Program} {l : Launch} {e : Env} {s : State} {m : MethodId} {args : Array Value} {below : List Frame} {meth : Method} {c : Code} {D : va_G} {cy : Nat → ClassId} {ad : Nat → Nat} (C : CX p s m args meth c cX10_late 9 RX10 (some .int) D cy ad (AD ad)) {a1 : Int32} {a2 : Int32} {a3 : Int32} {a4 : Int32} {a5 : Int32} {a6 : Int32} {μ : Mem} {ρ : (Int32 × Mem)} (k36 : Int32 → Int32 → Int32 → Mem → Option (Int32 × Mem)) (hk36 : ∀ (a4 : Int32) (a5 : Int32) (a6 : Int32) (μ : Mem), k36 a4 a5 a6 μ = some ρ → WA p l e (rmD 4) s m args below meth c 9 D cy ad (AD ad) 0 0 (ZZ below args s D cy ad (AD ad) 0 0 (some (.int ρ.1)) ρ.2) μ [(0, .ref 62), (1, .int a1), (2, .int a2), (3, .int a3), (4, .int a4), (5, .int a5), (6, .int a6)] 36 []) (h : f_X10_late_62_J134 k36 a1 a2 a3 a4 a5 a6 μ = some ρ) : WA p l e (rmD 4) s m args below meth c 9 D cy ad (AD ad) 0 0 (ZZ below args s D cy ad (AD ad) 0 0 (some (.int ρ.1)) ρ.2) μ [(0, .ref 62), (1, .int a1), (2, .int a2), (3, .int a3), (4, .int a4), (5, .int a5), (6, .int a6)] 134 [] := by
  unfold f_X10_late_62_J134 at h
  refine wa_iinc (v := (a6 + 1)) C dX10_late_134 rfl rfl (by decide) ?_
  refine wa_goto (tgt := 36) C dX10_late_137 (by decide) ?_
  exact WA.sub (lsub_c rfl (lsub_c rfl (lsub_c rfl (lsub_c rfl (lsub_c rfl (lsub_c rfl (lsub_c rfl lsub_n))))))) (hk36 _ _ _ _ h)
set_option maxRecDepth 100000 in
set_option maxHeartbeats 4000000 in
theorem r_X10_late_62_J132 {p : Program} {l : Launch} {e : Env} {s : State} {m : MethodId} {args : Array Value} {below : List Frame} {meth : Method} {c : Code} {D : va_G} {cy : Nat → ClassId} {ad : Nat → Nat} (C : CX p s m args meth c cX10_late 9 RX10 (some .int) D cy ad (AD ad)) {a1 : Int32} {a2 : Int32} {a3 : Int32} {a5 : Int32} {a6 : Int32} {t0 : Int32} {μ : Mem} {ρ : (Int32 × Mem)} (k36 : Int32 → Int32 → Int32 → Mem → Option (Int32 × Mem)) (hk36 : ∀ (a4 : Int32) (a5 : Int32) (a6 : Int32) (μ : Mem), k36 a4 a5 a6 μ = some ρ → WA p l e (rmD 4) s m args below meth c 9 D cy ad (AD ad) 0 0 (ZZ below args s D cy ad (AD ad) 0 0 (some (.int ρ.1)) ρ.2) μ [(0, .ref 62), (1, .int a1), (2, .int a2), (3, .int a3), (4, .int a4), (5, .int a5), (6, .int a6)] 36 []) (h : f_X10_late_62_J132 k36 a1 a2 a3 a5 a6 t0 μ = some ρ) : WA p l e (rmD 4) s m args below meth c 9 D cy ad (AD ad) 0 0 (ZZ below args s D cy ad (AD ad) 0 0 (some (.int ρ.1)) ρ.2) μ [(0, .ref 62), (1, .int a1), (2, .int a2), (3, .int a3), (5, .int a5), (6, .int a6)] 132 [.int t0] := by
  unfold f_X10_late_62_J132 at h
  refine wa_istore C dX10_late_132 (by decide) ?_
  exact WA.sub (lsub_c rfl (lsub_c rfl (lsub_c rfl (lsub_c rfl (lsub_c rfl (lsub_c rfl (lsub_c rfl lsub_n))))))) (r_X10_late_62_J134 C _ hk36 h)
set_option maxRecDepth 100000 in
set_option maxHeartbeats 4000000 in
theorem r_X10_late_62_J118 {p : Program} {l : Launch} {e : Env} {s : State} {m : MethodId} {args : Array Value} {below : List Frame} {meth : Method} {c : Code} {D : va_G} {cy : Nat → ClassId} {ad : Nat → Nat} (C : CX p s m args meth c cX10_late 9 RX10 (some .int) D cy ad (AD ad)) {a1 : Int32} {a2 : Int32} {a3 : Int32} {a4 : Int32} {a6 : Int32} {a7 : Int32} {a8 : Int32} {t0 : Int32} {μ : Mem} {ρ : (Int32 × Mem)} (k36 : Int32 → Int32 → Int32 → Mem → Option (Int32 × Mem)) (hk36 : ∀ (a4 : Int32) (a5 : Int32) (a6 : Int32) (μ : Mem), k36 a4 a5 a6 μ = some ρ → WA p l e (rmD 4) s m args below meth c 9 D cy ad (AD ad) 0 0 (ZZ below args s D cy ad (AD ad) 0 0 (some (.int ρ.1)) ρ.2) μ [(0, .ref 62), (1, .int a1), (2, .int a2), (3, .int a3), (4, .int a4), (5, .int a5), (6, .int a6)] 36 []) (h : f_X10_late_62_J118 k36 a1 a2 a3 a4 a6 a7 a8 t0 μ = some ρ) : WA p l e (rmD 4) s m args below meth c 9 D cy ad (AD ad) 0 0 (ZZ below args s D cy ad (AD ad) 0 0 (some (.int ρ.1)) ρ.2) μ [(0, .ref 62), (1, .int a1), (2, .int a2), (3, .int a3), (4, .int a4), (6, .int a6), (7, .int a7), (8, .int a8)] 118 [.int t0] := by
  unfold f_X10_late_62_J118 at h
  refine wa_istore C dX10_late_118 (by decide) ?_
  refine wa_iload C dX10_late_120 rfl ?_
  refine wa_if_eq (tgt := 130) C dX10_late_122 (by decide) (fun c19 => ?_) (fun c19 => ?_)
  · replace h := (if_pos c19).symm.trans h
    refine wa_iload C dX10_late_130 rfl ?_
    exact WA.sub (lsub_c rfl (lsub_c rfl (lsub_c rfl (lsub_c rfl (lsub_c rfl (lsub_c rfl lsub_n)))))) (r_X10_late_62_J132 C _ hk36 h)
  · replace h := (if_neg c19).symm.trans h
    refine wa_iload C dX10_late_125 rfl ?_
    refine wa_goto (tgt := 132) C dX10_late_127 (by decide) ?_
    exact WA.sub (lsub_c rfl (lsub_c rfl (lsub_c rfl (lsub_c rfl (lsub_c rfl (lsub_c rfl lsub_n)))))) (r_X10_late_62_J132 C _ hk36 h)
set_option maxRecDepth 100000 in
set_option maxHeartbeats 4000000 in
theorem r_X10_late_62_J104 {p : Program} {l : Launch} {e : Env} {s : State} {m : MethodId} {args : Array Value} {below : List Frame} {meth : Method} {c : Code} {D : va_G} {cy : Nat → ClassId} {ad : Nat → Nat} (C : CX p s m args meth c cX10_late 9 RX10 (some .int) D cy ad (AD ad)) {a1 : Int32} {a2 : Int32} {a3 : Int32} {a4 : Int32} {a5 : Int32} {a6 : Int32} {a7 : Int32} {t0 : Int32} {μ : Mem} {ρ : (Int32 × Mem)} (k36 : Int32 → Int32 → Int32 → Mem → Option (Int32 × Mem)) (hk36 : ∀ (a4 : Int32) (a5 : Int32) (a6 : Int32) (μ : Mem), k36 a4 a5 a6 μ = some ρ → WA p l e (rmD 4) s m args below meth c 9 D cy ad (AD ad) 0 0 (ZZ below args s D cy ad (AD ad) 0 0 (some (.int ρ.1)) ρ.2) μ [(0, .ref 62), (1, .int a1), (2, .int a2), (3, .int a3), (4, .int a4), (5, .int a5), (6, .int a6)] 36 []) (h : f_X10_late_62_J104 k36 a1 a2 a3 a4 a5 a6 a7 t0 μ = some ρ) : WA p l e (rmD 4) s m args below meth c 9 D cy ad (AD ad) 0 0 (ZZ below args s D cy ad (AD ad) 0 0 (some (.int ρ.1)) ρ.2) μ [(0, .ref 62), (1, .int a1), (2, .int a2), (3, .int a3), (4, .int a4), (5, .int a5), (6, .int a6), (7, .int a7)] 104 [.int t0] := by
  unfold f_X10_late_62_J104 at h
  refine wa_istore C dX10_late_104 (by decide) ?_
  refine wa_iload C dX10_late_106 rfl ?_
  refine wa_if_eq (tgt := 116) C dX10_late_108 (by decide) (fun c18 => ?_) (fun c18 => ?_)
  · replace h := (if_pos c18).symm.trans h
    refine wa_iload C dX10_late_116 rfl ?_
    exact WA.sub (lsub_c rfl (lsub_c rfl (lsub_c rfl (lsub_c rfl (lsub_c rfl (lsub_c rfl (lsub_c rfl (lsub_c rfl lsub_n)))))))) (r_X10_late_62_J118 C _ hk36 h)
  · replace h := (if_neg c18).symm.trans h
    refine wa_iload C dX10_late_111 rfl ?_
    refine wa_goto (tgt := 118) C dX10_late_113 (by decide) ?_
    exact WA.sub (lsub_c rfl (lsub_c rfl (lsub_c rfl (lsub_c rfl (lsub_c rfl (lsub_c rfl (lsub_c rfl (lsub_c rfl lsub_n)))))))) (r_X10_late_62_J118 C _ hk36 h)
set_option maxRecDepth 100000 in
set_option maxHeartbeats 4000000 in
theorem r_X10_late_62_J99 {p : Program} {l : Launch} {e : Env} {s : State} {m : MethodId} {args : Array Value} {below : List Frame} {meth : Method} {c : Code} {D : va_G} {cy : Nat → ClassId} {ad : Nat → Nat} (C : CX p s m args meth c cX10_late 9 RX10 (some .int) D cy ad (AD ad)) {a1 : Int32} {a2 : Int32} {a3 : Int32} {a4 : Int32} {a5 : Int32} {a6 : Int32} {a7 : Int32} {μ : Mem} {ρ : (Int32 × Mem)} (k36 : Int32 → Int32 → Int32 → Mem → Option (Int32 × Mem)) (hk36 : ∀ (a4 : Int32) (a5 : Int32) (a6 : Int32) (μ : Mem), k36 a4 a5 a6 μ = some ρ → WA p l e (rmD 4) s m args below meth c 9 D cy ad (AD ad) 0 0 (ZZ below args s D cy ad (AD ad) 0 0 (some (.int ρ.1)) ρ.2) μ [(0, .ref 62), (1, .int a1), (2, .int a2), (3, .int a3), (4, .int a4), (5, .int a5), (6, .int a6)] 36 []) (h : f_X10_late_62_J99 k36 a1 a2 a3 a4 a5 a6 a7 μ = some ρ) : WA p l e (rmD 4) s m args below meth c 9 D cy ad (AD ad) 0 0 (ZZ below args s D cy ad (AD ad) 0 0 (some (.int ρ.1)) ρ.2) μ [(0, .ref 62), (1, .int a1), (2, .int a2), (3, .int a3), (4, .int a4), (5, .int a5), (6, .int a6), (7, .int a7)] 99 [] := by
  unfold f_X10_late_62_J99 at h
  refine wa_iconst (v := 1) C dX10_late_99 (by decide) ?_
  refine wa_goto (tgt := 104) C dX10_late_100 (by decide) ?_
  exact WA.sub (lsub_c rfl (lsub_c rfl (lsub_c rfl (lsub_c rfl (lsub_c rfl (lsub_c rfl (lsub_c rfl (lsub_c rfl lsub_n)))))))) (r_X10_late_62_J104 C _ hk36 h)
set_option maxRecDepth 100000 in
set_option maxHeartbeats 4000000 in
theorem r_X10_late_62_L36 {p : Program} {l : Launch} {e : Env} {s : State} {m : MethodId} {args : Array Value} {below : List Frame} {meth : Method} {c : Code} {D : va_G} {cy : Nat → ClassId} {ad : Nat → Nat} (C : CX p s m args meth c cX10_late 9 RX10 (some .int) D cy ad (AD ad)) (a1 : Int32) (a2 : Int32) (a3 : Int32) {ρ : (Int32 × Mem)} : ∀ (n : Nat) (a4 : Int32) (a5 : Int32) (a6 : Int32) (μ : Mem), it4 (f_X10_late_62_L36 a1 a2 a3) n a4 a5 a6 μ = some ρ → WA p l e (rmD 4) s m args below meth c 9 D cy ad (AD ad) 0 0 (ZZ below args s D cy ad (AD ad) 0 0 (some (.int ρ.1)) ρ.2) μ [(0, .ref 62), (1, .int a1), (2, .int a2), (3, .int a3), (4, .int a4), (5, .int a5), (6, .int a6)] 36 [] := by
  intro n
  induction n with
  | zero =>
    intro a4 a5 a6 μ h
    exact absurd h (fun h => by cases h)
  | succ n ih =>
    intro a4 a5 a6 μ h
    replace h : f_X10_late_62_L36 a1 a2 a3 (it4 (f_X10_late_62_L36 a1 a2 a3) n) a4 a5 a6 μ = some ρ := h
    unfold f_X10_late_62_L36 at h
    refine wa_iload C dX10_late_36 rfl ?_
    refine wa_aload_n C dX10_late_38 rfl ?_
    refine wa_geti (x := (μ.1 62 4)) C fl_RX10_104 rfl rfl (by decide) rfl dX10_late_39 ?_
    refine wa_icmp_ge (tgt := 140) C dX10_late_42 (by decide) (fun c7 => ?_) (fun c7 => ?_)
    · replace h := (if_pos c7).symm.trans h
      refine wa_iload_n C dX10_late_140 rfl ?_
      refine wa_if_ne (tgt := 149) C dX10_late_141 (by decide) (fun c8 => ?_) (fun c8 => ?_)
      · replace h := (if_neg c8).symm.trans h
        refine wa_iload C dX10_late_149 rfl ?_
        obtain rfl := Option.some.inj h
        exact wa_iret C dX10_late_151
      · replace h := (if_pos c8).symm.trans h
        refine wa_iload C dX10_late_144 rfl ?_
        refine wa_goto (tgt := 151) C dX10_late_146 (by decide) ?_
        obtain rfl := Option.some.inj h
        exact wa_iret C dX10_late_151
    · replace h := (if_neg c7).symm.trans h
      refine wa_aload_n C dX10_late_45 rfl ?_
      refine wa_iload C dX10_late_46 rfl ?_
      refine wa_iload_n C dX10_late_48 rfl ?_
      obtain ⟨q9, hq9, h⟩ := bd h
      refine wa_callV C (r_X10_isOpened_62 hq9) mk_X10_isOpened mv_X10_isOpened qw_949 rfl (by decide) rfl rfl ⟨Nat.le_of_ble_eq_true rfl, Nat.le_of_ble_eq_true rfl⟩ ⟨Nat.zero_le _, Nat.zero_le _⟩ (Nat.le_of_ble_eq_true rfl) dX10_late_49 rfl ?_
      refine wa_if_eq (tgt := 134) C dX10_late_52 (by decide) (fun c10 => ?_) (fun c10 => ?_)
      · replace h := (if_pos c10).symm.trans h
        exact WA.sub (lsub_c rfl (lsub_c rfl (lsub_c rfl (lsub_c rfl (lsub_c rfl (lsub_c rfl (lsub_c rfl lsub_n))))))) (r_X10_late_62_J134 C _ (fun _ _ _ _ h => ih _ _ _ _ h) h)
      · replace h := (if_neg c10).symm.trans h
        refine wa_aload_n C dX10_late_55 rfl ?_
        refine wa_iload_n C dX10_late_56 rfl ?_
        refine wa_iload C dX10_late_57 rfl ?_
        obtain ⟨q11, hq11, h⟩ := bd h
        refine wa_callV C (r_X10_isLawful_62 hq11) mk_X10_isLawful mv_X10_isLawful qw_680 rfl (by decide) rfl rfl ⟨Nat.le_of_ble_eq_true rfl, Nat.le_of_ble_eq_true rfl⟩ ⟨Nat.zero_le _, Nat.zero_le _⟩ (Nat.le_of_ble_eq_true rfl) dX10_late_59 rfl ?_
        refine wa_if_eq (tgt := 134) C dX10_late_62 (by decide) (fun c12 => ?_) (fun c12 => ?_)
        · replace h := (if_pos c12).symm.trans h
          exact WA.sub (lsub_c rfl (lsub_c rfl (lsub_c rfl (lsub_c rfl (lsub_c rfl (lsub_c rfl (lsub_c rfl lsub_n))))))) (r_X10_late_62_J134 C _ (fun _ _ _ _ h => ih _ _ _ _ h) h)
        · replace h := (if_neg c12).symm.trans h
          refine wa_aload_n C dX10_late_65 rfl ?_
          refine wa_iload_n C dX10_late_66 rfl ?_
          obtain ⟨q13, hq13, h⟩ := bd h
          refine wa_callV C (r_X10_shutBy_62 hq13) mk_X10_shutBy mv_X10_shutBy qw_647 rfl (by decide) rfl rfl ⟨Nat.le_of_ble_eq_true rfl, Nat.le_of_ble_eq_true rfl⟩ ⟨Nat.zero_le _, Nat.zero_le _⟩ (Nat.le_of_ble_eq_true rfl) dX10_late_67 rfl ?_
          obtain ⟨q14, hq14, h⟩ := bd h
          refine wa_callS C (r_X10_bitsOf hq14) mk_X10_bitsOf ms_X10_bitsOf qw_713 rfl ⟨Nat.le_of_ble_eq_true rfl, Nat.le_of_ble_eq_true rfl⟩ ⟨Nat.zero_le _, Nat.zero_le _⟩ (Nat.le_of_ble_eq_true rfl) dX10_late_70 rfl ?_
          refine wa_aload_n C dX10_late_73 rfl ?_
          refine wa_iload C dX10_late_74 rfl ?_
          obtain ⟨q15, hq15, h⟩ := bd h
          refine wa_callV C (r_X10_shutBy_62 hq15) mk_X10_shutBy mv_X10_shutBy qw_647 rfl (by decide) rfl rfl ⟨Nat.le_of_ble_eq_true rfl, Nat.le_of_ble_eq_true rfl⟩ ⟨Nat.zero_le _, Nat.zero_le _⟩ (Nat.le_of_ble_eq_true rfl) dX10_late_76 rfl ?_
          obtain ⟨q16, hq16, h⟩ := bd h
          refine wa_callS C (r_X10_bitsOf hq16) mk_X10_bitsOf ms_X10_bitsOf qw_713 rfl ⟨Nat.le_of_ble_eq_true rfl, Nat.le_of_ble_eq_true rfl⟩ ⟨Nat.zero_le _, Nat.zero_le _⟩ (Nat.le_of_ble_eq_true rfl) dX10_late_79 rfl ?_
          refine wa_isub C dX10_late_82 ?_
          refine wa_istore C dX10_late_83 (by decide) ?_
          refine wa_iload C dX10_late_85 rfl ?_
          refine wa_bipush (v := -4) C dX10_late_87 (by decide) ?_
          refine wa_icmp_eq (tgt := 99) C dX10_late_89 (by decide) (fun c17 => ?_) (fun c17 => ?_)
          · replace h := (if_pos c17).symm.trans h
            exact WA.sub (lsub_c rfl (lsub_c rfl (lsub_c rfl (lsub_c rfl (lsub_c rfl (lsub_c rfl (lsub_c rfl (lsub_c rfl lsub_n)))))))) (r_X10_late_62_J99 C _ (fun _ _ _ _ h => ih _ _ _ _ h) h)
          · replace h := (if_neg c17).symm.trans h
            refine wa_iload C dX10_late_92 rfl ?_
            refine wa_iload C dX10_late_94 rfl ?_
            refine wa_icmp_ge (tgt := 103) C dX10_late_96 (by decide) (fun c20 => ?_) (fun c20 => ?_)
            · replace h := (if_pos c20).symm.trans h
              refine wa_iconst (v := 0) C dX10_late_103 (by decide) ?_
              exact WA.sub (lsub_c rfl (lsub_c rfl (lsub_c rfl (lsub_c rfl (lsub_c rfl (lsub_c rfl (lsub_c rfl (lsub_c rfl lsub_n)))))))) (r_X10_late_62_J104 C _ (fun _ _ _ _ h => ih _ _ _ _ h) h)
            · replace h := (if_neg c20).symm.trans h
              exact WA.sub (lsub_c rfl (lsub_c rfl (lsub_c rfl (lsub_c rfl (lsub_c rfl (lsub_c rfl (lsub_c rfl (lsub_c rfl lsub_n)))))))) (r_X10_late_62_J99 C _ (fun _ _ _ _ h => ih _ _ _ _ h) h)
set_option maxRecDepth 100000 in
set_option maxHeartbeats 4000000 in
theorem r_X10_late_62 {a1 : Int32} {a2 : Int32} {a3 : Int32} {μ : Mem} {ρ : (Int32 × Mem)} (h : f_X10_late_62 a1 a2 a3 μ = some ρ) : HT 4 yX10_late cX10_late 9 (some .int) [.ref 62, .int a1, .int a2, .int a3] μ (some (.int ρ.1)) ρ.2 := by
  refine HT.of (by decide +kernel) (Nat.le_of_ble_eq_true rfl) (fun C => ?_)
  unfold f_X10_late_62 at h
  refine wa_aload_n C dX10_late_0 rfl ?_
  refine wa_iload_n C dX10_late_1 rfl ?_
  obtain ⟨q1, hq1, h⟩ := bd h
  refine wa_callV C (r_X10_isQuarter_62 hq1) mk_X10_isQuarter mv_X10_isQuarter qw_558 rfl (by decide) rfl rfl ⟨Nat.le_of_ble_eq_true rfl, Nat.le_of_ble_eq_true rfl⟩ ⟨Nat.zero_le _, Nat.zero_le _⟩ (Nat.le_of_ble_eq_true rfl) dX10_late_2 rfl ?_
  refine wa_if_eq (tgt := 23) C dX10_late_5 (by decide) (fun c2 => ?_) (fun c2 => ?_)
  · replace h := (if_pos c2).symm.trans h
    refine wa_iconst (v := -1) C dX10_late_23 (by decide) ?_
    obtain rfl := Option.some.inj h
    exact wa_iret C dX10_late_24
  · replace h := (if_neg c2).symm.trans h
    refine wa_aload_n C dX10_late_8 rfl ?_
    refine wa_iload_n C dX10_late_9 rfl ?_
    obtain ⟨q3, hq3, h⟩ := bd h
    refine wa_callV C (r_X10_isWatch_62 hq3) mk_X10_isWatch mv_X10_isWatch qw_588 rfl (by decide) rfl rfl ⟨Nat.le_of_ble_eq_true rfl, Nat.le_of_ble_eq_true rfl⟩ ⟨Nat.zero_le _, Nat.zero_le _⟩ (Nat.le_of_ble_eq_true rfl) dX10_late_10 rfl ?_
    refine wa_if_eq (tgt := 23) C dX10_late_13 (by decide) (fun c4 => ?_) (fun c4 => ?_)
    · replace h := (if_pos c4).symm.trans h
      refine wa_iconst (v := -1) C dX10_late_23 (by decide) ?_
      obtain rfl := Option.some.inj h
      exact wa_iret C dX10_late_24
    · replace h := (if_neg c4).symm.trans h
      refine wa_iload_n C dX10_late_16 rfl ?_
      obtain ⟨q5, hq5, h⟩ := bd h
      refine wa_callS C (r_X10_isPart hq5) mk_X10_isPart ms_X10_isPart qw_706 rfl ⟨Nat.le_of_ble_eq_true rfl, Nat.le_of_ble_eq_true rfl⟩ ⟨Nat.zero_le _, Nat.zero_le _⟩ (Nat.le_of_ble_eq_true rfl) dX10_late_17 rfl ?_
      refine wa_if_ne (tgt := 25) C dX10_late_20 (by decide) (fun c6 => ?_) (fun c6 => ?_)
      · replace h := (if_neg c6).symm.trans h
        refine wa_bipush (v := -4) C dX10_late_25 (by decide) ?_
        refine wa_istore C dX10_late_27 (by decide) ?_
        refine wa_bipush (v := -4) C dX10_late_29 (by decide) ?_
        refine wa_istore C dX10_late_31 (by decide) ?_
        refine wa_iconst (v := 0) C dX10_late_33 (by decide) ?_
        refine wa_istore C dX10_late_34 (by decide) ?_
        exact WA.sub (lsub_c rfl (lsub_c rfl (lsub_c rfl (lsub_c rfl (lsub_c rfl (lsub_c rfl (lsub_c rfl lsub_n))))))) (r_X10_late_62_L36 C _ _ _ _ _ _ _ _ h)
      · replace h := (if_pos c6).symm.trans h
        refine wa_iconst (v := -1) C dX10_late_23 (by decide) ?_
        obtain rfl := Option.some.inj h
        exact wa_iret C dX10_late_24
def f_J7_fill_d0a16_60_L6 (a1 : Int64) (a4 : Int32) (k6 : Int32 → Mem → Option Mem) (a3 : Int32) (μ : Mem) : Option Mem :=
    if a4 ≤ a3 then
      some μ
    else
      if inb a3 4 = false then none else
      k6 (a3 + 1) (pL μ 60 (a3.toNatClampNeg) a1)
def f_J7_fill_d0a16_60 (a1 : Int64) (μ : Mem) : Option Mem :=
  it2 (f_J7_fill_d0a16_60_L6 a1 (4 : Int32)) FU (0 : Int32) μ
set_option maxRecDepth 100000 in
set_option maxHeartbeats 4000000 in
theorem r_J7_fill_d0a16_60_L6 {p : Program} {l : Launch} {e : Env} {s : State} {m : MethodId} {args : Array Value} {below : List Frame} {meth : Method} {c : Code} {D : va_G} {cy : Nat → ClassId} {ad : Nat → Nat} (C : CX p s m args meth c cJ7_fill_d0a16 5 RJ7 none D cy ad (AD ad)) (a1 : Int64) (a4 : Int32) {ρ : Mem} : ∀ (n : Nat) (a3 : Int32) (μ : Mem), it2 (f_J7_fill_d0a16_60_L6 a1 a4) n a3 μ = some ρ → WA p l e (rmD 0) s m args below meth c 5 D cy ad (AD ad) 0 0 (ZZ below args s D cy ad (AD ad) 0 0 none ρ) μ [(0, .ref 60), (1, .long a1), (3, .int a3), (4, .int a4)] 6 [] := by
  intro n
  induction n with
  | zero =>
    intro a3 μ h
    exact absurd h (fun h => by cases h)
  | succ n ih =>
    intro a3 μ h
    replace h : f_J7_fill_d0a16_60_L6 a1 a4 (it2 (f_J7_fill_d0a16_60_L6 a1 a4) n) a3 μ = some ρ := h
    unfold f_J7_fill_d0a16_60_L6 at h
    refine wa_iload_n C dJ7_fill_d0a16_6 rfl ?_
    refine wa_iload C dJ7_fill_d0a16_7 rfl ?_
    refine wa_icmp_ge (tgt := 22) C dJ7_fill_d0a16_9 (by decide) (fun c1 => ?_) (fun c1 => ?_)
    · replace h := (if_pos c1).symm.trans h
      obtain rfl := Option.some.inj h
      exact wa_vret C dJ7_fill_d0a16_22
    · replace h := (if_neg c1).symm.trans h
      refine wa_aload_n C dJ7_fill_d0a16_12 rfl ?_
      refine wa_iload_n C dJ7_fill_d0a16_13 rfl ?_
      refine wa_lload_n C dJ7_fill_d0a16_14 rfl ?_
      obtain ⟨g2, h⟩ := gd h
      refine wa_last (j := (a3.toNatClampNeg)) C rfl (by decide) g2 rfl dJ7_fill_d0a16_15 ?_
      refine wa_iinc (v := (a3 + 1)) C dJ7_fill_d0a16_16 rfl rfl (by decide) ?_
      refine wa_goto (tgt := 6) C dJ7_fill_d0a16_19 (by decide) ?_
      exact WA.sub (lsub_c rfl (lsub_c rfl (lsub_c rfl (lsub_c rfl lsub_n)))) (ih _ _ h)
set_option maxRecDepth 100000 in
set_option maxHeartbeats 4000000 in
theorem r_J7_fill_d0a16_60 {a1 : Int64} {μ : Mem} {ρ : Mem} (h : f_J7_fill_d0a16_60 a1 μ = some ρ) : HT 0 yJ7_fill_d0a16 cJ7_fill_d0a16 5 none [.ref 60, .long a1] μ none ρ := by
  refine HT.of (by decide +kernel) (Nat.le_of_ble_eq_true rfl) (fun C => ?_)
  unfold f_J7_fill_d0a16_60 at h
  refine wa_iconst (v := 0) C dJ7_fill_d0a16_0 (by decide) ?_
  refine wa_istore_n C dJ7_fill_d0a16_1 (by decide) ?_
  refine wa_aload_n C dJ7_fill_d0a16_2 rfl ?_
  refine wa_alen (v := 4) C rfl (by decide) (by decide) rfl dJ7_fill_d0a16_3 ?_
  refine wa_istore C dJ7_fill_d0a16_4 (by decide) ?_
  exact WA.sub (lsub_c rfl (lsub_c rfl (lsub_c rfl (lsub_c rfl lsub_n)))) (r_J7_fill_d0a16_60_L6 C _ _ _ _ _ h)
def f_X8_waysOf_49_J63 (k5 : Int64 → Int32 → Option (Int64 × Mem)) (a1 : Int32) (a2 : Int64) (a4 : Int32) (μ : Mem) : Option (Int64 × Mem) :=
  k5 a2 (a4 + 1)
def f_X8_waysOf_49_L5 (a1 : Int32) (μ : Mem) (k5 : Int64 → Int32 → Option (Int64 × Mem)) (a2 : Int64) (a4 : Int32) : Option (Int64 × Mem) :=
    if (6 : Int32) ≤ a4 then
      some (a2, μ)
    else
      if ((a1 >>> (a4 &&& 31)) &&& (1 : Int32)) = (1 : Int32) then
        if inb a4 6 = false then none else
        f_X8_waysOf_49_J63 k5 a1 (a2 * ((μ.1 50 (a4.toNatClampNeg)).toInt64)) a4 μ
      else
        if (((μ.1 49 1) >>> (a4 &&& 31)) &&& (1 : Int32)) = (1 : Int32) then
          if inb a4 6 = false then none else
          f_X8_waysOf_49_J63 k5 a1 (a2 * (((10 : Int32) - (μ.1 50 (a4.toNatClampNeg))).toInt64)) a4 μ
        else
          f_X8_waysOf_49_J63 k5 a1 a2 a4 μ
def f_X8_waysOf_49 (a1 : Int32) (μ : Mem) : Option (Int64 × Mem) :=
  it2 (f_X8_waysOf_49_L5 a1 μ) FU (1 : Int64) (0 : Int32)
set_option maxRecDepth 100000 in
set_option maxHeartbeats 4000000 in
theorem r_X8_waysOf_49_J63 {p : Program} {l : Launch} {e : Env} {s : State} {m : MethodId} {args : Array Value} {below : List Frame} {meth : Method} {c : Code} {D : va_G} {cy : Nat → ClassId} {ad : Nat → Nat} (C : CX p s m args meth c cX8_waysOf 5 RX8 (some .long) D cy ad (AD ad)) {a1 : Int32} {a2 : Int64} {a4 : Int32} {μ : Mem} {ρ : (Int64 × Mem)} (k5 : Int64 → Int32 → Option (Int64 × Mem)) (hk5 : ∀ (a2 : Int64) (a4 : Int32), k5 a2 a4 = some ρ → WA p l e (rmD 0) s m args below meth c 5 D cy ad (AD ad) 0 0 (ZZ below args s D cy ad (AD ad) 0 0 (some (.long ρ.1)) ρ.2) μ [(0, .ref 49), (1, .int a1), (2, .long a2), (4, .int a4)] 5 []) (h : f_X8_waysOf_49_J63 k5 a1 a2 a4 μ = some ρ) : WA p l e (rmD 0) s m args below meth c 5 D cy ad (AD ad) 0 0 (ZZ below args s D cy ad (AD ad) 0 0 (some (.long ρ.1)) ρ.2) μ [(0, .ref 49), (1, .int a1), (2, .long a2), (4, .int a4)] 63 [] := by
  unfold f_X8_waysOf_49_J63 at h
  refine wa_iinc (v := (a4 + 1)) C dX8_waysOf_63 rfl rfl (by decide) ?_
  refine wa_goto (tgt := 5) C dX8_waysOf_66 (by decide) ?_
  exact WA.sub (lsub_c rfl (lsub_c rfl (lsub_c rfl (lsub_c rfl lsub_n)))) (hk5 _ _ h)
set_option maxRecDepth 100000 in
set_option maxHeartbeats 4000000 in
theorem r_X8_waysOf_49_L5 {p : Program} {l : Launch} {e : Env} {s : State} {m : MethodId} {args : Array Value} {below : List Frame} {meth : Method} {c : Code} {D : va_G} {cy : Nat → ClassId} {ad : Nat → Nat} (C : CX p s m args meth c cX8_waysOf 5 RX8 (some .long) D cy ad (AD ad)) (a1 : Int32) (μ : Mem) {ρ : (Int64 × Mem)} : ∀ (n : Nat) (a2 : Int64) (a4 : Int32), it2 (f_X8_waysOf_49_L5 a1 μ) n a2 a4 = some ρ → WA p l e (rmD 0) s m args below meth c 5 D cy ad (AD ad) 0 0 (ZZ below args s D cy ad (AD ad) 0 0 (some (.long ρ.1)) ρ.2) μ [(0, .ref 49), (1, .int a1), (2, .long a2), (4, .int a4)] 5 [] := by
  intro n
  induction n with
  | zero =>
    intro a2 a4 h
    exact absurd h (fun h => by cases h)
  | succ n ih =>
    intro a2 a4 h
    replace h : f_X8_waysOf_49_L5 a1 μ (it2 (f_X8_waysOf_49_L5 a1 μ) n) a2 a4 = some ρ := h
    unfold f_X8_waysOf_49_L5 at h
    refine wa_iload C dX8_waysOf_5 rfl ?_
    refine wa_bipush (v := 6) C dX8_waysOf_7 (by decide) ?_
    refine wa_icmp_ge (tgt := 69) C dX8_waysOf_9 (by decide) (fun c1 => ?_) (fun c1 => ?_)
    · replace h := (if_pos c1).symm.trans h
      refine wa_lload_n C dX8_waysOf_69 rfl ?_
      obtain rfl := Option.some.inj h
      exact wa_lret C dX8_waysOf_70
    · replace h := (if_neg c1).symm.trans h
      refine wa_iload_n C dX8_waysOf_12 rfl ?_
      refine wa_iload C dX8_waysOf_13 rfl ?_
      refine wa_ishr C dX8_waysOf_15 ?_
      refine wa_iconst (v := 1) C dX8_waysOf_16 (by decide) ?_
      refine wa_iand C dX8_waysOf_17 ?_
      refine wa_iconst (v := 1) C dX8_waysOf_18 (by decide) ?_
      refine wa_icmp_ne (tgt := 36) C dX8_waysOf_19 (by decide) (fun c2 => ?_) (fun c2 => ?_)
      · replace h := (if_neg c2).symm.trans h
        refine wa_aload_n C dX8_waysOf_36 rfl ?_
        refine wa_geti (x := (μ.1 49 1)) C fl_RX8_25 rfl rfl (by decide) rfl dX8_waysOf_37 ?_
        refine wa_iload C dX8_waysOf_40 rfl ?_
        refine wa_ishr C dX8_waysOf_42 ?_
        refine wa_iconst (v := 1) C dX8_waysOf_43 (by decide) ?_
        refine wa_iand C dX8_waysOf_44 ?_
        refine wa_iconst (v := 1) C dX8_waysOf_45 (by decide) ?_
        refine wa_icmp_ne (tgt := 63) C dX8_waysOf_46 (by decide) (fun c4 => ?_) (fun c4 => ?_)
        · replace h := (if_neg c4).symm.trans h
          exact WA.sub (lsub_c rfl (lsub_c rfl (lsub_c rfl (lsub_c rfl lsub_n)))) (r_X8_waysOf_49_J63 C _ (fun _ _ h => ih _ _ h) h)
        · replace h := (if_pos c4).symm.trans h
          refine wa_lload_n C dX8_waysOf_49 rfl ?_
          refine wa_bipush (v := 10) C dX8_waysOf_50 (by decide) ?_
          refine wa_aload_n C dX8_waysOf_52 rfl ?_
          refine wa_getr C fl_RX8_41 rfl rfl (by decide) dX8_waysOf_53 ?_
          refine wa_iload C dX8_waysOf_56 rfl ?_
          obtain ⟨g5, h⟩ := gd h
          refine wa_iald (j := (a4.toNatClampNeg)) (x := (μ.1 50 (a4.toNatClampNeg))) C rfl (by decide) g5 rfl rfl dX8_waysOf_58 ?_
          refine wa_isub C dX8_waysOf_59 ?_
          refine wa_i2l (v := (((10 : Int32) - (μ.1 50 (a4.toNatClampNeg))).toInt64)) C dX8_waysOf_60 rfl ?_
          refine wa_lmul C dX8_waysOf_61 ?_
          refine wa_lstore_n C dX8_waysOf_62 (by decide) ?_
          exact WA.sub (lsub_c rfl (lsub_c rfl (lsub_c rfl (lsub_c rfl lsub_n)))) (r_X8_waysOf_49_J63 C _ (fun _ _ h => ih _ _ h) h)
      · replace h := (if_pos c2).symm.trans h
        refine wa_lload_n C dX8_waysOf_22 rfl ?_
        refine wa_aload_n C dX8_waysOf_23 rfl ?_
        refine wa_getr C fl_RX8_41 rfl rfl (by decide) dX8_waysOf_24 ?_
        refine wa_iload C dX8_waysOf_27 rfl ?_
        obtain ⟨g3, h⟩ := gd h
        refine wa_iald (j := (a4.toNatClampNeg)) (x := (μ.1 50 (a4.toNatClampNeg))) C rfl (by decide) g3 rfl rfl dX8_waysOf_29 ?_
        refine wa_i2l (v := ((μ.1 50 (a4.toNatClampNeg)).toInt64)) C dX8_waysOf_30 rfl ?_
        refine wa_lmul C dX8_waysOf_31 ?_
        refine wa_lstore_n C dX8_waysOf_32 (by decide) ?_
        refine wa_goto (tgt := 63) C dX8_waysOf_33 (by decide) ?_
        exact WA.sub (lsub_c rfl (lsub_c rfl (lsub_c rfl (lsub_c rfl lsub_n)))) (r_X8_waysOf_49_J63 C _ (fun _ _ h => ih _ _ h) h)
set_option maxRecDepth 100000 in
set_option maxHeartbeats 4000000 in
theorem r_X8_waysOf_49 {a1 : Int32} {μ : Mem} {ρ : (Int64 × Mem)} (h : f_X8_waysOf_49 a1 μ = some ρ) : HT 0 yX8_waysOf cX8_waysOf 5 (some .long) [.ref 49, .int a1] μ (some (.long ρ.1)) ρ.2 := by
  refine HT.of (by decide +kernel) (Nat.le_of_ble_eq_true rfl) (fun C => ?_)
  unfold f_X8_waysOf_49 at h
  refine wa_lconst (v := 1) C dX8_waysOf_0 (by decide) ?_
  refine wa_lstore_n C dX8_waysOf_1 (by decide) ?_
  refine wa_iconst (v := 0) C dX8_waysOf_2 (by decide) ?_
  refine wa_istore C dX8_waysOf_3 (by decide) ?_
  exact WA.sub (lsub_c rfl (lsub_c rfl (lsub_c rfl (lsub_c rfl lsub_n)))) (r_X8_waysOf_49_L5 C _ _ _ _ _ h)
def f_X8_weigh_59_49_47_7_J108 (k16 : Int32 → Mem → Option Mem) (a4 : Int32) (a5 : Int32) (μ : Mem) : Option Mem :=
  k16 (a5 + 1) μ
def f_X8_weigh_59_49_47_7_L75 (a4 : Int32) (a5 : Int32) (a6 : Int64) (a8 : Int32) (k16 : Int32 → Mem → Option Mem) (k75 : Int32 → Mem → Option Mem) (a9 : Int32) (μ : Mem) : Option Mem :=
    if (4 : Int32) ≤ a9 then
      f_X8_weigh_59_49_47_7_J108 k16 a4 a5 μ
    else
      if inb a9 4 = false then none else
      if inb a9 4 = false then none else
      k75 (a9 + 1) (pL μ 60 (a9.toNatClampNeg) ((μ.2 60 (a9.toNatClampNeg)) + ((((a8 >>> (a9 &&& 31)) &&& (1 : Int32)).toInt64) * a6)))
def f_X8_weigh_59_49_47_7_L16 (a4 : Int32) (k16 : Int32 → Mem → Option Mem) (a5 : Int32) (μ : Mem) : Option Mem :=
    if (64 : Int32) ≤ a5 then
      some μ
    else
      if (a5 &&& ((μ.1 49 1) ^^^ (-1 : Int32))) = 0 then
        (f_X8_waysOf_49 a5 μ).bind fun q4 =>
        (f_X7_lacking_47_7 a4 ((q4.2.1 49 1) &&& (a5 ^^^ (-1 : Int32))) q4.2).bind fun q5 =>
        it2 (f_X8_weigh_59_49_47_7_L75 a4 a5 q4.1 q5.1 k16) FU (0 : Int32) (pL q5.2 59 1 ((q5.2.2 59 1) + q4.1))
      else
        f_X8_weigh_59_49_47_7_J108 k16 a4 a5 μ
def f_X8_weigh_59_49_47_7 (a4 : Int32) (μ : Mem) : Option Mem :=
  (f_J7_fill_d0a16_60 (0 : Int64) μ).bind fun q1 =>
  it2 (f_X8_weigh_59_49_47_7_L16 a4) FU (0 : Int32) (pL q1 59 1 (0 : Int64))
set_option maxRecDepth 100000 in
set_option maxHeartbeats 4000000 in
theorem r_X8_weigh_59_49_47_7_J108 {p : Program} {l : Launch} {e : Env} {s : State} {m : MethodId} {args : Array Value} {below : List Frame} {meth : Method} {c : Code} {D : va_G} {cy : Nat → ClassId} {ad : Nat → Nat} (C : CX p s m args meth c cX8_weigh 10 RX8 none D cy ad (AD ad)) {a4 : Int32} {a5 : Int32} {μ : Mem} {ρ : Mem} (k16 : Int32 → Mem → Option Mem) (hk16 : ∀ (a5 : Int32) (μ : Mem), k16 a5 μ = some ρ → WA p l e (rmD 2) s m args below meth c 10 D cy ad (AD ad) 0 0 (ZZ below args s D cy ad (AD ad) 0 0 none ρ) μ [(0, .ref 59), (1, .ref 49), (2, .ref 47), (3, .ref 7), (4, .int a4), (5, .int a5)] 16 []) (h : f_X8_weigh_59_49_47_7_J108 k16 a4 a5 μ = some ρ) : WA p l e (rmD 2) s m args below meth c 10 D cy ad (AD ad) 0 0 (ZZ below args s D cy ad (AD ad) 0 0 none ρ) μ [(0, .ref 59), (1, .ref 49), (2, .ref 47), (3, .ref 7), (4, .int a4), (5, .int a5)] 108 [] := by
  unfold f_X8_weigh_59_49_47_7_J108 at h
  refine wa_iinc (v := (a5 + 1)) C dX8_weigh_108 rfl rfl (by decide) ?_
  refine wa_goto (tgt := 16) C dX8_weigh_111 (by decide) ?_
  exact WA.sub (lsub_c rfl (lsub_c rfl (lsub_c rfl (lsub_c rfl (lsub_c rfl (lsub_c rfl lsub_n)))))) (hk16 _ _ h)
set_option maxRecDepth 100000 in
set_option maxHeartbeats 4000000 in
theorem r_X8_weigh_59_49_47_7_L75 {p : Program} {l : Launch} {e : Env} {s : State} {m : MethodId} {args : Array Value} {below : List Frame} {meth : Method} {c : Code} {D : va_G} {cy : Nat → ClassId} {ad : Nat → Nat} (C : CX p s m args meth c cX8_weigh 10 RX8 none D cy ad (AD ad)) (a4 : Int32) (a5 : Int32) (a6 : Int64) (a8 : Int32) {ρ : Mem} (k16 : Int32 → Mem → Option Mem) (hk16 : ∀ (a5 : Int32) (μ : Mem), k16 a5 μ = some ρ → WA p l e (rmD 2) s m args below meth c 10 D cy ad (AD ad) 0 0 (ZZ below args s D cy ad (AD ad) 0 0 none ρ) μ [(0, .ref 59), (1, .ref 49), (2, .ref 47), (3, .ref 7), (4, .int a4), (5, .int a5)] 16 []) : ∀ (n : Nat) (a9 : Int32) (μ : Mem), it2 (f_X8_weigh_59_49_47_7_L75 a4 a5 a6 a8 k16) n a9 μ = some ρ → WA p l e (rmD 2) s m args below meth c 10 D cy ad (AD ad) 0 0 (ZZ below args s D cy ad (AD ad) 0 0 none ρ) μ [(0, .ref 59), (1, .ref 49), (2, .ref 47), (3, .ref 7), (4, .int a4), (5, .int a5), (6, .long a6), (8, .int a8), (9, .int a9)] 75 [] := by
  intro n
  induction n with
  | zero =>
    intro a9 μ h
    exact absurd h (fun h => by cases h)
  | succ n ih =>
    intro a9 μ h
    replace h : f_X8_weigh_59_49_47_7_L75 a4 a5 a6 a8 k16 (it2 (f_X8_weigh_59_49_47_7_L75 a4 a5 a6 a8 k16) n) a9 μ = some ρ := h
    unfold f_X8_weigh_59_49_47_7_L75 at h
    refine wa_iload C dX8_weigh_75 rfl ?_
    refine wa_iconst (v := 4) C dX8_weigh_77 (by decide) ?_
    refine wa_icmp_ge (tgt := 108) C dX8_weigh_78 (by decide) (fun c6 => ?_) (fun c6 => ?_)
    · replace h := (if_pos c6).symm.trans h
      exact WA.sub (lsub_c rfl (lsub_c rfl (lsub_c rfl (lsub_c rfl (lsub_c rfl (lsub_c rfl lsub_n)))))) (r_X8_weigh_59_49_47_7_J108 C _ hk16 h)
    · replace h := (if_neg c6).symm.trans h
      refine wa_aload_n C dX8_weigh_81 rfl ?_
      refine wa_getr C fl_RX8_9 rfl rfl (by decide) dX8_weigh_82 ?_
      refine wa_iload C dX8_weigh_85 rfl ?_
      refine wa_dup2_11 C dX8_weigh_87 rfl rfl ?_
      obtain ⟨g7, h⟩ := gd h
      refine wa_lald (j := (a9.toNatClampNeg)) (x := (μ.2 60 (a9.toNatClampNeg))) C rfl (by decide) g7 rfl rfl dX8_weigh_88 ?_
      refine wa_iload C dX8_weigh_89 rfl ?_
      refine wa_iload C dX8_weigh_91 rfl ?_
      refine wa_ishr C dX8_weigh_93 ?_
      refine wa_iconst (v := 1) C dX8_weigh_94 (by decide) ?_
      refine wa_iand C dX8_weigh_95 ?_
      refine wa_i2l (v := (((a8 >>> (a9 &&& 31)) &&& (1 : Int32)).toInt64)) C dX8_weigh_96 rfl ?_
      refine wa_lload C dX8_weigh_97 rfl ?_
      refine wa_lmul C dX8_weigh_99 ?_
      refine wa_ladd C dX8_weigh_100 ?_
      obtain ⟨g8, h⟩ := gd h
      refine wa_last (j := (a9.toNatClampNeg)) C rfl (by decide) g8 rfl dX8_weigh_101 ?_
      refine wa_iinc (v := (a9 + 1)) C dX8_weigh_102 rfl rfl (by decide) ?_
      refine wa_goto (tgt := 75) C dX8_weigh_105 (by decide) ?_
      exact WA.sub (lsub_c rfl (lsub_c rfl (lsub_c rfl (lsub_c rfl (lsub_c rfl (lsub_c rfl (lsub_c rfl (lsub_c rfl (lsub_c rfl lsub_n))))))))) (ih _ _ h)
set_option maxRecDepth 100000 in
set_option maxHeartbeats 4000000 in
theorem r_X8_weigh_59_49_47_7_L16 {p : Program} {l : Launch} {e : Env} {s : State} {m : MethodId} {args : Array Value} {below : List Frame} {meth : Method} {c : Code} {D : va_G} {cy : Nat → ClassId} {ad : Nat → Nat} (C : CX p s m args meth c cX8_weigh 10 RX8 none D cy ad (AD ad)) (a4 : Int32) {ρ : Mem} : ∀ (n : Nat) (a5 : Int32) (μ : Mem), it2 (f_X8_weigh_59_49_47_7_L16 a4) n a5 μ = some ρ → WA p l e (rmD 2) s m args below meth c 10 D cy ad (AD ad) 0 0 (ZZ below args s D cy ad (AD ad) 0 0 none ρ) μ [(0, .ref 59), (1, .ref 49), (2, .ref 47), (3, .ref 7), (4, .int a4), (5, .int a5)] 16 [] := by
  intro n
  induction n with
  | zero =>
    intro a5 μ h
    exact absurd h (fun h => by cases h)
  | succ n ih =>
    intro a5 μ h
    replace h : f_X8_weigh_59_49_47_7_L16 a4 (it2 (f_X8_weigh_59_49_47_7_L16 a4) n) a5 μ = some ρ := h
    unfold f_X8_weigh_59_49_47_7_L16 at h
    refine wa_iload C dX8_weigh_16 rfl ?_
    refine wa_bipush (v := 64) C dX8_weigh_18 (by decide) ?_
    refine wa_icmp_ge (tgt := 114) C dX8_weigh_20 (by decide) (fun c2 => ?_) (fun c2 => ?_)
    · replace h := (if_pos c2).symm.trans h
      obtain rfl := Option.some.inj h
      exact wa_vret C dX8_weigh_114
    · replace h := (if_neg c2).symm.trans h
      refine wa_iload C dX8_weigh_23 rfl ?_
      refine wa_aload_n C dX8_weigh_25 rfl ?_
      refine wa_geti (x := (μ.1 49 1)) C fl_RX8_25 rfl rfl (by decide) rfl dX8_weigh_26 ?_
      refine wa_iconst (v := -1) C dX8_weigh_29 (by decide) ?_
      refine wa_ixor C dX8_weigh_30 ?_
      refine wa_iand C dX8_weigh_31 ?_
      refine wa_if_ne (tgt := 108) C dX8_weigh_32 (by decide) (fun c3 => ?_) (fun c3 => ?_)
      · replace h := (if_neg c3).symm.trans h
        exact WA.sub (lsub_c rfl (lsub_c rfl (lsub_c rfl (lsub_c rfl (lsub_c rfl (lsub_c rfl lsub_n)))))) (r_X8_weigh_59_49_47_7_J108 C _ (fun _ _ h => ih _ _ h) h)
      · replace h := (if_pos c3).symm.trans h
        refine wa_aload_n C dX8_weigh_35 rfl ?_
        refine wa_iload C dX8_weigh_36 rfl ?_
        obtain ⟨q4, hq4, h⟩ := bd h
        refine wa_callS C (r_X8_waysOf_49 hq4) mk_X8_waysOf ms_X8_waysOf qw_969 rfl ⟨Nat.le_of_ble_eq_true rfl, Nat.le_of_ble_eq_true rfl⟩ ⟨Nat.zero_le _, Nat.zero_le _⟩ (Nat.le_of_ble_eq_true rfl) dX8_weigh_38 rfl ?_
        refine wa_lstore C dX8_weigh_41 (by decide) ?_
        refine wa_aload_n C dX8_weigh_43 rfl ?_
        refine wa_aload_n C dX8_weigh_44 rfl ?_
        refine wa_iload C dX8_weigh_45 rfl ?_
        refine wa_aload_n C dX8_weigh_47 rfl ?_
        refine wa_geti (x := (q4.2.1 49 1)) C fl_RX8_25 rfl rfl (by decide) rfl dX8_weigh_48 ?_
        refine wa_iload C dX8_weigh_51 rfl ?_
        refine wa_iconst (v := -1) C dX8_weigh_53 (by decide) ?_
        refine wa_ixor C dX8_weigh_54 ?_
        refine wa_iand C dX8_weigh_55 ?_
        obtain ⟨q5, hq5, h⟩ := bd h
        refine wa_callV C (r_X7_lacking_47_7 hq5) mk_X7_lacking mv_X7_lacking qw_973 rfl (by decide) rfl rfl ⟨Nat.le_of_ble_eq_true rfl, Nat.le_of_ble_eq_true rfl⟩ ⟨Nat.zero_le _, Nat.zero_le _⟩ (Nat.le_of_ble_eq_true rfl) dX8_weigh_56 rfl ?_
        refine wa_istore C dX8_weigh_59 (by decide) ?_
        refine wa_aload_n C dX8_weigh_61 rfl ?_
        refine wa_dup C dX8_weigh_62 rfl ?_
        refine wa_getl (x := (q5.2.2 59 1)) C fl_RX8_15 rfl rfl (by decide) rfl dX8_weigh_63 ?_
        refine wa_lload C dX8_weigh_66 rfl ?_
        refine wa_ladd C dX8_weigh_68 ?_
        refine wa_putl C fl_RX8_15 fp_8_1 rfl rfl (by decide) dX8_weigh_69 ?_
        refine wa_iconst (v := 0) C dX8_weigh_72 (by decide) ?_
        refine wa_istore C dX8_weigh_73 (by decide) ?_
        exact WA.sub (lsub_c rfl (lsub_c rfl (lsub_c rfl (lsub_c rfl (lsub_c rfl (lsub_c rfl (lsub_c rfl (lsub_c rfl (lsub_c rfl lsub_n))))))))) (r_X8_weigh_59_49_47_7_L75 C _ _ _ _ _ (fun _ _ h => ih _ _ h) _ _ _ h)
set_option maxRecDepth 100000 in
set_option maxHeartbeats 4000000 in
theorem r_X8_weigh_59_49_47_7 {a4 : Int32} {μ : Mem} {ρ : Mem} (h : f_X8_weigh_59_49_47_7 a4 μ = some ρ) : HT 2 yX8_weigh cX8_weigh 10 none [.ref 59, .ref 49, .ref 47, .ref 7, .int a4] μ none ρ := by
  refine HT.of (by decide +kernel) (Nat.le_of_ble_eq_true rfl) (fun C => ?_)
  unfold f_X8_weigh_59_49_47_7 at h
  refine wa_aload_n C dX8_weigh_0 rfl ?_
  refine wa_getr C fl_RX8_9 rfl rfl (by decide) dX8_weigh_1 ?_
  refine wa_lconst (v := 0) C dX8_weigh_4 (by decide) ?_
  obtain ⟨q1, hq1, h⟩ := bd h
  refine wa_callS C (r_J7_fill_d0a16_60 hq1) mk_J7_fill_d0a16 ms_J7_fill_d0a16 qw_968 rfl ⟨Nat.le_of_ble_eq_true rfl, Nat.le_of_ble_eq_true rfl⟩ ⟨Nat.zero_le _, Nat.zero_le _⟩ (Nat.le_of_ble_eq_true rfl) dX8_weigh_5 rfl ?_
  refine wa_aload_n C dX8_weigh_8 rfl ?_
  refine wa_lconst (v := 0) C dX8_weigh_9 (by decide) ?_
  refine wa_putl C fl_RX8_15 fp_8_1 rfl rfl (by decide) dX8_weigh_10 ?_
  refine wa_iconst (v := 0) C dX8_weigh_13 (by decide) ?_
  refine wa_istore C dX8_weigh_14 (by decide) ?_
  exact WA.sub (lsub_c rfl (lsub_c rfl (lsub_c rfl (lsub_c rfl (lsub_c rfl (lsub_c rfl lsub_n)))))) (r_X8_weigh_59_49_47_7_L16 C _ _ _ _ h)
def f_X9_weighSleep_0 (a1 : Int32) (μ : Mem) : Option Mem :=
  (f_X9_look_0 μ).bind fun q1 =>
  (f_X2_reach_49_1_4_47 a1 q1).bind fun q2 =>
  if inb a1 6 = false then none else
  (f_X8_weigh_59_49_47_7 (q2.1 8 (a1.toNatClampNeg)) q2).bind fun q4 =>
  some q4
set_option maxRecDepth 100000 in
set_option maxHeartbeats 4000000 in
theorem r_X9_weighSleep_0 {a1 : Int32} {μ : Mem} {ρ : Mem} (h : f_X9_weighSleep_0 a1 μ = some ρ) : HT 3 yX9_weighSleep cX9_weighSleep 2 none [.ref 0, .int a1] μ none ρ := by
  refine HT.of (by decide +kernel) (Nat.le_of_ble_eq_true rfl) (fun C => ?_)
  unfold f_X9_weighSleep_0 at h
  refine wa_aload_n C dX9_weighSleep_0 rfl ?_
  refine wa_getr C fl_RX9_51 rfl rfl (by decide) dX9_weighSleep_1 ?_
  refine wa_aload_n C dX9_weighSleep_4 rfl ?_
  refine wa_getr C fl_RX9_10 rfl rfl (by decide) dX9_weighSleep_5 ?_
  refine wa_aload_n C dX9_weighSleep_8 rfl ?_
  refine wa_getr C fl_RX9_19 rfl rfl (by decide) dX9_weighSleep_9 ?_
  refine wa_aload_n C dX9_weighSleep_12 rfl ?_
  obtain ⟨q1, hq1, h⟩ := bd h
  refine wa_callV C (r_X9_look_0 hq1) mk_X9_look mv_X9_look qw_508 rfl (by decide) rfl rfl ⟨Nat.le_of_ble_eq_true rfl, Nat.le_of_ble_eq_true rfl⟩ ⟨Nat.zero_le _, Nat.zero_le _⟩ (Nat.le_of_ble_eq_true rfl) dX9_weighSleep_13 rfl ?_
  refine wa_iload_n C dX9_weighSleep_16 rfl ?_
  obtain ⟨q2, hq2, h⟩ := bd h
  refine wa_callV C (r_X2_reach_49_1_4_47 hq2) mk_X2_reach mv_X2_reach qw_721 rfl (by decide) rfl rfl ⟨Nat.le_of_ble_eq_true rfl, Nat.le_of_ble_eq_true rfl⟩ ⟨Nat.zero_le _, Nat.zero_le _⟩ (Nat.le_of_ble_eq_true rfl) dX9_weighSleep_17 rfl ?_
  refine wa_aload_n C dX9_weighSleep_20 rfl ?_
  refine wa_getr C fl_RX9_72 rfl rfl (by decide) dX9_weighSleep_21 ?_
  refine wa_aload_n C dX9_weighSleep_24 rfl ?_
  refine wa_getr C fl_RX9_51 rfl rfl (by decide) dX9_weighSleep_25 ?_
  refine wa_aload_n C dX9_weighSleep_28 rfl ?_
  refine wa_getr C fl_RX9_44 rfl rfl (by decide) dX9_weighSleep_29 ?_
  refine wa_aload_n C dX9_weighSleep_32 rfl ?_
  refine wa_getr C fl_RX9_19 rfl rfl (by decide) dX9_weighSleep_33 ?_
  refine wa_getr C fl_RX9_151 rfl rfl (by decide) dX9_weighSleep_36 ?_
  refine wa_aload_n C dX9_weighSleep_39 rfl ?_
  refine wa_getr C fl_RX9_19 rfl rfl (by decide) dX9_weighSleep_40 ?_
  refine wa_getr C fl_RX9_154 rfl rfl (by decide) dX9_weighSleep_43 ?_
  refine wa_iload_n C dX9_weighSleep_46 rfl ?_
  obtain ⟨g3, h⟩ := gd h
  refine wa_iald (j := (a1.toNatClampNeg)) (x := (q2.1 8 (a1.toNatClampNeg))) C rfl (by decide) g3 rfl rfl dX9_weighSleep_47 ?_
  obtain ⟨q4, hq4, h⟩ := bd h
  refine wa_callV C (r_X8_weigh_59_49_47_7 hq4) mk_X8_weigh mv_X8_weigh qw_963 rfl (by decide) rfl rfl ⟨Nat.le_of_ble_eq_true rfl, Nat.le_of_ble_eq_true rfl⟩ ⟨Nat.zero_le _, Nat.zero_le _⟩ (Nat.le_of_ble_eq_true rfl) dX9_weighSleep_48 rfl ?_
  obtain rfl := Option.some.inj h
  exact wa_vret C dX9_weighSleep_51
def f_X8_commonDivisor_L9 (μ : Mem) (k9 : Int64 → Int64 → Int32 → Option (Int64 × Mem)) (a4 : Int64) (a6 : Int64) (a8 : Int32) : Option (Int64 × Mem) :=
    if (200 : Int32) ≤ a8 then
      some (a4, μ)
    else
      if (lg_cmp a6 (0 : Int64)) = 0 then
        some (a4, μ)
      else
        if a6 = 0 then none else
        k9 a6 (a4 - a4 / a6 * a6) (a8 + 1)
def f_X8_commonDivisor (a0 : Int64) (a2 : Int64) (μ : Mem) : Option (Int64 × Mem) :=
  it3 (f_X8_commonDivisor_L9 μ) FU a0 a2 (0 : Int32)
set_option maxRecDepth 100000 in
set_option maxHeartbeats 4000000 in
theorem r_X8_commonDivisor_L9 {p : Program} {l : Launch} {e : Env} {s : State} {m : MethodId} {args : Array Value} {below : List Frame} {meth : Method} {c : Code} {D : va_G} {cy : Nat → ClassId} {ad : Nat → Nat} (C : CX p s m args meth c cX8_commonDivisor 11 RX8 (some .long) D cy ad (AD ad)) (μ : Mem) {ρ : (Int64 × Mem)} : ∀ (n : Nat) (a4 : Int64) (a6 : Int64) (a8 : Int32), it3 (f_X8_commonDivisor_L9 μ) n a4 a6 a8 = some ρ → WA p l e (rmD 0) s m args below meth c 11 D cy ad (AD ad) 0 0 (ZZ below args s D cy ad (AD ad) 0 0 (some (.long ρ.1)) ρ.2) μ [(4, .long a4), (6, .long a6), (8, .int a8)] 9 [] := by
  intro n
  induction n with
  | zero =>
    intro a4 a6 a8 h
    exact absurd h (fun h => by cases h)
  | succ n ih =>
    intro a4 a6 a8 h
    replace h : f_X8_commonDivisor_L9 μ (it3 (f_X8_commonDivisor_L9 μ) n) a4 a6 a8 = some ρ := h
    unfold f_X8_commonDivisor_L9 at h
    refine wa_iload C dX8_commonDivisor_9 rfl ?_
    refine wa_sipush (v := 200) C dX8_commonDivisor_11 (by decide) ?_
    refine wa_icmp_ge (tgt := 45) C dX8_commonDivisor_14 (by decide) (fun c1 => ?_) (fun c1 => ?_)
    · replace h := (if_pos c1).symm.trans h
      refine wa_lload C dX8_commonDivisor_45 rfl ?_
      obtain rfl := Option.some.inj h
      exact wa_lret C dX8_commonDivisor_47
    · replace h := (if_neg c1).symm.trans h
      refine wa_lload C dX8_commonDivisor_17 rfl ?_
      refine wa_lconst (v := 0) C dX8_commonDivisor_19 (by decide) ?_
      refine wa_lcmp C dX8_commonDivisor_20 ?_
      refine wa_if_eq (tgt := 45) C dX8_commonDivisor_21 (by decide) (fun c2 => ?_) (fun c2 => ?_)
      · replace h := (if_pos c2).symm.trans h
        refine wa_lload C dX8_commonDivisor_45 rfl ?_
        obtain rfl := Option.some.inj h
        exact wa_lret C dX8_commonDivisor_47
      · replace h := (if_neg c2).symm.trans h
        refine wa_lload C dX8_commonDivisor_24 rfl ?_
        refine wa_lload C dX8_commonDivisor_26 rfl ?_
        obtain ⟨g3, h⟩ := gnL h
        refine wa_lrem C dX8_commonDivisor_28 g3 ?_
        refine wa_lstore C dX8_commonDivisor_29 (by decide) ?_
        refine wa_lload C dX8_commonDivisor_31 rfl ?_
        refine wa_lstore C dX8_commonDivisor_33 (by decide) ?_
        refine wa_lload C dX8_commonDivisor_35 rfl ?_
        refine wa_lstore C dX8_commonDivisor_37 (by decide) ?_
        refine wa_iinc (v := (a8 + 1)) C dX8_commonDivisor_39 rfl rfl (by decide) ?_
        refine wa_goto (tgt := 9) C dX8_commonDivisor_42 (by decide) ?_
        exact WA.sub (lsub_c rfl (lsub_c rfl (lsub_c rfl lsub_n))) (ih _ _ _ h)
set_option maxRecDepth 100000 in
set_option maxHeartbeats 4000000 in
theorem r_X8_commonDivisor {a0 : Int64} {a2 : Int64} {μ : Mem} {ρ : (Int64 × Mem)} (h : f_X8_commonDivisor a0 a2 μ = some ρ) : HT 0 yX8_commonDivisor cX8_commonDivisor 11 (some .long) [.long a0, .long a2] μ (some (.long ρ.1)) ρ.2 := by
  refine HT.of (by decide +kernel) (Nat.le_of_ble_eq_true rfl) (fun C => ?_)
  unfold f_X8_commonDivisor at h
  refine wa_lload_n C dX8_commonDivisor_0 rfl ?_
  refine wa_lstore C dX8_commonDivisor_1 (by decide) ?_
  refine wa_lload_n C dX8_commonDivisor_3 rfl ?_
  refine wa_lstore C dX8_commonDivisor_4 (by decide) ?_
  refine wa_iconst (v := 0) C dX8_commonDivisor_6 (by decide) ?_
  refine wa_istore C dX8_commonDivisor_7 (by decide) ?_
  exact WA.sub (lsub_c rfl (lsub_c rfl (lsub_c rfl lsub_n))) (r_X8_commonDivisor_L9 C _ _ _ _ _ h)
def f_X8_fraction_59_J31 (a4 : Int64) (t0 : Int64) (μ : Mem) : Option (Int64 × Mem) :=
  if a4 = 0 then none else
  some ((t0 / a4), μ)
def f_X8_fraction_59 (a1 : Int64) (a3 : Int32) (μ : Mem) : Option (Int64 × Mem) :=
  (f_X8_commonDivisor a1 (μ.2 59 1) μ).bind fun q1 =>
  if 0 < (lg_cmp q1.1 (0 : Int64)) then
    if a3 = 0 then
      f_X8_fraction_59_J31 q1.1 a1 q1.2
    else
      f_X8_fraction_59_J31 q1.1 (q1.2.2 59 1) q1.2
  else
    some ((0 : Int64), q1.2)
set_option maxRecDepth 100000 in
set_option maxHeartbeats 4000000 in
theorem r_X8_fraction_59_J31 {p : Program} {l : Launch} {e : Env} {s : State} {m : MethodId} {args : Array Value} {below : List Frame} {meth : Method} {c : Code} {D : va_G} {cy : Nat → ClassId} {ad : Nat → Nat} (C : CX p s m args meth c cX8_fraction 6 RX8 (some .long) D cy ad (AD ad)) {a4 : Int64} {t0 : Int64} {μ : Mem} {ρ : (Int64 × Mem)} (h : f_X8_fraction_59_J31 a4 t0 μ = some ρ) : WA p l e (rmD 1) s m args below meth c 6 D cy ad (AD ad) 0 0 (ZZ below args s D cy ad (AD ad) 0 0 (some (.long ρ.1)) ρ.2) μ [(4, .long a4)] 31 [.long t0] := by
  unfold f_X8_fraction_59_J31 at h
  refine wa_lload C dX8_fraction_31 rfl ?_
  obtain ⟨g4, h⟩ := gnL h
  refine wa_ldiv C dX8_fraction_33 g4 ?_
  obtain rfl := Option.some.inj h
  exact wa_lret C dX8_fraction_34
set_option maxRecDepth 100000 in
set_option maxHeartbeats 4000000 in
theorem r_X8_fraction_59 {a1 : Int64} {a3 : Int32} {μ : Mem} {ρ : (Int64 × Mem)} (h : f_X8_fraction_59 a1 a3 μ = some ρ) : HT 1 yX8_fraction cX8_fraction 6 (some .long) [.ref 59, .long a1, .int a3] μ (some (.long ρ.1)) ρ.2 := by
  refine HT.of (by decide +kernel) (Nat.le_of_ble_eq_true rfl) (fun C => ?_)
  unfold f_X8_fraction_59 at h
  refine wa_lload_n C dX8_fraction_0 rfl ?_
  refine wa_aload_n C dX8_fraction_1 rfl ?_
  refine wa_getl (x := (μ.2 59 1)) C fl_RX8_15 rfl rfl (by decide) rfl dX8_fraction_2 ?_
  obtain ⟨q1, hq1, h⟩ := bd h
  refine wa_callS C (r_X8_commonDivisor hq1) mk_X8_commonDivisor ms_X8_commonDivisor qw_978 rfl ⟨Nat.le_of_ble_eq_true rfl, Nat.le_of_ble_eq_true rfl⟩ ⟨Nat.zero_le _, Nat.zero_le _⟩ (Nat.le_of_ble_eq_true rfl) dX8_fraction_5 rfl ?_
  refine wa_lstore C dX8_fraction_8 (by decide) ?_
  refine wa_lload C dX8_fraction_10 rfl ?_
  refine wa_lconst (v := 0) C dX8_fraction_12 (by decide) ?_
  refine wa_lcmp C dX8_fraction_13 ?_
  refine wa_if_gt (tgt := 19) C dX8_fraction_14 (by decide) (fun c2 => ?_) (fun c2 => ?_)
  · replace h := (if_pos c2).symm.trans h
    refine wa_iload_n C dX8_fraction_19 rfl ?_
    refine wa_if_ne (tgt := 27) C dX8_fraction_20 (by decide) (fun c3 => ?_) (fun c3 => ?_)
    · replace h := (if_neg c3).symm.trans h
      refine wa_aload_n C dX8_fraction_27 rfl ?_
      refine wa_getl (x := (q1.2.2 59 1)) C fl_RX8_15 rfl rfl (by decide) rfl dX8_fraction_28 ?_
      exact WA.sub (lsub_c rfl lsub_n) (r_X8_fraction_59_J31 C h)
    · replace h := (if_pos c3).symm.trans h
      refine wa_lload_n C dX8_fraction_23 rfl ?_
      refine wa_goto (tgt := 31) C dX8_fraction_24 (by decide) ?_
      exact WA.sub (lsub_c rfl lsub_n) (r_X8_fraction_59_J31 C h)
  · replace h := (if_neg c2).symm.trans h
    refine wa_lconst (v := 0) C dX8_fraction_17 (by decide) ?_
    obtain rfl := Option.some.inj h
    exact wa_lret C dX8_fraction_18
def f_X9_odds_0_J25 (μ : Mem) : Option (Int64 × Mem) :=
  some ((-1 : Int64), μ)
def f_X9_odds_0 (a1 : Int32) (a2 : Int32) (a3 : Int32) (μ : Mem) : Option (Int64 × Mem) :=
  (f_X9_isSide a1 μ).bind fun q1 =>
  if q1.1 = 0 then
    f_X9_odds_0_J25 q1.2
  else
    (f_X1_hasQuarter_1 a2 q1.2).bind fun q3 =>
    if q3.1 = 0 then
      f_X9_odds_0_J25 q3.2
    else
      (f_X9_isEither a3 q3.2).bind fun q5 =>
      if q5.1 = 0 then
        f_X9_odds_0_J25 q5.2
      else
        (f_X9_weighSleep_0 a2 q5.2).bind fun q7 =>
        if inb a1 4 = false then none else
        (f_X8_fraction_59 (q7.2 60 (a1.toNatClampNeg)) a3 q7).bind fun q9 =>
        some (q9.1, q9.2)
set_option maxRecDepth 100000 in
set_option maxHeartbeats 4000000 in
theorem r_X9_odds_0_J25 {p : Program} {l : Launch} {e : Env} {s : State} {m : MethodId} {args : Array Value} {below : List Frame} {meth : Method} {c : Code} {D : va_G} {cy : Nat → ClassId} {ad : Nat → Nat} (C : CX p s m args meth c cX9_odds 4 RX9 (some .long) D cy ad (AD ad)) {μ : Mem} {ρ : (Int64 × Mem)} (h : f_X9_odds_0_J25 μ = some ρ) : WA p l e (rmD 4) s m args below meth c 4 D cy ad (AD ad) 0 0 (ZZ below args s D cy ad (AD ad) 0 0 (some (.long ρ.1)) ρ.2) μ [] 25 [] := by
  unfold f_X9_odds_0_J25 at h
  refine wa_ldc2 (v := -1) C qw_957 dX9_odds_25 ?_
  obtain rfl := Option.some.inj h
  exact wa_lret C dX9_odds_28
set_option maxRecDepth 100000 in
set_option maxHeartbeats 4000000 in
theorem r_X9_odds_0 {a1 : Int32} {a2 : Int32} {a3 : Int32} {μ : Mem} {ρ : (Int64 × Mem)} (h : f_X9_odds_0 a1 a2 a3 μ = some ρ) : HT 4 yX9_odds cX9_odds 4 (some .long) [.ref 0, .int a1, .int a2, .int a3] μ (some (.long ρ.1)) ρ.2 := by
  refine HT.of (by decide +kernel) (Nat.le_of_ble_eq_true rfl) (fun C => ?_)
  unfold f_X9_odds_0 at h
  refine wa_iload_n C dX9_odds_0 rfl ?_
  obtain ⟨q1, hq1, h⟩ := bd h
  refine wa_callS C (r_X9_isSide hq1) mk_X9_isSide ms_X9_isSide qw_543 rfl ⟨Nat.le_of_ble_eq_true rfl, Nat.le_of_ble_eq_true rfl⟩ ⟨Nat.zero_le _, Nat.zero_le _⟩ (Nat.le_of_ble_eq_true rfl) dX9_odds_1 rfl ?_
  refine wa_if_eq (tgt := 25) C dX9_odds_4 (by decide) (fun c2 => ?_) (fun c2 => ?_)
  · replace h := (if_pos c2).symm.trans h
    exact WA.sub lsub_n (r_X9_odds_0_J25 C h)
  · replace h := (if_neg c2).symm.trans h
    refine wa_aload_n C dX9_odds_7 rfl ?_
    refine wa_getr C fl_RX9_10 rfl rfl (by decide) dX9_odds_8 ?_
    refine wa_iload_n C dX9_odds_11 rfl ?_
    obtain ⟨q3, hq3, h⟩ := bd h
    refine wa_callV C (r_X1_hasQuarter_1 hq3) mk_X1_hasQuarter mv_X1_hasQuarter qw_546 rfl (by decide) rfl rfl ⟨Nat.le_of_ble_eq_true rfl, Nat.le_of_ble_eq_true rfl⟩ ⟨Nat.zero_le _, Nat.zero_le _⟩ (Nat.le_of_ble_eq_true rfl) dX9_odds_12 rfl ?_
    refine wa_if_eq (tgt := 25) C dX9_odds_15 (by decide) (fun c4 => ?_) (fun c4 => ?_)
    · replace h := (if_pos c4).symm.trans h
      exact WA.sub lsub_n (r_X9_odds_0_J25 C h)
    · replace h := (if_neg c4).symm.trans h
      refine wa_iload_n C dX9_odds_18 rfl ?_
      obtain ⟨q5, hq5, h⟩ := bd h
      refine wa_callS C (r_X9_isEither hq5) mk_X9_isEither ms_X9_isEither qw_487 rfl ⟨Nat.le_of_ble_eq_true rfl, Nat.le_of_ble_eq_true rfl⟩ ⟨Nat.zero_le _, Nat.zero_le _⟩ (Nat.le_of_ble_eq_true rfl) dX9_odds_19 rfl ?_
      refine wa_if_ne (tgt := 29) C dX9_odds_22 (by decide) (fun c6 => ?_) (fun c6 => ?_)
      · replace h := (if_neg c6).symm.trans h
        refine wa_aload_n C dX9_odds_29 rfl ?_
        refine wa_iload_n C dX9_odds_30 rfl ?_
        obtain ⟨q7, hq7, h⟩ := bd h
        refine wa_callV C (r_X9_weighSleep_0 hq7) mk_X9_weighSleep mv_X9_weighSleep qw_959 rfl (by decide) rfl rfl ⟨Nat.le_of_ble_eq_true rfl, Nat.le_of_ble_eq_true rfl⟩ ⟨Nat.zero_le _, Nat.zero_le _⟩ (Nat.le_of_ble_eq_true rfl) dX9_odds_31 rfl ?_
        refine wa_aload_n C dX9_odds_34 rfl ?_
        refine wa_getr C fl_RX9_72 rfl rfl (by decide) dX9_odds_35 ?_
        refine wa_aload_n C dX9_odds_38 rfl ?_
        refine wa_getr C fl_RX9_72 rfl rfl (by decide) dX9_odds_39 ?_
        refine wa_getr C fl_RX9_244 rfl rfl (by decide) dX9_odds_42 ?_
        refine wa_iload_n C dX9_odds_45 rfl ?_
        obtain ⟨g8, h⟩ := gd h
        refine wa_lald (j := (a1.toNatClampNeg)) (x := (q7.2 60 (a1.toNatClampNeg))) C rfl (by decide) g8 rfl rfl dX9_odds_46 ?_
        refine wa_iload_n C dX9_odds_47 rfl ?_
        obtain ⟨q9, hq9, h⟩ := bd h
        refine wa_callV C (r_X8_fraction_59 hq9) mk_X8_fraction mv_X8_fraction qw_974 rfl (by decide) rfl rfl ⟨Nat.le_of_ble_eq_true rfl, Nat.le_of_ble_eq_true rfl⟩ ⟨Nat.zero_le _, Nat.zero_le _⟩ (Nat.le_of_ble_eq_true rfl) dX9_odds_48 rfl ?_
        obtain rfl := Option.some.inj h
        exact wa_lret C dX9_odds_51
      · replace h := (if_pos c6).symm.trans h
        exact WA.sub lsub_n (r_X9_odds_0_J25 C h)
def f_X10_missedOver_62_J175 (k17 : Int64 → Int32 → Mem → Option (Int64 × Mem)) (a1 : Int32) (a2 : Int32) (a3 : Int32) (a6 : Int32) (t0 : Int64) (t1 : Int64) (μ : Mem) : Option (Int64 × Mem) :=
  k17 (t0 + t1) (a6 + 1) μ
def f_X10_missedOver_62_J174 (k17 : Int64 → Int32 → Mem → Option (Int64 × Mem)) (a1 : Int32) (a2 : Int32) (a3 : Int32) (a6 : Int32) (t0 : Int64) (μ : Mem) : Option (Int64 × Mem) :=
  f_X10_missedOver_62_J175 k17 a1 a2 a3 a6 t0 (0 : Int64) μ
def f_X10_missedOver_62_J131 (k17 : Int64 → Int32 → Mem → Option (Int64 × Mem)) (k30 : Int64 → Int32 → Option (Int64 × Mem)) (a1 : Int32) (a2 : Int32) (a3 : Int32) (a4 : Int64) (a6 : Int32) (a9 : Int32) (t0 : Int64) (t1 : Int64) (μ : Mem) : Option (Int64 × Mem) :=
  k30 (t0 * t1) (a9 + 1)
def f_X10_missedOver_62_J80 (k17 : Int64 → Int32 → Mem → Option (Int64 × Mem)) (k30 : Int64 → Int32 → Option (Int64 × Mem)) (a1 : Int32) (a2 : Int32) (a3 : Int32) (a4 : Int64) (a6 : Int32) (a7 : Int64) (a9 : Int32) (a10 : Int32) (t0 : Int32) (μ : Mem) : Option (Int64 × Mem) :=
  if a10 = 0 then
    if t0 = 0 then
      f_X10_missedOver_62_J131 k17 k30 a1 a2 a3 a4 a6 a9 a7 (10 : Int64) μ
    else
      f_X10_missedOver_62_J131 k17 k30 a1 a2 a3 a4 a6 a9 a7 (0 : Int64) μ
  else
    if t0 = 0 then
      if inb a9 6 = false then none else
      f_X10_missedOver_62_J131 k17 k30 a1 a2 a3 a4 a6 a9 a7 (((10 : Int32) - (μ.1 71 (a9.toNatClampNeg))).toInt64) μ
    else
      if inb a9 6 = false then none else
      f_X10_missedOver_62_J131 k17 k30 a1 a2 a3 a4 a6 a9 a7 ((μ.1 71 (a9.toNatClampNeg)).toInt64) μ
def f_X10_missedOver_62_J62 (k17 : Int64 → Int32 → Mem → Option (Int64 × Mem)) (k30 : Int64 → Int32 → Option (Int64 × Mem)) (a1 : Int32) (a2 : Int32) (a3 : Int32) (a4 : Int64) (a6 : Int32) (a7 : Int64) (a9 : Int32) (t0 : Int32) (μ : Mem) : Option (Int64 × Mem) :=
  if ((a6 >>> (a9 &&& 31)) &&& (1 : Int32)) = (1 : Int32) then
    f_X10_missedOver_62_J80 k17 k30 a1 a2 a3 a4 a6 a7 a9 t0 (1 : Int32) μ
  else
    f_X10_missedOver_62_J80 k17 k30 a1 a2 a3 a4 a6 a7 a9 t0 (0 : Int32) μ
def f_X10_missedOver_62_J61 (k17 : Int64 → Int32 → Mem → Option (Int64 × Mem)) (k30 : Int64 → Int32 → Option (Int64 × Mem)) (a1 : Int32) (a2 : Int32) (a3 : Int32) (a4 : Int64) (a6 : Int32) (a7 : Int64) (a9 : Int32) (μ : Mem) : Option (Int64 × Mem) :=
  f_X10_missedOver_62_J62 k17 k30 a1 a2 a3 a4 a6 a7 a9 (0 : Int32) μ
def f_X10_missedOver_62_L30 (a1 : Int32) (a2 : Int32) (a3 : Int32) (a4 : Int64) (a6 : Int32) (μ : Mem) (k17 : Int64 → Int32 → Mem → Option (Int64 × Mem)) (k30 : Int64 → Int32 → Option (Int64 × Mem)) (a7 : Int64) (a9 : Int32) : Option (Int64 × Mem) :=
    if (6 : Int32) ≤ a9 then
      if (lg_cmp a7 (0 : Int64)) ≤ 0 then
        f_X10_missedOver_62_J174 k17 a1 a2 a3 a6 a4 μ
      else
        (f_X10_countOf_62 a1 (a3 ||| a6) μ).bind fun q6 =>
        (f_X10_neededAt_62 a1 a2 q6.2).bind fun q7 =>
        if ((2 : Int32) * q7.1) ≤ q6.1 then
          f_X10_missedOver_62_J174 k17 a1 a2 a3 a6 a4 q7.2
        else
          f_X10_missedOver_62_J175 k17 a1 a2 a3 a6 a4 a7 q7.2
    else
      if ((2 : Int32) * (μ.1 62 2)) ≤ a9 then
        f_X10_missedOver_62_J61 k17 k30 a1 a2 a3 a4 a6 a7 a9 μ
      else
        if ((a3 >>> (a9 &&& 31)) &&& (1 : Int32)) = 0 then
          f_X10_missedOver_62_J62 k17 k30 a1 a2 a3 a4 a6 a7 a9 (1 : Int32) μ
        else
          f_X10_missedOver_62_J61 k17 k30 a1 a2 a3 a4 a6 a7 a9 μ
def f_X10_missedOver_62_L17 (a1 : Int32) (a2 : Int32) (a3 : Int32) (k17 : Int64 → Int32 → Mem → Option (Int64 × Mem)) (a4 : Int64) (a6 : Int32) (μ : Mem) : Option (Int64 × Mem) :=
    if (64 : Int32) ≤ a6 then
      some (a4, μ)
    else
      it2 (f_X10_missedOver_62_L30 a1 a2 a3 a4 a6 μ k17) FU (1 : Int64) (0 : Int32)
def f_X10_missedOver_62 (a1 : Int32) (a2 : Int32) (μ : Mem) : Option (Int64 × Mem) :=
  (f_X10_goes_62 a2 μ).bind fun q1 =>
  (f_X10_shutNow_62 a2 q1).bind fun q2 =>
  it3 (f_X10_missedOver_62_L17 a1 a2 q2.1) FU (0 : Int64) (0 : Int32) q2.2
set_option maxRecDepth 100000 in
set_option maxHeartbeats 4000000 in
theorem r_X10_missedOver_62_J175 {p : Program} {l : Launch} {e : Env} {s : State} {m : MethodId} {args : Array Value} {below : List Frame} {meth : Method} {c : Code} {D : va_G} {cy : Nat → ClassId} {ad : Nat → Nat} (C : CX p s m args meth c cX10_missedOver 12 RX10 (some .long) D cy ad (AD ad)) {a1 : Int32} {a2 : Int32} {a3 : Int32} {a6 : Int32} {t0 : Int64} {t1 : Int64} {μ : Mem} {ρ : (Int64 × Mem)} (k17 : Int64 → Int32 → Mem → Option (Int64 × Mem)) (hk17 : ∀ (a4 : Int64) (a6 : Int32) (μ : Mem), k17 a4 a6 μ = some ρ → WA p l e (rmD 3) s m args below meth c 12 D cy ad (AD ad) 0 0 (ZZ below args s D cy ad (AD ad) 0 0 (some (.long ρ.1)) ρ.2) μ [(0, .ref 62), (1, .int a1), (2, .int a2), (3, .int a3), (4, .long a4), (6, .int a6)] 17 []) (h : f_X10_missedOver_62_J175 k17 a1 a2 a3 a6 t0 t1 μ = some ρ) : WA p l e (rmD 3) s m args below meth c 12 D cy ad (AD ad) 0 0 (ZZ below args s D cy ad (AD ad) 0 0 (some (.long ρ.1)) ρ.2) μ [(0, .ref 62), (1, .int a1), (2, .int a2), (3, .int a3), (6, .int a6)] 175 [.long t1, .long t0] := by
  unfold f_X10_missedOver_62_J175 at h
  refine wa_ladd C dX10_missedOver_175 ?_
  refine wa_lstore C dX10_missedOver_176 (by decide) ?_
  refine wa_iinc (v := (a6 + 1)) C dX10_missedOver_178 rfl rfl (by decide) ?_
  refine wa_goto (tgt := 17) C dX10_missedOver_181 (by decide) ?_
  exact WA.sub (lsub_c rfl (lsub_c rfl (lsub_c rfl (lsub_c rfl (lsub_c rfl (lsub_c rfl lsub_n)))))) (hk17 _ _ _ h)
set_option maxRecDepth 100000 in
set_option maxHeartbeats 4000000 in
theorem r_X10_missedOver_62_J174 {p : Program} {l : Launch} {e : Env} {s : State} {m : MethodId} {args : Array Value} {below : List Frame} {meth : Method} {c : Code} {D : va_G} {cy : Nat → ClassId} {ad : Nat → Nat} (C : CX p s m args meth c cX10_missedOver 12 RX10 (some .long) D cy ad (AD ad)) {a1 : Int32} {a2 : Int32} {a3 : Int32} {a6 : Int32} {t0 : Int64} {μ : Mem} {ρ : (Int64 × Mem)} (k17 : Int64 → Int32 → Mem → Option (Int64 × Mem)) (hk17 : ∀ (a4 : Int64) (a6 : Int32) (μ : Mem), k17 a4 a6 μ = some ρ → WA p l e (rmD 3) s m args below meth c 12 D cy ad (AD ad) 0 0 (ZZ below args s D cy ad (AD ad) 0 0 (some (.long ρ.1)) ρ.2) μ [(0, .ref 62), (1, .int a1), (2, .int a2), (3, .int a3), (4, .long a4), (6, .int a6)] 17 []) (h : f_X10_missedOver_62_J174 k17 a1 a2 a3 a6 t0 μ = some ρ) : WA p l e (rmD 3) s m args below meth c 12 D cy ad (AD ad) 0 0 (ZZ below args s D cy ad (AD ad) 0 0 (some (.long ρ.1)) ρ.2) μ [(0, .ref 62), (1, .int a1), (2, .int a2), (3, .int a3), (6, .int a6)] 174 [.long t0] := by
  unfold f_X10_missedOver_62_J174 at h
  refine wa_lconst (v := 0) C dX10_missedOver_174 (by decide) ?_
  exact WA.sub (lsub_c rfl (lsub_c rfl (lsub_c rfl (lsub_c rfl (lsub_c rfl lsub_n))))) (r_X10_missedOver_62_J175 C _ hk17 h)
set_option maxRecDepth 100000 in
set_option maxHeartbeats 4000000 in
theorem r_X10_missedOver_62_J131 {p : Program} {l : Launch} {e : Env} {s : State} {m : MethodId} {args : Array Value} {below : List Frame} {meth : Method} {c : Code} {D : va_G} {cy : Nat → ClassId} {ad : Nat → Nat} (C : CX p s m args meth c cX10_missedOver 12 RX10 (some .long) D cy ad (AD ad)) {a1 : Int32} {a2 : Int32} {a3 : Int32} {a4 : Int64} {a6 : Int32} {a9 : Int32} {t0 : Int64} {t1 : Int64} {μ : Mem} {ρ : (Int64 × Mem)} (k17 : Int64 → Int32 → Mem → Option (Int64 × Mem)) (hk17 : ∀ (a4 : Int64) (a6 : Int32) (μ : Mem), k17 a4 a6 μ = some ρ → WA p l e (rmD 3) s m args below meth c 12 D cy ad (AD ad) 0 0 (ZZ below args s D cy ad (AD ad) 0 0 (some (.long ρ.1)) ρ.2) μ [(0, .ref 62), (1, .int a1), (2, .int a2), (3, .int a3), (4, .long a4), (6, .int a6)] 17 []) (k30 : Int64 → Int32 → Option (Int64 × Mem)) (hk30 : ∀ (a7 : Int64) (a9 : Int32), k30 a7 a9 = some ρ → WA p l e (rmD 3) s m args below meth c 12 D cy ad (AD ad) 0 0 (ZZ below args s D cy ad (AD ad) 0 0 (some (.long ρ.1)) ρ.2) μ [(0, .ref 62), (1, .int a1), (2, .int a2), (3, .int a3), (4, .long a4), (6, .int a6), (7, .long a7), (9, .int a9)] 30 []) (h : f_X10_missedOver_62_J131 k17 k30 a1 a2 a3 a4 a6 a9 t0 t1 μ = some ρ) : WA p l e (rmD 3) s m args below meth c 12 D cy ad (AD ad) 0 0 (ZZ below args s D cy ad (AD ad) 0 0 (some (.long ρ.1)) ρ.2) μ [(0, .ref 62), (1, .int a1), (2, .int a2), (3, .int a3), (4, .long a4), (6, .int a6), (9, .int a9)] 131 [.long t1, .long t0] := by
  unfold f_X10_missedOver_62_J131 at h
  refine wa_lmul C dX10_missedOver_131 ?_
  refine wa_lstore C dX10_missedOver_132 (by decide) ?_
  refine wa_iinc (v := (a9 + 1)) C dX10_missedOver_134 rfl rfl (by decide) ?_
  refine wa_goto (tgt := 30) C dX10_missedOver_137 (by decide) ?_
  exact WA.sub (lsub_c rfl (lsub_c rfl (lsub_c rfl (lsub_c rfl (lsub_c rfl (lsub_c rfl (lsub_c rfl (lsub_c rfl lsub_n)))))))) (hk30 _ _ h)
set_option maxRecDepth 100000 in
set_option maxHeartbeats 4000000 in
theorem r_X10_missedOver_62_J80 {p : Program} {l : Launch} {e : Env} {s : State} {m : MethodId} {args : Array Value} {below : List Frame} {meth : Method} {c : Code} {D : va_G} {cy : Nat → ClassId} {ad : Nat → Nat} (C : CX p s m args meth c cX10_missedOver 12 RX10 (some .long) D cy ad (AD ad)) {a1 : Int32} {a2 : Int32} {a3 : Int32} {a4 : Int64} {a6 : Int32} {a7 : Int64} {a9 : Int32} {a10 : Int32} {t0 : Int32} {μ : Mem} {ρ : (Int64 × Mem)} (k17 : Int64 → Int32 → Mem → Option (Int64 × Mem)) (hk17 : ∀ (a4 : Int64) (a6 : Int32) (μ : Mem), k17 a4 a6 μ = some ρ → WA p l e (rmD 3) s m args below meth c 12 D cy ad (AD ad) 0 0 (ZZ below args s D cy ad (AD ad) 0 0 (some (.long ρ.1)) ρ.2) μ [(0, .ref 62), (1, .int a1), (2, .int a2), (3, .int a3), (4, .long a4), (6, .int a6)] 17 []) (k30 : Int64 → Int32 → Option (Int64 × Mem)) (hk30 : ∀ (a7 : Int64) (a9 : Int32), k30 a7 a9 = some ρ → WA p l e (rmD 3) s m args below meth c 12 D cy ad (AD ad) 0 0 (ZZ below args s D cy ad (AD ad) 0 0 (some (.long ρ.1)) ρ.2) μ [(0, .ref 62), (1, .int a1), (2, .int a2), (3, .int a3), (4, .long a4), (6, .int a6), (7, .long a7), (9, .int a9)] 30 []) (h : f_X10_missedOver_62_J80 k17 k30 a1 a2 a3 a4 a6 a7 a9 a10 t0 μ = some ρ) : WA p l e (rmD 3) s m args below meth c 12 D cy ad (AD ad) 0 0 (ZZ below args s D cy ad (AD ad) 0 0 (some (.long ρ.1)) ρ.2) μ [(0, .ref 62), (1, .int a1), (2, .int a2), (3, .int a3), (4, .long a4), (6, .int a6), (7, .long a7), (9, .int a9), (10, .int a10)] 80 [.int t0] := by
  unfold f_X10_missedOver_62_J80 at h
  refine wa_istore C dX10_missedOver_80 (by decide) ?_
  refine wa_lload C dX10_missedOver_82 rfl ?_
  refine wa_iload C dX10_missedOver_84 rfl ?_
  refine wa_if_eq (tgt := 119) C dX10_missedOver_86 (by decide) (fun c11 => ?_) (fun c11 => ?_)
  · replace h := (if_pos c11).symm.trans h
    refine wa_iload C dX10_missedOver_119 rfl ?_
    refine wa_if_eq (tgt := 128) C dX10_missedOver_121 (by decide) (fun c12 => ?_) (fun c12 => ?_)
    · replace h := (if_pos c12).symm.trans h
      refine wa_ldc2 (v := 10) C qw_827 dX10_missedOver_128 ?_
      exact WA.sub (lsub_c rfl (lsub_c rfl (lsub_c rfl (lsub_c rfl (lsub_c rfl (lsub_c rfl (lsub_c rfl lsub_n))))))) (r_X10_missedOver_62_J131 C _ hk17 _ hk30 h)
    · replace h := (if_neg c12).symm.trans h
      refine wa_lconst (v := 0) C dX10_missedOver_124 (by decide) ?_
      refine wa_goto (tgt := 131) C dX10_missedOver_125 (by decide) ?_
      exact WA.sub (lsub_c rfl (lsub_c rfl (lsub_c rfl (lsub_c rfl (lsub_c rfl (lsub_c rfl (lsub_c rfl lsub_n))))))) (r_X10_missedOver_62_J131 C _ hk17 _ hk30 h)
  · replace h := (if_neg c11).symm.trans h
    refine wa_iload C dX10_missedOver_89 rfl ?_
    refine wa_if_eq (tgt := 105) C dX10_missedOver_91 (by decide) (fun c13 => ?_) (fun c13 => ?_)
    · replace h := (if_pos c13).symm.trans h
      refine wa_bipush (v := 10) C dX10_missedOver_105 (by decide) ?_
      refine wa_aload_n C dX10_missedOver_107 rfl ?_
      refine wa_getr C fl_RX10_35 rfl rfl (by decide) dX10_missedOver_108 ?_
      refine wa_iload C dX10_missedOver_111 rfl ?_
      obtain ⟨g14, h⟩ := gd h
      refine wa_iald (j := (a9.toNatClampNeg)) (x := (μ.1 71 (a9.toNatClampNeg))) C rfl (by decide) g14 rfl rfl dX10_missedOver_113 ?_
      refine wa_isub C dX10_missedOver_114 ?_
      refine wa_i2l (v := (((10 : Int32) - (μ.1 71 (a9.toNatClampNeg))).toInt64)) C dX10_missedOver_115 rfl ?_
      refine wa_goto (tgt := 131) C dX10_missedOver_116 (by decide) ?_
      exact WA.sub (lsub_c rfl (lsub_c rfl (lsub_c rfl (lsub_c rfl (lsub_c rfl (lsub_c rfl (lsub_c rfl lsub_n))))))) (r_X10_missedOver_62_J131 C _ hk17 _ hk30 h)
    · replace h := (if_neg c13).symm.trans h
      refine wa_aload_n C dX10_missedOver_94 rfl ?_
      refine wa_getr C fl_RX10_35 rfl rfl (by decide) dX10_missedOver_95 ?_
      refine wa_iload C dX10_missedOver_98 rfl ?_
      obtain ⟨g15, h⟩ := gd h
      refine wa_iald (j := (a9.toNatClampNeg)) (x := (μ.1 71 (a9.toNatClampNeg))) C rfl (by decide) g15 rfl rfl dX10_missedOver_100 ?_
      refine wa_i2l (v := ((μ.1 71 (a9.toNatClampNeg)).toInt64)) C dX10_missedOver_101 rfl ?_
      refine wa_goto (tgt := 131) C dX10_missedOver_102 (by decide) ?_
      exact WA.sub (lsub_c rfl (lsub_c rfl (lsub_c rfl (lsub_c rfl (lsub_c rfl (lsub_c rfl (lsub_c rfl lsub_n))))))) (r_X10_missedOver_62_J131 C _ hk17 _ hk30 h)
set_option maxRecDepth 100000 in
set_option maxHeartbeats 4000000 in
theorem r_X10_missedOver_62_J62 {p : Program} {l : Launch} {e : Env} {s : State} {m : MethodId} {args : Array Value} {below : List Frame} {meth : Method} {c : Code} {D : va_G} {cy : Nat → ClassId} {ad : Nat → Nat} (C : CX p s m args meth c cX10_missedOver 12 RX10 (some .long) D cy ad (AD ad)) {a1 : Int32} {a2 : Int32} {a3 : Int32} {a4 : Int64} {a6 : Int32} {a7 : Int64} {a9 : Int32} {t0 : Int32} {μ : Mem} {ρ : (Int64 × Mem)} (k17 : Int64 → Int32 → Mem → Option (Int64 × Mem)) (hk17 : ∀ (a4 : Int64) (a6 : Int32) (μ : Mem), k17 a4 a6 μ = some ρ → WA p l e (rmD 3) s m args below meth c 12 D cy ad (AD ad) 0 0 (ZZ below args s D cy ad (AD ad) 0 0 (some (.long ρ.1)) ρ.2) μ [(0, .ref 62), (1, .int a1), (2, .int a2), (3, .int a3), (4, .long a4), (6, .int a6)] 17 []) (k30 : Int64 → Int32 → Option (Int64 × Mem)) (hk30 : ∀ (a7 : Int64) (a9 : Int32), k30 a7 a9 = some ρ → WA p l e (rmD 3) s m args below meth c 12 D cy ad (AD ad) 0 0 (ZZ below args s D cy ad (AD ad) 0 0 (some (.long ρ.1)) ρ.2) μ [(0, .ref 62), (1, .int a1), (2, .int a2), (3, .int a3), (4, .long a4), (6, .int a6), (7, .long a7), (9, .int a9)] 30 []) (h : f_X10_missedOver_62_J62 k17 k30 a1 a2 a3 a4 a6 a7 a9 t0 μ = some ρ) : WA p l e (rmD 3) s m args below meth c 12 D cy ad (AD ad) 0 0 (ZZ below args s D cy ad (AD ad) 0 0 (some (.long ρ.1)) ρ.2) μ [(0, .ref 62), (1, .int a1), (2, .int a2), (3, .int a3), (4, .long a4), (6, .int a6), (7, .long a7), (9, .int a9)] 62 [.int t0] := by
  unfold f_X10_missedOver_62_J62 at h
  refine wa_istore C dX10_missedOver_62 (by decide) ?_
  refine wa_iload C dX10_missedOver_64 rfl ?_
  refine wa_iload C dX10_missedOver_66 rfl ?_
  refine wa_ishr C dX10_missedOver_68 ?_
  refine wa_iconst (v := 1) C dX10_missedOver_69 (by decide) ?_
  refine wa_iand C dX10_missedOver_70 ?_
  refine wa_iconst (v := 1) C dX10_missedOver_71 (by decide) ?_
  refine wa_icmp_ne (tgt := 79) C dX10_missedOver_72 (by decide) (fun c10 => ?_) (fun c10 => ?_)
  · replace h := (if_neg c10).symm.trans h
    refine wa_iconst (v := 0) C dX10_missedOver_79 (by decide) ?_
    exact WA.sub (lsub_c rfl (lsub_c rfl (lsub_c rfl (lsub_c rfl (lsub_c rfl (lsub_c rfl (lsub_c rfl (lsub_c rfl (lsub_c rfl lsub_n))))))))) (r_X10_missedOver_62_J80 C _ hk17 _ hk30 h)
  · replace h := (if_pos c10).symm.trans h
    refine wa_iconst (v := 1) C dX10_missedOver_75 (by decide) ?_
    refine wa_goto (tgt := 80) C dX10_missedOver_76 (by decide) ?_
    exact WA.sub (lsub_c rfl (lsub_c rfl (lsub_c rfl (lsub_c rfl (lsub_c rfl (lsub_c rfl (lsub_c rfl (lsub_c rfl (lsub_c rfl lsub_n))))))))) (r_X10_missedOver_62_J80 C _ hk17 _ hk30 h)
set_option maxRecDepth 100000 in
set_option maxHeartbeats 4000000 in
theorem r_X10_missedOver_62_J61 {p : Program} {l : Launch} {e : Env} {s : State} {m : MethodId} {args : Array Value} {below : List Frame} {meth : Method} {c : Code} {D : va_G} {cy : Nat → ClassId} {ad : Nat → Nat} (C : CX p s m args meth c cX10_missedOver 12 RX10 (some .long) D cy ad (AD ad)) {a1 : Int32} {a2 : Int32} {a3 : Int32} {a4 : Int64} {a6 : Int32} {a7 : Int64} {a9 : Int32} {μ : Mem} {ρ : (Int64 × Mem)} (k17 : Int64 → Int32 → Mem → Option (Int64 × Mem)) (hk17 : ∀ (a4 : Int64) (a6 : Int32) (μ : Mem), k17 a4 a6 μ = some ρ → WA p l e (rmD 3) s m args below meth c 12 D cy ad (AD ad) 0 0 (ZZ below args s D cy ad (AD ad) 0 0 (some (.long ρ.1)) ρ.2) μ [(0, .ref 62), (1, .int a1), (2, .int a2), (3, .int a3), (4, .long a4), (6, .int a6)] 17 []) (k30 : Int64 → Int32 → Option (Int64 × Mem)) (hk30 : ∀ (a7 : Int64) (a9 : Int32), k30 a7 a9 = some ρ → WA p l e (rmD 3) s m args below meth c 12 D cy ad (AD ad) 0 0 (ZZ below args s D cy ad (AD ad) 0 0 (some (.long ρ.1)) ρ.2) μ [(0, .ref 62), (1, .int a1), (2, .int a2), (3, .int a3), (4, .long a4), (6, .int a6), (7, .long a7), (9, .int a9)] 30 []) (h : f_X10_missedOver_62_J61 k17 k30 a1 a2 a3 a4 a6 a7 a9 μ = some ρ) : WA p l e (rmD 3) s m args below meth c 12 D cy ad (AD ad) 0 0 (ZZ below args s D cy ad (AD ad) 0 0 (some (.long ρ.1)) ρ.2) μ [(0, .ref 62), (1, .int a1), (2, .int a2), (3, .int a3), (4, .long a4), (6, .int a6), (7, .long a7), (9, .int a9)] 61 [] := by
  unfold f_X10_missedOver_62_J61 at h
  refine wa_iconst (v := 0) C dX10_missedOver_61 (by decide) ?_
  exact WA.sub (lsub_c rfl (lsub_c rfl (lsub_c rfl (lsub_c rfl (lsub_c rfl (lsub_c rfl (lsub_c rfl (lsub_c rfl lsub_n)))))))) (r_X10_missedOver_62_J62 C _ hk17 _ hk30 h)
set_option maxRecDepth 100000 in
set_option maxHeartbeats 4000000 in
theorem r_X10_missedOver_62_L30 {p : Program} {l : Launch} {e : Env} {s : State} {m : MethodId} {args : Array Value} {below : List Frame} {meth : Method} {c : Code} {D : va_G} {cy : Nat → ClassId} {ad : Nat → Nat} (C : CX p s m args meth c cX10_missedOver 12 RX10 (some .long) D cy ad (AD ad)) (a1 : Int32) (a2 : Int32) (a3 : Int32) (a4 : Int64) (a6 : Int32) (μ : Mem) {ρ : (Int64 × Mem)} (k17 : Int64 → Int32 → Mem → Option (Int64 × Mem)) (hk17 : ∀ (a4 : Int64) (a6 : Int32) (μ : Mem), k17 a4 a6 μ = some ρ → WA p l e (rmD 3) s m args below meth c 12 D cy ad (AD ad) 0 0 (ZZ below args s D cy ad (AD ad) 0 0 (some (.long ρ.1)) ρ.2) μ [(0, .ref 62), (1, .int a1), (2, .int a2), (3, .int a3), (4, .long a4), (6, .int a6)] 17 []) : ∀ (n : Nat) (a7 : Int64) (a9 : Int32), it2 (f_X10_missedOver_62_L30 a1 a2 a3 a4 a6 μ k17) n a7 a9 = some ρ → WA p l e (rmD 3) s m args below meth c 12 D cy ad (AD ad) 0 0 (ZZ below args s D cy ad (AD ad) 0 0 (some (.long ρ.1)) ρ.2) μ [(0, .ref 62), (1, .int a1), (2, .int a2), (3, .int a3), (4, .long a4), (6, .int a6), (7, .long a7), (9, .int a9)] 30 [] := by
  intro n
  induction n with
  | zero =>
    intro a7 a9 h
    exact absurd h (fun h => by cases h)
  | succ n ih =>
    intro a7 a9 h
    replace h : f_X10_missedOver_62_L30 a1 a2 a3 a4 a6 μ k17 (it2 (f_X10_missedOver_62_L30 a1 a2 a3 a4 a6 μ k17) n) a7 a9 = some ρ := h
    unfold f_X10_missedOver_62_L30 at h
    refine wa_iload C dX10_missedOver_30 rfl ?_
    refine wa_bipush (v := 6) C dX10_missedOver_32 (by decide) ?_
    refine wa_icmp_ge (tgt := 140) C dX10_missedOver_34 (by decide) (fun c4 => ?_) (fun c4 => ?_)
    · replace h := (if_pos c4).symm.trans h
      refine wa_lload C dX10_missedOver_140 rfl ?_
      refine wa_lload C dX10_missedOver_142 rfl ?_
      refine wa_lconst (v := 0) C dX10_missedOver_144 (by decide) ?_
      refine wa_lcmp C dX10_missedOver_145 ?_
      refine wa_if_le (tgt := 174) C dX10_missedOver_146 (by decide) (fun c5 => ?_) (fun c5 => ?_)
      · replace h := (if_pos c5).symm.trans h
        exact WA.sub (lsub_c rfl (lsub_c rfl (lsub_c rfl (lsub_c rfl (lsub_c rfl lsub_n))))) (r_X10_missedOver_62_J174 C _ hk17 h)
      · replace h := (if_neg c5).symm.trans h
        refine wa_aload_n C dX10_missedOver_149 rfl ?_
        refine wa_iload_n C dX10_missedOver_150 rfl ?_
        refine wa_iload_n C dX10_missedOver_151 rfl ?_
        refine wa_iload C dX10_missedOver_152 rfl ?_
        refine wa_ior C dX10_missedOver_154 ?_
        obtain ⟨q6, hq6, h⟩ := bd h
        refine wa_callV C (r_X10_countOf_62 hq6) mk_X10_countOf mv_X10_countOf qw_651 rfl (by decide) rfl rfl ⟨Nat.le_of_ble_eq_true rfl, Nat.le_of_ble_eq_true rfl⟩ ⟨Nat.zero_le _, Nat.zero_le _⟩ (Nat.le_of_ble_eq_true rfl) dX10_missedOver_155 rfl ?_
        refine wa_iconst (v := 2) C dX10_missedOver_158 (by decide) ?_
        refine wa_aload_n C dX10_missedOver_159 rfl ?_
        refine wa_iload_n C dX10_missedOver_160 rfl ?_
        refine wa_iload_n C dX10_missedOver_161 rfl ?_
        obtain ⟨q7, hq7, h⟩ := bd h
        refine wa_callV C (r_X10_neededAt_62 hq7) mk_X10_neededAt mv_X10_neededAt qw_562 rfl (by decide) rfl rfl ⟨Nat.le_of_ble_eq_true rfl, Nat.le_of_ble_eq_true rfl⟩ ⟨Nat.zero_le _, Nat.zero_le _⟩ (Nat.le_of_ble_eq_true rfl) dX10_missedOver_162 rfl ?_
        refine wa_imul C dX10_missedOver_165 ?_
        refine wa_icmp_ge (tgt := 174) C dX10_missedOver_166 (by decide) (fun c8 => ?_) (fun c8 => ?_)
        · replace h := (if_pos c8).symm.trans h
          exact WA.sub (lsub_c rfl (lsub_c rfl (lsub_c rfl (lsub_c rfl (lsub_c rfl lsub_n))))) (r_X10_missedOver_62_J174 C _ hk17 h)
        · replace h := (if_neg c8).symm.trans h
          refine wa_lload C dX10_missedOver_169 rfl ?_
          refine wa_goto (tgt := 175) C dX10_missedOver_171 (by decide) ?_
          exact WA.sub (lsub_c rfl (lsub_c rfl (lsub_c rfl (lsub_c rfl (lsub_c rfl lsub_n))))) (r_X10_missedOver_62_J175 C _ hk17 h)
    · replace h := (if_neg c4).symm.trans h
      refine wa_iload C dX10_missedOver_37 rfl ?_
      refine wa_iconst (v := 2) C dX10_missedOver_39 (by decide) ?_
      refine wa_aload_n C dX10_missedOver_40 rfl ?_
      refine wa_geti (x := (μ.1 62 2)) C fl_RX10_94 rfl rfl (by decide) rfl dX10_missedOver_41 ?_
      refine wa_imul C dX10_missedOver_44 ?_
      refine wa_icmp_ge (tgt := 61) C dX10_missedOver_45 (by decide) (fun c9 => ?_) (fun c9 => ?_)
      · replace h := (if_pos c9).symm.trans h
        exact WA.sub (lsub_c rfl (lsub_c rfl (lsub_c rfl (lsub_c rfl (lsub_c rfl (lsub_c rfl (lsub_c rfl (lsub_c rfl lsub_n)))))))) (r_X10_missedOver_62_J61 C _ hk17 _ (fun _ _ h => ih _ _ h) h)
      · replace h := (if_neg c9).symm.trans h
        refine wa_iload_n C dX10_missedOver_48 rfl ?_
        refine wa_iload C dX10_missedOver_49 rfl ?_
        refine wa_ishr C dX10_missedOver_51 ?_
        refine wa_iconst (v := 1) C dX10_missedOver_52 (by decide) ?_
        refine wa_iand C dX10_missedOver_53 ?_
        refine wa_if_ne (tgt := 61) C dX10_missedOver_54 (by decide) (fun c16 => ?_) (fun c16 => ?_)
        · replace h := (if_neg c16).symm.trans h
          exact WA.sub (lsub_c rfl (lsub_c rfl (lsub_c rfl (lsub_c rfl (lsub_c rfl (lsub_c rfl (lsub_c rfl (lsub_c rfl lsub_n)))))))) (r_X10_missedOver_62_J61 C _ hk17 _ (fun _ _ h => ih _ _ h) h)
        · replace h := (if_pos c16).symm.trans h
          refine wa_iconst (v := 1) C dX10_missedOver_57 (by decide) ?_
          refine wa_goto (tgt := 62) C dX10_missedOver_58 (by decide) ?_
          exact WA.sub (lsub_c rfl (lsub_c rfl (lsub_c rfl (lsub_c rfl (lsub_c rfl (lsub_c rfl (lsub_c rfl (lsub_c rfl lsub_n)))))))) (r_X10_missedOver_62_J62 C _ hk17 _ (fun _ _ h => ih _ _ h) h)
set_option maxRecDepth 100000 in
set_option maxHeartbeats 4000000 in
theorem r_X10_missedOver_62_L17 {p : Program} {l : Launch} {e : Env} {s : State} {m : MethodId} {args : Array Value} {below : List Frame} {meth : Method} {c : Code} {D : va_G} {cy : Nat → ClassId} {ad : Nat → Nat} (C : CX p s m args meth c cX10_missedOver 12 RX10 (some .long) D cy ad (AD ad)) (a1 : Int32) (a2 : Int32) (a3 : Int32) {ρ : (Int64 × Mem)} : ∀ (n : Nat) (a4 : Int64) (a6 : Int32) (μ : Mem), it3 (f_X10_missedOver_62_L17 a1 a2 a3) n a4 a6 μ = some ρ → WA p l e (rmD 3) s m args below meth c 12 D cy ad (AD ad) 0 0 (ZZ below args s D cy ad (AD ad) 0 0 (some (.long ρ.1)) ρ.2) μ [(0, .ref 62), (1, .int a1), (2, .int a2), (3, .int a3), (4, .long a4), (6, .int a6)] 17 [] := by
  intro n
  induction n with
  | zero =>
    intro a4 a6 μ h
    exact absurd h (fun h => by cases h)
  | succ n ih =>
    intro a4 a6 μ h
    replace h : f_X10_missedOver_62_L17 a1 a2 a3 (it3 (f_X10_missedOver_62_L17 a1 a2 a3) n) a4 a6 μ = some ρ := h
    unfold f_X10_missedOver_62_L17 at h
    refine wa_iload C dX10_missedOver_17 rfl ?_
    refine wa_bipush (v := 64) C dX10_missedOver_19 (by decide) ?_
    refine wa_icmp_ge (tgt := 184) C dX10_missedOver_21 (by decide) (fun c3 => ?_) (fun c3 => ?_)
    · replace h := (if_pos c3).symm.trans h
      refine wa_lload C dX10_missedOver_184 rfl ?_
      obtain rfl := Option.some.inj h
      exact wa_lret C dX10_missedOver_186
    · replace h := (if_neg c3).symm.trans h
      refine wa_lconst (v := 1) C dX10_missedOver_24 (by decide) ?_
      refine wa_lstore C dX10_missedOver_25 (by decide) ?_
      refine wa_iconst (v := 0) C dX10_missedOver_27 (by decide) ?_
      refine wa_istore C dX10_missedOver_28 (by decide) ?_
      exact WA.sub (lsub_c rfl (lsub_c rfl (lsub_c rfl (lsub_c rfl (lsub_c rfl (lsub_c rfl (lsub_c rfl (lsub_c rfl lsub_n)))))))) (r_X10_missedOver_62_L30 C _ _ _ _ _ _ _ (fun _ _ _ h => ih _ _ _ h) _ _ _ h)
set_option maxRecDepth 100000 in
set_option maxHeartbeats 4000000 in
theorem r_X10_missedOver_62 {a1 : Int32} {a2 : Int32} {μ : Mem} {ρ : (Int64 × Mem)} (h : f_X10_missedOver_62 a1 a2 μ = some ρ) : HT 3 yX10_missedOver cX10_missedOver 12 (some .long) [.ref 62, .int a1, .int a2] μ (some (.long ρ.1)) ρ.2 := by
  refine HT.of (by decide +kernel) (Nat.le_of_ble_eq_true rfl) (fun C => ?_)
  unfold f_X10_missedOver_62 at h
  refine wa_aload_n C dX10_missedOver_0 rfl ?_
  refine wa_iload_n C dX10_missedOver_1 rfl ?_
  obtain ⟨q1, hq1, h⟩ := bd h
  refine wa_callV C (r_X10_goes_62 hq1) mk_X10_goes mv_X10_goes qw_750 rfl (by decide) rfl rfl ⟨Nat.le_of_ble_eq_true rfl, Nat.le_of_ble_eq_true rfl⟩ ⟨Nat.zero_le _, Nat.zero_le _⟩ (Nat.le_of_ble_eq_true rfl) dX10_missedOver_2 rfl ?_
  refine wa_aload_n C dX10_missedOver_5 rfl ?_
  refine wa_iload_n C dX10_missedOver_6 rfl ?_
  obtain ⟨q2, hq2, h⟩ := bd h
  refine wa_callV C (r_X10_shutNow_62 hq2) mk_X10_shutNow mv_X10_shutNow qw_754 rfl (by decide) rfl rfl ⟨Nat.le_of_ble_eq_true rfl, Nat.le_of_ble_eq_true rfl⟩ ⟨Nat.zero_le _, Nat.zero_le _⟩ (Nat.le_of_ble_eq_true rfl) dX10_missedOver_7 rfl ?_
  refine wa_istore_n C dX10_missedOver_10 (by decide) ?_
  refine wa_lconst (v := 0) C dX10_missedOver_11 (by decide) ?_
  refine wa_lstore C dX10_missedOver_12 (by decide) ?_
  refine wa_iconst (v := 0) C dX10_missedOver_14 (by decide) ?_
  refine wa_istore C dX10_missedOver_15 (by decide) ?_
  exact WA.sub (lsub_c rfl (lsub_c rfl (lsub_c rfl (lsub_c rfl (lsub_c rfl (lsub_c rfl lsub_n)))))) (r_X10_missedOver_62_L17 C _ _ _ _ _ _ _ h)
