def f_X9_torn_0 (μ : Mem) : Option (Int32 × Mem) :=
  some ((μ.1 0 5), μ)
set_option maxRecDepth 100000 in
set_option maxHeartbeats 4000000 in
theorem r_X9_torn_0 {μ : Mem} {ρ : (Int32 × Mem)} (h : f_X9_torn_0 μ = some ρ) : HT 0 yX9_torn cX9_torn 1 (some .int) [.ref 0] μ (some (.int ρ.1)) ρ.2 := by
  refine HT.of (by decide +kernel) (Nat.le_of_ble_eq_true rfl) (fun C => ?_)
  unfold f_X9_torn_0 at h
  refine wa_aload_n C dX9_torn_0 rfl ?_
  refine wa_geti (x := (μ.1 0 5)) C fl_RX9_290 rfl rfl (by decide) rfl dX9_torn_1 ?_
  obtain rfl := Option.some.inj h
  exact wa_iret C dX9_torn_4
def f_X10_torn_62 (μ : Mem) : Option (Int32 × Mem) :=
  some ((μ.1 62 38), μ)
set_option maxRecDepth 100000 in
set_option maxHeartbeats 4000000 in
theorem r_X10_torn_62 {μ : Mem} {ρ : (Int32 × Mem)} (h : f_X10_torn_62 μ = some ρ) : HT 0 yX10_torn cX10_torn 1 (some .int) [.ref 62] μ (some (.int ρ.1)) ρ.2 := by
  refine HT.of (by decide +kernel) (Nat.le_of_ble_eq_true rfl) (fun C => ?_)
  unfold f_X10_torn_62 at h
  refine wa_aload_n C dX10_torn_0 rfl ?_
  refine wa_geti (x := (μ.1 62 38)) C fl_RX10_346 rfl rfl (by decide) rfl dX10_torn_1 ?_
  obtain rfl := Option.some.inj h
  exact wa_iret C dX10_torn_4
def f_X4_storms_4_L4 (k4 : Int32 → Int32 → Mem → Option (Int32 × Mem)) (a1 : Int32) (a2 : Int32) (μ : Mem) : Option (Int32 × Mem) :=
    if (6 : Int32) ≤ a2 then
      some (a1, μ)
    else
      if inb a2 6 = false then none else
      (f_J6_bitCount_0f7a4 (μ.1 8 (a2.toNatClampNeg)) μ).bind fun q3 =>
      k4 (a1 + q3.1) (a2 + 1) q3.2
def f_X4_storms_4 (μ : Mem) : Option (Int32 × Mem) :=
  it3 (f_X4_storms_4_L4) FU (0 : Int32) (0 : Int32) μ
set_option maxRecDepth 100000 in
set_option maxHeartbeats 4000000 in
theorem r_X4_storms_4_L4 {p : Program} {l : Launch} {e : Env} {s : State} {m : MethodId} {args : Array Value} {below : List Frame} {meth : Method} {c : Code} {D : va_G} {cy : Nat → ClassId} {ad : Nat → Nat} (C : CX p s m args meth c cX4_storms 3 RX4 (some .int) D cy ad (AD ad)) {ρ : (Int32 × Mem)} : ∀ (n : Nat) (a1 : Int32) (a2 : Int32) (μ : Mem), it3 (f_X4_storms_4_L4) n a1 a2 μ = some ρ → WA p l e (rmD 1) s m args below meth c 3 D cy ad (AD ad) 0 0 (ZZ below args s D cy ad (AD ad) 0 0 (some (.int ρ.1)) ρ.2) μ [(0, .ref 4), (1, .int a1), (2, .int a2)] 4 [] := by
  intro n
  induction n with
  | zero =>
    intro a1 a2 μ h
    exact absurd h (fun h => by cases h)
  | succ n ih =>
    intro a1 a2 μ h
    replace h : f_X4_storms_4_L4 (it3 (f_X4_storms_4_L4) n) a1 a2 μ = some ρ := h
    unfold f_X4_storms_4_L4 at h
    refine wa_iload_n C dX4_storms_4 rfl ?_
    refine wa_bipush (v := 6) C dX4_storms_5 (by decide) ?_
    refine wa_icmp_ge (tgt := 28) C dX4_storms_7 (by decide) (fun c1 => ?_) (fun c1 => ?_)
    · replace h := (if_pos c1).symm.trans h
      refine wa_iload_n C dX4_storms_28 rfl ?_
      obtain rfl := Option.some.inj h
      exact wa_iret C dX4_storms_29
    · replace h := (if_neg c1).symm.trans h
      refine wa_iload_n C dX4_storms_10 rfl ?_
      refine wa_aload_n C dX4_storms_11 rfl ?_
      refine wa_getr C fl_RX4_21 rfl rfl (by decide) dX4_storms_12 ?_
      refine wa_iload_n C dX4_storms_15 rfl ?_
      obtain ⟨g2, h⟩ := gd h
      refine wa_iald (j := (a2.toNatClampNeg)) (x := (μ.1 8 (a2.toNatClampNeg))) C rfl (by decide) g2 rfl rfl dX4_storms_16 ?_
      obtain ⟨q3, hq3, h⟩ := bd h
      refine wa_callS C (r_J6_bitCount_0f7a4 hq3) mk_J6_bitCount_0f7a4 ms_J6_bitCount_0f7a4 qw_1142 rfl ⟨Nat.le_of_ble_eq_true rfl, Nat.le_of_ble_eq_true rfl⟩ ⟨Nat.zero_le _, Nat.zero_le _⟩ (Nat.le_of_ble_eq_true rfl) dX4_storms_17 rfl ?_
      refine wa_iadd C dX4_storms_20 ?_
      refine wa_istore_n C dX4_storms_21 (by decide) ?_
      refine wa_iinc (v := (a2 + 1)) C dX4_storms_22 rfl rfl (by decide) ?_
      refine wa_goto (tgt := 4) C dX4_storms_25 (by decide) ?_
      exact WA.sub (lsub_c rfl (lsub_c rfl (lsub_c rfl lsub_n))) (ih _ _ _ h)
set_option maxRecDepth 100000 in
set_option maxHeartbeats 4000000 in
theorem r_X4_storms_4 {μ : Mem} {ρ : (Int32 × Mem)} (h : f_X4_storms_4 μ = some ρ) : HT 1 yX4_storms cX4_storms 3 (some .int) [.ref 4] μ (some (.int ρ.1)) ρ.2 := by
  refine HT.of (by decide +kernel) (Nat.le_of_ble_eq_true rfl) (fun C => ?_)
  unfold f_X4_storms_4 at h
  refine wa_iconst (v := 0) C dX4_storms_0 (by decide) ?_
  refine wa_istore_n C dX4_storms_1 (by decide) ?_
  refine wa_iconst (v := 0) C dX4_storms_2 (by decide) ?_
  refine wa_istore_n C dX4_storms_3 (by decide) ?_
  exact WA.sub (lsub_c rfl (lsub_c rfl (lsub_c rfl lsub_n))) (r_X4_storms_4_L4 C  _ _ _ _ h)
def f_X9_count_0 (a1 : Int32) (μ : Mem) : Option (Int32 × Mem) :=
  if a1 = 0 then
    some ((μ.1 4 6), μ)
  else
  if a1 = 1 then
    (f_J6_bitCount_0f7a4 (μ.1 0 3) μ).bind fun q3 =>
    some (q3.1, q3.2)
  else
  if a1 = 2 then
    some ((μ.1 35 1), μ)
  else
  if a1 = 3 then
    (f_X6_isNothing_27 μ).bind fun q6 =>
    if q6.1 = 0 then
      some ((q6.2.1 27 1), q6.2)
    else
      some ((-4 : Int32), q6.2)
  else
  if a1 = 4 then
    (f_X4_storms_4 μ).bind fun q9 =>
    some (q9.1, q9.2)
  else
  if a1 = 5 then
    (f_X1_watches_1 μ).bind fun q11 =>
    some (q11.1, q11.2)
  else
  some ((-1 : Int32), μ)
set_option maxRecDepth 100000 in
set_option maxHeartbeats 4000000 in
theorem r_X9_count_0 {a1 : Int32} {μ : Mem} {ρ : (Int32 × Mem)} (h : f_X9_count_0 a1 μ = some ρ) : HT 2 yX9_count cX9_count 2 (some .int) [.ref 0, .int a1] μ (some (.int ρ.1)) ρ.2 := by
  refine HT.of (by decide +kernel) (Nat.le_of_ble_eq_true rfl) (fun C => ?_)
  unfold f_X9_count_0 at h
  refine wa_iload_n C dX9_count_0 rfl ?_
  by_cases c1 : a1 = 0
  · replace h := (if_pos c1).symm.trans h
    rw [c1]
    refine wa_tableIn (tgt := 40) C dX9_count_1 (by decide) (by decide) rfl (by decide) ?_
    refine wa_aload_n C dX9_count_40 rfl ?_
    refine wa_getr C fl_RX9_19 rfl rfl (by decide) dX9_count_41 ?_
    refine wa_geti (x := (μ.1 4 6)) C fl_RX9_252 rfl rfl (by decide) rfl dX9_count_44 ?_
    obtain rfl := Option.some.inj h
    exact wa_iret C dX9_count_47
  replace h := (if_neg c1).symm.trans h
  by_cases c2 : a1 = 1
  · replace h := (if_pos c2).symm.trans h
    rw [c2]
    refine wa_tableIn (tgt := 48) C dX9_count_1 (by decide) (by decide) rfl (by decide) ?_
    refine wa_aload_n C dX9_count_48 rfl ?_
    refine wa_geti (x := (μ.1 0 3)) C fl_RX9_104 rfl rfl (by decide) rfl dX9_count_49 ?_
    obtain ⟨q3, hq3, h⟩ := bd h
    refine wa_callS C (r_J6_bitCount_0f7a4 hq3) mk_J6_bitCount_0f7a4 ms_J6_bitCount_0f7a4 qw_695 rfl ⟨Nat.le_of_ble_eq_true rfl, Nat.le_of_ble_eq_true rfl⟩ ⟨Nat.zero_le _, Nat.zero_le _⟩ (Nat.le_of_ble_eq_true rfl) dX9_count_52 rfl ?_
    obtain rfl := Option.some.inj h
    exact wa_iret C dX9_count_55
  replace h := (if_neg c2).symm.trans h
  by_cases c4 : a1 = 2
  · replace h := (if_pos c4).symm.trans h
    rw [c4]
    refine wa_tableIn (tgt := 56) C dX9_count_1 (by decide) (by decide) rfl (by decide) ?_
    refine wa_aload_n C dX9_count_56 rfl ?_
    refine wa_getr C fl_RX9_37 rfl rfl (by decide) dX9_count_57 ?_
    refine wa_geti (x := (μ.1 35 1)) C fl_RX9_84 rfl rfl (by decide) rfl dX9_count_60 ?_
    obtain rfl := Option.some.inj h
    exact wa_iret C dX9_count_63
  replace h := (if_neg c4).symm.trans h
  by_cases c5 : a1 = 3
  · replace h := (if_pos c5).symm.trans h
    rw [c5]
    refine wa_tableIn (tgt := 64) C dX9_count_1 (by decide) (by decide) rfl (by decide) ?_
    refine wa_aload_n C dX9_count_64 rfl ?_
    refine wa_getr C fl_RX9_30 rfl rfl (by decide) dX9_count_65 ?_
    refine wa_iconst (v := 0) C dX9_count_68 (by decide) ?_
    refine wa_aald5 (j := 0) (q := 27) C rfl (by decide) rfl dX9_count_69 ?_
    obtain ⟨q6, hq6, h⟩ := bd h
    refine wa_callV C (r_X6_isNothing_27 hq6) mk_X6_isNothing mv_X6_isNothing qw_1137 rfl (by decide) rfl rfl ⟨Nat.le_of_ble_eq_true rfl, Nat.le_of_ble_eq_true rfl⟩ ⟨Nat.zero_le _, Nat.zero_le _⟩ (Nat.le_of_ble_eq_true rfl) dX9_count_70 rfl ?_
    refine wa_if_eq (tgt := 81) C dX9_count_73 (by decide) (fun c7 => ?_) (fun c7 => ?_)
    · replace h := (if_pos c7).symm.trans h
      refine wa_aload_n C dX9_count_81 rfl ?_
      refine wa_getr C fl_RX9_30 rfl rfl (by decide) dX9_count_82 ?_
      refine wa_iconst (v := 0) C dX9_count_85 (by decide) ?_
      refine wa_aald5 (j := 0) (q := 27) C rfl (by decide) rfl dX9_count_86 ?_
      refine wa_geti (x := (q6.2.1 27 1)) C fl_RX9_296 rfl rfl (by decide) rfl dX9_count_87 ?_
      obtain rfl := Option.some.inj h
      exact wa_iret C dX9_count_90
    · replace h := (if_neg c7).symm.trans h
      refine wa_bipush (v := -4) C dX9_count_76 (by decide) ?_
      refine wa_goto (tgt := 90) C dX9_count_78 (by decide) ?_
      obtain rfl := Option.some.inj h
      exact wa_iret C dX9_count_90
  replace h := (if_neg c5).symm.trans h
  by_cases c8 : a1 = 4
  · replace h := (if_pos c8).symm.trans h
    rw [c8]
    refine wa_tableIn (tgt := 91) C dX9_count_1 (by decide) (by decide) rfl (by decide) ?_
    refine wa_aload_n C dX9_count_91 rfl ?_
    refine wa_getr C fl_RX9_19 rfl rfl (by decide) dX9_count_92 ?_
    obtain ⟨q9, hq9, h⟩ := bd h
    refine wa_callV C (r_X4_storms_4 hq9) mk_X4_storms mv_X4_storms qw_1138 rfl (by decide) rfl rfl ⟨Nat.le_of_ble_eq_true rfl, Nat.le_of_ble_eq_true rfl⟩ ⟨Nat.zero_le _, Nat.zero_le _⟩ (Nat.le_of_ble_eq_true rfl) dX9_count_95 rfl ?_
    obtain rfl := Option.some.inj h
    exact wa_iret C dX9_count_98
  replace h := (if_neg c8).symm.trans h
  by_cases c10 : a1 = 5
  · replace h := (if_pos c10).symm.trans h
    rw [c10]
    refine wa_tableIn (tgt := 99) C dX9_count_1 (by decide) (by decide) rfl (by decide) ?_
    refine wa_aload_n C dX9_count_99 rfl ?_
    refine wa_getr C fl_RX9_10 rfl rfl (by decide) dX9_count_100 ?_
    obtain ⟨q11, hq11, h⟩ := bd h
    refine wa_callV C (r_X1_watches_1 hq11) mk_X1_watches mv_X1_watches qw_694 rfl (by decide) rfl rfl ⟨Nat.le_of_ble_eq_true rfl, Nat.le_of_ble_eq_true rfl⟩ ⟨Nat.zero_le _, Nat.zero_le _⟩ (Nat.le_of_ble_eq_true rfl) dX9_count_103 rfl ?_
    obtain rfl := Option.some.inj h
    exact wa_iret C dX9_count_106
  replace h := (if_neg c10).symm.trans h
  refine wa_tableOut (tgt := 107) C dX9_count_1 (tab_out5 c1 c2 c4 c5 c8 c10) (by decide) ?_
  refine wa_iconst (v := -1) C dX9_count_107 (by decide) ?_
  obtain rfl := Option.some.inj h
  exact wa_iret C dX9_count_108
def f_X10_count_62_L4 (a1 : Int32) (k4 : Int32 → Int32 → Mem → Option (Int32 × Mem)) (a2 : Int32) (a3 : Int32) (μ : Mem) : Option (Int32 × Mem) :=
    if (μ.1 62 3) ≤ a3 then
      if a1 = 0 then
        some ((μ.1 63 29), μ)
      else
      if a1 = 1 then
        (f_X10_flag (μ.1 64 0) μ).bind fun q4 =>
        (f_X10_flag (q4.2.1 64 1) q4.2).bind fun q5 =>
        some ((q4.1 + q5.1), q5.2)
      else
      if a1 = 2 then
        some ((μ.1 62 19), μ)
      else
      if a1 = 3 then
        if (μ.1 76 0) = (-4 : Int32) then
          some ((-4 : Int32), μ)
        else
          some ((μ.1 77 0), μ)
      else
      if a1 = 4 then
        some (a2, μ)
      else
      if a1 = 5 then
        some ((μ.1 62 4), μ)
      else
      some ((-1 : Int32), μ)
    else
      if inb ((13 : Int32) + a3) 162 = false then none else
      (f_X10_bitsOf (μ.1 63 (((13 : Int32) + a3).toNatClampNeg)) μ).bind fun q12 =>
      k4 (a2 + q12.1) (a3 + 1) q12.2
def f_X10_count_62 (a1 : Int32) (μ : Mem) : Option (Int32 × Mem) :=
  it3 (f_X10_count_62_L4 a1) FU (0 : Int32) (0 : Int32) μ
set_option maxRecDepth 100000 in
set_option maxHeartbeats 4000000 in
theorem r_X10_count_62_L4 {p : Program} {l : Launch} {e : Env} {s : State} {m : MethodId} {args : Array Value} {below : List Frame} {meth : Method} {c : Code} {D : va_G} {cy : Nat → ClassId} {ad : Nat → Nat} (C : CX p s m args meth c cX10_count 4 RX10 (some .int) D cy ad (AD ad)) (a1 : Int32) {ρ : (Int32 × Mem)} : ∀ (n : Nat) (a2 : Int32) (a3 : Int32) (μ : Mem), it3 (f_X10_count_62_L4 a1) n a2 a3 μ = some ρ → WA p l e (rmD 1) s m args below meth c 4 D cy ad (AD ad) 0 0 (ZZ below args s D cy ad (AD ad) 0 0 (some (.int ρ.1)) ρ.2) μ [(0, .ref 62), (1, .int a1), (2, .int a2), (3, .int a3)] 4 [] := by
  intro n
  induction n with
  | zero =>
    intro a2 a3 μ h
    exact absurd h (fun h => by cases h)
  | succ n ih =>
    intro a2 a3 μ h
    replace h : f_X10_count_62_L4 a1 (it3 (f_X10_count_62_L4 a1) n) a2 a3 μ = some ρ := h
    unfold f_X10_count_62_L4 at h
    refine wa_iload_n C dX10_count_4 rfl ?_
    refine wa_aload_n C dX10_count_5 rfl ?_
    refine wa_geti (x := (μ.1 62 3)) C fl_RX10_97 rfl rfl (by decide) rfl dX10_count_6 ?_
    refine wa_icmp_ge (tgt := 33) C dX10_count_9 (by decide) (fun c1 => ?_) (fun c1 => ?_)
    · replace h := (if_pos c1).symm.trans h
      refine wa_iload_n C dX10_count_33 rfl ?_
      by_cases c2 : a1 = 0
      · replace h := (if_pos c2).symm.trans h
        rw [c2]
        refine wa_tableIn (tgt := 72) C dX10_count_34 (by decide) (by decide) rfl (by decide) ?_
        refine wa_aload_n C dX10_count_72 rfl ?_
        refine wa_getr C fl_RX10_7 rfl rfl (by decide) dX10_count_73 ?_
        refine wa_bipush (v := 29) C dX10_count_76 (by decide) ?_
        refine wa_iald (j := 29) (x := (μ.1 63 29)) C rfl (by decide) (by decide) (by decide) rfl dX10_count_78 ?_
        obtain rfl := Option.some.inj h
        exact wa_iret C dX10_count_79
      replace h := (if_neg c2).symm.trans h
      by_cases c3 : a1 = 1
      · replace h := (if_pos c3).symm.trans h
        rw [c3]
        refine wa_tableIn (tgt := 80) C dX10_count_34 (by decide) (by decide) rfl (by decide) ?_
        refine wa_aload_n C dX10_count_80 rfl ?_
        refine wa_getr C fl_RX10_13 rfl rfl (by decide) dX10_count_81 ?_
        refine wa_iconst (v := 0) C dX10_count_84 (by decide) ?_
        refine wa_zald (j := 0) (x := (μ.1 64 0)) C rfl (by decide) (by decide) (by decide) rfl dX10_count_85 ?_
        obtain ⟨q4, hq4, h⟩ := bd h
        refine wa_callS C (r_X10_flag hq4) mk_X10_flag ms_X10_flag qw_660 rfl ⟨Nat.le_of_ble_eq_true rfl, Nat.le_of_ble_eq_true rfl⟩ ⟨Nat.zero_le _, Nat.zero_le _⟩ (Nat.le_of_ble_eq_true rfl) dX10_count_86 rfl ?_
        refine wa_aload_n C dX10_count_89 rfl ?_
        refine wa_getr C fl_RX10_13 rfl rfl (by decide) dX10_count_90 ?_
        refine wa_iconst (v := 1) C dX10_count_93 (by decide) ?_
        refine wa_zald (j := 1) (x := (q4.2.1 64 1)) C rfl (by decide) (by decide) (by decide) rfl dX10_count_94 ?_
        obtain ⟨q5, hq5, h⟩ := bd h
        refine wa_callS C (r_X10_flag hq5) mk_X10_flag ms_X10_flag qw_660 rfl ⟨Nat.le_of_ble_eq_true rfl, Nat.le_of_ble_eq_true rfl⟩ ⟨Nat.zero_le _, Nat.zero_le _⟩ (Nat.le_of_ble_eq_true rfl) dX10_count_95 rfl ?_
        refine wa_iadd C dX10_count_98 ?_
        obtain rfl := Option.some.inj h
        exact wa_iret C dX10_count_99
      replace h := (if_neg c3).symm.trans h
      by_cases c6 : a1 = 2
      · replace h := (if_pos c6).symm.trans h
        rw [c6]
        refine wa_tableIn (tgt := 100) C dX10_count_34 (by decide) (by decide) rfl (by decide) ?_
        refine wa_aload_n C dX10_count_100 rfl ?_
        refine wa_geti (x := (μ.1 62 19)) C fl_RX10_107 rfl rfl (by decide) rfl dX10_count_101 ?_
        obtain rfl := Option.some.inj h
        exact wa_iret C dX10_count_104
      replace h := (if_neg c6).symm.trans h
      by_cases c7 : a1 = 3
      · replace h := (if_pos c7).symm.trans h
        rw [c7]
        refine wa_tableIn (tgt := 105) C dX10_count_34 (by decide) (by decide) rfl (by decide) ?_
        refine wa_aload_n C dX10_count_105 rfl ?_
        refine wa_getr C fl_RX10_50 rfl rfl (by decide) dX10_count_106 ?_
        refine wa_iconst (v := 0) C dX10_count_109 (by decide) ?_
        refine wa_iald (j := 0) (x := (μ.1 76 0)) C rfl (by decide) (by decide) (by decide) rfl dX10_count_110 ?_
        refine wa_bipush (v := -4) C dX10_count_111 (by decide) ?_
        refine wa_icmp_ne (tgt := 121) C dX10_count_113 (by decide) (fun c8 => ?_) (fun c8 => ?_)
        · replace h := (if_neg c8).symm.trans h
          refine wa_aload_n C dX10_count_121 rfl ?_
          refine wa_getr C fl_RX10_53 rfl rfl (by decide) dX10_count_122 ?_
          refine wa_iconst (v := 0) C dX10_count_125 (by decide) ?_
          refine wa_iald (j := 0) (x := (μ.1 77 0)) C rfl (by decide) (by decide) (by decide) rfl dX10_count_126 ?_
          obtain rfl := Option.some.inj h
          exact wa_iret C dX10_count_127
        · replace h := (if_pos c8).symm.trans h
          refine wa_bipush (v := -4) C dX10_count_116 (by decide) ?_
          refine wa_goto (tgt := 127) C dX10_count_118 (by decide) ?_
          obtain rfl := Option.some.inj h
          exact wa_iret C dX10_count_127
      replace h := (if_neg c7).symm.trans h
      by_cases c9 : a1 = 4
      · replace h := (if_pos c9).symm.trans h
        rw [c9]
        refine wa_tableIn (tgt := 128) C dX10_count_34 (by decide) (by decide) rfl (by decide) ?_
        refine wa_iload_n C dX10_count_128 rfl ?_
        obtain rfl := Option.some.inj h
        exact wa_iret C dX10_count_129
      replace h := (if_neg c9).symm.trans h
      by_cases c10 : a1 = 5
      · replace h := (if_pos c10).symm.trans h
        rw [c10]
        refine wa_tableIn (tgt := 130) C dX10_count_34 (by decide) (by decide) rfl (by decide) ?_
        refine wa_aload_n C dX10_count_130 rfl ?_
        refine wa_geti (x := (μ.1 62 4)) C fl_RX10_104 rfl rfl (by decide) rfl dX10_count_131 ?_
        obtain rfl := Option.some.inj h
        exact wa_iret C dX10_count_134
      replace h := (if_neg c10).symm.trans h
      refine wa_tableOut (tgt := 135) C dX10_count_34 (tab_out5 c2 c3 c6 c7 c9 c10) (by decide) ?_
      refine wa_iconst (v := -1) C dX10_count_135 (by decide) ?_
      obtain rfl := Option.some.inj h
      exact wa_iret C dX10_count_136
    · replace h := (if_neg c1).symm.trans h
      refine wa_iload_n C dX10_count_12 rfl ?_
      refine wa_aload_n C dX10_count_13 rfl ?_
      refine wa_getr C fl_RX10_7 rfl rfl (by decide) dX10_count_14 ?_
      refine wa_bipush (v := 13) C dX10_count_17 (by decide) ?_
      refine wa_iload_n C dX10_count_19 rfl ?_
      refine wa_iadd C dX10_count_20 ?_
      obtain ⟨g11, h⟩ := gd h
      refine wa_iald (j := (((13 : Int32) + a3).toNatClampNeg)) (x := (μ.1 63 (((13 : Int32) + a3).toNatClampNeg))) C rfl (by decide) g11 rfl rfl dX10_count_21 ?_
      obtain ⟨q12, hq12, h⟩ := bd h
      refine wa_callS C (r_X10_bitsOf hq12) mk_X10_bitsOf ms_X10_bitsOf qw_713 rfl ⟨Nat.le_of_ble_eq_true rfl, Nat.le_of_ble_eq_true rfl⟩ ⟨Nat.zero_le _, Nat.zero_le _⟩ (Nat.le_of_ble_eq_true rfl) dX10_count_22 rfl ?_
      refine wa_iadd C dX10_count_25 ?_
      refine wa_istore_n C dX10_count_26 (by decide) ?_
      refine wa_iinc (v := (a3 + 1)) C dX10_count_27 rfl rfl (by decide) ?_
      refine wa_goto (tgt := 4) C dX10_count_30 (by decide) ?_
      exact WA.sub (lsub_c rfl (lsub_c rfl (lsub_c rfl (lsub_c rfl lsub_n)))) (ih _ _ _ h)
set_option maxRecDepth 100000 in
set_option maxHeartbeats 4000000 in
theorem r_X10_count_62 {a1 : Int32} {μ : Mem} {ρ : (Int32 × Mem)} (h : f_X10_count_62 a1 μ = some ρ) : HT 1 yX10_count cX10_count 4 (some .int) [.ref 62, .int a1] μ (some (.int ρ.1)) ρ.2 := by
  refine HT.of (by decide +kernel) (Nat.le_of_ble_eq_true rfl) (fun C => ?_)
  unfold f_X10_count_62 at h
  refine wa_iconst (v := 0) C dX10_count_0 (by decide) ?_
  refine wa_istore_n C dX10_count_1 (by decide) ?_
  refine wa_iconst (v := 0) C dX10_count_2 (by decide) ?_
  refine wa_istore_n C dX10_count_3 (by decide) ?_
  exact WA.sub (lsub_c rfl (lsub_c rfl (lsub_c rfl (lsub_c rfl lsub_n)))) (r_X10_count_62_L4 C _ _ _ _ _ h)
