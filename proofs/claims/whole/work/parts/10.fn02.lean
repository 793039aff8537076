def f_J0_charAt_5068e_87 (a1 : Int32) (μ : Mem) : Option (Int32 × Mem) :=
  (f_J0_isLatin1_aae02_87 μ).bind fun q1 =>
  if q1.1 = 0 then
    none
  else
    (f_J1_charAt_3b067_97 a1 q1.2).bind fun q3 =>
    if ncr q3.1 = false then none else
    some (q3.1, q3.2)
set_option maxRecDepth 100000 in
set_option maxHeartbeats 4000000 in
theorem r_J0_charAt_5068e_87 {a1 : Int32} {μ : Mem} {ρ : (Int32 × Mem)} (h : f_J0_charAt_5068e_87 a1 μ = some ρ) : HT 3 yJ0_charAt_5068e cJ0_charAt_5068e 2 (some .char) [.ref 87, .int a1] μ (some (.int ρ.1)) ρ.2 := by
  refine HT.of (by decide +kernel) (Nat.le_of_ble_eq_true rfl) (fun C => ?_)
  unfold f_J0_charAt_5068e_87 at h
  refine wa_aload_n C dJ0_charAt_5068e_0 rfl ?_
  obtain ⟨q1, hq1, h⟩ := bd h
  refine wa_callT (i := 5) C (r_J0_isLatin1_aae02_87 hq1) mk_J0_isLatin1_aae02 mv_J0_isLatin1_aae02 qw_293 (by decide) rfl rfl ⟨Nat.le_of_ble_eq_true rfl, Nat.le_of_ble_eq_true rfl⟩ ⟨Nat.zero_le _, Nat.zero_le _⟩ (Nat.le_of_ble_eq_true rfl) dJ0_charAt_5068e_1 rfl ?_
  refine wa_if_eq (tgt := 16) C dJ0_charAt_5068e_4 (by decide) (fun c2 => ?_) (fun c2 => ?_)
  · replace h := (if_pos c2).symm.trans h
    cases h
  · replace h := (if_neg c2).symm.trans h
    refine wa_aload_n C dJ0_charAt_5068e_7 rfl ?_
    refine wa_sval (i := 5) C (by decide) qw_282 dJ0_charAt_5068e_8 ?_
    refine wa_iload_n C dJ0_charAt_5068e_11 rfl ?_
    obtain ⟨q3, hq3, h⟩ := bd h
    refine wa_callS C (r_J1_charAt_3b067_97 hq3) mk_J1_charAt_3b067 ms_J1_charAt_3b067 qw_297 rfl ⟨Nat.le_of_ble_eq_true rfl, Nat.le_of_ble_eq_true rfl⟩ ⟨Nat.zero_le _, Nat.zero_le _⟩ (Nat.le_of_ble_eq_true rfl) dJ0_charAt_5068e_12 rfl ?_
    obtain ⟨g4, h⟩ := gd h
    obtain rfl := Option.some.inj h
    exact wa_nret C (ncr_nar g4) dJ0_charAt_5068e_15
def f_X5_isName_35_87_L20 (k20 : Int32 → Mem → Option (Int32 × Mem)) (a2 : Int32) (μ : Mem) : Option (Int32 × Mem) :=
    (f_J0_length_8abf5_87 μ).bind fun q3 =>
    if q3.1 ≤ a2 then
      some ((1 : Int32), q3.2)
    else
      if inb ((q3.2.1 35 8) + a2) 320 = false then none else
      (f_J0_charAt_5068e_87 a2 q3.2).bind fun q6 =>
      if (q3.2.1 36 (((q3.2.1 35 8) + a2).toNatClampNeg)) = q6.1 then
        k20 (a2 + 1) q6.2
      else
        some ((0 : Int32), q6.2)
def f_X5_isName_35_87 (μ : Mem) : Option (Int32 × Mem) :=
  (f_J0_length_8abf5_87 μ).bind fun q1 =>
  if ((μ.1 35 10) - (μ.1 35 8)) = q1.1 then
    it2 (f_X5_isName_35_87_L20) FU (0 : Int32) q1.2
  else
    some ((0 : Int32), q1.2)
set_option maxRecDepth 100000 in
set_option maxHeartbeats 4000000 in
theorem r_X5_isName_35_87_L20 {p : Program} {l : Launch} {e : Env} {s : State} {m : MethodId} {args : Array Value} {below : List Frame} {meth : Method} {c : Code} {D : va_G} {cy : Nat → ClassId} {ad : Nat → Nat} (C : CX p s m args meth c cX5_isName 3 RX5 (some .boolean) D cy ad (AD ad)) {ρ : (Int32 × Mem)} : ∀ (n : Nat) (a2 : Int32) (μ : Mem), it2 (f_X5_isName_35_87_L20) n a2 μ = some ρ → WA p l e (rmD 4) s m args below meth c 3 D cy ad (AD ad) 0 0 (ZZ below args s D cy ad (AD ad) 0 0 (some (.int ρ.1)) ρ.2) μ [(0, .ref 35), (1, .ref 87), (2, .int a2)] 20 [] := by
  intro n
  induction n with
  | zero =>
    intro a2 μ h
    exact absurd h (fun h => by cases h)
  | succ n ih =>
    intro a2 μ h
    replace h : f_X5_isName_35_87_L20 (it2 (f_X5_isName_35_87_L20) n) a2 μ = some ρ := h
    unfold f_X5_isName_35_87_L20 at h
    refine wa_iload_n C dX5_isName_20 rfl ?_
    refine wa_aload_n C dX5_isName_21 rfl ?_
    obtain ⟨q3, hq3, h⟩ := bd h
    refine wa_callT (i := 5) C (r_J0_length_8abf5_87 hq3) mk_J0_length_8abf5 mv_J0_length_8abf5 qw_277 (by decide) rfl rfl ⟨Nat.le_of_ble_eq_true rfl, Nat.le_of_ble_eq_true rfl⟩ ⟨Nat.zero_le _, Nat.zero_le _⟩ (Nat.le_of_ble_eq_true rfl) dX5_isName_22 rfl ?_
    refine wa_icmp_ge (tgt := 55) C dX5_isName_25 (by decide) (fun c4 => ?_) (fun c4 => ?_)
    · replace h := (if_pos c4).symm.trans h
      refine wa_iconst (v := 1) C dX5_isName_55 (by decide) ?_
      obtain rfl := Option.some.inj h
      exact wa_zret C rfl dX5_isName_56
    · replace h := (if_neg c4).symm.trans h
      refine wa_aload_n C dX5_isName_28 rfl ?_
      refine wa_getr C fl_RX5_11 rfl rfl (by decide) dX5_isName_29 ?_
      refine wa_aload_n C dX5_isName_32 rfl ?_
      refine wa_geti (x := (q3.2.1 35 8)) C fl_RX5_45 rfl rfl (by decide) rfl dX5_isName_33 ?_
      refine wa_iload_n C dX5_isName_36 rfl ?_
      refine wa_iadd C dX5_isName_37 ?_
      obtain ⟨g5, h⟩ := gd h
      refine wa_bald (j := (((q3.2.1 35 8) + a2).toNatClampNeg)) (x := (q3.2.1 36 (((q3.2.1 35 8) + a2).toNatClampNeg))) C rfl (by decide) g5 rfl rfl dX5_isName_38 ?_
      refine wa_aload_n C dX5_isName_39 rfl ?_
      refine wa_iload_n C dX5_isName_40 rfl ?_
      obtain ⟨q6, hq6, h⟩ := bd h
      refine wa_callT (i := 5) C (r_J0_charAt_5068e_87 hq6) mk_J0_charAt_5068e mv_J0_charAt_5068e qw_289 (by decide) rfl rfl ⟨Nat.le_of_ble_eq_true rfl, Nat.le_of_ble_eq_true rfl⟩ ⟨Nat.zero_le _, Nat.zero_le _⟩ (Nat.le_of_ble_eq_true rfl) dX5_isName_41 rfl ?_
      refine wa_icmp_eq (tgt := 49) C dX5_isName_44 (by decide) (fun c7 => ?_) (fun c7 => ?_)
      · replace h := (if_pos c7).symm.trans h
        refine wa_iinc (v := (a2 + 1)) C dX5_isName_49 rfl rfl (by decide) ?_
        refine wa_goto (tgt := 20) C dX5_isName_52 (by decide) ?_
        exact WA.sub (lsub_c rfl (lsub_c rfl (lsub_c rfl lsub_n))) (ih _ _ h)
      · replace h := (if_neg c7).symm.trans h
        refine wa_iconst (v := 0) C dX5_isName_47 (by decide) ?_
        obtain rfl := Option.some.inj h
        exact wa_zret C rfl dX5_isName_48
set_option maxRecDepth 100000 in
set_option maxHeartbeats 4000000 in
theorem r_X5_isName_35_87 {μ : Mem} {ρ : (Int32 × Mem)} (h : f_X5_isName_35_87 μ = some ρ) : HT 4 yX5_isName cX5_isName 3 (some .boolean) [.ref 35, .ref 87] μ (some (.int ρ.1)) ρ.2 := by
  refine HT.of (by decide +kernel) (Nat.le_of_ble_eq_true rfl) (fun C => ?_)
  unfold f_X5_isName_35_87 at h
  refine wa_aload_n C dX5_isName_0 rfl ?_
  refine wa_geti (x := (μ.1 35 10)) C fl_RX5_51 rfl rfl (by decide) rfl dX5_isName_1 ?_
  refine wa_aload_n C dX5_isName_4 rfl ?_
  refine wa_geti (x := (μ.1 35 8)) C fl_RX5_45 rfl rfl (by decide) rfl dX5_isName_5 ?_
  refine wa_isub C dX5_isName_8 ?_
  refine wa_aload_n C dX5_isName_9 rfl ?_
  obtain ⟨q1, hq1, h⟩ := bd h
  refine wa_callT (i := 5) C (r_J0_length_8abf5_87 hq1) mk_J0_length_8abf5 mv_J0_length_8abf5 qw_277 (by decide) rfl rfl ⟨Nat.le_of_ble_eq_true rfl, Nat.le_of_ble_eq_true rfl⟩ ⟨Nat.zero_le _, Nat.zero_le _⟩ (Nat.le_of_ble_eq_true rfl) dX5_isName_10 rfl ?_
  refine wa_icmp_eq (tgt := 18) C dX5_isName_13 (by decide) (fun c2 => ?_) (fun c2 => ?_)
  · replace h := (if_pos c2).symm.trans h
    refine wa_iconst (v := 0) C dX5_isName_18 (by decide) ?_
    refine wa_istore_n C dX5_isName_19 (by decide) ?_
    exact WA.sub (lsub_c rfl (lsub_c rfl (lsub_c rfl lsub_n))) (r_X5_isName_35_87_L20 C  _ _ _ h)
  · replace h := (if_neg c2).symm.trans h
    refine wa_iconst (v := 0) C dX5_isName_16 (by decide) ?_
    obtain rfl := Option.some.inj h
    exact wa_zret C rfl dX5_isName_17
def f_X5_number_35_J43 (μ : Mem) : Option (Int32 × Mem) :=
  (f_X5_refuse_35 (3 : Int32) (μ.1 35 8) μ).bind fun q5 =>
  if zb q5.1 = false then none else
  some (q5.1, q5.2)
def f_X5_number_35 (a1 : Int32) (a2 : Int32) (μ : Mem) : Option (Int32 × Mem) :=
  (f_X5_next_35 μ).bind fun q1 =>
  if q1.1 = 0 then
    some ((0 : Int32), q1.2)
  else
    if (q1.2.1 35 7) = (2 : Int32) then
      if (q1.2.1 35 9) < a1 then
        f_X5_number_35_J43 q1.2
      else
        if (q1.2.1 35 9) ≤ a2 then
          some ((1 : Int32), q1.2)
        else
          f_X5_number_35_J43 q1.2
    else
      (f_X5_refuse_35 (2 : Int32) (q1.2.1 35 8) q1.2).bind fun q8 =>
      if zb q8.1 = false then none else
      some (q8.1, q8.2)
set_option maxRecDepth 100000 in
set_option maxHeartbeats 4000000 in
theorem r_X5_number_35_J43 {p : Program} {l : Launch} {e : Env} {s : State} {m : MethodId} {args : Array Value} {below : List Frame} {meth : Method} {c : Code} {D : va_G} {cy : Nat → ClassId} {ad : Nat → Nat} (C : CX p s m args meth c cX5_number 3 RX5 (some .boolean) D cy ad (AD ad)) {μ : Mem} {ρ : (Int32 × Mem)} (h : f_X5_number_35_J43 μ = some ρ) : WA p l e (rmD 3) s m args below meth c 3 D cy ad (AD ad) 0 0 (ZZ below args s D cy ad (AD ad) 0 0 (some (.int ρ.1)) ρ.2) μ [(0, .ref 35)] 43 [] := by
  unfold f_X5_number_35_J43 at h
  refine wa_aload_n C dX5_number_43 rfl ?_
  refine wa_iconst (v := 3) C dX5_number_44 (by decide) ?_
  refine wa_aload_n C dX5_number_45 rfl ?_
  refine wa_geti (x := (μ.1 35 8)) C fl_RX5_45 rfl rfl (by decide) rfl dX5_number_46 ?_
  obtain ⟨q5, hq5, h⟩ := bd h
  refine wa_callV C (r_X5_refuse_35 hq5) mk_X5_refuse mv_X5_refuse qw_249 rfl (by decide) rfl rfl ⟨Nat.le_of_ble_eq_true rfl, Nat.le_of_ble_eq_true rfl⟩ ⟨Nat.zero_le _, Nat.zero_le _⟩ (Nat.le_of_ble_eq_true rfl) dX5_number_49 rfl ?_
  obtain ⟨g6, h⟩ := gd h
  obtain rfl := Option.some.inj h
  exact wa_zret C g6 dX5_number_52
set_option maxRecDepth 100000 in
set_option maxHeartbeats 4000000 in
theorem r_X5_number_35 {a1 : Int32} {a2 : Int32} {μ : Mem} {ρ : (Int32 × Mem)} (h : f_X5_number_35 a1 a2 μ = some ρ) : HT 3 yX5_number cX5_number 3 (some .boolean) [.ref 35, .int a1, .int a2] μ (some (.int ρ.1)) ρ.2 := by
  refine HT.of (by decide +kernel) (Nat.le_of_ble_eq_true rfl) (fun C => ?_)
  unfold f_X5_number_35 at h
  refine wa_aload_n C dX5_number_0 rfl ?_
  obtain ⟨q1, hq1, h⟩ := bd h
  refine wa_callV C (r_X5_next_35 hq1) mk_X5_next mv_X5_next qw_231 rfl (by decide) rfl rfl ⟨Nat.le_of_ble_eq_true rfl, Nat.le_of_ble_eq_true rfl⟩ ⟨Nat.zero_le _, Nat.zero_le _⟩ (Nat.le_of_ble_eq_true rfl) dX5_number_1 rfl ?_
  refine wa_if_ne (tgt := 9) C dX5_number_4 (by decide) (fun c2 => ?_) (fun c2 => ?_)
  · replace h := (if_neg c2).symm.trans h
    refine wa_aload_n C dX5_number_9 rfl ?_
    refine wa_geti (x := (q1.2.1 35 7)) C fl_RX5_42 rfl rfl (by decide) rfl dX5_number_10 ?_
    refine wa_iconst (v := 2) C dX5_number_13 (by decide) ?_
    refine wa_icmp_eq (tgt := 27) C dX5_number_14 (by decide) (fun c3 => ?_) (fun c3 => ?_)
    · replace h := (if_pos c3).symm.trans h
      refine wa_aload_n C dX5_number_27 rfl ?_
      refine wa_geti (x := (q1.2.1 35 9)) C fl_RX5_48 rfl rfl (by decide) rfl dX5_number_28 ?_
      refine wa_iload_n C dX5_number_31 rfl ?_
      refine wa_icmp_lt (tgt := 43) C dX5_number_32 (by decide) (fun c4 => ?_) (fun c4 => ?_)
      · replace h := (if_pos c4).symm.trans h
        exact WA.sub (lsub_c rfl lsub_n) (r_X5_number_35_J43 C h)
      · replace h := (if_neg c4).symm.trans h
        refine wa_aload_n C dX5_number_35 rfl ?_
        refine wa_geti (x := (q1.2.1 35 9)) C fl_RX5_48 rfl rfl (by decide) rfl dX5_number_36 ?_
        refine wa_iload_n C dX5_number_39 rfl ?_
        refine wa_icmp_le (tgt := 53) C dX5_number_40 (by decide) (fun c7 => ?_) (fun c7 => ?_)
        · replace h := (if_pos c7).symm.trans h
          refine wa_iconst (v := 1) C dX5_number_53 (by decide) ?_
          obtain rfl := Option.some.inj h
          exact wa_zret C rfl dX5_number_54
        · replace h := (if_neg c7).symm.trans h
          exact WA.sub (lsub_c rfl lsub_n) (r_X5_number_35_J43 C h)
    · replace h := (if_neg c3).symm.trans h
      refine wa_aload_n C dX5_number_17 rfl ?_
      refine wa_iconst (v := 2) C dX5_number_18 (by decide) ?_
      refine wa_aload_n C dX5_number_19 rfl ?_
      refine wa_geti (x := (q1.2.1 35 8)) C fl_RX5_45 rfl rfl (by decide) rfl dX5_number_20 ?_
      obtain ⟨q8, hq8, h⟩ := bd h
      refine wa_callV C (r_X5_refuse_35 hq8) mk_X5_refuse mv_X5_refuse qw_249 rfl (by decide) rfl rfl ⟨Nat.le_of_ble_eq_true rfl, Nat.le_of_ble_eq_true rfl⟩ ⟨Nat.zero_le _, Nat.zero_le _⟩ (Nat.le_of_ble_eq_true rfl) dX5_number_23 rfl ?_
      obtain ⟨g9, h⟩ := gd h
      obtain rfl := Option.some.inj h
      exact wa_zret C g9 dX5_number_26
  · replace h := (if_pos c2).symm.trans h
    refine wa_iconst (v := 0) C dX5_number_7 (by decide) ?_
    obtain rfl := Option.some.inj h
    exact wa_zret C rfl dX5_number_8
def f_X5_bedLine_35 (μ : Mem) : Option (Int32 × Mem) :=
  (f_X5_number_35 (0 : Int32) (2 : Int32) μ).bind fun q1 =>
  if q1.1 = 0 then
    some ((0 : Int32), q1.2)
  else
    if (((q1.2.1 35 14) >>> ((q1.2.1 35 9) &&& 31)) &&& (1 : Int32)) = (1 : Int32) then
      (f_X5_refuse_35 (4 : Int32) (q1.2.1 35 8) q1.2).bind fun q4 =>
      if zb q4.1 = false then none else
      some (q4.1, q4.2)
    else
      (f_X5_number_35 (0 : Int32) (3 : Int32) q1.2).bind fun q6 =>
      if q6.1 = 0 then
        some ((0 : Int32), q6.2)
      else
        if inb (q1.2.1 35 9) 3 = false then none else
        some ((1 : Int32), (pI (pI q6.2 35 14 ((q6.2.1 35 14) ||| ((1 : Int32) <<< ((q1.2.1 35 9) &&& 31)))) 41 ((q1.2.1 35 9).toNatClampNeg) (q6.2.1 35 9)))
set_option maxRecDepth 100000 in
set_option maxHeartbeats 4000000 in
theorem r_X5_bedLine_35 {μ : Mem} {ρ : (Int32 × Mem)} (h : f_X5_bedLine_35 μ = some ρ) : HT 4 yX5_bedLine cX5_bedLine 2 (some .boolean) [.ref 35] μ (some (.int ρ.1)) ρ.2 := by
  refine HT.of (by decide +kernel) (Nat.le_of_ble_eq_true rfl) (fun C => ?_)
  unfold f_X5_bedLine_35 at h
  refine wa_aload_n C dX5_bedLine_0 rfl ?_
  refine wa_iconst (v := 0) C dX5_bedLine_1 (by decide) ?_
  refine wa_iconst (v := 2) C dX5_bedLine_2 (by decide) ?_
  obtain ⟨q1, hq1, h⟩ := bd h
  refine wa_callV C (r_X5_number_35 hq1) mk_X5_number mv_X5_number qw_337 rfl (by decide) rfl rfl ⟨Nat.le_of_ble_eq_true rfl, Nat.le_of_ble_eq_true rfl⟩ ⟨Nat.zero_le _, Nat.zero_le _⟩ (Nat.le_of_ble_eq_true rfl) dX5_bedLine_3 rfl ?_
  refine wa_if_ne (tgt := 11) C dX5_bedLine_6 (by decide) (fun c2 => ?_) (fun c2 => ?_)
  · replace h := (if_neg c2).symm.trans h
    refine wa_aload_n C dX5_bedLine_11 rfl ?_
    refine wa_geti (x := (q1.2.1 35 9)) C fl_RX5_48 rfl rfl (by decide) rfl dX5_bedLine_12 ?_
    refine wa_istore_n C dX5_bedLine_15 (by decide) ?_
    refine wa_aload_n C dX5_bedLine_16 rfl ?_
    refine wa_geti (x := (q1.2.1 35 14)) C fl_RX5_64 rfl rfl (by decide) rfl dX5_bedLine_17 ?_
    refine wa_iload_n C dX5_bedLine_20 rfl ?_
    refine wa_ishr C dX5_bedLine_21 ?_
    refine wa_iconst (v := 1) C dX5_bedLine_22 (by decide) ?_
    refine wa_iand C dX5_bedLine_23 ?_
    refine wa_iconst (v := 1) C dX5_bedLine_24 (by decide) ?_
    refine wa_icmp_ne (tgt := 38) C dX5_bedLine_25 (by decide) (fun c3 => ?_) (fun c3 => ?_)
    · replace h := (if_neg c3).symm.trans h
      refine wa_aload_n C dX5_bedLine_38 rfl ?_
      refine wa_iconst (v := 0) C dX5_bedLine_39 (by decide) ?_
      refine wa_iconst (v := 3) C dX5_bedLine_40 (by decide) ?_
      obtain ⟨q6, hq6, h⟩ := bd h
      refine wa_callV C (r_X5_number_35 hq6) mk_X5_number mv_X5_number qw_337 rfl (by decide) rfl rfl ⟨Nat.le_of_ble_eq_true rfl, Nat.le_of_ble_eq_true rfl⟩ ⟨Nat.zero_le _, Nat.zero_le _⟩ (Nat.le_of_ble_eq_true rfl) dX5_bedLine_41 rfl ?_
      refine wa_if_ne (tgt := 49) C dX5_bedLine_44 (by decide) (fun c7 => ?_) (fun c7 => ?_)
      · replace h := (if_neg c7).symm.trans h
        refine wa_aload_n C dX5_bedLine_49 rfl ?_
        refine wa_dup C dX5_bedLine_50 rfl ?_
        refine wa_geti (x := (q6.2.1 35 14)) C fl_RX5_64 rfl rfl (by decide) rfl dX5_bedLine_51 ?_
        refine wa_iconst (v := 1) C dX5_bedLine_54 (by decide) ?_
        refine wa_iload_n C dX5_bedLine_55 rfl ?_
        refine wa_ishl C dX5_bedLine_56 ?_
        refine wa_ior C dX5_bedLine_57 ?_
        refine wa_puti C fl_RX5_64 fp_5_14 rfl rfl (by decide) rfl rfl dX5_bedLine_58 ?_
        refine wa_aload_n C dX5_bedLine_61 rfl ?_
        refine wa_getr C fl_RX5_38 rfl rfl (by decide) dX5_bedLine_62 ?_
        refine wa_getr C fl_RX5_156 rfl rfl (by decide) dX5_bedLine_65 ?_
        refine wa_iload_n C dX5_bedLine_68 rfl ?_
        refine wa_aload_n C dX5_bedLine_69 rfl ?_
        refine wa_geti (x := (q6.2.1 35 9)) C fl_RX5_48 rfl rfl (by decide) rfl dX5_bedLine_70 ?_
        obtain ⟨g8, h⟩ := gd h
        refine wa_iast (j := ((q1.2.1 35 9).toNatClampNeg)) C rfl (by decide) g8 rfl dX5_bedLine_73 ?_
        refine wa_iconst (v := 1) C dX5_bedLine_74 (by decide) ?_
        obtain rfl := Option.some.inj h
        exact wa_zret C rfl dX5_bedLine_75
      · replace h := (if_pos c7).symm.trans h
        refine wa_iconst (v := 0) C dX5_bedLine_47 (by decide) ?_
        obtain rfl := Option.some.inj h
        exact wa_zret C rfl dX5_bedLine_48
    · replace h := (if_pos c3).symm.trans h
      refine wa_aload_n C dX5_bedLine_28 rfl ?_
      refine wa_iconst (v := 4) C dX5_bedLine_29 (by decide) ?_
      refine wa_aload_n C dX5_bedLine_30 rfl ?_
      refine wa_geti (x := (q1.2.1 35 8)) C fl_RX5_45 rfl rfl (by decide) rfl dX5_bedLine_31 ?_
      obtain ⟨q4, hq4, h⟩ := bd h
      refine wa_callV C (r_X5_refuse_35 hq4) mk_X5_refuse mv_X5_refuse qw_249 rfl (by decide) rfl rfl ⟨Nat.le_of_ble_eq_true rfl, Nat.le_of_ble_eq_true rfl⟩ ⟨Nat.zero_le _, Nat.zero_le _⟩ (Nat.le_of_ble_eq_true rfl) dX5_bedLine_34 rfl ?_
      obtain ⟨g5, h⟩ := gd h
      obtain rfl := Option.some.inj h
      exact wa_zret C g5 dX5_bedLine_37
  · replace h := (if_pos c2).symm.trans h
    refine wa_iconst (v := 0) C dX5_bedLine_9 (by decide) ?_
    obtain rfl := Option.some.inj h
    exact wa_zret C rfl dX5_bedLine_10
def f_X5_sign_35 (μ : Mem) : Option (Int32 × Mem) :=
  (f_X5_next_35 μ).bind fun q1 =>
  if q1.1 = 0 then
    some ((0 : Int32), q1.2)
  else
    if (q1.2.1 35 7) = (3 : Int32) then
      some ((1 : Int32), q1.2)
    else
      (f_X5_refuse_35 (2 : Int32) (q1.2.1 35 8) q1.2).bind fun q4 =>
      if zb q4.1 = false then none else
      some (q4.1, q4.2)
set_option maxRecDepth 100000 in
set_option maxHeartbeats 4000000 in
theorem r_X5_sign_35 {μ : Mem} {ρ : (Int32 × Mem)} (h : f_X5_sign_35 μ = some ρ) : HT 3 yX5_sign cX5_sign 1 (some .boolean) [.ref 35] μ (some (.int ρ.1)) ρ.2 := by
  refine HT.of (by decide +kernel) (Nat.le_of_ble_eq_true rfl) (fun C => ?_)
  unfold f_X5_sign_35 at h
  refine wa_aload_n C dX5_sign_0 rfl ?_
  obtain ⟨q1, hq1, h⟩ := bd h
  refine wa_callV C (r_X5_next_35 hq1) mk_X5_next mv_X5_next qw_231 rfl (by decide) rfl rfl ⟨Nat.le_of_ble_eq_true rfl, Nat.le_of_ble_eq_true rfl⟩ ⟨Nat.zero_le _, Nat.zero_le _⟩ (Nat.le_of_ble_eq_true rfl) dX5_sign_1 rfl ?_
  refine wa_if_ne (tgt := 9) C dX5_sign_4 (by decide) (fun c2 => ?_) (fun c2 => ?_)
  · replace h := (if_neg c2).symm.trans h
    refine wa_aload_n C dX5_sign_9 rfl ?_
    refine wa_geti (x := (q1.2.1 35 7)) C fl_RX5_42 rfl rfl (by decide) rfl dX5_sign_10 ?_
    refine wa_iconst (v := 3) C dX5_sign_13 (by decide) ?_
    refine wa_icmp_eq (tgt := 27) C dX5_sign_14 (by decide) (fun c3 => ?_) (fun c3 => ?_)
    · replace h := (if_pos c3).symm.trans h
      refine wa_iconst (v := 1) C dX5_sign_27 (by decide) ?_
      obtain rfl := Option.some.inj h
      exact wa_zret C rfl dX5_sign_28
    · replace h := (if_neg c3).symm.trans h
      refine wa_aload_n C dX5_sign_17 rfl ?_
      refine wa_iconst (v := 2) C dX5_sign_18 (by decide) ?_
      refine wa_aload_n C dX5_sign_19 rfl ?_
      refine wa_geti (x := (q1.2.1 35 8)) C fl_RX5_45 rfl rfl (by decide) rfl dX5_sign_20 ?_
      obtain ⟨q4, hq4, h⟩ := bd h
      refine wa_callV C (r_X5_refuse_35 hq4) mk_X5_refuse mv_X5_refuse qw_249 rfl (by decide) rfl rfl ⟨Nat.le_of_ble_eq_true rfl, Nat.le_of_ble_eq_true rfl⟩ ⟨Nat.zero_le _, Nat.zero_le _⟩ (Nat.le_of_ble_eq_true rfl) dX5_sign_23 rfl ?_
      obtain ⟨g5, h⟩ := gd h
      obtain rfl := Option.some.inj h
      exact wa_zret C g5 dX5_sign_26
  · replace h := (if_pos c2).symm.trans h
    refine wa_iconst (v := 0) C dX5_sign_7 (by decide) ?_
    obtain rfl := Option.some.inj h
    exact wa_zret C rfl dX5_sign_8
def f_X5_watchLine_35 (μ : Mem) : Option (Int32 × Mem) :=
  (f_X5_number_35 (0 : Int32) (5 : Int32) μ).bind fun q1 =>
  if q1.1 = 0 then
    some ((0 : Int32), q1.2)
  else
    if (((q1.2.1 35 13) >>> ((q1.2.1 35 9) &&& 31)) &&& (1 : Int32)) = (1 : Int32) then
      (f_X5_refuse_35 (4 : Int32) (q1.2.1 35 8) q1.2).bind fun q4 =>
      if zb q4.1 = false then none else
      some (q4.1, q4.2)
    else
      (f_X5_number_35 (0 : Int32) (26 : Int32) q1.2).bind fun q6 =>
      if q6.1 = 0 then
        some ((0 : Int32), q6.2)
      else
        if inb (q1.2.1 35 9) 6 = false then none else
        some ((1 : Int32), (pI (pI q6.2 35 13 ((q6.2.1 35 13) ||| ((1 : Int32) <<< ((q1.2.1 35 9) &&& 31)))) 45 ((q1.2.1 35 9).toNatClampNeg) (q6.2.1 35 9)))
set_option maxRecDepth 100000 in
set_option maxHeartbeats 4000000 in
theorem r_X5_watchLine_35 {μ : Mem} {ρ : (Int32 × Mem)} (h : f_X5_watchLine_35 μ = some ρ) : HT 4 yX5_watchLine cX5_watchLine 2 (some .boolean) [.ref 35] μ (some (.int ρ.1)) ρ.2 := by
  refine HT.of (by decide +kernel) (Nat.le_of_ble_eq_true rfl) (fun C => ?_)
  unfold f_X5_watchLine_35 at h
  refine wa_aload_n C dX5_watchLine_0 rfl ?_
  refine wa_iconst (v := 0) C dX5_watchLine_1 (by decide) ?_
  refine wa_iconst (v := 5) C dX5_watchLine_2 (by decide) ?_
  obtain ⟨q1, hq1, h⟩ := bd h
  refine wa_callV C (r_X5_number_35 hq1) mk_X5_number mv_X5_number qw_337 rfl (by decide) rfl rfl ⟨Nat.le_of_ble_eq_true rfl, Nat.le_of_ble_eq_true rfl⟩ ⟨Nat.zero_le _, Nat.zero_le _⟩ (Nat.le_of_ble_eq_true rfl) dX5_watchLine_3 rfl ?_
  refine wa_if_ne (tgt := 11) C dX5_watchLine_6 (by decide) (fun c2 => ?_) (fun c2 => ?_)
  · replace h := (if_neg c2).symm.trans h
    refine wa_aload_n C dX5_watchLine_11 rfl ?_
    refine wa_geti (x := (q1.2.1 35 9)) C fl_RX5_48 rfl rfl (by decide) rfl dX5_watchLine_12 ?_
    refine wa_istore_n C dX5_watchLine_15 (by decide) ?_
    refine wa_aload_n C dX5_watchLine_16 rfl ?_
    refine wa_geti (x := (q1.2.1 35 13)) C fl_RX5_61 rfl rfl (by decide) rfl dX5_watchLine_17 ?_
    refine wa_iload_n C dX5_watchLine_20 rfl ?_
    refine wa_ishr C dX5_watchLine_21 ?_
    refine wa_iconst (v := 1) C dX5_watchLine_22 (by decide) ?_
    refine wa_iand C dX5_watchLine_23 ?_
    refine wa_iconst (v := 1) C dX5_watchLine_24 (by decide) ?_
    refine wa_icmp_ne (tgt := 38) C dX5_watchLine_25 (by decide) (fun c3 => ?_) (fun c3 => ?_)
    · replace h := (if_neg c3).symm.trans h
      refine wa_aload_n C dX5_watchLine_38 rfl ?_
      refine wa_iconst (v := 0) C dX5_watchLine_39 (by decide) ?_
      refine wa_bipush (v := 26) C dX5_watchLine_40 (by decide) ?_
      obtain ⟨q6, hq6, h⟩ := bd h
      refine wa_callV C (r_X5_number_35 hq6) mk_X5_number mv_X5_number qw_337 rfl (by decide) rfl rfl ⟨Nat.le_of_ble_eq_true rfl, Nat.le_of_ble_eq_true rfl⟩ ⟨Nat.zero_le _, Nat.zero_le _⟩ (Nat.le_of_ble_eq_true rfl) dX5_watchLine_42 rfl ?_
      refine wa_if_ne (tgt := 50) C dX5_watchLine_45 (by decide) (fun c7 => ?_) (fun c7 => ?_)
      · replace h := (if_neg c7).symm.trans h
        refine wa_aload_n C dX5_watchLine_50 rfl ?_
        refine wa_dup C dX5_watchLine_51 rfl ?_
        refine wa_geti (x := (q6.2.1 35 13)) C fl_RX5_61 rfl rfl (by decide) rfl dX5_watchLine_52 ?_
        refine wa_iconst (v := 1) C dX5_watchLine_55 (by decide) ?_
        refine wa_iload_n C dX5_watchLine_56 rfl ?_
        refine wa_ishl C dX5_watchLine_57 ?_
        refine wa_ior C dX5_watchLine_58 ?_
        refine wa_puti C fl_RX5_61 fp_5_13 rfl rfl (by decide) rfl rfl dX5_watchLine_59 ?_
        refine wa_aload_n C dX5_watchLine_62 rfl ?_
        refine wa_getr C fl_RX5_38 rfl rfl (by decide) dX5_watchLine_63 ?_
        refine wa_getr C fl_RX5_154 rfl rfl (by decide) dX5_watchLine_66 ?_
        refine wa_iload_n C dX5_watchLine_69 rfl ?_
        refine wa_aload_n C dX5_watchLine_70 rfl ?_
        refine wa_geti (x := (q6.2.1 35 9)) C fl_RX5_48 rfl rfl (by decide) rfl dX5_watchLine_71 ?_
        obtain ⟨g8, h⟩ := gd h
        refine wa_iast (j := ((q1.2.1 35 9).toNatClampNeg)) C rfl (by decide) g8 rfl dX5_watchLine_74 ?_
        refine wa_iconst (v := 1) C dX5_watchLine_75 (by decide) ?_
        obtain rfl := Option.some.inj h
        exact wa_zret C rfl dX5_watchLine_76
      · replace h := (if_pos c7).symm.trans h
        refine wa_iconst (v := 0) C dX5_watchLine_48 (by decide) ?_
        obtain rfl := Option.some.inj h
        exact wa_zret C rfl dX5_watchLine_49
    · replace h := (if_pos c3).symm.trans h
      refine wa_aload_n C dX5_watchLine_28 rfl ?_
      refine wa_iconst (v := 4) C dX5_watchLine_29 (by decide) ?_
      refine wa_aload_n C dX5_watchLine_30 rfl ?_
      refine wa_geti (x := (q1.2.1 35 8)) C fl_RX5_45 rfl rfl (by decide) rfl dX5_watchLine_31 ?_
      obtain ⟨q4, hq4, h⟩ := bd h
      refine wa_callV C (r_X5_refuse_35 hq4) mk_X5_refuse mv_X5_refuse qw_249 rfl (by decide) rfl rfl ⟨Nat.le_of_ble_eq_true rfl, Nat.le_of_ble_eq_true rfl⟩ ⟨Nat.zero_le _, Nat.zero_le _⟩ (Nat.le_of_ble_eq_true rfl) dX5_watchLine_34 rfl ?_
      obtain ⟨g5, h⟩ := gd h
      obtain rfl := Option.some.inj h
      exact wa_zret C g5 dX5_watchLine_37
  · replace h := (if_pos c2).symm.trans h
    refine wa_iconst (v := 0) C dX5_watchLine_9 (by decide) ?_
    obtain rfl := Option.some.inj h
    exact wa_zret C rfl dX5_watchLine_10
def f_X5_stormLine_35 (μ : Mem) : Option (Int32 × Mem) :=
  (f_X5_number_35 (0 : Int32) (5 : Int32) μ).bind fun q1 =>
  if q1.1 = 0 then
    some ((0 : Int32), q1.2)
  else
    (f_X5_number_35 (0 : Int32) (3 : Int32) q1.2).bind fun q3 =>
    if q3.1 = 0 then
      some ((0 : Int32), q3.2)
    else
      if inb (q1.2.1 35 9) 6 = false then none else
      if (((q3.2.1 44 ((q1.2.1 35 9).toNatClampNeg)) >>> ((q3.2.1 35 9) &&& 31)) &&& (1 : Int32)) = (1 : Int32) then
        (f_X5_refuse_35 (4 : Int32) (q3.2.1 35 8) q3.2).bind fun q7 =>
        if zb q7.1 = false then none else
        some (q7.1, q7.2)
      else
        if inb (q1.2.1 35 9) 6 = false then none else
        if inb (q1.2.1 35 9) 6 = false then none else
        some ((1 : Int32), (pI q3.2 44 ((q1.2.1 35 9).toNatClampNeg) ((q3.2.1 44 ((q1.2.1 35 9).toNatClampNeg)) ||| ((1 : Int32) <<< ((q3.2.1 35 9) &&& 31)))))
set_option maxRecDepth 100000 in
set_option maxHeartbeats 4000000 in
theorem r_X5_stormLine_35 {μ : Mem} {ρ : (Int32 × Mem)} (h : f_X5_stormLine_35 μ = some ρ) : HT 4 yX5_stormLine cX5_stormLine 2 (some .boolean) [.ref 35] μ (some (.int ρ.1)) ρ.2 := by
  refine HT.of (by decide +kernel) (Nat.le_of_ble_eq_true rfl) (fun C => ?_)
  unfold f_X5_stormLine_35 at h
  refine wa_aload_n C dX5_stormLine_0 rfl ?_
  refine wa_iconst (v := 0) C dX5_stormLine_1 (by decide) ?_
  refine wa_iconst (v := 5) C dX5_stormLine_2 (by decide) ?_
  obtain ⟨q1, hq1, h⟩ := bd h
  refine wa_callV C (r_X5_number_35 hq1) mk_X5_number mv_X5_number qw_337 rfl (by decide) rfl rfl ⟨Nat.le_of_ble_eq_true rfl, Nat.le_of_ble_eq_true rfl⟩ ⟨Nat.zero_le _, Nat.zero_le _⟩ (Nat.le_of_ble_eq_true rfl) dX5_stormLine_3 rfl ?_
  refine wa_if_ne (tgt := 11) C dX5_stormLine_6 (by decide) (fun c2 => ?_) (fun c2 => ?_)
  · replace h := (if_neg c2).symm.trans h
    refine wa_aload_n C dX5_stormLine_11 rfl ?_
    refine wa_geti (x := (q1.2.1 35 9)) C fl_RX5_48 rfl rfl (by decide) rfl dX5_stormLine_12 ?_
    refine wa_istore_n C dX5_stormLine_15 (by decide) ?_
    refine wa_aload_n C dX5_stormLine_16 rfl ?_
    refine wa_iconst (v := 0) C dX5_stormLine_17 (by decide) ?_
    refine wa_iconst (v := 3) C dX5_stormLine_18 (by decide) ?_
    obtain ⟨q3, hq3, h⟩ := bd h
    refine wa_callV C (r_X5_number_35 hq3) mk_X5_number mv_X5_number qw_337 rfl (by decide) rfl rfl ⟨Nat.le_of_ble_eq_true rfl, Nat.le_of_ble_eq_true rfl⟩ ⟨Nat.zero_le _, Nat.zero_le _⟩ (Nat.le_of_ble_eq_true rfl) dX5_stormLine_19 rfl ?_
    refine wa_if_ne (tgt := 27) C dX5_stormLine_22 (by decide) (fun c4 => ?_) (fun c4 => ?_)
    · replace h := (if_neg c4).symm.trans h
      refine wa_aload_n C dX5_stormLine_27 rfl ?_
      refine wa_getr C fl_RX5_38 rfl rfl (by decide) dX5_stormLine_28 ?_
      refine wa_getr C fl_RX5_152 rfl rfl (by decide) dX5_stormLine_31 ?_
      refine wa_iload_n C dX5_stormLine_34 rfl ?_
      obtain ⟨g5, h⟩ := gd h
      refine wa_iald (j := ((q1.2.1 35 9).toNatClampNeg)) (x := (q3.2.1 44 ((q1.2.1 35 9).toNatClampNeg))) C rfl (by decide) g5 rfl rfl dX5_stormLine_35 ?_
      refine wa_aload_n C dX5_stormLine_36 rfl ?_
      refine wa_geti (x := (q3.2.1 35 9)) C fl_RX5_48 rfl rfl (by decide) rfl dX5_stormLine_37 ?_
      refine wa_ishr C dX5_stormLine_40 ?_
      refine wa_iconst (v := 1) C dX5_stormLine_41 (by decide) ?_
      refine wa_iand C dX5_stormLine_42 ?_
      refine wa_iconst (v := 1) C dX5_stormLine_43 (by decide) ?_
      refine wa_icmp_ne (tgt := 57) C dX5_stormLine_44 (by decide) (fun c6 => ?_) (fun c6 => ?_)
      · replace h := (if_neg c6).symm.trans h
        refine wa_aload_n C dX5_stormLine_57 rfl ?_
        refine wa_getr C fl_RX5_38 rfl rfl (by decide) dX5_stormLine_58 ?_
        refine wa_getr C fl_RX5_152 rfl rfl (by decide) dX5_stormLine_61 ?_
        refine wa_iload_n C dX5_stormLine_64 rfl ?_
        refine wa_dup2_11 C dX5_stormLine_65 rfl rfl ?_
        obtain ⟨g9, h⟩ := gd h
        refine wa_iald (j := ((q1.2.1 35 9).toNatClampNeg)) (x := (q3.2.1 44 ((q1.2.1 35 9).toNatClampNeg))) C rfl (by decide) g9 rfl rfl dX5_stormLine_66 ?_
        refine wa_iconst (v := 1) C dX5_stormLine_67 (by decide) ?_
        refine wa_aload_n C dX5_stormLine_68 rfl ?_
        refine wa_geti (x := (q3.2.1 35 9)) C fl_RX5_48 rfl rfl (by decide) rfl dX5_stormLine_69 ?_
        refine wa_ishl C dX5_stormLine_72 ?_
        refine wa_ior C dX5_stormLine_73 ?_
        obtain ⟨g10, h⟩ := gd h
        refine wa_iast (j := ((q1.2.1 35 9).toNatClampNeg)) C rfl (by decide) g10 rfl dX5_stormLine_74 ?_
        refine wa_iconst (v := 1) C dX5_stormLine_75 (by decide) ?_
        obtain rfl := Option.some.inj h
        exact wa_zret C rfl dX5_stormLine_76
      · replace h := (if_pos c6).symm.trans h
        refine wa_aload_n C dX5_stormLine_47 rfl ?_
        refine wa_iconst (v := 4) C dX5_stormLine_48 (by decide) ?_
        refine wa_aload_n C dX5_stormLine_49 rfl ?_
        refine wa_geti (x := (q3.2.1 35 8)) C fl_RX5_45 rfl rfl (by decide) rfl dX5_stormLine_50 ?_
        obtain ⟨q7, hq7, h⟩ := bd h
        refine wa_callV C (r_X5_refuse_35 hq7) mk_X5_refuse mv_X5_refuse qw_249 rfl (by decide) rfl rfl ⟨Nat.le_of_ble_eq_true rfl, Nat.le_of_ble_eq_true rfl⟩ ⟨Nat.zero_le _, Nat.zero_le _⟩ (Nat.le_of_ble_eq_true rfl) dX5_stormLine_53 rfl ?_
        obtain ⟨g8, h⟩ := gd h
        obtain rfl := Option.some.inj h
        exact wa_zret C g8 dX5_stormLine_56
    · replace h := (if_pos c4).symm.trans h
      refine wa_iconst (v := 0) C dX5_stormLine_25 (by decide) ?_
      obtain rfl := Option.some.inj h
      exact wa_zret C rfl dX5_stormLine_26
  · replace h := (if_pos c2).symm.trans h
    refine wa_iconst (v := 0) C dX5_stormLine_9 (by decide) ?_
    obtain rfl := Option.some.inj h
    exact wa_zret C rfl dX5_stormLine_10
def f_X5_needLine_35 (μ : Mem) : Option (Int32 × Mem) :=
  (f_X5_number_35 (0 : Int32) (3 : Int32) μ).bind fun q1 =>
  if q1.1 = 0 then
    some ((0 : Int32), q1.2)
  else
    if (((q1.2.1 35 12) >>> ((q1.2.1 35 9) &&& 31)) &&& (1 : Int32)) = (1 : Int32) then
      (f_X5_refuse_35 (4 : Int32) (q1.2.1 35 8) q1.2).bind fun q4 =>
      if zb q4.1 = false then none else
      some (q4.1, q4.2)
    else
      (f_X5_number_35 (0 : Int32) (6 : Int32) q1.2).bind fun q6 =>
      if q6.1 = 0 then
        some ((0 : Int32), q6.2)
      else
        if inb (q1.2.1 35 9) 4 = false then none else
        some ((1 : Int32), (pI (pI q6.2 35 12 ((q6.2.1 35 12) ||| ((1 : Int32) <<< ((q1.2.1 35 9) &&& 31)))) 43 ((q1.2.1 35 9).toNatClampNeg) (q6.2.1 35 9)))
set_option maxRecDepth 100000 in
set_option maxHeartbeats 4000000 in
theorem r_X5_needLine_35 {μ : Mem} {ρ : (Int32 × Mem)} (h : f_X5_needLine_35 μ = some ρ) : HT 4 yX5_needLine cX5_needLine 2 (some .boolean) [.ref 35] μ (some (.int ρ.1)) ρ.2 := by
  refine HT.of (by decide +kernel) (Nat.le_of_ble_eq_true rfl) (fun C => ?_)
  unfold f_X5_needLine_35 at h
  refine wa_aload_n C dX5_needLine_0 rfl ?_
  refine wa_iconst (v := 0) C dX5_needLine_1 (by decide) ?_
  refine wa_iconst (v := 3) C dX5_needLine_2 (by decide) ?_
  obtain ⟨q1, hq1, h⟩ := bd h
  refine wa_callV C (r_X5_number_35 hq1) mk_X5_number mv_X5_number qw_337 rfl (by decide) rfl rfl ⟨Nat.le_of_ble_eq_true rfl, Nat.le_of_ble_eq_true rfl⟩ ⟨Nat.zero_le _, Nat.zero_le _⟩ (Nat.le_of_ble_eq_true rfl) dX5_needLine_3 rfl ?_
  refine wa_if_ne (tgt := 11) C dX5_needLine_6 (by decide) (fun c2 => ?_) (fun c2 => ?_)
  · replace h := (if_neg c2).symm.trans h
    refine wa_aload_n C dX5_needLine_11 rfl ?_
    refine wa_geti (x := (q1.2.1 35 9)) C fl_RX5_48 rfl rfl (by decide) rfl dX5_needLine_12 ?_
    refine wa_istore_n C dX5_needLine_15 (by decide) ?_
    refine wa_aload_n C dX5_needLine_16 rfl ?_
    refine wa_geti (x := (q1.2.1 35 12)) C fl_RX5_58 rfl rfl (by decide) rfl dX5_needLine_17 ?_
    refine wa_iload_n C dX5_needLine_20 rfl ?_
    refine wa_ishr C dX5_needLine_21 ?_
    refine wa_iconst (v := 1) C dX5_needLine_22 (by decide) ?_
    refine wa_iand C dX5_needLine_23 ?_
    refine wa_iconst (v := 1) C dX5_needLine_24 (by decide) ?_
    refine wa_icmp_ne (tgt := 38) C dX5_needLine_25 (by decide) (fun c3 => ?_) (fun c3 => ?_)
    · replace h := (if_neg c3).symm.trans h
      refine wa_aload_n C dX5_needLine_38 rfl ?_
      refine wa_iconst (v := 0) C dX5_needLine_39 (by decide) ?_
      refine wa_bipush (v := 6) C dX5_needLine_40 (by decide) ?_
      obtain ⟨q6, hq6, h⟩ := bd h
      refine wa_callV C (r_X5_number_35 hq6) mk_X5_number mv_X5_number qw_337 rfl (by decide) rfl rfl ⟨Nat.le_of_ble_eq_true rfl, Nat.le_of_ble_eq_true rfl⟩ ⟨Nat.zero_le _, Nat.zero_le _⟩ (Nat.le_of_ble_eq_true rfl) dX5_needLine_42 rfl ?_
      refine wa_if_ne (tgt := 50) C dX5_needLine_45 (by decide) (fun c7 => ?_) (fun c7 => ?_)
      · replace h := (if_neg c7).symm.trans h
        refine wa_aload_n C dX5_needLine_50 rfl ?_
        refine wa_dup C dX5_needLine_51 rfl ?_
        refine wa_geti (x := (q6.2.1 35 12)) C fl_RX5_58 rfl rfl (by decide) rfl dX5_needLine_52 ?_
        refine wa_iconst (v := 1) C dX5_needLine_55 (by decide) ?_
        refine wa_iload_n C dX5_needLine_56 rfl ?_
        refine wa_ishl C dX5_needLine_57 ?_
        refine wa_ior C dX5_needLine_58 ?_
        refine wa_puti C fl_RX5_58 fp_5_12 rfl rfl (by decide) rfl rfl dX5_needLine_59 ?_
        refine wa_aload_n C dX5_needLine_62 rfl ?_
        refine wa_getr C fl_RX5_38 rfl rfl (by decide) dX5_needLine_63 ?_
        refine wa_getr C fl_RX5_150 rfl rfl (by decide) dX5_needLine_66 ?_
        refine wa_iload_n C dX5_needLine_69 rfl ?_
        refine wa_aload_n C dX5_needLine_70 rfl ?_
        refine wa_geti (x := (q6.2.1 35 9)) C fl_RX5_48 rfl rfl (by decide) rfl dX5_needLine_71 ?_
        obtain ⟨g8, h⟩ := gd h
        refine wa_iast (j := ((q1.2.1 35 9).toNatClampNeg)) C rfl (by decide) g8 rfl dX5_needLine_74 ?_
        refine wa_iconst (v := 1) C dX5_needLine_75 (by decide) ?_
        obtain rfl := Option.some.inj h
        exact wa_zret C rfl dX5_needLine_76
      · replace h := (if_pos c7).symm.trans h
        refine wa_iconst (v := 0) C dX5_needLine_48 (by decide) ?_
        obtain rfl := Option.some.inj h
        exact wa_zret C rfl dX5_needLine_49
    · replace h := (if_pos c3).symm.trans h
      refine wa_aload_n C dX5_needLine_28 rfl ?_
      refine wa_iconst (v := 4) C dX5_needLine_29 (by decide) ?_
      refine wa_aload_n C dX5_needLine_30 rfl ?_
      refine wa_geti (x := (q1.2.1 35 8)) C fl_RX5_45 rfl rfl (by decide) rfl dX5_needLine_31 ?_
      obtain ⟨q4, hq4, h⟩ := bd h
      refine wa_callV C (r_X5_refuse_35 hq4) mk_X5_refuse mv_X5_refuse qw_249 rfl (by decide) rfl rfl ⟨Nat.le_of_ble_eq_true rfl, Nat.le_of_ble_eq_true rfl⟩ ⟨Nat.zero_le _, Nat.zero_le _⟩ (Nat.le_of_ble_eq_true rfl) dX5_needLine_34 rfl ?_
      obtain ⟨g5, h⟩ := gd h
      obtain rfl := Option.some.inj h
      exact wa_zret C g5 dX5_needLine_37
  · replace h := (if_pos c2).symm.trans h
    refine wa_iconst (v := 0) C dX5_needLine_9 (by decide) ?_
    obtain rfl := Option.some.inj h
    exact wa_zret C rfl dX5_needLine_10
def f_X5_quartersLine_35 (μ : Mem) : Option (Int32 × Mem) :=
  if (μ.1 35 11) = 0 then
    (f_X5_number_35 (1 : Int32) (6 : Int32) μ).bind fun q2 =>
    if q2.1 = 0 then
      some ((0 : Int32), q2.2)
    else
      some ((1 : Int32), (pI (pI q2.2 35 11 (1 : Int32)) 37 1 (q2.2.1 35 9)))
  else
    (f_X5_refuse_35 (4 : Int32) (μ.1 35 8) μ).bind fun q4 =>
    if zb q4.1 = false then none else
    some (q4.1, q4.2)
set_option maxRecDepth 100000 in
set_option maxHeartbeats 4000000 in
theorem r_X5_quartersLine_35 {μ : Mem} {ρ : (Int32 × Mem)} (h : f_X5_quartersLine_35 μ = some ρ) : HT 4 yX5_quartersLine cX5_quartersLine 1 (some .boolean) [.ref 35] μ (some (.int ρ.1)) ρ.2 := by
  refine HT.of (by decide +kernel) (Nat.le_of_ble_eq_true rfl) (fun C => ?_)
  unfold f_X5_quartersLine_35 at h
  refine wa_aload_n C dX5_quartersLine_0 rfl ?_
  refine wa_geti (x := (μ.1 35 11)) C fl_RX5_54 rfl rfl (by decide) rfl dX5_quartersLine_1 ?_
  refine wa_if_eq (tgt := 17) C dX5_quartersLine_4 (by decide) (fun c1 => ?_) (fun c1 => ?_)
  · replace h := (if_pos c1).symm.trans h
    refine wa_aload_n C dX5_quartersLine_17 rfl ?_
    refine wa_iconst (v := 1) C dX5_quartersLine_18 (by decide) ?_
    refine wa_bipush (v := 6) C dX5_quartersLine_19 (by decide) ?_
    obtain ⟨q2, hq2, h⟩ := bd h
    refine wa_callV C (r_X5_number_35 hq2) mk_X5_number mv_X5_number qw_337 rfl (by decide) rfl rfl ⟨Nat.le_of_ble_eq_true rfl, Nat.le_of_ble_eq_true rfl⟩ ⟨Nat.zero_le _, Nat.zero_le _⟩ (Nat.le_of_ble_eq_true rfl) dX5_quartersLine_21 rfl ?_
    refine wa_if_ne (tgt := 29) C dX5_quartersLine_24 (by decide) (fun c3 => ?_) (fun c3 => ?_)
    · replace h := (if_neg c3).symm.trans h
      refine wa_aload_n C dX5_quartersLine_29 rfl ?_
      refine wa_iconst (v := 1) C dX5_quartersLine_30 (by decide) ?_
      refine wa_puti C fl_RX5_54 fp_5_11 rfl rfl (by decide) rfl rfl dX5_quartersLine_31 ?_
      refine wa_aload_n C dX5_quartersLine_34 rfl ?_
      refine wa_getr C fl_RX5_31 rfl rfl (by decide) dX5_quartersLine_35 ?_
      refine wa_aload_n C dX5_quartersLine_38 rfl ?_
      refine wa_geti (x := (q2.2.1 35 9)) C fl_RX5_48 rfl rfl (by decide) rfl dX5_quartersLine_39 ?_
      refine wa_puti C fl_RX5_148 fp_1_1 rfl rfl (by decide) rfl rfl dX5_quartersLine_42 ?_
      refine wa_iconst (v := 1) C dX5_quartersLine_45 (by decide) ?_
      obtain rfl := Option.some.inj h
      exact wa_zret C rfl dX5_quartersLine_46
    · replace h := (if_pos c3).symm.trans h
      refine wa_iconst (v := 0) C dX5_quartersLine_27 (by decide) ?_
      obtain rfl := Option.some.inj h
      exact wa_zret C rfl dX5_quartersLine_28
  · replace h := (if_neg c1).symm.trans h
    refine wa_aload_n C dX5_quartersLine_7 rfl ?_
    refine wa_iconst (v := 4) C dX5_quartersLine_8 (by decide) ?_
    refine wa_aload_n C dX5_quartersLine_9 rfl ?_
    refine wa_geti (x := (μ.1 35 8)) C fl_RX5_45 rfl rfl (by decide) rfl dX5_quartersLine_10 ?_
    obtain ⟨q4, hq4, h⟩ := bd h
    refine wa_callV C (r_X5_refuse_35 hq4) mk_X5_refuse mv_X5_refuse qw_249 rfl (by decide) rfl rfl ⟨Nat.le_of_ble_eq_true rfl, Nat.le_of_ble_eq_true rfl⟩ ⟨Nat.zero_le _, Nat.zero_le _⟩ (Nat.le_of_ble_eq_true rfl) dX5_quartersLine_13 rfl ?_
    obtain ⟨g5, h⟩ := gd h
    obtain rfl := Option.some.inj h
    exact wa_zret C g5 dX5_quartersLine_16
def f_J0_coder_7d493_88 (μ : Mem) : Option (Int32 × Mem) :=
  if (1 : Int32) = 0 then
    some ((1 : Int32), μ)
  else
    some ((0 : Int32), μ)
set_option maxRecDepth 100000 in
set_option maxHeartbeats 4000000 in
theorem r_J0_coder_7d493_88 {μ : Mem} {ρ : (Int32 × Mem)} (h : f_J0_coder_7d493_88 μ = some ρ) : HT 0 yJ0_coder_7d493 cJ0_coder_7d493 1 (some .byte) [.ref 88] μ (some (.int ρ.1)) ρ.2 := by
  refine HT.of (by decide +kernel) (Nat.le_of_ble_eq_true rfl) (fun C => ?_)
  unfold f_J0_coder_7d493_88 at h
  refine wa_gcs C qw_287 dJ0_coder_7d493_0 ?_
  refine wa_if_eq (tgt := 13) C dJ0_coder_7d493_3 (by decide) (fun c1 => ?_) (fun c1 => ?_)
  · replace h := (if_pos c1).symm.trans h
    refine wa_iconst (v := 1) C dJ0_coder_7d493_13 (by decide) ?_
    obtain rfl := Option.some.inj h
    exact wa_nret C rfl dJ0_coder_7d493_14
  · replace h := (if_neg c1).symm.trans h
    refine wa_aload_n C dJ0_coder_7d493_6 rfl ?_
    refine wa_scod (i := 6) C (by decide) qw_288 dJ0_coder_7d493_7 ?_
    refine wa_goto (tgt := 14) C dJ0_coder_7d493_10 (by decide) ?_
    obtain rfl := Option.some.inj h
    exact wa_nret C rfl dJ0_coder_7d493_14
def f_J0_length_8abf5_88 (μ : Mem) : Option (Int32 × Mem) :=
  (f_J0_coder_7d493_88 μ).bind fun q1 =>
  some (((5 : Int32) >>> (q1.1 &&& 31)), q1.2)
set_option maxRecDepth 100000 in
set_option maxHeartbeats 4000000 in
theorem r_J0_length_8abf5_88 {μ : Mem} {ρ : (Int32 × Mem)} (h : f_J0_length_8abf5_88 μ = some ρ) : HT 1 yJ0_length_8abf5 cJ0_length_8abf5 1 (some .int) [.ref 88] μ (some (.int ρ.1)) ρ.2 := by
  refine HT.of (by decide +kernel) (Nat.le_of_ble_eq_true rfl) (fun C => ?_)
  unfold f_J0_length_8abf5_88 at h
  refine wa_aload_n C dJ0_length_8abf5_0 rfl ?_
  refine wa_sval (i := 6) C (by decide) qw_282 dJ0_length_8abf5_1 ?_
  refine wa_stralen (i := 6) (v := 5) C (by decide) rfl dJ0_length_8abf5_4 ?_
  refine wa_aload_n C dJ0_length_8abf5_5 rfl ?_
  obtain ⟨q1, hq1, h⟩ := bd h
  refine wa_callT (i := 6) C (r_J0_coder_7d493_88 hq1) mk_J0_coder_7d493 mv_J0_coder_7d493 qw_283 (by decide) rfl rfl ⟨Nat.le_of_ble_eq_true rfl, Nat.le_of_ble_eq_true rfl⟩ ⟨Nat.zero_le _, Nat.zero_le _⟩ (Nat.le_of_ble_eq_true rfl) dJ0_length_8abf5_6 rfl ?_
  refine wa_ishr C dJ0_length_8abf5_9 ?_
  obtain rfl := Option.some.inj h
  exact wa_iret C dJ0_length_8abf5_10
def f_J0_isLatin1_aae02_88 (μ : Mem) : Option (Int32 × Mem) :=
  if (1 : Int32) = 0 then
    some ((0 : Int32), μ)
  else
    if (0 : Int32) = 0 then
      some ((1 : Int32), μ)
    else
      some ((0 : Int32), μ)
set_option maxRecDepth 100000 in
set_option maxHeartbeats 4000000 in
theorem r_J0_isLatin1_aae02_88 {μ : Mem} {ρ : (Int32 × Mem)} (h : f_J0_isLatin1_aae02_88 μ = some ρ) : HT 0 yJ0_isLatin1_aae02 cJ0_isLatin1_aae02 1 (some .boolean) [.ref 88] μ (some (.int ρ.1)) ρ.2 := by
  refine HT.of (by decide +kernel) (Nat.le_of_ble_eq_true rfl) (fun C => ?_)
  unfold f_J0_isLatin1_aae02_88 at h
  refine wa_gcs C qw_287 dJ0_isLatin1_aae02_0 ?_
  refine wa_if_eq (tgt := 17) C dJ0_isLatin1_aae02_3 (by decide) (fun c1 => ?_) (fun c1 => ?_)
  · replace h := (if_pos c1).symm.trans h
    refine wa_iconst (v := 0) C dJ0_isLatin1_aae02_17 (by decide) ?_
    obtain rfl := Option.some.inj h
    exact wa_zret C rfl dJ0_isLatin1_aae02_18
  · replace h := (if_neg c1).symm.trans h
    refine wa_aload_n C dJ0_isLatin1_aae02_6 rfl ?_
    refine wa_scod (i := 6) C (by decide) qw_288 dJ0_isLatin1_aae02_7 ?_
    refine wa_if_ne (tgt := 17) C dJ0_isLatin1_aae02_10 (by decide) (fun c2 => ?_) (fun c2 => ?_)
    · replace h := (if_neg c2).symm.trans h
      refine wa_iconst (v := 0) C dJ0_isLatin1_aae02_17 (by decide) ?_
      obtain rfl := Option.some.inj h
      exact wa_zret C rfl dJ0_isLatin1_aae02_18
    · replace h := (if_pos c2).symm.trans h
      refine wa_iconst (v := 1) C dJ0_isLatin1_aae02_13 (by decide) ?_
      refine wa_goto (tgt := 18) C dJ0_isLatin1_aae02_14 (by decide) ?_
      obtain rfl := Option.some.inj h
      exact wa_zret C rfl dJ0_isLatin1_aae02_18
def f_J1_charAt_3b067_98 (a1 : Int32) (μ : Mem) : Option (Int32 × Mem) :=
  (f_J0_checkIndex_df160 a1 (5 : Int32) μ).bind fun q1 =>
  if inb a1 5 = false then none else
  if ncr ((((strB 6 (a1.toNatClampNeg)) &&& (255 : Int32)).toUInt32 % 65536).toInt32) = false then none else
  some (((((strB 6 (a1.toNatClampNeg)) &&& (255 : Int32)).toUInt32 % 65536).toInt32), q1)
set_option maxRecDepth 100000 in
set_option maxHeartbeats 4000000 in
theorem r_J1_charAt_3b067_98 {a1 : Int32} {μ : Mem} {ρ : (Int32 × Mem)} (h : f_J1_charAt_3b067_98 a1 μ = some ρ) : HT 2 yJ1_charAt_3b067 cJ1_charAt_3b067 2 (some .char) [.ref 98, .int a1] μ (some (.int ρ.1)) ρ.2 := by
  refine HT.of (by decide +kernel) (Nat.le_of_ble_eq_true rfl) (fun C => ?_)
  unfold f_J1_charAt_3b067_98 at h
  refine wa_iload_n C dJ1_charAt_3b067_0 rfl ?_
  refine wa_aload_n C dJ1_charAt_3b067_1 rfl ?_
  refine wa_stralen (i := 6) (v := 5) C (by decide) rfl dJ1_charAt_3b067_2 ?_
  obtain ⟨q1, hq1, h⟩ := bd h
  refine wa_callS C (r_J0_checkIndex_df160 hq1) mk_J0_checkIndex_df160 ms_J0_checkIndex_df160 qw_301 rfl ⟨Nat.le_of_ble_eq_true rfl, Nat.le_of_ble_eq_true rfl⟩ ⟨Nat.zero_le _, Nat.zero_le _⟩ (Nat.le_of_ble_eq_true rfl) dJ1_charAt_3b067_3 rfl ?_
  refine wa_aload_n C dJ1_charAt_3b067_6 rfl ?_
  refine wa_iload_n C dJ1_charAt_3b067_7 rfl ?_
  obtain ⟨g2, h⟩ := gd h
  refine wa_strb (i := 6) (j := (a1.toNatClampNeg)) C (by decide) g2 rfl dJ1_charAt_3b067_8 ?_
  refine wa_sipush (v := 255) C dJ1_charAt_3b067_9 (by decide) ?_
  refine wa_iand C dJ1_charAt_3b067_12 ?_
  refine wa_i2c (v := ((((strB 6 (a1.toNatClampNeg)) &&& (255 : Int32)).toUInt32 % 65536).toInt32)) C dJ1_charAt_3b067_13 rfl ?_
  obtain ⟨g3, h⟩ := gd h
  obtain rfl := Option.some.inj h
  exact wa_nret C (ncr_nar g3) dJ1_charAt_3b067_14
def f_J0_charAt_5068e_88 (a1 : Int32) (μ : Mem) : Option (Int32 × Mem) :=
  (f_J0_isLatin1_aae02_88 μ).bind fun q1 =>
  if q1.1 = 0 then
    none
  else
    (f_J1_charAt_3b067_98 a1 q1.2).bind fun q3 =>
    if ncr q3.1 = false then none else
    some (q3.1, q3.2)
set_option maxRecDepth 100000 in
set_option maxHeartbeats 4000000 in
theorem r_J0_charAt_5068e_88 {a1 : Int32} {μ : Mem} {ρ : (Int32 × Mem)} (h : f_J0_charAt_5068e_88 a1 μ = some ρ) : HT 3 yJ0_charAt_5068e cJ0_charAt_5068e 2 (some .char) [.ref 88, .int a1] μ (some (.int ρ.1)) ρ.2 := by
  refine HT.of (by decide +kernel) (Nat.le_of_ble_eq_true rfl) (fun C => ?_)
  unfold f_J0_charAt_5068e_88 at h
  refine wa_aload_n C dJ0_charAt_5068e_0 rfl ?_
  obtain ⟨q1, hq1, h⟩ := bd h
  refine wa_callT (i := 6) C (r_J0_isLatin1_aae02_88 hq1) mk_J0_isLatin1_aae02 mv_J0_isLatin1_aae02 qw_293 (by decide) rfl rfl ⟨Nat.le_of_ble_eq_true rfl, Nat.le_of_ble_eq_true rfl⟩ ⟨Nat.zero_le _, Nat.zero_le _⟩ (Nat.le_of_ble_eq_true rfl) dJ0_charAt_5068e_1 rfl ?_
  refine wa_if_eq (tgt := 16) C dJ0_charAt_5068e_4 (by decide) (fun c2 => ?_) (fun c2 => ?_)
  · replace h := (if_pos c2).symm.trans h
    cases h
  · replace h := (if_neg c2).symm.trans h
    refine wa_aload_n C dJ0_charAt_5068e_7 rfl ?_
    refine wa_sval (i := 6) C (by decide) qw_282 dJ0_charAt_5068e_8 ?_
    refine wa_iload_n C dJ0_charAt_5068e_11 rfl ?_
    obtain ⟨q3, hq3, h⟩ := bd h
    refine wa_callS C (r_J1_charAt_3b067_98 hq3) mk_J1_charAt_3b067 ms_J1_charAt_3b067 qw_297 rfl ⟨Nat.le_of_ble_eq_true rfl, Nat.le_of_ble_eq_true rfl⟩ ⟨Nat.zero_le _, Nat.zero_le _⟩ (Nat.le_of_ble_eq_true rfl) dJ0_charAt_5068e_12 rfl ?_
    obtain ⟨g4, h⟩ := gd h
    obtain rfl := Option.some.inj h
    exact wa_nret C (ncr_nar g4) dJ0_charAt_5068e_15
def f_X5_isName_35_88_L20 (k20 : Int32 → Mem → Option (Int32 × Mem)) (a2 : Int32) (μ : Mem) : Option (Int32 × Mem) :=
    (f_J0_length_8abf5_88 μ).bind fun q3 =>
    if q3.1 ≤ a2 then
      some ((1 : Int32), q3.2)
    else
      if inb ((q3.2.1 35 8) + a2) 320 = false then none else
      (f_J0_charAt_5068e_88 a2 q3.2).bind fun q6 =>
      if (q3.2.1 36 (((q3.2.1 35 8) + a2).toNatClampNeg)) = q6.1 then
        k20 (a2 + 1) q6.2
      else
        some ((0 : Int32), q6.2)
def f_X5_isName_35_88 (μ : Mem) : Option (Int32 × Mem) :=
  (f_J0_length_8abf5_88 μ).bind fun q1 =>
  if ((μ.1 35 10) - (μ.1 35 8)) = q1.1 then
    it2 (f_X5_isName_35_88_L20) FU (0 : Int32) q1.2
  else
    some ((0 : Int32), q1.2)
set_option maxRecDepth 100000 in
set_option maxHeartbeats 4000000 in
theorem r_X5_isName_35_88_L20 {p : Program} {l : Launch} {e : Env} {s : State} {m : MethodId} {args : Array Value} {below : List Frame} {meth : Method} {c : Code} {D : va_G} {cy : Nat → ClassId} {ad : Nat → Nat} (C : CX p s m args meth c cX5_isName 3 RX5 (some .boolean) D cy ad (AD ad)) {ρ : (Int32 × Mem)} : ∀ (n : Nat) (a2 : Int32) (μ : Mem), it2 (f_X5_isName_35_88_L20) n a2 μ = some ρ → WA p l e (rmD 4) s m args below meth c 3 D cy ad (AD ad) 0 0 (ZZ below args s D cy ad (AD ad) 0 0 (some (.int ρ.1)) ρ.2) μ [(0, .ref 35), (1, .ref 88), (2, .int a2)] 20 [] := by
  intro n
  induction n with
  | zero =>
    intro a2 μ h
    exact absurd h (fun h => by cases h)
  | succ n ih =>
    intro a2 μ h
    replace h : f_X5_isName_35_88_L20 (it2 (f_X5_isName_35_88_L20) n) a2 μ = some ρ := h
    unfold f_X5_isName_35_88_L20 at h
    refine wa_iload_n C dX5_isName_20 rfl ?_
    refine wa_aload_n C dX5_isName_21 rfl ?_
    obtain ⟨q3, hq3, h⟩ := bd h
    refine wa_callT (i := 6) C (r_J0_length_8abf5_88 hq3) mk_J0_length_8abf5 mv_J0_length_8abf5 qw_277 (by decide) rfl rfl ⟨Nat.le_of_ble_eq_true rfl, Nat.le_of_ble_eq_true rfl⟩ ⟨Nat.zero_le _, Nat.zero_le _⟩ (Nat.le_of_ble_eq_true rfl) dX5_isName_22 rfl ?_
    refine wa_icmp_ge (tgt := 55) C dX5_isName_25 (by decide) (fun c4 => ?_) (fun c4 => ?_)
    · replace h := (if_pos c4).symm.trans h
      refine wa_iconst (v := 1) C dX5_isName_55 (by decide) ?_
      obtain rfl := Option.some.inj h
      exact wa_zret C rfl dX5_isName_56
    · replace h := (if_neg c4).symm.trans h
      refine wa_aload_n C dX5_isName_28 rfl ?_
      refine wa_getr C fl_RX5_11 rfl rfl (by decide) dX5_isName_29 ?_
      refine wa_aload_n C dX5_isName_32 rfl ?_
      refine wa_geti (x := (q3.2.1 35 8)) C fl_RX5_45 rfl rfl (by decide) rfl dX5_isName_33 ?_
      refine wa_iload_n C dX5_isName_36 rfl ?_
      refine wa_iadd C dX5_isName_37 ?_
      obtain ⟨g5, h⟩ := gd h
      refine wa_bald (j := (((q3.2.1 35 8) + a2).toNatClampNeg)) (x := (q3.2.1 36 (((q3.2.1 35 8) + a2).toNatClampNeg))) C rfl (by decide) g5 rfl rfl dX5_isName_38 ?_
      refine wa_aload_n C dX5_isName_39 rfl ?_
      refine wa_iload_n C dX5_isName_40 rfl ?_
      obtain ⟨q6, hq6, h⟩ := bd h
      refine wa_callT (i := 6) C (r_J0_charAt_5068e_88 hq6) mk_J0_charAt_5068e mv_J0_charAt_5068e qw_289 (by decide) rfl rfl ⟨Nat.le_of_ble_eq_true rfl, Nat.le_of_ble_eq_true rfl⟩ ⟨Nat.zero_le _, Nat.zero_le _⟩ (Nat.le_of_ble_eq_true rfl) dX5_isName_41 rfl ?_
      refine wa_icmp_eq (tgt := 49) C dX5_isName_44 (by decide) (fun c7 => ?_) (fun c7 => ?_)
      · replace h := (if_pos c7).symm.trans h
        refine wa_iinc (v := (a2 + 1)) C dX5_isName_49 rfl rfl (by decide) ?_
        refine wa_goto (tgt := 20) C dX5_isName_52 (by decide) ?_
        exact WA.sub (lsub_c rfl (lsub_c rfl (lsub_c rfl lsub_n))) (ih _ _ h)
      · replace h := (if_neg c7).symm.trans h
        refine wa_iconst (v := 0) C dX5_isName_47 (by decide) ?_
        obtain rfl := Option.some.inj h
        exact wa_zret C rfl dX5_isName_48
set_option maxRecDepth 100000 in
set_option maxHeartbeats 4000000 in
theorem r_X5_isName_35_88 {μ : Mem} {ρ : (Int32 × Mem)} (h : f_X5_isName_35_88 μ = some ρ) : HT 4 yX5_isName cX5_isName 3 (some .boolean) [.ref 35, .ref 88] μ (some (.int ρ.1)) ρ.2 := by
  refine HT.of (by decide +kernel) (Nat.le_of_ble_eq_true rfl) (fun C => ?_)
  unfold f_X5_isName_35_88 at h
  refine wa_aload_n C dX5_isName_0 rfl ?_
  refine wa_geti (x := (μ.1 35 10)) C fl_RX5_51 rfl rfl (by decide) rfl dX5_isName_1 ?_
  refine wa_aload_n C dX5_isName_4 rfl ?_
  refine wa_geti (x := (μ.1 35 8)) C fl_RX5_45 rfl rfl (by decide) rfl dX5_isName_5 ?_
  refine wa_isub C dX5_isName_8 ?_
  refine wa_aload_n C dX5_isName_9 rfl ?_
  obtain ⟨q1, hq1, h⟩ := bd h
  refine wa_callT (i := 6) C (r_J0_length_8abf5_88 hq1) mk_J0_length_8abf5 mv_J0_length_8abf5 qw_277 (by decide) rfl rfl ⟨Nat.le_of_ble_eq_true rfl, Nat.le_of_ble_eq_true rfl⟩ ⟨Nat.zero_le _, Nat.zero_le _⟩ (Nat.le_of_ble_eq_true rfl) dX5_isName_10 rfl ?_
  refine wa_icmp_eq (tgt := 18) C dX5_isName_13 (by decide) (fun c2 => ?_) (fun c2 => ?_)
  · replace h := (if_pos c2).symm.trans h
    refine wa_iconst (v := 0) C dX5_isName_18 (by decide) ?_
    refine wa_istore_n C dX5_isName_19 (by decide) ?_
    exact WA.sub (lsub_c rfl (lsub_c rfl (lsub_c rfl lsub_n))) (r_X5_isName_35_88_L20 C  _ _ _ h)
  · replace h := (if_neg c2).symm.trans h
    refine wa_iconst (v := 0) C dX5_isName_16 (by decide) ?_
    obtain rfl := Option.some.inj h
    exact wa_zret C rfl dX5_isName_17
def f_J0_coder_7d493_89 (μ : Mem) : Option (Int32 × Mem) :=
  if (1 : Int32) = 0 then
    some ((1 : Int32), μ)
  else
    some ((0 : Int32), μ)
set_option maxRecDepth 100000 in
set_option maxHeartbeats 4000000 in
theorem r_J0_coder_7d493_89 {μ : Mem} {ρ : (Int32 × Mem)} (h : f_J0_coder_7d493_89 μ = some ρ) : HT 0 yJ0_coder_7d493 cJ0_coder_7d493 1 (some .byte) [.ref 89] μ (some (.int ρ.1)) ρ.2 := by
  refine HT.of (by decide +kernel) (Nat.le_of_ble_eq_true rfl) (fun C => ?_)
  unfold f_J0_coder_7d493_89 at h
  refine wa_gcs C qw_287 dJ0_coder_7d493_0 ?_
  refine wa_if_eq (tgt := 13) C dJ0_coder_7d493_3 (by decide) (fun c1 => ?_) (fun c1 => ?_)
  · replace h := (if_pos c1).symm.trans h
    refine wa_iconst (v := 1) C dJ0_coder_7d493_13 (by decide) ?_
    obtain rfl := Option.some.inj h
    exact wa_nret C rfl dJ0_coder_7d493_14
  · replace h := (if_neg c1).symm.trans h
    refine wa_aload_n C dJ0_coder_7d493_6 rfl ?_
    refine wa_scod (i := 7) C (by decide) qw_288 dJ0_coder_7d493_7 ?_
    refine wa_goto (tgt := 14) C dJ0_coder_7d493_10 (by decide) ?_
    obtain rfl := Option.some.inj h
    exact wa_nret C rfl dJ0_coder_7d493_14
def f_J0_length_8abf5_89 (μ : Mem) : Option (Int32 × Mem) :=
  (f_J0_coder_7d493_89 μ).bind fun q1 =>
  some (((5 : Int32) >>> (q1.1 &&& 31)), q1.2)
set_option maxRecDepth 100000 in
set_option maxHeartbeats 4000000 in
theorem r_J0_length_8abf5_89 {μ : Mem} {ρ : (Int32 × Mem)} (h : f_J0_length_8abf5_89 μ = some ρ) : HT 1 yJ0_length_8abf5 cJ0_length_8abf5 1 (some .int) [.ref 89] μ (some (.int ρ.1)) ρ.2 := by
  refine HT.of (by decide +kernel) (Nat.le_of_ble_eq_true rfl) (fun C => ?_)
  unfold f_J0_length_8abf5_89 at h
  refine wa_aload_n C dJ0_length_8abf5_0 rfl ?_
  refine wa_sval (i := 7) C (by decide) qw_282 dJ0_length_8abf5_1 ?_
  refine wa_stralen (i := 7) (v := 5) C (by decide) rfl dJ0_length_8abf5_4 ?_
  refine wa_aload_n C dJ0_length_8abf5_5 rfl ?_
  obtain ⟨q1, hq1, h⟩ := bd h
  refine wa_callT (i := 7) C (r_J0_coder_7d493_89 hq1) mk_J0_coder_7d493 mv_J0_coder_7d493 qw_283 (by decide) rfl rfl ⟨Nat.le_of_ble_eq_true rfl, Nat.le_of_ble_eq_true rfl⟩ ⟨Nat.zero_le _, Nat.zero_le _⟩ (Nat.le_of_ble_eq_true rfl) dJ0_length_8abf5_6 rfl ?_
  refine wa_ishr C dJ0_length_8abf5_9 ?_
  obtain rfl := Option.some.inj h
  exact wa_iret C dJ0_length_8abf5_10
def f_J0_isLatin1_aae02_89 (μ : Mem) : Option (Int32 × Mem) :=
  if (1 : Int32) = 0 then
    some ((0 : Int32), μ)
  else
    if (0 : Int32) = 0 then
      some ((1 : Int32), μ)
    else
      some ((0 : Int32), μ)
set_option maxRecDepth 100000 in
set_option maxHeartbeats 4000000 in
theorem r_J0_isLatin1_aae02_89 {μ : Mem} {ρ : (Int32 × Mem)} (h : f_J0_isLatin1_aae02_89 μ = some ρ) : HT 0 yJ0_isLatin1_aae02 cJ0_isLatin1_aae02 1 (some .boolean) [.ref 89] μ (some (.int ρ.1)) ρ.2 := by
  refine HT.of (by decide +kernel) (Nat.le_of_ble_eq_true rfl) (fun C => ?_)
  unfold f_J0_isLatin1_aae02_89 at h
  refine wa_gcs C qw_287 dJ0_isLatin1_aae02_0 ?_
  refine wa_if_eq (tgt := 17) C dJ0_isLatin1_aae02_3 (by decide) (fun c1 => ?_) (fun c1 => ?_)
  · replace h := (if_pos c1).symm.trans h
    refine wa_iconst (v := 0) C dJ0_isLatin1_aae02_17 (by decide) ?_
    obtain rfl := Option.some.inj h
    exact wa_zret C rfl dJ0_isLatin1_aae02_18
  · replace h := (if_neg c1).symm.trans h
    refine wa_aload_n C dJ0_isLatin1_aae02_6 rfl ?_
    refine wa_scod (i := 7) C (by decide) qw_288 dJ0_isLatin1_aae02_7 ?_
    refine wa_if_ne (tgt := 17) C dJ0_isLatin1_aae02_10 (by decide) (fun c2 => ?_) (fun c2 => ?_)
    · replace h := (if_neg c2).symm.trans h
      refine wa_iconst (v := 0) C dJ0_isLatin1_aae02_17 (by decide) ?_
      obtain rfl := Option.some.inj h
      exact wa_zret C rfl dJ0_isLatin1_aae02_18
    · replace h := (if_pos c2).symm.trans h
      refine wa_iconst (v := 1) C dJ0_isLatin1_aae02_13 (by decide) ?_
      refine wa_goto (tgt := 18) C dJ0_isLatin1_aae02_14 (by decide) ?_
      obtain rfl := Option.some.inj h
      exact wa_zret C rfl dJ0_isLatin1_aae02_18
def f_J1_charAt_3b067_99 (a1 : Int32) (μ : Mem) : Option (Int32 × Mem) :=
  (f_J0_checkIndex_df160 a1 (5 : Int32) μ).bind fun q1 =>
  if inb a1 5 = false then none else
  if ncr ((((strB 7 (a1.toNatClampNeg)) &&& (255 : Int32)).toUInt32 % 65536).toInt32) = false then none else
  some (((((strB 7 (a1.toNatClampNeg)) &&& (255 : Int32)).toUInt32 % 65536).toInt32), q1)
set_option maxRecDepth 100000 in
set_option maxHeartbeats 4000000 in
theorem r_J1_charAt_3b067_99 {a1 : Int32} {μ : Mem} {ρ : (Int32 × Mem)} (h : f_J1_charAt_3b067_99 a1 μ = some ρ) : HT 2 yJ1_charAt_3b067 cJ1_charAt_3b067 2 (some .char) [.ref 99, .int a1] μ (some (.int ρ.1)) ρ.2 := by
  refine HT.of (by decide +kernel) (Nat.le_of_ble_eq_true rfl) (fun C => ?_)
  unfold f_J1_charAt_3b067_99 at h
  refine wa_iload_n C dJ1_charAt_3b067_0 rfl ?_
  refine wa_aload_n C dJ1_charAt_3b067_1 rfl ?_
  refine wa_stralen (i := 7) (v := 5) C (by decide) rfl dJ1_charAt_3b067_2 ?_
  obtain ⟨q1, hq1, h⟩ := bd h
  refine wa_callS C (r_J0_checkIndex_df160 hq1) mk_J0_checkIndex_df160 ms_J0_checkIndex_df160 qw_301 rfl ⟨Nat.le_of_ble_eq_true rfl, Nat.le_of_ble_eq_true rfl⟩ ⟨Nat.zero_le _, Nat.zero_le _⟩ (Nat.le_of_ble_eq_true rfl) dJ1_charAt_3b067_3 rfl ?_
  refine wa_aload_n C dJ1_charAt_3b067_6 rfl ?_
  refine wa_iload_n C dJ1_charAt_3b067_7 rfl ?_
  obtain ⟨g2, h⟩ := gd h
  refine wa_strb (i := 7) (j := (a1.toNatClampNeg)) C (by decide) g2 rfl dJ1_charAt_3b067_8 ?_
  refine wa_sipush (v := 255) C dJ1_charAt_3b067_9 (by decide) ?_
  refine wa_iand C dJ1_charAt_3b067_12 ?_
  refine wa_i2c (v := ((((strB 7 (a1.toNatClampNeg)) &&& (255 : Int32)).toUInt32 % 65536).toInt32)) C dJ1_charAt_3b067_13 rfl ?_
  obtain ⟨g3, h⟩ := gd h
  obtain rfl := Option.some.inj h
  exact wa_nret C (ncr_nar g3) dJ1_charAt_3b067_14
def f_J0_charAt_5068e_89 (a1 : Int32) (μ : Mem) : Option (Int32 × Mem) :=
  (f_J0_isLatin1_aae02_89 μ).bind fun q1 =>
  if q1.1 = 0 then
    none
  else
    (f_J1_charAt_3b067_99 a1 q1.2).bind fun q3 =>
    if ncr q3.1 = false then none else
    some (q3.1, q3.2)
set_option maxRecDepth 100000 in
set_option maxHeartbeats 4000000 in
theorem r_J0_charAt_5068e_89 {a1 : Int32} {μ : Mem} {ρ : (Int32 × Mem)} (h : f_J0_charAt_5068e_89 a1 μ = some ρ) : HT 3 yJ0_charAt_5068e cJ0_charAt_5068e 2 (some .char) [.ref 89, .int a1] μ (some (.int ρ.1)) ρ.2 := by
  refine HT.of (by decide +kernel) (Nat.le_of_ble_eq_true rfl) (fun C => ?_)
  unfold f_J0_charAt_5068e_89 at h
  refine wa_aload_n C dJ0_charAt_5068e_0 rfl ?_
  obtain ⟨q1, hq1, h⟩ := bd h
  refine wa_callT (i := 7) C (r_J0_isLatin1_aae02_89 hq1) mk_J0_isLatin1_aae02 mv_J0_isLatin1_aae02 qw_293 (by decide) rfl rfl ⟨Nat.le_of_ble_eq_true rfl, Nat.le_of_ble_eq_true rfl⟩ ⟨Nat.zero_le _, Nat.zero_le _⟩ (Nat.le_of_ble_eq_true rfl) dJ0_charAt_5068e_1 rfl ?_
  refine wa_if_eq (tgt := 16) C dJ0_charAt_5068e_4 (by decide) (fun c2 => ?_) (fun c2 => ?_)
  · replace h := (if_pos c2).symm.trans h
    cases h
  · replace h := (if_neg c2).symm.trans h
    refine wa_aload_n C dJ0_charAt_5068e_7 rfl ?_
    refine wa_sval (i := 7) C (by decide) qw_282 dJ0_charAt_5068e_8 ?_
    refine wa_iload_n C dJ0_charAt_5068e_11 rfl ?_
    obtain ⟨q3, hq3, h⟩ := bd h
    refine wa_callS C (r_J1_charAt_3b067_99 hq3) mk_J1_charAt_3b067 ms_J1_charAt_3b067 qw_297 rfl ⟨Nat.le_of_ble_eq_true rfl, Nat.le_of_ble_eq_true rfl⟩ ⟨Nat.zero_le _, Nat.zero_le _⟩ (Nat.le_of_ble_eq_true rfl) dJ0_charAt_5068e_12 rfl ?_
    obtain ⟨g4, h⟩ := gd h
    obtain rfl := Option.some.inj h
    exact wa_nret C (ncr_nar g4) dJ0_charAt_5068e_15
def f_X5_isName_35_89_L20 (k20 : Int32 → Mem → Option (Int32 × Mem)) (a2 : Int32) (μ : Mem) : Option (Int32 × Mem) :=
    (f_J0_length_8abf5_89 μ).bind fun q3 =>
    if q3.1 ≤ a2 then
      some ((1 : Int32), q3.2)
    else
      if inb ((q3.2.1 35 8) + a2) 320 = false then none else
      (f_J0_charAt_5068e_89 a2 q3.2).bind fun q6 =>
      if (q3.2.1 36 (((q3.2.1 35 8) + a2).toNatClampNeg)) = q6.1 then
        k20 (a2 + 1) q6.2
      else
        some ((0 : Int32), q6.2)
def f_X5_isName_35_89 (μ : Mem) : Option (Int32 × Mem) :=
  (f_J0_length_8abf5_89 μ).bind fun q1 =>
  if ((μ.1 35 10) - (μ.1 35 8)) = q1.1 then
    it2 (f_X5_isName_35_89_L20) FU (0 : Int32) q1.2
  else
    some ((0 : Int32), q1.2)
set_option maxRecDepth 100000 in
set_option maxHeartbeats 4000000 in
theorem r_X5_isName_35_89_L20 {p : Program} {l : Launch} {e : Env} {s : State} {m : MethodId} {args : Array Value} {below : List Frame} {meth : Method} {c : Code} {D : va_G} {cy : Nat → ClassId} {ad : Nat → Nat} (C : CX p s m args meth c cX5_isName 3 RX5 (some .boolean) D cy ad (AD ad)) {ρ : (Int32 × Mem)} : ∀ (n : Nat) (a2 : Int32) (μ : Mem), it2 (f_X5_isName_35_89_L20) n a2 μ = some ρ → WA p l e (rmD 4) s m args below meth c 3 D cy ad (AD ad) 0 0 (ZZ below args s D cy ad (AD ad) 0 0 (some (.int ρ.1)) ρ.2) μ [(0, .ref 35), (1, .ref 89), (2, .int a2)] 20 [] := by
  intro n
  induction n with
  | zero =>
    intro a2 μ h
    exact absurd h (fun h => by cases h)
  | succ n ih =>
    intro a2 μ h
    replace h : f_X5_isName_35_89_L20 (it2 (f_X5_isName_35_89_L20) n) a2 μ = some ρ := h
    unfold f_X5_isName_35_89_L20 at h
    refine wa_iload_n C dX5_isName_20 rfl ?_
    refine wa_aload_n C dX5_isName_21 rfl ?_
    obtain ⟨q3, hq3, h⟩ := bd h
    refine wa_callT (i := 7) C (r_J0_length_8abf5_89 hq3) mk_J0_length_8abf5 mv_J0_length_8abf5 qw_277 (by decide) rfl rfl ⟨Nat.le_of_ble_eq_true rfl, Nat.le_of_ble_eq_true rfl⟩ ⟨Nat.zero_le _, Nat.zero_le _⟩ (Nat.le_of_ble_eq_true rfl) dX5_isName_22 rfl ?_
    refine wa_icmp_ge (tgt := 55) C dX5_isName_25 (by decide) (fun c4 => ?_) (fun c4 => ?_)
    · replace h := (if_pos c4).symm.trans h
      refine wa_iconst (v := 1) C dX5_isName_55 (by decide) ?_
      obtain rfl := Option.some.inj h
      exact wa_zret C rfl dX5_isName_56
    · replace h := (if_neg c4).symm.trans h
      refine wa_aload_n C dX5_isName_28 rfl ?_
      refine wa_getr C fl_RX5_11 rfl rfl (by decide) dX5_isName_29 ?_
      refine wa_aload_n C dX5_isName_32 rfl ?_
      refine wa_geti (x := (q3.2.1 35 8)) C fl_RX5_45 rfl rfl (by decide) rfl dX5_isName_33 ?_
      refine wa_iload_n C dX5_isName_36 rfl ?_
      refine wa_iadd C dX5_isName_37 ?_
      obtain ⟨g5, h⟩ := gd h
      refine wa_bald (j := (((q3.2.1 35 8) + a2).toNatClampNeg)) (x := (q3.2.1 36 (((q3.2.1 35 8) + a2).toNatClampNeg))) C rfl (by decide) g5 rfl rfl dX5_isName_38 ?_
      refine wa_aload_n C dX5_isName_39 rfl ?_
      refine wa_iload_n C dX5_isName_40 rfl ?_
      obtain ⟨q6, hq6, h⟩ := bd h
      refine wa_callT (i := 7) C (r_J0_charAt_5068e_89 hq6) mk_J0_charAt_5068e mv_J0_charAt_5068e qw_289 (by decide) rfl rfl ⟨Nat.le_of_ble_eq_true rfl, Nat.le_of_ble_eq_true rfl⟩ ⟨Nat.zero_le _, Nat.zero_le _⟩ (Nat.le_of_ble_eq_true rfl) dX5_isName_41 rfl ?_
      refine wa_icmp_eq (tgt := 49) C dX5_isName_44 (by decide) (fun c7 => ?_) (fun c7 => ?_)
      · replace h := (if_pos c7).symm.trans h
        refine wa_iinc (v := (a2 + 1)) C dX5_isName_49 rfl rfl (by decide) ?_
        refine wa_goto (tgt := 20) C dX5_isName_52 (by decide) ?_
        exact WA.sub (lsub_c rfl (lsub_c rfl (lsub_c rfl lsub_n))) (ih _ _ h)
      · replace h := (if_neg c7).symm.trans h
        refine wa_iconst (v := 0) C dX5_isName_47 (by decide) ?_
        obtain rfl := Option.some.inj h
        exact wa_zret C rfl dX5_isName_48
set_option maxRecDepth 100000 in
set_option maxHeartbeats 4000000 in
theorem r_X5_isName_35_89 {μ : Mem} {ρ : (Int32 × Mem)} (h : f_X5_isName_35_89 μ = some ρ) : HT 4 yX5_isName cX5_isName 3 (some .boolean) [.ref 35, .ref 89] μ (some (.int ρ.1)) ρ.2 := by
  refine HT.of (by decide +kernel) (Nat.le_of_ble_eq_true rfl) (fun C => ?_)
  unfold f_X5_isName_35_89 at h
  refine wa_aload_n C dX5_isName_0 rfl ?_
  refine wa_geti (x := (μ.1 35 10)) C fl_RX5_51 rfl rfl (by decide) rfl dX5_isName_1 ?_
  refine wa_aload_n C dX5_isName_4 rfl ?_
  refine wa_geti (x := (μ.1 35 8)) C fl_RX5_45 rfl rfl (by decide) rfl dX5_isName_5 ?_
  refine wa_isub C dX5_isName_8 ?_
  refine wa_aload_n C dX5_isName_9 rfl ?_
  obtain ⟨q1, hq1, h⟩ := bd h
  refine wa_callT (i := 7) C (r_J0_length_8abf5_89 hq1) mk_J0_length_8abf5 mv_J0_length_8abf5 qw_277 (by decide) rfl rfl ⟨Nat.le_of_ble_eq_true rfl, Nat.le_of_ble_eq_true rfl⟩ ⟨Nat.zero_le _, Nat.zero_le _⟩ (Nat.le_of_ble_eq_true rfl) dX5_isName_10 rfl ?_
  refine wa_icmp_eq (tgt := 18) C dX5_isName_13 (by decide) (fun c2 => ?_) (fun c2 => ?_)
  · replace h := (if_pos c2).symm.trans h
    refine wa_iconst (v := 0) C dX5_isName_18 (by decide) ?_
    refine wa_istore_n C dX5_isName_19 (by decide) ?_
    exact WA.sub (lsub_c rfl (lsub_c rfl (lsub_c rfl lsub_n))) (r_X5_isName_35_89_L20 C  _ _ _ h)
  · replace h := (if_neg c2).symm.trans h
    refine wa_iconst (v := 0) C dX5_isName_16 (by decide) ?_
    obtain rfl := Option.some.inj h
    exact wa_zret C rfl dX5_isName_17
def f_J0_coder_7d493_90 (μ : Mem) : Option (Int32 × Mem) :=
  if (1 : Int32) = 0 then
    some ((1 : Int32), μ)
  else
    some ((0 : Int32), μ)
set_option maxRecDepth 100000 in
set_option maxHeartbeats 4000000 in
theorem r_J0_coder_7d493_90 {μ : Mem} {ρ : (Int32 × Mem)} (h : f_J0_coder_7d493_90 μ = some ρ) : HT 0 yJ0_coder_7d493 cJ0_coder_7d493 1 (some .byte) [.ref 90] μ (some (.int ρ.1)) ρ.2 := by
  refine HT.of (by decide +kernel) (Nat.le_of_ble_eq_true rfl) (fun C => ?_)
  unfold f_J0_coder_7d493_90 at h
  refine wa_gcs C qw_287 dJ0_coder_7d493_0 ?_
  refine wa_if_eq (tgt := 13) C dJ0_coder_7d493_3 (by decide) (fun c1 => ?_) (fun c1 => ?_)
  · replace h := (if_pos c1).symm.trans h
    refine wa_iconst (v := 1) C dJ0_coder_7d493_13 (by decide) ?_
    obtain rfl := Option.some.inj h
    exact wa_nret C rfl dJ0_coder_7d493_14
  · replace h := (if_neg c1).symm.trans h
    refine wa_aload_n C dJ0_coder_7d493_6 rfl ?_
    refine wa_scod (i := 8) C (by decide) qw_288 dJ0_coder_7d493_7 ?_
    refine wa_goto (tgt := 14) C dJ0_coder_7d493_10 (by decide) ?_
    obtain rfl := Option.some.inj h
    exact wa_nret C rfl dJ0_coder_7d493_14
def f_J0_length_8abf5_90 (μ : Mem) : Option (Int32 × Mem) :=
  (f_J0_coder_7d493_90 μ).bind fun q1 =>
  some (((7 : Int32) >>> (q1.1 &&& 31)), q1.2)
set_option maxRecDepth 100000 in
set_option maxHeartbeats 4000000 in
theorem r_J0_length_8abf5_90 {μ : Mem} {ρ : (Int32 × Mem)} (h : f_J0_length_8abf5_90 μ = some ρ) : HT 1 yJ0_length_8abf5 cJ0_length_8abf5 1 (some .int) [.ref 90] μ (some (.int ρ.1)) ρ.2 := by
  refine HT.of (by decide +kernel) (Nat.le_of_ble_eq_true rfl) (fun C => ?_)
  unfold f_J0_length_8abf5_90 at h
  refine wa_aload_n C dJ0_length_8abf5_0 rfl ?_
  refine wa_sval (i := 8) C (by decide) qw_282 dJ0_length_8abf5_1 ?_
  refine wa_stralen (i := 8) (v := 7) C (by decide) rfl dJ0_length_8abf5_4 ?_
  refine wa_aload_n C dJ0_length_8abf5_5 rfl ?_
  obtain ⟨q1, hq1, h⟩ := bd h
  refine wa_callT (i := 8) C (r_J0_coder_7d493_90 hq1) mk_J0_coder_7d493 mv_J0_coder_7d493 qw_283 (by decide) rfl rfl ⟨Nat.le_of_ble_eq_true rfl, Nat.le_of_ble_eq_true rfl⟩ ⟨Nat.zero_le _, Nat.zero_le _⟩ (Nat.le_of_ble_eq_true rfl) dJ0_length_8abf5_6 rfl ?_
  refine wa_ishr C dJ0_length_8abf5_9 ?_
  obtain rfl := Option.some.inj h
  exact wa_iret C dJ0_length_8abf5_10
def f_J0_isLatin1_aae02_90 (μ : Mem) : Option (Int32 × Mem) :=
  if (1 : Int32) = 0 then
    some ((0 : Int32), μ)
  else
    if (0 : Int32) = 0 then
      some ((1 : Int32), μ)
    else
      some ((0 : Int32), μ)
set_option maxRecDepth 100000 in
set_option maxHeartbeats 4000000 in
theorem r_J0_isLatin1_aae02_90 {μ : Mem} {ρ : (Int32 × Mem)} (h : f_J0_isLatin1_aae02_90 μ = some ρ) : HT 0 yJ0_isLatin1_aae02 cJ0_isLatin1_aae02 1 (some .boolean) [.ref 90] μ (some (.int ρ.1)) ρ.2 := by
  refine HT.of (by decide +kernel) (Nat.le_of_ble_eq_true rfl) (fun C => ?_)
  unfold f_J0_isLatin1_aae02_90 at h
  refine wa_gcs C qw_287 dJ0_isLatin1_aae02_0 ?_
  refine wa_if_eq (tgt := 17) C dJ0_isLatin1_aae02_3 (by decide) (fun c1 => ?_) (fun c1 => ?_)
  · replace h := (if_pos c1).symm.trans h
    refine wa_iconst (v := 0) C dJ0_isLatin1_aae02_17 (by decide) ?_
    obtain rfl := Option.some.inj h
    exact wa_zret C rfl dJ0_isLatin1_aae02_18
  · replace h := (if_neg c1).symm.trans h
    refine wa_aload_n C dJ0_isLatin1_aae02_6 rfl ?_
    refine wa_scod (i := 8) C (by decide) qw_288 dJ0_isLatin1_aae02_7 ?_
    refine wa_if_ne (tgt := 17) C dJ0_isLatin1_aae02_10 (by decide) (fun c2 => ?_) (fun c2 => ?_)
    · replace h := (if_neg c2).symm.trans h
      refine wa_iconst (v := 0) C dJ0_isLatin1_aae02_17 (by decide) ?_
      obtain rfl := Option.some.inj h
      exact wa_zret C rfl dJ0_isLatin1_aae02_18
    · replace h := (if_pos c2).symm.trans h
      refine wa_iconst (v := 1) C dJ0_isLatin1_aae02_13 (by decide) ?_
      refine wa_goto (tgt := 18) C dJ0_isLatin1_aae02_14 (by decide) ?_
      obtain rfl := Option.some.inj h
      exact wa_zret C rfl dJ0_isLatin1_aae02_18
def f_J1_charAt_3b067_100 (a1 : Int32) (μ : Mem) : Option (Int32 × Mem) :=
  (f_J0_checkIndex_df160 a1 (7 : Int32) μ).bind fun q1 =>
  if inb a1 7 = false then none else
  if ncr ((((strB 8 (a1.toNatClampNeg)) &&& (255 : Int32)).toUInt32 % 65536).toInt32) = false then none else
  some (((((strB 8 (a1.toNatClampNeg)) &&& (255 : Int32)).toUInt32 % 65536).toInt32), q1)
set_option maxRecDepth 100000 in
set_option maxHeartbeats 4000000 in
theorem r_J1_charAt_3b067_100 {a1 : Int32} {μ : Mem} {ρ : (Int32 × Mem)} (h : f_J1_charAt_3b067_100 a1 μ = some ρ) : HT 2 yJ1_charAt_3b067 cJ1_charAt_3b067 2 (some .char) [.ref 100, .int a1] μ (some (.int ρ.1)) ρ.2 := by
  refine HT.of (by decide +kernel) (Nat.le_of_ble_eq_true rfl) (fun C => ?_)
  unfold f_J1_charAt_3b067_100 at h
  refine wa_iload_n C dJ1_charAt_3b067_0 rfl ?_
  refine wa_aload_n C dJ1_charAt_3b067_1 rfl ?_
  refine wa_stralen (i := 8) (v := 7) C (by decide) rfl dJ1_charAt_3b067_2 ?_
  obtain ⟨q1, hq1, h⟩ := bd h
  refine wa_callS C (r_J0_checkIndex_df160 hq1) mk_J0_checkIndex_df160 ms_J0_checkIndex_df160 qw_301 rfl ⟨Nat.le_of_ble_eq_true rfl, Nat.le_of_ble_eq_true rfl⟩ ⟨Nat.zero_le _, Nat.zero_le _⟩ (Nat.le_of_ble_eq_true rfl) dJ1_charAt_3b067_3 rfl ?_
  refine wa_aload_n C dJ1_charAt_3b067_6 rfl ?_
  refine wa_iload_n C dJ1_charAt_3b067_7 rfl ?_
  obtain ⟨g2, h⟩ := gd h
  refine wa_strb (i := 8) (j := (a1.toNatClampNeg)) C (by decide) g2 rfl dJ1_charAt_3b067_8 ?_
  refine wa_sipush (v := 255) C dJ1_charAt_3b067_9 (by decide) ?_
  refine wa_iand C dJ1_charAt_3b067_12 ?_
  refine wa_i2c (v := ((((strB 8 (a1.toNatClampNeg)) &&& (255 : Int32)).toUInt32 % 65536).toInt32)) C dJ1_charAt_3b067_13 rfl ?_
  obtain ⟨g3, h⟩ := gd h
  obtain rfl := Option.some.inj h
  exact wa_nret C (ncr_nar g3) dJ1_charAt_3b067_14
def f_J0_charAt_5068e_90 (a1 : Int32) (μ : Mem) : Option (Int32 × Mem) :=
  (f_J0_isLatin1_aae02_90 μ).bind fun q1 =>
  if q1.1 = 0 then
    none
  else
    (f_J1_charAt_3b067_100 a1 q1.2).bind fun q3 =>
    if ncr q3.1 = false then none else
    some (q3.1, q3.2)
set_option maxRecDepth 100000 in
set_option maxHeartbeats 4000000 in
theorem r_J0_charAt_5068e_90 {a1 : Int32} {μ : Mem} {ρ : (Int32 × Mem)} (h : f_J0_charAt_5068e_90 a1 μ = some ρ) : HT 3 yJ0_charAt_5068e cJ0_charAt_5068e 2 (some .char) [.ref 90, .int a1] μ (some (.int ρ.1)) ρ.2 := by
  refine HT.of (by decide +kernel) (Nat.le_of_ble_eq_true rfl) (fun C => ?_)
  unfold f_J0_charAt_5068e_90 at h
  refine wa_aload_n C dJ0_charAt_5068e_0 rfl ?_
  obtain ⟨q1, hq1, h⟩ := bd h
  refine wa_callT (i := 8) C (r_J0_isLatin1_aae02_90 hq1) mk_J0_isLatin1_aae02 mv_J0_isLatin1_aae02 qw_293 (by decide) rfl rfl ⟨Nat.le_of_ble_eq_true rfl, Nat.le_of_ble_eq_true rfl⟩ ⟨Nat.zero_le _, Nat.zero_le _⟩ (Nat.le_of_ble_eq_true rfl) dJ0_charAt_5068e_1 rfl ?_
  refine wa_if_eq (tgt := 16) C dJ0_charAt_5068e_4 (by decide) (fun c2 => ?_) (fun c2 => ?_)
  · replace h := (if_pos c2).symm.trans h
    cases h
  · replace h := (if_neg c2).symm.trans h
    refine wa_aload_n C dJ0_charAt_5068e_7 rfl ?_
    refine wa_sval (i := 8) C (by decide) qw_282 dJ0_charAt_5068e_8 ?_
    refine wa_iload_n C dJ0_charAt_5068e_11 rfl ?_
    obtain ⟨q3, hq3, h⟩ := bd h
    refine wa_callS C (r_J1_charAt_3b067_100 hq3) mk_J1_charAt_3b067 ms_J1_charAt_3b067 qw_297 rfl ⟨Nat.le_of_ble_eq_true rfl, Nat.le_of_ble_eq_true rfl⟩ ⟨Nat.zero_le _, Nat.zero_le _⟩ (Nat.le_of_ble_eq_true rfl) dJ0_charAt_5068e_12 rfl ?_
    obtain ⟨g4, h⟩ := gd h
    obtain rfl := Option.some.inj h
    exact wa_nret C (ncr_nar g4) dJ0_charAt_5068e_15
def f_X5_isName_35_90_L20 (k20 : Int32 → Mem → Option (Int32 × Mem)) (a2 : Int32) (μ : Mem) : Option (Int32 × Mem) :=
    (f_J0_length_8abf5_90 μ).bind fun q3 =>
    if q3.1 ≤ a2 then
      some ((1 : Int32), q3.2)
    else
      if inb ((q3.2.1 35 8) + a2) 320 = false then none else
      (f_J0_charAt_5068e_90 a2 q3.2).bind fun q6 =>
      if (q3.2.1 36 (((q3.2.1 35 8) + a2).toNatClampNeg)) = q6.1 then
        k20 (a2 + 1) q6.2
      else
        some ((0 : Int32), q6.2)
def f_X5_isName_35_90 (μ : Mem) : Option (Int32 × Mem) :=
  (f_J0_length_8abf5_90 μ).bind fun q1 =>
  if ((μ.1 35 10) - (μ.1 35 8)) = q1.1 then
    it2 (f_X5_isName_35_90_L20) FU (0 : Int32) q1.2
  else
    some ((0 : Int32), q1.2)
set_option maxRecDepth 100000 in
set_option maxHeartbeats 4000000 in
theorem r_X5_isName_35_90_L20 {p : Program} {l : Launch} {e : Env} {s : State} {m : MethodId} {args : Array Value} {below : List Frame} {meth : Method} {c : Code} {D : va_G} {cy : Nat → ClassId} {ad : Nat → Nat} (C : CX p s m args meth c cX5_isName 3 RX5 (some .boolean) D cy ad (AD ad)) {ρ : (Int32 × Mem)} : ∀ (n : Nat) (a2 : Int32) (μ : Mem), it2 (f_X5_isName_35_90_L20) n a2 μ = some ρ → WA p l e (rmD 4) s m args below meth c 3 D cy ad (AD ad) 0 0 (ZZ below args s D cy ad (AD ad) 0 0 (some (.int ρ.1)) ρ.2) μ [(0, .ref 35), (1, .ref 90), (2, .int a2)] 20 [] := by
  intro n
  induction n with
  | zero =>
    intro a2 μ h
    exact absurd h (fun h => by cases h)
  | succ n ih =>
    intro a2 μ h
    replace h : f_X5_isName_35_90_L20 (it2 (f_X5_isName_35_90_L20) n) a2 μ = some ρ := h
    unfold f_X5_isName_35_90_L20 at h
    refine wa_iload_n C dX5_isName_20 rfl ?_
    refine wa_aload_n C dX5_isName_21 rfl ?_
    obtain ⟨q3, hq3, h⟩ := bd h
    refine wa_callT (i := 8) C (r_J0_length_8abf5_90 hq3) mk_J0_length_8abf5 mv_J0_length_8abf5 qw_277 (by decide) rfl rfl ⟨Nat.le_of_ble_eq_true rfl, Nat.le_of_ble_eq_true rfl⟩ ⟨Nat.zero_le _, Nat.zero_le _⟩ (Nat.le_of_ble_eq_true rfl) dX5_isName_22 rfl ?_
    refine wa_icmp_ge (tgt := 55) C dX5_isName_25 (by decide) (fun c4 => ?_) (fun c4 => ?_)
    · replace h := (if_pos c4).symm.trans h
      refine wa_iconst (v := 1) C dX5_isName_55 (by decide) ?_
      obtain rfl := Option.some.inj h
      exact wa_zret C rfl dX5_isName_56
    · replace h := (if_neg c4).symm.trans h
      refine wa_aload_n C dX5_isName_28 rfl ?_
      refine wa_getr C fl_RX5_11 rfl rfl (by decide) dX5_isName_29 ?_
      refine wa_aload_n C dX5_isName_32 rfl ?_
      refine wa_geti (x := (q3.2.1 35 8)) C fl_RX5_45 rfl rfl (by decide) rfl dX5_isName_33 ?_
      refine wa_iload_n C dX5_isName_36 rfl ?_
      refine wa_iadd C dX5_isName_37 ?_
      obtain ⟨g5, h⟩ := gd h
      refine wa_bald (j := (((q3.2.1 35 8) + a2).toNatClampNeg)) (x := (q3.2.1 36 (((q3.2.1 35 8) + a2).toNatClampNeg))) C rfl (by decide) g5 rfl rfl dX5_isName_38 ?_
      refine wa_aload_n C dX5_isName_39 rfl ?_
      refine wa_iload_n C dX5_isName_40 rfl ?_
      obtain ⟨q6, hq6, h⟩ := bd h
      refine wa_callT (i := 8) C (r_J0_charAt_5068e_90 hq6) mk_J0_charAt_5068e mv_J0_charAt_5068e qw_289 (by decide) rfl rfl ⟨Nat.le_of_ble_eq_true rfl, Nat.le_of_ble_eq_true rfl⟩ ⟨Nat.zero_le _, Nat.zero_le _⟩ (Nat.le_of_ble_eq_true rfl) dX5_isName_41 rfl ?_
      refine wa_icmp_eq (tgt := 49) C dX5_isName_44 (by decide) (fun c7 => ?_) (fun c7 => ?_)
      · replace h := (if_pos c7).symm.trans h
        refine wa_iinc (v := (a2 + 1)) C dX5_isName_49 rfl rfl (by decide) ?_
        refine wa_goto (tgt := 20) C dX5_isName_52 (by decide) ?_
        exact WA.sub (lsub_c rfl (lsub_c rfl (lsub_c rfl lsub_n))) (ih _ _ h)
      · replace h := (if_neg c7).symm.trans h
        refine wa_iconst (v := 0) C dX5_isName_47 (by decide) ?_
        obtain rfl := Option.some.inj h
        exact wa_zret C rfl dX5_isName_48
set_option maxRecDepth 100000 in
set_option maxHeartbeats 4000000 in
theorem r_X5_isName_35_90 {μ : Mem} {ρ : (Int32 × Mem)} (h : f_X5_isName_35_90 μ = some ρ) : HT 4 yX5_isName cX5_isName 3 (some .boolean) [.ref 35, .ref 90] μ (some (.int ρ.1)) ρ.2 := by
  refine HT.of (by decide +kernel) (Nat.le_of_ble_eq_true rfl) (fun C => ?_)
  unfold f_X5_isName_35_90 at h
  refine wa_aload_n C dX5_isName_0 rfl ?_
  refine wa_geti (x := (μ.1 35 10)) C fl_RX5_51 rfl rfl (by decide) rfl dX5_isName_1 ?_
  refine wa_aload_n C dX5_isName_4 rfl ?_
  refine wa_geti (x := (μ.1 35 8)) C fl_RX5_45 rfl rfl (by decide) rfl dX5_isName_5 ?_
  refine wa_isub C dX5_isName_8 ?_
  refine wa_aload_n C dX5_isName_9 rfl ?_
  obtain ⟨q1, hq1, h⟩ := bd h
  refine wa_callT (i := 8) C (r_J0_length_8abf5_90 hq1) mk_J0_length_8abf5 mv_J0_length_8abf5 qw_277 (by decide) rfl rfl ⟨Nat.le_of_ble_eq_true rfl, Nat.le_of_ble_eq_true rfl⟩ ⟨Nat.zero_le _, Nat.zero_le _⟩ (Nat.le_of_ble_eq_true rfl) dX5_isName_10 rfl ?_
  refine wa_icmp_eq (tgt := 18) C dX5_isName_13 (by decide) (fun c2 => ?_) (fun c2 => ?_)
  · replace h := (if_pos c2).symm.trans h
    refine wa_iconst (v := 0) C dX5_isName_18 (by decide) ?_
    refine wa_istore_n C dX5_isName_19 (by decide) ?_
    exact WA.sub (lsub_c rfl (lsub_c rfl (lsub_c rfl lsub_n))) (r_X5_isName_35_90_L20 C  _ _ _ h)
  · replace h := (if_neg c2).symm.trans h
    refine wa_iconst (v := 0) C dX5_isName_16 (by decide) ?_
    obtain rfl := Option.some.inj h
    exact wa_zret C rfl dX5_isName_17
def f_J0_coder_7d493_91 (μ : Mem) : Option (Int32 × Mem) :=
  if (1 : Int32) = 0 then
    some ((1 : Int32), μ)
  else
    some ((0 : Int32), μ)
set_option maxRecDepth 100000 in
set_option maxHeartbeats 4000000 in
theorem r_J0_coder_7d493_91 {μ : Mem} {ρ : (Int32 × Mem)} (h : f_J0_coder_7d493_91 μ = some ρ) : HT 0 yJ0_coder_7d493 cJ0_coder_7d493 1 (some .byte) [.ref 91] μ (some (.int ρ.1)) ρ.2 := by
  refine HT.of (by decide +kernel) (Nat.le_of_ble_eq_true rfl) (fun C => ?_)
  unfold f_J0_coder_7d493_91 at h
  refine wa_gcs C qw_287 dJ0_coder_7d493_0 ?_
  refine wa_if_eq (tgt := 13) C dJ0_coder_7d493_3 (by decide) (fun c1 => ?_) (fun c1 => ?_)
  · replace h := (if_pos c1).symm.trans h
    refine wa_iconst (v := 1) C dJ0_coder_7d493_13 (by decide) ?_
    obtain rfl := Option.some.inj h
    exact wa_nret C rfl dJ0_coder_7d493_14
  · replace h := (if_neg c1).symm.trans h
    refine wa_aload_n C dJ0_coder_7d493_6 rfl ?_
    refine wa_scod (i := 9) C (by decide) qw_288 dJ0_coder_7d493_7 ?_
    refine wa_goto (tgt := 14) C dJ0_coder_7d493_10 (by decide) ?_
    obtain rfl := Option.some.inj h
    exact wa_nret C rfl dJ0_coder_7d493_14
def f_J0_length_8abf5_91 (μ : Mem) : Option (Int32 × Mem) :=
  (f_J0_coder_7d493_91 μ).bind fun q1 =>
  some (((7 : Int32) >>> (q1.1 &&& 31)), q1.2)
set_option maxRecDepth 100000 in
set_option maxHeartbeats 4000000 in
theorem r_J0_length_8abf5_91 {μ : Mem} {ρ : (Int32 × Mem)} (h : f_J0_length_8abf5_91 μ = some ρ) : HT 1 yJ0_length_8abf5 cJ0_length_8abf5 1 (some .int) [.ref 91] μ (some (.int ρ.1)) ρ.2 := by
  refine HT.of (by decide +kernel) (Nat.le_of_ble_eq_true rfl) (fun C => ?_)
  unfold f_J0_length_8abf5_91 at h
  refine wa_aload_n C dJ0_length_8abf5_0 rfl ?_
  refine wa_sval (i := 9) C (by decide) qw_282 dJ0_length_8abf5_1 ?_
  refine wa_stralen (i := 9) (v := 7) C (by decide) rfl dJ0_length_8abf5_4 ?_
  refine wa_aload_n C dJ0_length_8abf5_5 rfl ?_
  obtain ⟨q1, hq1, h⟩ := bd h
  refine wa_callT (i := 9) C (r_J0_coder_7d493_91 hq1) mk_J0_coder_7d493 mv_J0_coder_7d493 qw_283 (by decide) rfl rfl ⟨Nat.le_of_ble_eq_true rfl, Nat.le_of_ble_eq_true rfl⟩ ⟨Nat.zero_le _, Nat.zero_le _⟩ (Nat.le_of_ble_eq_true rfl) dJ0_length_8abf5_6 rfl ?_
  refine wa_ishr C dJ0_length_8abf5_9 ?_
  obtain rfl := Option.some.inj h
  exact wa_iret C dJ0_length_8abf5_10
def f_J0_isLatin1_aae02_91 (μ : Mem) : Option (Int32 × Mem) :=
  if (1 : Int32) = 0 then
    some ((0 : Int32), μ)
  else
    if (0 : Int32) = 0 then
      some ((1 : Int32), μ)
    else
      some ((0 : Int32), μ)
set_option maxRecDepth 100000 in
set_option maxHeartbeats 4000000 in
theorem r_J0_isLatin1_aae02_91 {μ : Mem} {ρ : (Int32 × Mem)} (h : f_J0_isLatin1_aae02_91 μ = some ρ) : HT 0 yJ0_isLatin1_aae02 cJ0_isLatin1_aae02 1 (some .boolean) [.ref 91] μ (some (.int ρ.1)) ρ.2 := by
  refine HT.of (by decide +kernel) (Nat.le_of_ble_eq_true rfl) (fun C => ?_)
  unfold f_J0_isLatin1_aae02_91 at h
  refine wa_gcs C qw_287 dJ0_isLatin1_aae02_0 ?_
  refine wa_if_eq (tgt := 17) C dJ0_isLatin1_aae02_3 (by decide) (fun c1 => ?_) (fun c1 => ?_)
  · replace h := (if_pos c1).symm.trans h
    refine wa_iconst (v := 0) C dJ0_isLatin1_aae02_17 (by decide) ?_
    obtain rfl := Option.some.inj h
    exact wa_zret C rfl dJ0_isLatin1_aae02_18
  · replace h := (if_neg c1).symm.trans h
    refine wa_aload_n C dJ0_isLatin1_aae02_6 rfl ?_
    refine wa_scod (i := 9) C (by decide) qw_288 dJ0_isLatin1_aae02_7 ?_
    refine wa_if_ne (tgt := 17) C dJ0_isLatin1_aae02_10 (by decide) (fun c2 => ?_) (fun c2 => ?_)
    · replace h := (if_neg c2).symm.trans h
      refine wa_iconst (v := 0) C dJ0_isLatin1_aae02_17 (by decide) ?_
      obtain rfl := Option.some.inj h
      exact wa_zret C rfl dJ0_isLatin1_aae02_18
    · replace h := (if_pos c2).symm.trans h
      refine wa_iconst (v := 1) C dJ0_isLatin1_aae02_13 (by decide) ?_
      refine wa_goto (tgt := 18) C dJ0_isLatin1_aae02_14 (by decide) ?_
      obtain rfl := Option.some.inj h
      exact wa_zret C rfl dJ0_isLatin1_aae02_18
def f_J1_charAt_3b067_101 (a1 : Int32) (μ : Mem) : Option (Int32 × Mem) :=
  (f_J0_checkIndex_df160 a1 (7 : Int32) μ).bind fun q1 =>
  if inb a1 7 = false then none else
  if ncr ((((strB 9 (a1.toNatClampNeg)) &&& (255 : Int32)).toUInt32 % 65536).toInt32) = false then none else
  some (((((strB 9 (a1.toNatClampNeg)) &&& (255 : Int32)).toUInt32 % 65536).toInt32), q1)
set_option maxRecDepth 100000 in
set_option maxHeartbeats 4000000 in
theorem r_J1_charAt_3b067_101 {a1 : Int32} {μ : Mem} {ρ : (Int32 × Mem)} (h : f_J1_charAt_3b067_101 a1 μ = some ρ) : HT 2 yJ1_charAt_3b067 cJ1_charAt_3b067 2 (some .char) [.ref 101, .int a1] μ (some (.int ρ.1)) ρ.2 := by
  refine HT.of (by decide +kernel) (Nat.le_of_ble_eq_true rfl) (fun C => ?_)
  unfold f_J1_charAt_3b067_101 at h
  refine wa_iload_n C dJ1_charAt_3b067_0 rfl ?_
  refine wa_aload_n C dJ1_charAt_3b067_1 rfl ?_
  refine wa_stralen (i := 9) (v := 7) C (by decide) rfl dJ1_charAt_3b067_2 ?_
  obtain ⟨q1, hq1, h⟩ := bd h
  refine wa_callS C (r_J0_checkIndex_df160 hq1) mk_J0_checkIndex_df160 ms_J0_checkIndex_df160 qw_301 rfl ⟨Nat.le_of_ble_eq_true rfl, Nat.le_of_ble_eq_true rfl⟩ ⟨Nat.zero_le _, Nat.zero_le _⟩ (Nat.le_of_ble_eq_true rfl) dJ1_charAt_3b067_3 rfl ?_
  refine wa_aload_n C dJ1_charAt_3b067_6 rfl ?_
  refine wa_iload_n C dJ1_charAt_3b067_7 rfl ?_
  obtain ⟨g2, h⟩ := gd h
  refine wa_strb (i := 9) (j := (a1.toNatClampNeg)) C (by decide) g2 rfl dJ1_charAt_3b067_8 ?_
  refine wa_sipush (v := 255) C dJ1_charAt_3b067_9 (by decide) ?_
  refine wa_iand C dJ1_charAt_3b067_12 ?_
  refine wa_i2c (v := ((((strB 9 (a1.toNatClampNeg)) &&& (255 : Int32)).toUInt32 % 65536).toInt32)) C dJ1_charAt_3b067_13 rfl ?_
  obtain ⟨g3, h⟩ := gd h
  obtain rfl := Option.some.inj h
  exact wa_nret C (ncr_nar g3) dJ1_charAt_3b067_14
def f_J0_charAt_5068e_91 (a1 : Int32) (μ : Mem) : Option (Int32 × Mem) :=
  (f_J0_isLatin1_aae02_91 μ).bind fun q1 =>
  if q1.1 = 0 then
    none
  else
    (f_J1_charAt_3b067_101 a1 q1.2).bind fun q3 =>
    if ncr q3.1 = false then none else
    some (q3.1, q3.2)
set_option maxRecDepth 100000 in
set_option maxHeartbeats 4000000 in
theorem r_J0_charAt_5068e_91 {a1 : Int32} {μ : Mem} {ρ : (Int32 × Mem)} (h : f_J0_charAt_5068e_91 a1 μ = some ρ) : HT 3 yJ0_charAt_5068e cJ0_charAt_5068e 2 (some .char) [.ref 91, .int a1] μ (some (.int ρ.1)) ρ.2 := by
  refine HT.of (by decide +kernel) (Nat.le_of_ble_eq_true rfl) (fun C => ?_)
  unfold f_J0_charAt_5068e_91 at h
  refine wa_aload_n C dJ0_charAt_5068e_0 rfl ?_
  obtain ⟨q1, hq1, h⟩ := bd h
  refine wa_callT (i := 9) C (r_J0_isLatin1_aae02_91 hq1) mk_J0_isLatin1_aae02 mv_J0_isLatin1_aae02 qw_293 (by decide) rfl rfl ⟨Nat.le_of_ble_eq_true rfl, Nat.le_of_ble_eq_true rfl⟩ ⟨Nat.zero_le _, Nat.zero_le _⟩ (Nat.le_of_ble_eq_true rfl) dJ0_charAt_5068e_1 rfl ?_
  refine wa_if_eq (tgt := 16) C dJ0_charAt_5068e_4 (by decide) (fun c2 => ?_) (fun c2 => ?_)
  · replace h := (if_pos c2).symm.trans h
    cases h
  · replace h := (if_neg c2).symm.trans h
    refine wa_aload_n C dJ0_charAt_5068e_7 rfl ?_
    refine wa_sval (i := 9) C (by decide) qw_282 dJ0_charAt_5068e_8 ?_
    refine wa_iload_n C dJ0_charAt_5068e_11 rfl ?_
    obtain ⟨q3, hq3, h⟩ := bd h
    refine wa_callS C (r_J1_charAt_3b067_101 hq3) mk_J1_charAt_3b067 ms_J1_charAt_3b067 qw_297 rfl ⟨Nat.le_of_ble_eq_true rfl, Nat.le_of_ble_eq_true rfl⟩ ⟨Nat.zero_le _, Nat.zero_le _⟩ (Nat.le_of_ble_eq_true rfl) dJ0_charAt_5068e_12 rfl ?_
    obtain ⟨g4, h⟩ := gd h
    obtain rfl := Option.some.inj h
    exact wa_nret C (ncr_nar g4) dJ0_charAt_5068e_15
def f_X5_isName_35_91_L20 (k20 : Int32 → Mem → Option (Int32 × Mem)) (a2 : Int32) (μ : Mem) : Option (Int32 × Mem) :=
    (f_J0_length_8abf5_91 μ).bind fun q3 =>
    if q3.1 ≤ a2 then
      some ((1 : Int32), q3.2)
    else
      if inb ((q3.2.1 35 8) + a2) 320 = false then none else
      (f_J0_charAt_5068e_91 a2 q3.2).bind fun q6 =>
      if (q3.2.1 36 (((q3.2.1 35 8) + a2).toNatClampNeg)) = q6.1 then
        k20 (a2 + 1) q6.2
      else
        some ((0 : Int32), q6.2)
def f_X5_isName_35_91 (μ : Mem) : Option (Int32 × Mem) :=
  (f_J0_length_8abf5_91 μ).bind fun q1 =>
  if ((μ.1 35 10) - (μ.1 35 8)) = q1.1 then
    it2 (f_X5_isName_35_91_L20) FU (0 : Int32) q1.2
  else
    some ((0 : Int32), q1.2)
set_option maxRecDepth 100000 in
set_option maxHeartbeats 4000000 in
theorem r_X5_isName_35_91_L20 {p : Program} {l : Launch} {e : Env} {s : State} {m : MethodId} {args : Array Value} {below : List Frame} {meth : Method} {c : Code} {D : va_G} {cy : Nat → ClassId} {ad : Nat → Nat} (C : CX p s m args meth c cX5_isName 3 RX5 (some .boolean) D cy ad (AD ad)) {ρ : (Int32 × Mem)} : ∀ (n : Nat) (a2 : Int32) (μ : Mem), it2 (f_X5_isName_35_91_L20) n a2 μ = some ρ → WA p l e (rmD 4) s m args below meth c 3 D cy ad (AD ad) 0 0 (ZZ below args s D cy ad (AD ad) 0 0 (some (.int ρ.1)) ρ.2) μ [(0, .ref 35), (1, .ref 91), (2, .int a2)] 20 [] := by
  intro n
  induction n with
  | zero =>
    intro a2 μ h
    exact absurd h (fun h => by cases h)
  | succ n ih =>
    intro a2 μ h
    replace h : f_X5_isName_35_91_L20 (it2 (f_X5_isName_35_91_L20) n) a2 μ = some ρ := h
    unfold f_X5_isName_35_91_L20 at h
    refine wa_iload_n C dX5_isName_20 rfl ?_
    refine wa_aload_n C dX5_isName_21 rfl ?_
    obtain ⟨q3, hq3, h⟩ := bd h
    refine wa_callT (i := 9) C (r_J0_length_8abf5_91 hq3) mk_J0_length_8abf5 mv_J0_length_8abf5 qw_277 (by decide) rfl rfl ⟨Nat.le_of_ble_eq_true rfl, Nat.le_of_ble_eq_true rfl⟩ ⟨Nat.zero_le _, Nat.zero_le _⟩ (Nat.le_of_ble_eq_true rfl) dX5_isName_22 rfl ?_
    refine wa_icmp_ge (tgt := 55) C dX5_isName_25 (by decide) (fun c4 => ?_) (fun c4 => ?_)
    · replace h := (if_pos c4).symm.trans h
      refine wa_iconst (v := 1) C dX5_isName_55 (by decide) ?_
      obtain rfl := Option.some.inj h
      exact wa_zret C rfl dX5_isName_56
    · replace h := (if_neg c4).symm.trans h
      refine wa_aload_n C dX5_isName_28 rfl ?_
      refine wa_getr C fl_RX5_11 rfl rfl (by decide) dX5_isName_29 ?_
      refine wa_aload_n C dX5_isName_32 rfl ?_
      refine wa_geti (x := (q3.2.1 35 8)) C fl_RX5_45 rfl rfl (by decide) rfl dX5_isName_33 ?_
      refine wa_iload_n C dX5_isName_36 rfl ?_
      refine wa_iadd C dX5_isName_37 ?_
      obtain ⟨g5, h⟩ := gd h
      refine wa_bald (j := (((q3.2.1 35 8) + a2).toNatClampNeg)) (x := (q3.2.1 36 (((q3.2.1 35 8) + a2).toNatClampNeg))) C rfl (by decide) g5 rfl rfl dX5_isName_38 ?_
      refine wa_aload_n C dX5_isName_39 rfl ?_
      refine wa_iload_n C dX5_isName_40 rfl ?_
      obtain ⟨q6, hq6, h⟩ := bd h
      refine wa_callT (i := 9) C (r_J0_charAt_5068e_91 hq6) mk_J0_charAt_5068e mv_J0_charAt_5068e qw_289 (by decide) rfl rfl ⟨Nat.le_of_ble_eq_true rfl, Nat.le_of_ble_eq_true rfl⟩ ⟨Nat.zero_le _, Nat.zero_le _⟩ (Nat.le_of_ble_eq_true rfl) dX5_isName_41 rfl ?_
      refine wa_icmp_eq (tgt := 49) C dX5_isName_44 (by decide) (fun c7 => ?_) (fun c7 => ?_)
      · replace h := (if_pos c7).symm.trans h
        refine wa_iinc (v := (a2 + 1)) C dX5_isName_49 rfl rfl (by decide) ?_
        refine wa_goto (tgt := 20) C dX5_isName_52 (by decide) ?_
        exact WA.sub (lsub_c rfl (lsub_c rfl (lsub_c rfl lsub_n))) (ih _ _ h)
      · replace h := (if_neg c7).symm.trans h
        refine wa_iconst (v := 0) C dX5_isName_47 (by decide) ?_
        obtain rfl := Option.some.inj h
        exact wa_zret C rfl dX5_isName_48
set_option maxRecDepth 100000 in
set_option maxHeartbeats 4000000 in
theorem r_X5_isName_35_91 {μ : Mem} {ρ : (Int32 × Mem)} (h : f_X5_isName_35_91 μ = some ρ) : HT 4 yX5_isName cX5_isName 3 (some .boolean) [.ref 35, .ref 91] μ (some (.int ρ.1)) ρ.2 := by
  refine HT.of (by decide +kernel) (Nat.le_of_ble_eq_true rfl) (fun C => ?_)
  unfold f_X5_isName_35_91 at h
  refine wa_aload_n C dX5_isName_0 rfl ?_
  refine wa_geti (x := (μ.1 35 10)) C fl_RX5_51 rfl rfl (by decide) rfl dX5_isName_1 ?_
  refine wa_aload_n C dX5_isName_4 rfl ?_
  refine wa_geti (x := (μ.1 35 8)) C fl_RX5_45 rfl rfl (by decide) rfl dX5_isName_5 ?_
  refine wa_isub C dX5_isName_8 ?_
  refine wa_aload_n C dX5_isName_9 rfl ?_
  obtain ⟨q1, hq1, h⟩ := bd h
  refine wa_callT (i := 9) C (r_J0_length_8abf5_91 hq1) mk_J0_length_8abf5 mv_J0_length_8abf5 qw_277 (by decide) rfl rfl ⟨Nat.le_of_ble_eq_true rfl, Nat.le_of_ble_eq_true rfl⟩ ⟨Nat.zero_le _, Nat.zero_le _⟩ (Nat.le_of_ble_eq_true rfl) dX5_isName_10 rfl ?_
  refine wa_icmp_eq (tgt := 18) C dX5_isName_13 (by decide) (fun c2 => ?_) (fun c2 => ?_)
  · replace h := (if_pos c2).symm.trans h
    refine wa_iconst (v := 0) C dX5_isName_18 (by decide) ?_
    refine wa_istore_n C dX5_isName_19 (by decide) ?_
    exact WA.sub (lsub_c rfl (lsub_c rfl (lsub_c rfl lsub_n))) (r_X5_isName_35_91_L20 C  _ _ _ h)
  · replace h := (if_neg c2).symm.trans h
    refine wa_iconst (v := 0) C dX5_isName_16 (by decide) ?_
    obtain rfl := Option.some.inj h
    exact wa_zret C rfl dX5_isName_17
def f_X5_kindName_35 (μ : Mem) : Option (Int32 × Mem) :=
  (f_X5_next_35 μ).bind fun q1 =>
  if q1.1 = 0 then
    some ((0 : Int32), q1.2)
  else
    if (q1.2.1 35 7) = (1 : Int32) then
      (f_X5_isName_35_88 q1.2).bind fun q4 =>
      if q4.1 = 0 then
        (f_X5_isName_35_89 q4.2).bind fun q6 =>
        if q6.1 = 0 then
          (f_X5_isName_35_90 q6.2).bind fun q8 =>
          if q8.1 = 0 then
            (f_X5_isName_35_91 q8.2).bind fun q10 =>
            if q10.1 = 0 then
              (f_X5_refuse_35 (2 : Int32) (q10.2.1 35 8) q10.2).bind fun q12 =>
              if zb q12.1 = false then none else
              some (q12.1, q12.2)
            else
              some ((1 : Int32), (pI q10.2 35 9 (3 : Int32)))
          else
            some ((1 : Int32), (pI q8.2 35 9 (2 : Int32)))
        else
          some ((1 : Int32), (pI q6.2 35 9 (1 : Int32)))
      else
        some ((1 : Int32), (pI q4.2 35 9 (0 : Int32)))
    else
      (f_X5_refuse_35 (2 : Int32) (q1.2.1 35 8) q1.2).bind fun q14 =>
      if zb q14.1 = false then none else
      some (q14.1, q14.2)
set_option maxRecDepth 100000 in
set_option maxHeartbeats 4000000 in
theorem r_X5_kindName_35 {μ : Mem} {ρ : (Int32 × Mem)} (h : f_X5_kindName_35 μ = some ρ) : HT 5 yX5_kindName cX5_kindName 1 (some .boolean) [.ref 35] μ (some (.int ρ.1)) ρ.2 := by
  refine HT.of (by decide +kernel) (Nat.le_of_ble_eq_true rfl) (fun C => ?_)
  unfold f_X5_kindName_35 at h
  refine wa_aload_n C dX5_kindName_0 rfl ?_
  obtain ⟨q1, hq1, h⟩ := bd h
  refine wa_callV C (r_X5_next_35 hq1) mk_X5_next mv_X5_next qw_231 rfl (by decide) rfl rfl ⟨Nat.le_of_ble_eq_true rfl, Nat.le_of_ble_eq_true rfl⟩ ⟨Nat.zero_le _, Nat.zero_le _⟩ (Nat.le_of_ble_eq_true rfl) dX5_kindName_1 rfl ?_
  refine wa_if_ne (tgt := 9) C dX5_kindName_4 (by decide) (fun c2 => ?_) (fun c2 => ?_)
  · replace h := (if_neg c2).symm.trans h
    refine wa_aload_n C dX5_kindName_9 rfl ?_
    refine wa_geti (x := (q1.2.1 35 7)) C fl_RX5_42 rfl rfl (by decide) rfl dX5_kindName_10 ?_
    refine wa_iconst (v := 1) C dX5_kindName_13 (by decide) ?_
    refine wa_icmp_eq (tgt := 27) C dX5_kindName_14 (by decide) (fun c3 => ?_) (fun c3 => ?_)
    · replace h := (if_pos c3).symm.trans h
      refine wa_aload_n C dX5_kindName_27 rfl ?_
      refine wa_ldcS (i := 6) C (by decide) rfl dX5_kindName_28 ?_
      obtain ⟨q4, hq4, h⟩ := bd h
      refine wa_callV C (r_X5_isName_35_88 hq4) mk_X5_isName mv_X5_isName qw_273 rfl (by decide) rfl rfl ⟨Nat.le_of_ble_eq_true rfl, Nat.le_of_ble_eq_true rfl⟩ ⟨Nat.zero_le _, Nat.zero_le _⟩ (Nat.le_of_ble_eq_true rfl) dX5_kindName_30 rfl ?_
      refine wa_if_eq (tgt := 44) C dX5_kindName_33 (by decide) (fun c5 => ?_) (fun c5 => ?_)
      · replace h := (if_pos c5).symm.trans h
        refine wa_aload_n C dX5_kindName_44 rfl ?_
        refine wa_ldcS (i := 7) C (by decide) rfl dX5_kindName_45 ?_
        obtain ⟨q6, hq6, h⟩ := bd h
        refine wa_callV C (r_X5_isName_35_89 hq6) mk_X5_isName mv_X5_isName qw_273 rfl (by decide) rfl rfl ⟨Nat.le_of_ble_eq_true rfl, Nat.le_of_ble_eq_true rfl⟩ ⟨Nat.zero_le _, Nat.zero_le _⟩ (Nat.le_of_ble_eq_true rfl) dX5_kindName_47 rfl ?_
        refine wa_if_eq (tgt := 61) C dX5_kindName_50 (by decide) (fun c7 => ?_) (fun c7 => ?_)
        · replace h := (if_pos c7).symm.trans h
          refine wa_aload_n C dX5_kindName_61 rfl ?_
          refine wa_ldcS (i := 8) C (by decide) rfl dX5_kindName_62 ?_
          obtain ⟨q8, hq8, h⟩ := bd h
          refine wa_callV C (r_X5_isName_35_90 hq8) mk_X5_isName mv_X5_isName qw_273 rfl (by decide) rfl rfl ⟨Nat.le_of_ble_eq_true rfl, Nat.le_of_ble_eq_true rfl⟩ ⟨Nat.zero_le _, Nat.zero_le _⟩ (Nat.le_of_ble_eq_true rfl) dX5_kindName_64 rfl ?_
          refine wa_if_eq (tgt := 78) C dX5_kindName_67 (by decide) (fun c9 => ?_) (fun c9 => ?_)
          · replace h := (if_pos c9).symm.trans h
            refine wa_aload_n C dX5_kindName_78 rfl ?_
            refine wa_ldcS (i := 9) C (by decide) rfl dX5_kindName_79 ?_
            obtain ⟨q10, hq10, h⟩ := bd h
            refine wa_callV C (r_X5_isName_35_91 hq10) mk_X5_isName mv_X5_isName qw_273 rfl (by decide) rfl rfl ⟨Nat.le_of_ble_eq_true rfl, Nat.le_of_ble_eq_true rfl⟩ ⟨Nat.zero_le _, Nat.zero_le _⟩ (Nat.le_of_ble_eq_true rfl) dX5_kindName_81 rfl ?_
            refine wa_if_eq (tgt := 95) C dX5_kindName_84 (by decide) (fun c11 => ?_) (fun c11 => ?_)
            · replace h := (if_pos c11).symm.trans h
              refine wa_aload_n C dX5_kindName_95 rfl ?_
              refine wa_iconst (v := 2) C dX5_kindName_96 (by decide) ?_
              refine wa_aload_n C dX5_kindName_97 rfl ?_
              refine wa_geti (x := (q10.2.1 35 8)) C fl_RX5_45 rfl rfl (by decide) rfl dX5_kindName_98 ?_
              obtain ⟨q12, hq12, h⟩ := bd h
              refine wa_callV C (r_X5_refuse_35 hq12) mk_X5_refuse mv_X5_refuse qw_249 rfl (by decide) rfl rfl ⟨Nat.le_of_ble_eq_true rfl, Nat.le_of_ble_eq_true rfl⟩ ⟨Nat.zero_le _, Nat.zero_le _⟩ (Nat.le_of_ble_eq_true rfl) dX5_kindName_101 rfl ?_
              obtain ⟨g13, h⟩ := gd h
              obtain rfl := Option.some.inj h
              exact wa_zret C g13 dX5_kindName_104
            · replace h := (if_neg c11).symm.trans h
              refine wa_aload_n C dX5_kindName_87 rfl ?_
              refine wa_iconst (v := 3) C dX5_kindName_88 (by decide) ?_
              refine wa_puti C fl_RX5_48 fp_5_9 rfl rfl (by decide) rfl rfl dX5_kindName_89 ?_
              refine wa_goto (tgt := 105) C dX5_kindName_92 (by decide) ?_
              refine wa_iconst (v := 1) C dX5_kindName_105 (by decide) ?_
              obtain rfl := Option.some.inj h
              exact wa_zret C rfl dX5_kindName_106
          · replace h := (if_neg c9).symm.trans h
            refine wa_aload_n C dX5_kindName_70 rfl ?_
            refine wa_iconst (v := 2) C dX5_kindName_71 (by decide) ?_
            refine wa_puti C fl_RX5_48 fp_5_9 rfl rfl (by decide) rfl rfl dX5_kindName_72 ?_
            refine wa_goto (tgt := 105) C dX5_kindName_75 (by decide) ?_
            refine wa_iconst (v := 1) C dX5_kindName_105 (by decide) ?_
            obtain rfl := Option.some.inj h
            exact wa_zret C rfl dX5_kindName_106
        · replace h := (if_neg c7).symm.trans h
          refine wa_aload_n C dX5_kindName_53 rfl ?_
          refine wa_iconst (v := 1) C dX5_kindName_54 (by decide) ?_
          refine wa_puti C fl_RX5_48 fp_5_9 rfl rfl (by decide) rfl rfl dX5_kindName_55 ?_
          refine wa_goto (tgt := 105) C dX5_kindName_58 (by decide) ?_
          refine wa_iconst (v := 1) C dX5_kindName_105 (by decide) ?_
          obtain rfl := Option.some.inj h
          exact wa_zret C rfl dX5_kindName_106
      · replace h := (if_neg c5).symm.trans h
        refine wa_aload_n C dX5_kindName_36 rfl ?_
        refine wa_iconst (v := 0) C dX5_kindName_37 (by decide) ?_
        refine wa_puti C fl_RX5_48 fp_5_9 rfl rfl (by decide) rfl rfl dX5_kindName_38 ?_
        refine wa_goto (tgt := 105) C dX5_kindName_41 (by decide) ?_
        refine wa_iconst (v := 1) C dX5_kindName_105 (by decide) ?_
        obtain rfl := Option.some.inj h
        exact wa_zret C rfl dX5_kindName_106
    · replace h := (if_neg c3).symm.trans h
      refine wa_aload_n C dX5_kindName_17 rfl ?_
      refine wa_iconst (v := 2) C dX5_kindName_18 (by decide) ?_
      refine wa_aload_n C dX5_kindName_19 rfl ?_
      refine wa_geti (x := (q1.2.1 35 8)) C fl_RX5_45 rfl rfl (by decide) rfl dX5_kindName_20 ?_
      obtain ⟨q14, hq14, h⟩ := bd h
      refine wa_callV C (r_X5_refuse_35 hq14) mk_X5_refuse mv_X5_refuse qw_249 rfl (by decide) rfl rfl ⟨Nat.le_of_ble_eq_true rfl, Nat.le_of_ble_eq_true rfl⟩ ⟨Nat.zero_le _, Nat.zero_le _⟩ (Nat.le_of_ble_eq_true rfl) dX5_kindName_23 rfl ?_
      obtain ⟨g15, h⟩ := gd h
      obtain rfl := Option.some.inj h
      exact wa_zret C g15 dX5_kindName_26
  · replace h := (if_pos c2).symm.trans h
    refine wa_iconst (v := 0) C dX5_kindName_7 (by decide) ?_
    obtain rfl := Option.some.inj h
    exact wa_zret C rfl dX5_kindName_8
def f_X1_isGlassEye_37 (a1 : Int32) (μ : Mem) : Option (Int32 × Mem) :=
  if (a1 &&& (1 : Int32)) = 0 then
    if inb (a1 / (2 : Int32)) 3 = false then none else
    if (μ.1 38 ((a1 / (2 : Int32)).toNatClampNeg)) = (1 : Int32) then
      some ((1 : Int32), μ)
    else
      some ((0 : Int32), μ)
  else
    some ((0 : Int32), μ)
set_option maxRecDepth 100000 in
set_option maxHeartbeats 4000000 in
theorem r_X1_isGlassEye_37 {a1 : Int32} {μ : Mem} {ρ : (Int32 × Mem)} (h : f_X1_isGlassEye_37 a1 μ = some ρ) : HT 0 yX1_isGlassEye cX1_isGlassEye 2 (some .boolean) [.ref 37, .int a1] μ (some (.int ρ.1)) ρ.2 := by
  refine HT.of (by decide +kernel) (Nat.le_of_ble_eq_true rfl) (fun C => ?_)
  unfold f_X1_isGlassEye_37 at h
  refine wa_iload_n C dX1_isGlassEye_0 rfl ?_
  refine wa_iconst (v := 1) C dX1_isGlassEye_1 (by decide) ?_
  refine wa_iand C dX1_isGlassEye_2 ?_
  refine wa_if_ne (tgt := 22) C dX1_isGlassEye_3 (by decide) (fun c1 => ?_) (fun c1 => ?_)
  · replace h := (if_neg c1).symm.trans h
    refine wa_iconst (v := 0) C dX1_isGlassEye_22 (by decide) ?_
    obtain rfl := Option.some.inj h
    exact wa_zret C rfl dX1_isGlassEye_23
  · replace h := (if_pos c1).symm.trans h
    refine wa_aload_n C dX1_isGlassEye_6 rfl ?_
    refine wa_getr C fl_RX1_18 rfl rfl (by decide) dX1_isGlassEye_7 ?_
    refine wa_iload_n C dX1_isGlassEye_10 rfl ?_
    refine wa_iconst (v := 2) C dX1_isGlassEye_11 (by decide) ?_
    refine wa_idiv C dX1_isGlassEye_12 (by decide) ?_
    obtain ⟨g2, h⟩ := gd h
    refine wa_iald (j := ((a1 / (2 : Int32)).toNatClampNeg)) (x := (μ.1 38 ((a1 / (2 : Int32)).toNatClampNeg))) C rfl (by decide) g2 rfl rfl dX1_isGlassEye_13 ?_
    refine wa_iconst (v := 1) C dX1_isGlassEye_14 (by decide) ?_
    refine wa_icmp_ne (tgt := 22) C dX1_isGlassEye_15 (by decide) (fun c3 => ?_) (fun c3 => ?_)
    · replace h := (if_neg c3).symm.trans h
      refine wa_iconst (v := 0) C dX1_isGlassEye_22 (by decide) ?_
      obtain rfl := Option.some.inj h
      exact wa_zret C rfl dX1_isGlassEye_23
    · replace h := (if_pos c3).symm.trans h
      refine wa_iconst (v := 1) C dX1_isGlassEye_18 (by decide) ?_
      refine wa_goto (tgt := 23) C dX1_isGlassEye_19 (by decide) ?_
      obtain rfl := Option.some.inj h
      exact wa_zret C rfl dX1_isGlassEye_23
def f_X5_sisterLine_35_J141 (k93 : Int32 → Mem → Option (Int32 × Mem)) (a1 : Int32) (a2 : Int32) (t1 : Int32) (t2 : Int32) (μ : Mem) : Option (Int32 × Mem) :=
  if inb t1 6 = false then none else
  k93 (a2 + 1) (pI μ 42 (t1.toNatClampNeg) t2)
def f_X5_sisterLine_35_L93 (a1 : Int32) (k93 : Int32 → Mem → Option (Int32 × Mem)) (a2 : Int32) (μ : Mem) : Option (Int32 × Mem) :=
    if (((2 : Int32) * a1) + (1 : Int32)) < a2 then
      some ((1 : Int32), (pI μ 37 0 ((μ.1 37 0) + (1 : Int32))))
    else
      (f_X5_number_35 (0 : Int32) (9 : Int32) μ).bind fun q7 =>
      if q7.1 = 0 then
        some ((0 : Int32), q7.2)
      else
        (f_X1_isGlassEye_37 a2 q7.2).bind fun q9 =>
        if q9.1 = 0 then
          f_X5_sisterLine_35_J141 k93 a1 a2 a2 (q9.2.1 35 9) q9.2
        else
          f_X5_sisterLine_35_J141 k93 a1 a2 a2 (0 : Int32) q9.2
def f_X5_sisterLine_35_L49 (a1 : Int32) (k49 : Int32 → Mem → Option (Int32 × Mem)) (a2 : Int32) (μ : Mem) : Option (Int32 × Mem) :=
    if (((2 : Int32) * a1) + (1 : Int32)) < a2 then
      it2 (f_X5_sisterLine_35_L93 a1) FU ((2 : Int32) * a1) μ
    else
      (f_X5_number_35 (0 : Int32) (15 : Int32) μ).bind fun q12 =>
      if q12.1 = 0 then
        some ((0 : Int32), q12.2)
      else
        if inb a2 6 = false then none else
        k49 (a2 + 1) (pI q12.2 39 (a2.toNatClampNeg) (q12.2.1 35 9))
def f_X5_sisterLine_35 (μ : Mem) : Option (Int32 × Mem) :=
  if (μ.1 37 0) < (3 : Int32) then
    (f_X5_kindName_35 μ).bind fun q2 =>
    if q2.1 = 0 then
      some ((0 : Int32), q2.2)
    else
      if inb (μ.1 37 0) 3 = false then none else
      it2 (f_X5_sisterLine_35_L49 (μ.1 37 0)) FU ((2 : Int32) * (μ.1 37 0)) (pI q2.2 38 ((μ.1 37 0).toNatClampNeg) (q2.2.1 35 9))
  else
    (f_X5_refuse_35 (5 : Int32) (μ.1 35 8) μ).bind fun q15 =>
    if zb q15.1 = false then none else
    some (q15.1, q15.2)
set_option maxRecDepth 100000 in
set_option maxHeartbeats 4000000 in
theorem r_X5_sisterLine_35_J141 {p : Program} {l : Launch} {e : Env} {s : State} {m : MethodId} {args : Array Value} {below : List Frame} {meth : Method} {c : Code} {D : va_G} {cy : Nat → ClassId} {ad : Nat → Nat} (C : CX p s m args meth c cX5_sisterLine 3 RX5 (some .boolean) D cy ad (AD ad)) {a1 : Int32} {a2 : Int32} {t1 : Int32} {t2 : Int32} {μ : Mem} {ρ : (Int32 × Mem)} (k93 : Int32 → Mem → Option (Int32 × Mem)) (hk93 : ∀ (a2 : Int32) (μ : Mem), k93 a2 μ = some ρ → WA p l e (rmD 6) s m args below meth c 3 D cy ad (AD ad) 0 0 (ZZ below args s D cy ad (AD ad) 0 0 (some (.int ρ.1)) ρ.2) μ [(0, .ref 35), (1, .int a1), (2, .int a2)] 93 []) (h : f_X5_sisterLine_35_J141 k93 a1 a2 t1 t2 μ = some ρ) : WA p l e (rmD 6) s m args below meth c 3 D cy ad (AD ad) 0 0 (ZZ below args s D cy ad (AD ad) 0 0 (some (.int ρ.1)) ρ.2) μ [(0, .ref 35), (1, .int a1), (2, .int a2)] 141 [.int t2, .int t1, .ref 42] := by
  unfold f_X5_sisterLine_35_J141 at h
  obtain ⟨g11, h⟩ := gd h
  refine wa_iast (j := (t1.toNatClampNeg)) C rfl (by decide) g11 rfl dX5_sisterLine_141 ?_
  refine wa_iinc (v := (a2 + 1)) C dX5_sisterLine_142 rfl rfl (by decide) ?_
  refine wa_goto (tgt := 93) C dX5_sisterLine_145 (by decide) ?_
  exact WA.sub (lsub_c rfl (lsub_c rfl (lsub_c rfl lsub_n))) (hk93 _ _ h)
set_option maxRecDepth 100000 in
set_option maxHeartbeats 4000000 in
theorem r_X5_sisterLine_35_L93 {p : Program} {l : Launch} {e : Env} {s : State} {m : MethodId} {args : Array Value} {below : List Frame} {meth : Method} {c : Code} {D : va_G} {cy : Nat → ClassId} {ad : Nat → Nat} (C : CX p s m args meth c cX5_sisterLine 3 RX5 (some .boolean) D cy ad (AD ad)) (a1 : Int32) {ρ : (Int32 × Mem)} : ∀ (n : Nat) (a2 : Int32) (μ : Mem), it2 (f_X5_sisterLine_35_L93 a1) n a2 μ = some ρ → WA p l e (rmD 6) s m args below meth c 3 D cy ad (AD ad) 0 0 (ZZ below args s D cy ad (AD ad) 0 0 (some (.int ρ.1)) ρ.2) μ [(0, .ref 35), (1, .int a1), (2, .int a2)] 93 [] := by
  intro n
  induction n with
  | zero =>
    intro a2 μ h
    exact absurd h (fun h => by cases h)
  | succ n ih =>
    intro a2 μ h
    replace h : f_X5_sisterLine_35_L93 a1 (it2 (f_X5_sisterLine_35_L93 a1) n) a2 μ = some ρ := h
    unfold f_X5_sisterLine_35_L93 at h
    refine wa_iload_n C dX5_sisterLine_93 rfl ?_
    refine wa_iconst (v := 2) C dX5_sisterLine_94 (by decide) ?_
    refine wa_iload_n C dX5_sisterLine_95 rfl ?_
    refine wa_imul C dX5_sisterLine_96 ?_
    refine wa_iconst (v := 1) C dX5_sisterLine_97 (by decide) ?_
    refine wa_iadd C dX5_sisterLine_98 ?_
    refine wa_icmp_gt (tgt := 148) C dX5_sisterLine_99 (by decide) (fun c6 => ?_) (fun c6 => ?_)
    · replace h := (if_pos c6).symm.trans h
      refine wa_aload_n C dX5_sisterLine_148 rfl ?_
      refine wa_getr C fl_RX5_31 rfl rfl (by decide) dX5_sisterLine_149 ?_
      refine wa_dup C dX5_sisterLine_152 rfl ?_
      refine wa_geti (x := (μ.1 37 0)) C fl_RX5_125 rfl rfl (by decide) rfl dX5_sisterLine_153 ?_
      refine wa_iconst (v := 1) C dX5_sisterLine_156 (by decide) ?_
      refine wa_iadd C dX5_sisterLine_157 ?_
      refine wa_puti C fl_RX5_125 fp_1_0 rfl rfl (by decide) rfl rfl dX5_sisterLine_158 ?_
      refine wa_iconst (v := 1) C dX5_sisterLine_161 (by decide) ?_
      obtain rfl := Option.some.inj h
      exact wa_zret C rfl dX5_sisterLine_162
    · replace h := (if_neg c6).symm.trans h
      refine wa_aload_n C dX5_sisterLine_102 rfl ?_
      refine wa_iconst (v := 0) C dX5_sisterLine_103 (by decide) ?_
      refine wa_bipush (v := 9) C dX5_sisterLine_104 (by decide) ?_
      obtain ⟨q7, hq7, h⟩ := bd h
      refine wa_callV C (r_X5_number_35 hq7) mk_X5_number mv_X5_number qw_337 rfl (by decide) rfl rfl ⟨Nat.le_of_ble_eq_true rfl, Nat.le_of_ble_eq_true rfl⟩ ⟨Nat.zero_le _, Nat.zero_le _⟩ (Nat.le_of_ble_eq_true rfl) dX5_sisterLine_106 rfl ?_
      refine wa_if_ne (tgt := 114) C dX5_sisterLine_109 (by decide) (fun c8 => ?_) (fun c8 => ?_)
      · replace h := (if_neg c8).symm.trans h
        refine wa_aload_n C dX5_sisterLine_114 rfl ?_
        refine wa_getr C fl_RX5_38 rfl rfl (by decide) dX5_sisterLine_115 ?_
        refine wa_getr C fl_RX5_141 rfl rfl (by decide) dX5_sisterLine_118 ?_
        refine wa_iload_n C dX5_sisterLine_121 rfl ?_
        refine wa_aload_n C dX5_sisterLine_122 rfl ?_
        refine wa_getr C fl_RX5_31 rfl rfl (by decide) dX5_sisterLine_123 ?_
        refine wa_iload_n C dX5_sisterLine_126 rfl ?_
        obtain ⟨q9, hq9, h⟩ := bd h
        refine wa_callV C (r_X1_isGlassEye_37 hq9) mk_X1_isGlassEye mv_X1_isGlassEye qw_341 rfl (by decide) rfl rfl ⟨Nat.le_of_ble_eq_true rfl, Nat.le_of_ble_eq_true rfl⟩ ⟨Nat.zero_le _, Nat.zero_le _⟩ (Nat.le_of_ble_eq_true rfl) dX5_sisterLine_127 rfl ?_
        refine wa_if_eq (tgt := 137) C dX5_sisterLine_130 (by decide) (fun c10 => ?_) (fun c10 => ?_)
        · replace h := (if_pos c10).symm.trans h
          refine wa_aload_n C dX5_sisterLine_137 rfl ?_
          refine wa_geti (x := (q9.2.1 35 9)) C fl_RX5_48 rfl rfl (by decide) rfl dX5_sisterLine_138 ?_
          exact WA.sub (lsub_c rfl (lsub_c rfl (lsub_c rfl lsub_n))) (r_X5_sisterLine_35_J141 C _ (fun _ _ h => ih _ _ h) h)
        · replace h := (if_neg c10).symm.trans h
          refine wa_iconst (v := 0) C dX5_sisterLine_133 (by decide) ?_
          refine wa_goto (tgt := 141) C dX5_sisterLine_134 (by decide) ?_
          exact WA.sub (lsub_c rfl (lsub_c rfl (lsub_c rfl lsub_n))) (r_X5_sisterLine_35_J141 C _ (fun _ _ h => ih _ _ h) h)
      · replace h := (if_pos c8).symm.trans h
        refine wa_iconst (v := 0) C dX5_sisterLine_112 (by decide) ?_
        obtain rfl := Option.some.inj h
        exact wa_zret C rfl dX5_sisterLine_113
set_option maxRecDepth 100000 in
set_option maxHeartbeats 4000000 in
theorem r_X5_sisterLine_35_L49 {p : Program} {l : Launch} {e : Env} {s : State} {m : MethodId} {args : Array Value} {below : List Frame} {meth : Method} {c : Code} {D : va_G} {cy : Nat → ClassId} {ad : Nat → Nat} (C : CX p s m args meth c cX5_sisterLine 3 RX5 (some .boolean) D cy ad (AD ad)) (a1 : Int32) {ρ : (Int32 × Mem)} : ∀ (n : Nat) (a2 : Int32) (μ : Mem), it2 (f_X5_sisterLine_35_L49 a1) n a2 μ = some ρ → WA p l e (rmD 6) s m args below meth c 3 D cy ad (AD ad) 0 0 (ZZ below args s D cy ad (AD ad) 0 0 (some (.int ρ.1)) ρ.2) μ [(0, .ref 35), (1, .int a1), (2, .int a2)] 49 [] := by
  intro n
  induction n with
  | zero =>
    intro a2 μ h
    exact absurd h (fun h => by cases h)
  | succ n ih =>
    intro a2 μ h
    replace h : f_X5_sisterLine_35_L49 a1 (it2 (f_X5_sisterLine_35_L49 a1) n) a2 μ = some ρ := h
    unfold f_X5_sisterLine_35_L49 at h
    refine wa_iload_n C dX5_sisterLine_49 rfl ?_
    refine wa_iconst (v := 2) C dX5_sisterLine_50 (by decide) ?_
    refine wa_iload_n C dX5_sisterLine_51 rfl ?_
    refine wa_imul C dX5_sisterLine_52 ?_
    refine wa_iconst (v := 1) C dX5_sisterLine_53 (by decide) ?_
    refine wa_iadd C dX5_sisterLine_54 ?_
    refine wa_icmp_gt (tgt := 89) C dX5_sisterLine_55 (by decide) (fun c5 => ?_) (fun c5 => ?_)
    · replace h := (if_pos c5).symm.trans h
      refine wa_iconst (v := 2) C dX5_sisterLine_89 (by decide) ?_
      refine wa_iload_n C dX5_sisterLine_90 rfl ?_
      refine wa_imul C dX5_sisterLine_91 ?_
      refine wa_istore_n C dX5_sisterLine_92 (by decide) ?_
      exact WA.sub (lsub_c rfl (lsub_c rfl (lsub_c rfl lsub_n))) (r_X5_sisterLine_35_L93 C _ _ _ _ h)
    · replace h := (if_neg c5).symm.trans h
      refine wa_aload_n C dX5_sisterLine_58 rfl ?_
      refine wa_iconst (v := 0) C dX5_sisterLine_59 (by decide) ?_
      refine wa_bipush (v := 15) C dX5_sisterLine_60 (by decide) ?_
      obtain ⟨q12, hq12, h⟩ := bd h
      refine wa_callV C (r_X5_number_35 hq12) mk_X5_number mv_X5_number qw_337 rfl (by decide) rfl rfl ⟨Nat.le_of_ble_eq_true rfl, Nat.le_of_ble_eq_true rfl⟩ ⟨Nat.zero_le _, Nat.zero_le _⟩ (Nat.le_of_ble_eq_true rfl) dX5_sisterLine_62 rfl ?_
      refine wa_if_ne (tgt := 70) C dX5_sisterLine_65 (by decide) (fun c13 => ?_) (fun c13 => ?_)
      · replace h := (if_neg c13).symm.trans h
        refine wa_aload_n C dX5_sisterLine_70 rfl ?_
        refine wa_getr C fl_RX5_31 rfl rfl (by decide) dX5_sisterLine_71 ?_
        refine wa_getr C fl_RX5_138 rfl rfl (by decide) dX5_sisterLine_74 ?_
        refine wa_iload_n C dX5_sisterLine_77 rfl ?_
        refine wa_aload_n C dX5_sisterLine_78 rfl ?_
        refine wa_geti (x := (q12.2.1 35 9)) C fl_RX5_48 rfl rfl (by decide) rfl dX5_sisterLine_79 ?_
        obtain ⟨g14, h⟩ := gd h
        refine wa_iast (j := (a2.toNatClampNeg)) C rfl (by decide) g14 rfl dX5_sisterLine_82 ?_
        refine wa_iinc (v := (a2 + 1)) C dX5_sisterLine_83 rfl rfl (by decide) ?_
        refine wa_goto (tgt := 49) C dX5_sisterLine_86 (by decide) ?_
        exact WA.sub (lsub_c rfl (lsub_c rfl (lsub_c rfl lsub_n))) (ih _ _ h)
      · replace h := (if_pos c13).symm.trans h
        refine wa_iconst (v := 0) C dX5_sisterLine_68 (by decide) ?_
        obtain rfl := Option.some.inj h
        exact wa_zret C rfl dX5_sisterLine_69
set_option maxRecDepth 100000 in
set_option maxHeartbeats 4000000 in
theorem r_X5_sisterLine_35 {μ : Mem} {ρ : (Int32 × Mem)} (h : f_X5_sisterLine_35 μ = some ρ) : HT 6 yX5_sisterLine cX5_sisterLine 3 (some .boolean) [.ref 35] μ (some (.int ρ.1)) ρ.2 := by
  refine HT.of (by decide +kernel) (Nat.le_of_ble_eq_true rfl) (fun C => ?_)
  unfold f_X5_sisterLine_35 at h
  refine wa_aload_n C dX5_sisterLine_0 rfl ?_
  refine wa_getr C fl_RX5_31 rfl rfl (by decide) dX5_sisterLine_1 ?_
  refine wa_geti (x := (μ.1 37 0)) C fl_RX5_125 rfl rfl (by decide) rfl dX5_sisterLine_4 ?_
  refine wa_istore_n C dX5_sisterLine_7 (by decide) ?_
  refine wa_iload_n C dX5_sisterLine_8 rfl ?_
  refine wa_iconst (v := 3) C dX5_sisterLine_9 (by decide) ?_
  refine wa_icmp_lt (tgt := 23) C dX5_sisterLine_10 (by decide) (fun c1 => ?_) (fun c1 => ?_)
  · replace h := (if_pos c1).symm.trans h
    refine wa_aload_n C dX5_sisterLine_23 rfl ?_
    obtain ⟨q2, hq2, h⟩ := bd h
    refine wa_callV C (r_X5_kindName_35 hq2) mk_X5_kindName mv_X5_kindName qw_333 rfl (by decide) rfl rfl ⟨Nat.le_of_ble_eq_true rfl, Nat.le_of_ble_eq_true rfl⟩ ⟨Nat.zero_le _, Nat.zero_le _⟩ (Nat.le_of_ble_eq_true rfl) dX5_sisterLine_24 rfl ?_
    refine wa_if_ne (tgt := 32) C dX5_sisterLine_27 (by decide) (fun c3 => ?_) (fun c3 => ?_)
    · replace h := (if_neg c3).symm.trans h
      refine wa_aload_n C dX5_sisterLine_32 rfl ?_
      refine wa_getr C fl_RX5_31 rfl rfl (by decide) dX5_sisterLine_33 ?_
      refine wa_getr C fl_RX5_131 rfl rfl (by decide) dX5_sisterLine_36 ?_
      refine wa_iload_n C dX5_sisterLine_39 rfl ?_
      refine wa_aload_n C dX5_sisterLine_40 rfl ?_
      refine wa_geti (x := (q2.2.1 35 9)) C fl_RX5_48 rfl rfl (by decide) rfl dX5_sisterLine_41 ?_
      obtain ⟨g4, h⟩ := gd h
      refine wa_iast (j := ((μ.1 37 0).toNatClampNeg)) C rfl (by decide) g4 rfl dX5_sisterLine_44 ?_
      refine wa_iconst (v := 2) C dX5_sisterLine_45 (by decide) ?_
      refine wa_iload_n C dX5_sisterLine_46 rfl ?_
      refine wa_imul C dX5_sisterLine_47 ?_
      refine wa_istore_n C dX5_sisterLine_48 (by decide) ?_
      exact WA.sub (lsub_c rfl (lsub_c rfl (lsub_c rfl lsub_n))) (r_X5_sisterLine_35_L49 C _ _ _ _ h)
    · replace h := (if_pos c3).symm.trans h
      refine wa_iconst (v := 0) C dX5_sisterLine_30 (by decide) ?_
      obtain rfl := Option.some.inj h
      exact wa_zret C rfl dX5_sisterLine_31
  · replace h := (if_neg c1).symm.trans h
    refine wa_aload_n C dX5_sisterLine_13 rfl ?_
    refine wa_iconst (v := 5) C dX5_sisterLine_14 (by decide) ?_
    refine wa_aload_n C dX5_sisterLine_15 rfl ?_
    refine wa_geti (x := (μ.1 35 8)) C fl_RX5_45 rfl rfl (by decide) rfl dX5_sisterLine_16 ?_
    obtain ⟨q15, hq15, h⟩ := bd h
    refine wa_callV C (r_X5_refuse_35 hq15) mk_X5_refuse mv_X5_refuse qw_249 rfl (by decide) rfl rfl ⟨Nat.le_of_ble_eq_true rfl, Nat.le_of_ble_eq_true rfl⟩ ⟨Nat.zero_le _, Nat.zero_le _⟩ (Nat.le_of_ble_eq_true rfl) dX5_sisterLine_19 rfl ?_
    obtain ⟨g16, h⟩ := gd h
    obtain rfl := Option.some.inj h
    exact wa_zret C g16 dX5_sisterLine_22
def f_X5_line_35 (μ : Mem) : Option (Int32 × Mem) :=
  if (μ.1 35 7) = (1 : Int32) then
    (f_X5_isName_35_82 μ).bind fun q2 =>
    if q2.1 = 0 then
      (f_X5_isName_35_83 q2.2).bind fun q4 =>
      if q4.1 = 0 then
        (f_X5_isName_35_84 q4.2).bind fun q6 =>
        if q6.1 = 0 then
          (f_X5_isName_35_85 q6.2).bind fun q8 =>
          if q8.1 = 0 then
            (f_X5_isName_35_86 q8.2).bind fun q10 =>
            if q10.1 = 0 then
              (f_X5_isName_35_87 q10.2).bind fun q12 =>
              if q12.1 = 0 then
                (f_X5_refuse_35 (2 : Int32) (q12.2.1 35 8) q12.2).bind fun q14 =>
                if zb q14.1 = false then none else
                some (q14.1, q14.2)
              else
                (f_X5_bedLine_35 q12.2).bind fun q16 =>
                if q16.1 = 0 then
                  some ((0 : Int32), q16.2)
                else
                  (f_X5_sign_35 q16.2).bind fun q18 =>
                  if q18.1 = 0 then
                    some ((0 : Int32), q18.2)
                  else
                    some ((1 : Int32), q18.2)
            else
              (f_X5_watchLine_35 q10.2).bind fun q20 =>
              if q20.1 = 0 then
                some ((0 : Int32), q20.2)
              else
                (f_X5_sign_35 q20.2).bind fun q22 =>
                if q22.1 = 0 then
                  some ((0 : Int32), q22.2)
                else
                  some ((1 : Int32), q22.2)
          else
            (f_X5_stormLine_35 q8.2).bind fun q24 =>
            if q24.1 = 0 then
              some ((0 : Int32), q24.2)
            else
              (f_X5_sign_35 q24.2).bind fun q26 =>
              if q26.1 = 0 then
                some ((0 : Int32), q26.2)
              else
                some ((1 : Int32), q26.2)
        else
          (f_X5_needLine_35 q6.2).bind fun q28 =>
          if q28.1 = 0 then
            some ((0 : Int32), q28.2)
          else
            (f_X5_sign_35 q28.2).bind fun q30 =>
            if q30.1 = 0 then
              some ((0 : Int32), q30.2)
            else
              some ((1 : Int32), q30.2)
      else
        (f_X5_quartersLine_35 q4.2).bind fun q32 =>
        if q32.1 = 0 then
          some ((0 : Int32), q32.2)
        else
          (f_X5_sign_35 q32.2).bind fun q34 =>
          if q34.1 = 0 then
            some ((0 : Int32), q34.2)
          else
            some ((1 : Int32), q34.2)
    else
      (f_X5_sisterLine_35 q2.2).bind fun q36 =>
      if q36.1 = 0 then
        some ((0 : Int32), q36.2)
      else
        (f_X5_sign_35 q36.2).bind fun q38 =>
        if q38.1 = 0 then
          some ((0 : Int32), q38.2)
        else
          some ((1 : Int32), q38.2)
  else
    (f_X5_refuse_35 (2 : Int32) (μ.1 35 8) μ).bind fun q40 =>
    if zb q40.1 = false then none else
    some (q40.1, q40.2)
set_option maxRecDepth 100000 in
set_option maxHeartbeats 4000000 in
theorem r_X5_line_35 {μ : Mem} {ρ : (Int32 × Mem)} (h : f_X5_line_35 μ = some ρ) : HT 7 yX5_line cX5_line 1 (some .boolean) [.ref 35] μ (some (.int ρ.1)) ρ.2 := by
  refine HT.of (by decide +kernel) (Nat.le_of_ble_eq_true rfl) (fun C => ?_)
  unfold f_X5_line_35 at h
  refine wa_aload_n C dX5_line_0 rfl ?_
  refine wa_geti (x := (μ.1 35 7)) C fl_RX5_42 rfl rfl (by decide) rfl dX5_line_1 ?_
  refine wa_iconst (v := 1) C dX5_line_4 (by decide) ?_
  refine wa_icmp_eq (tgt := 18) C dX5_line_5 (by decide) (fun c1 => ?_) (fun c1 => ?_)
  · replace h := (if_pos c1).symm.trans h
    refine wa_aload_n C dX5_line_18 rfl ?_
    refine wa_ldcS (i := 0) C (by decide) rfl dX5_line_19 ?_
    obtain ⟨q2, hq2, h⟩ := bd h
    refine wa_callV C (r_X5_isName_35_82 hq2) mk_X5_isName mv_X5_isName qw_273 rfl (by decide) rfl rfl ⟨Nat.le_of_ble_eq_true rfl, Nat.le_of_ble_eq_true rfl⟩ ⟨Nat.zero_le _, Nat.zero_le _⟩ (Nat.le_of_ble_eq_true rfl) dX5_line_21 rfl ?_
    refine wa_if_eq (tgt := 47) C dX5_line_24 (by decide) (fun c3 => ?_) (fun c3 => ?_)
    · replace h := (if_pos c3).symm.trans h
      refine wa_aload_n C dX5_line_47 rfl ?_
      refine wa_ldcS (i := 1) C (by decide) rfl dX5_line_48 ?_
      obtain ⟨q4, hq4, h⟩ := bd h
      refine wa_callV C (r_X5_isName_35_83 hq4) mk_X5_isName mv_X5_isName qw_273 rfl (by decide) rfl rfl ⟨Nat.le_of_ble_eq_true rfl, Nat.le_of_ble_eq_true rfl⟩ ⟨Nat.zero_le _, Nat.zero_le _⟩ (Nat.le_of_ble_eq_true rfl) dX5_line_50 rfl ?_
      refine wa_if_eq (tgt := 76) C dX5_line_53 (by decide) (fun c5 => ?_) (fun c5 => ?_)
      · replace h := (if_pos c5).symm.trans h
        refine wa_aload_n C dX5_line_76 rfl ?_
        refine wa_ldcS (i := 2) C (by decide) rfl dX5_line_77 ?_
        obtain ⟨q6, hq6, h⟩ := bd h
        refine wa_callV C (r_X5_isName_35_84 hq6) mk_X5_isName mv_X5_isName qw_273 rfl (by decide) rfl rfl ⟨Nat.le_of_ble_eq_true rfl, Nat.le_of_ble_eq_true rfl⟩ ⟨Nat.zero_le _, Nat.zero_le _⟩ (Nat.le_of_ble_eq_true rfl) dX5_line_79 rfl ?_
        refine wa_if_eq (tgt := 105) C dX5_line_82 (by decide) (fun c7 => ?_) (fun c7 => ?_)
        · replace h := (if_pos c7).symm.trans h
          refine wa_aload_n C dX5_line_105 rfl ?_
          refine wa_ldcS (i := 3) C (by decide) rfl dX5_line_106 ?_
          obtain ⟨q8, hq8, h⟩ := bd h
          refine wa_callV C (r_X5_isName_35_85 hq8) mk_X5_isName mv_X5_isName qw_273 rfl (by decide) rfl rfl ⟨Nat.le_of_ble_eq_true rfl, Nat.le_of_ble_eq_true rfl⟩ ⟨Nat.zero_le _, Nat.zero_le _⟩ (Nat.le_of_ble_eq_true rfl) dX5_line_108 rfl ?_
          refine wa_if_eq (tgt := 134) C dX5_line_111 (by decide) (fun c9 => ?_) (fun c9 => ?_)
          · replace h := (if_pos c9).symm.trans h
            refine wa_aload_n C dX5_line_134 rfl ?_
            refine wa_ldcS (i := 4) C (by decide) rfl dX5_line_135 ?_
            obtain ⟨q10, hq10, h⟩ := bd h
            refine wa_callV C (r_X5_isName_35_86 hq10) mk_X5_isName mv_X5_isName qw_273 rfl (by decide) rfl rfl ⟨Nat.le_of_ble_eq_true rfl, Nat.le_of_ble_eq_true rfl⟩ ⟨Nat.zero_le _, Nat.zero_le _⟩ (Nat.le_of_ble_eq_true rfl) dX5_line_137 rfl ?_
            refine wa_if_eq (tgt := 163) C dX5_line_140 (by decide) (fun c11 => ?_) (fun c11 => ?_)
            · replace h := (if_pos c11).symm.trans h
              refine wa_aload_n C dX5_line_163 rfl ?_
              refine wa_ldcS (i := 5) C (by decide) rfl dX5_line_164 ?_
              obtain ⟨q12, hq12, h⟩ := bd h
              refine wa_callV C (r_X5_isName_35_87 hq12) mk_X5_isName mv_X5_isName qw_273 rfl (by decide) rfl rfl ⟨Nat.le_of_ble_eq_true rfl, Nat.le_of_ble_eq_true rfl⟩ ⟨Nat.zero_le _, Nat.zero_le _⟩ (Nat.le_of_ble_eq_true rfl) dX5_line_166 rfl ?_
              refine wa_if_eq (tgt := 192) C dX5_line_169 (by decide) (fun c13 => ?_) (fun c13 => ?_)
              · replace h := (if_pos c13).symm.trans h
                refine wa_aload_n C dX5_line_192 rfl ?_
                refine wa_iconst (v := 2) C dX5_line_193 (by decide) ?_
                refine wa_aload_n C dX5_line_194 rfl ?_
                refine wa_geti (x := (q12.2.1 35 8)) C fl_RX5_45 rfl rfl (by decide) rfl dX5_line_195 ?_
                obtain ⟨q14, hq14, h⟩ := bd h
                refine wa_callV C (r_X5_refuse_35 hq14) mk_X5_refuse mv_X5_refuse qw_249 rfl (by decide) rfl rfl ⟨Nat.le_of_ble_eq_true rfl, Nat.le_of_ble_eq_true rfl⟩ ⟨Nat.zero_le _, Nat.zero_le _⟩ (Nat.le_of_ble_eq_true rfl) dX5_line_198 rfl ?_
                obtain ⟨g15, h⟩ := gd h
                obtain rfl := Option.some.inj h
                exact wa_zret C g15 dX5_line_201
              · replace h := (if_neg c13).symm.trans h
                refine wa_aload_n C dX5_line_172 rfl ?_
                obtain ⟨q16, hq16, h⟩ := bd h
                refine wa_callV C (r_X5_bedLine_35 hq16) mk_X5_bedLine mv_X5_bedLine qw_366 rfl (by decide) rfl rfl ⟨Nat.le_of_ble_eq_true rfl, Nat.le_of_ble_eq_true rfl⟩ ⟨Nat.zero_le _, Nat.zero_le _⟩ (Nat.le_of_ble_eq_true rfl) dX5_line_173 rfl ?_
                refine wa_if_eq (tgt := 190) C dX5_line_176 (by decide) (fun c17 => ?_) (fun c17 => ?_)
                · replace h := (if_pos c17).symm.trans h
                  refine wa_iconst (v := 0) C dX5_line_190 (by decide) ?_
                  obtain rfl := Option.some.inj h
                  exact wa_zret C rfl dX5_line_191
                · replace h := (if_neg c17).symm.trans h
                  refine wa_aload_n C dX5_line_179 rfl ?_
                  obtain ⟨q18, hq18, h⟩ := bd h
                  refine wa_callV C (r_X5_sign_35 hq18) mk_X5_sign mv_X5_sign qw_345 rfl (by decide) rfl rfl ⟨Nat.le_of_ble_eq_true rfl, Nat.le_of_ble_eq_true rfl⟩ ⟨Nat.zero_le _, Nat.zero_le _⟩ (Nat.le_of_ble_eq_true rfl) dX5_line_180 rfl ?_
                  refine wa_if_eq (tgt := 190) C dX5_line_183 (by decide) (fun c19 => ?_) (fun c19 => ?_)
                  · replace h := (if_pos c19).symm.trans h
                    refine wa_iconst (v := 0) C dX5_line_190 (by decide) ?_
                    obtain rfl := Option.some.inj h
                    exact wa_zret C rfl dX5_line_191
                  · replace h := (if_neg c19).symm.trans h
                    refine wa_iconst (v := 1) C dX5_line_186 (by decide) ?_
                    refine wa_goto (tgt := 191) C dX5_line_187 (by decide) ?_
                    obtain rfl := Option.some.inj h
                    exact wa_zret C rfl dX5_line_191
            · replace h := (if_neg c11).symm.trans h
              refine wa_aload_n C dX5_line_143 rfl ?_
              obtain ⟨q20, hq20, h⟩ := bd h
              refine wa_callV C (r_X5_watchLine_35 hq20) mk_X5_watchLine mv_X5_watchLine qw_362 rfl (by decide) rfl rfl ⟨Nat.le_of_ble_eq_true rfl, Nat.le_of_ble_eq_true rfl⟩ ⟨Nat.zero_le _, Nat.zero_le _⟩ (Nat.le_of_ble_eq_true rfl) dX5_line_144 rfl ?_
              refine wa_if_eq (tgt := 161) C dX5_line_147 (by decide) (fun c21 => ?_) (fun c21 => ?_)
              · replace h := (if_pos c21).symm.trans h
                refine wa_iconst (v := 0) C dX5_line_161 (by decide) ?_
                obtain rfl := Option.some.inj h
                exact wa_zret C rfl dX5_line_162
              · replace h := (if_neg c21).symm.trans h
                refine wa_aload_n C dX5_line_150 rfl ?_
                obtain ⟨q22, hq22, h⟩ := bd h
                refine wa_callV C (r_X5_sign_35 hq22) mk_X5_sign mv_X5_sign qw_345 rfl (by decide) rfl rfl ⟨Nat.le_of_ble_eq_true rfl, Nat.le_of_ble_eq_true rfl⟩ ⟨Nat.zero_le _, Nat.zero_le _⟩ (Nat.le_of_ble_eq_true rfl) dX5_line_151 rfl ?_
                refine wa_if_eq (tgt := 161) C dX5_line_154 (by decide) (fun c23 => ?_) (fun c23 => ?_)
                · replace h := (if_pos c23).symm.trans h
                  refine wa_iconst (v := 0) C dX5_line_161 (by decide) ?_
                  obtain rfl := Option.some.inj h
                  exact wa_zret C rfl dX5_line_162
                · replace h := (if_neg c23).symm.trans h
                  refine wa_iconst (v := 1) C dX5_line_157 (by decide) ?_
                  refine wa_goto (tgt := 162) C dX5_line_158 (by decide) ?_
                  obtain rfl := Option.some.inj h
                  exact wa_zret C rfl dX5_line_162
          · replace h := (if_neg c9).symm.trans h
            refine wa_aload_n C dX5_line_114 rfl ?_
            obtain ⟨q24, hq24, h⟩ := bd h
            refine wa_callV C (r_X5_stormLine_35 hq24) mk_X5_stormLine mv_X5_stormLine qw_358 rfl (by decide) rfl rfl ⟨Nat.le_of_ble_eq_true rfl, Nat.le_of_ble_eq_true rfl⟩ ⟨Nat.zero_le _, Nat.zero_le _⟩ (Nat.le_of_ble_eq_true rfl) dX5_line_115 rfl ?_
            refine wa_if_eq (tgt := 132) C dX5_line_118 (by decide) (fun c25 => ?_) (fun c25 => ?_)
            · replace h := (if_pos c25).symm.trans h
              refine wa_iconst (v := 0) C dX5_line_132 (by decide) ?_
              obtain rfl := Option.some.inj h
              exact wa_zret C rfl dX5_line_133
            · replace h := (if_neg c25).symm.trans h
              refine wa_aload_n C dX5_line_121 rfl ?_
              obtain ⟨q26, hq26, h⟩ := bd h
              refine wa_callV C (r_X5_sign_35 hq26) mk_X5_sign mv_X5_sign qw_345 rfl (by decide) rfl rfl ⟨Nat.le_of_ble_eq_true rfl, Nat.le_of_ble_eq_true rfl⟩ ⟨Nat.zero_le _, Nat.zero_le _⟩ (Nat.le_of_ble_eq_true rfl) dX5_line_122 rfl ?_
              refine wa_if_eq (tgt := 132) C dX5_line_125 (by decide) (fun c27 => ?_) (fun c27 => ?_)
              · replace h := (if_pos c27).symm.trans h
                refine wa_iconst (v := 0) C dX5_line_132 (by decide) ?_
                obtain rfl := Option.some.inj h
                exact wa_zret C rfl dX5_line_133
              · replace h := (if_neg c27).symm.trans h
                refine wa_iconst (v := 1) C dX5_line_128 (by decide) ?_
                refine wa_goto (tgt := 133) C dX5_line_129 (by decide) ?_
                obtain rfl := Option.some.inj h
                exact wa_zret C rfl dX5_line_133
        · replace h := (if_neg c7).symm.trans h
          refine wa_aload_n C dX5_line_85 rfl ?_
          obtain ⟨q28, hq28, h⟩ := bd h
          refine wa_callV C (r_X5_needLine_35 hq28) mk_X5_needLine mv_X5_needLine qw_353 rfl (by decide) rfl rfl ⟨Nat.le_of_ble_eq_true rfl, Nat.le_of_ble_eq_true rfl⟩ ⟨Nat.zero_le _, Nat.zero_le _⟩ (Nat.le_of_ble_eq_true rfl) dX5_line_86 rfl ?_
          refine wa_if_eq (tgt := 103) C dX5_line_89 (by decide) (fun c29 => ?_) (fun c29 => ?_)
          · replace h := (if_pos c29).symm.trans h
            refine wa_iconst (v := 0) C dX5_line_103 (by decide) ?_
            obtain rfl := Option.some.inj h
            exact wa_zret C rfl dX5_line_104
          · replace h := (if_neg c29).symm.trans h
            refine wa_aload_n C dX5_line_92 rfl ?_
            obtain ⟨q30, hq30, h⟩ := bd h
            refine wa_callV C (r_X5_sign_35 hq30) mk_X5_sign mv_X5_sign qw_345 rfl (by decide) rfl rfl ⟨Nat.le_of_ble_eq_true rfl, Nat.le_of_ble_eq_true rfl⟩ ⟨Nat.zero_le _, Nat.zero_le _⟩ (Nat.le_of_ble_eq_true rfl) dX5_line_93 rfl ?_
            refine wa_if_eq (tgt := 103) C dX5_line_96 (by decide) (fun c31 => ?_) (fun c31 => ?_)
            · replace h := (if_pos c31).symm.trans h
              refine wa_iconst (v := 0) C dX5_line_103 (by decide) ?_
              obtain rfl := Option.some.inj h
              exact wa_zret C rfl dX5_line_104
            · replace h := (if_neg c31).symm.trans h
              refine wa_iconst (v := 1) C dX5_line_99 (by decide) ?_
              refine wa_goto (tgt := 104) C dX5_line_100 (by decide) ?_
              obtain rfl := Option.some.inj h
              exact wa_zret C rfl dX5_line_104
      · replace h := (if_neg c5).symm.trans h
        refine wa_aload_n C dX5_line_56 rfl ?_
        obtain ⟨q32, hq32, h⟩ := bd h
        refine wa_callV C (r_X5_quartersLine_35 hq32) mk_X5_quartersLine mv_X5_quartersLine qw_349 rfl (by decide) rfl rfl ⟨Nat.le_of_ble_eq_true rfl, Nat.le_of_ble_eq_true rfl⟩ ⟨Nat.zero_le _, Nat.zero_le _⟩ (Nat.le_of_ble_eq_true rfl) dX5_line_57 rfl ?_
        refine wa_if_eq (tgt := 74) C dX5_line_60 (by decide) (fun c33 => ?_) (fun c33 => ?_)
        · replace h := (if_pos c33).symm.trans h
          refine wa_iconst (v := 0) C dX5_line_74 (by decide) ?_
          obtain rfl := Option.some.inj h
          exact wa_zret C rfl dX5_line_75
        · replace h := (if_neg c33).symm.trans h
          refine wa_aload_n C dX5_line_63 rfl ?_
          obtain ⟨q34, hq34, h⟩ := bd h
          refine wa_callV C (r_X5_sign_35 hq34) mk_X5_sign mv_X5_sign qw_345 rfl (by decide) rfl rfl ⟨Nat.le_of_ble_eq_true rfl, Nat.le_of_ble_eq_true rfl⟩ ⟨Nat.zero_le _, Nat.zero_le _⟩ (Nat.le_of_ble_eq_true rfl) dX5_line_64 rfl ?_
          refine wa_if_eq (tgt := 74) C dX5_line_67 (by decide) (fun c35 => ?_) (fun c35 => ?_)
          · replace h := (if_pos c35).symm.trans h
            refine wa_iconst (v := 0) C dX5_line_74 (by decide) ?_
            obtain rfl := Option.some.inj h
            exact wa_zret C rfl dX5_line_75
          · replace h := (if_neg c35).symm.trans h
            refine wa_iconst (v := 1) C dX5_line_70 (by decide) ?_
            refine wa_goto (tgt := 75) C dX5_line_71 (by decide) ?_
            obtain rfl := Option.some.inj h
            exact wa_zret C rfl dX5_line_75
    · replace h := (if_neg c3).symm.trans h
      refine wa_aload_n C dX5_line_27 rfl ?_
      obtain ⟨q36, hq36, h⟩ := bd h
      refine wa_callV C (r_X5_sisterLine_35 hq36) mk_X5_sisterLine mv_X5_sisterLine qw_326 rfl (by decide) rfl rfl ⟨Nat.le_of_ble_eq_true rfl, Nat.le_of_ble_eq_true rfl⟩ ⟨Nat.zero_le _, Nat.zero_le _⟩ (Nat.le_of_ble_eq_true rfl) dX5_line_28 rfl ?_
      refine wa_if_eq (tgt := 45) C dX5_line_31 (by decide) (fun c37 => ?_) (fun c37 => ?_)
      · replace h := (if_pos c37).symm.trans h
        refine wa_iconst (v := 0) C dX5_line_45 (by decide) ?_
        obtain rfl := Option.some.inj h
        exact wa_zret C rfl dX5_line_46
      · replace h := (if_neg c37).symm.trans h
        refine wa_aload_n C dX5_line_34 rfl ?_
        obtain ⟨q38, hq38, h⟩ := bd h
        refine wa_callV C (r_X5_sign_35 hq38) mk_X5_sign mv_X5_sign qw_345 rfl (by decide) rfl rfl ⟨Nat.le_of_ble_eq_true rfl, Nat.le_of_ble_eq_true rfl⟩ ⟨Nat.zero_le _, Nat.zero_le _⟩ (Nat.le_of_ble_eq_true rfl) dX5_line_35 rfl ?_
        refine wa_if_eq (tgt := 45) C dX5_line_38 (by decide) (fun c39 => ?_) (fun c39 => ?_)
        · replace h := (if_pos c39).symm.trans h
          refine wa_iconst (v := 0) C dX5_line_45 (by decide) ?_
          obtain rfl := Option.some.inj h
          exact wa_zret C rfl dX5_line_46
        · replace h := (if_neg c39).symm.trans h
          refine wa_iconst (v := 1) C dX5_line_41 (by decide) ?_
          refine wa_goto (tgt := 46) C dX5_line_42 (by decide) ?_
          obtain rfl := Option.some.inj h
          exact wa_zret C rfl dX5_line_46
  · replace h := (if_neg c1).symm.trans h
    refine wa_aload_n C dX5_line_8 rfl ?_
    refine wa_iconst (v := 2) C dX5_line_9 (by decide) ?_
    refine wa_aload_n C dX5_line_10 rfl ?_
    refine wa_geti (x := (μ.1 35 8)) C fl_RX5_45 rfl rfl (by decide) rfl dX5_line_11 ?_
    obtain ⟨q40, hq40, h⟩ := bd h
    refine wa_callV C (r_X5_refuse_35 hq40) mk_X5_refuse mv_X5_refuse qw_249 rfl (by decide) rfl rfl ⟨Nat.le_of_ble_eq_true rfl, Nat.le_of_ble_eq_true rfl⟩ ⟨Nat.zero_le _, Nat.zero_le _⟩ (Nat.le_of_ble_eq_true rfl) dX5_line_14 rfl ?_
    obtain ⟨g41, h⟩ := gd h
    obtain rfl := Option.some.inj h
    exact wa_zret C g41 dX5_line_17
def f_X5_readAll_35_L6 (k6 : Int32 → Mem → Option (Int32 × Mem)) (a1 : Int32) (μ : Mem) : Option (Int32 × Mem) :=
    if (320 : Int32) < a1 then
      some ((0 : Int32), μ)
    else
      (f_X5_next_35 μ).bind fun q3 =>
      if q3.1 = 0 then
        some ((0 : Int32), q3.2)
      else
        if (q3.2.1 35 7) = 0 then
          (f_X5_agrees_35 q3.2).bind fun q6 =>
          if zb q6.1 = false then none else
          some (q6.1, q6.2)
        else
          (f_X5_line_35 q3.2).bind fun q8 =>
          if q8.1 = 0 then
            some ((0 : Int32), q8.2)
          else
            k6 (a1 + 1) (pI q8.2 35 4 ((q8.2.1 35 4) + (1 : Int32)))
def f_X5_readAll_35 (μ : Mem) : Option (Int32 × Mem) :=
  (f_X5_begin_35 μ).bind fun q1 =>
  it2 (f_X5_readAll_35_L6) FU (0 : Int32) q1
set_option maxRecDepth 100000 in
set_option maxHeartbeats 4000000 in
theorem r_X5_readAll_35_L6 {p : Program} {l : Launch} {e : Env} {s : State} {m : MethodId} {args : Array Value} {below : List Frame} {meth : Method} {c : Code} {D : va_G} {cy : Nat → ClassId} {ad : Nat → Nat} (C : CX p s m args meth c cX5_readAll 2 RX5 (some .boolean) D cy ad (AD ad)) {ρ : (Int32 × Mem)} : ∀ (n : Nat) (a1 : Int32) (μ : Mem), it2 (f_X5_readAll_35_L6) n a1 μ = some ρ → WA p l e (rmD 8) s m args below meth c 2 D cy ad (AD ad) 0 0 (ZZ below args s D cy ad (AD ad) 0 0 (some (.int ρ.1)) ρ.2) μ [(0, .ref 35), (1, .int a1)] 6 [] := by
  intro n
  induction n with
  | zero =>
    intro a1 μ h
    exact absurd h (fun h => by cases h)
  | succ n ih =>
    intro a1 μ h
    replace h : f_X5_readAll_35_L6 (it2 (f_X5_readAll_35_L6) n) a1 μ = some ρ := h
    unfold f_X5_readAll_35_L6 at h
    refine wa_iload_n C dX5_readAll_6 rfl ?_
    refine wa_sipush (v := 320) C dX5_readAll_7 (by decide) ?_
    refine wa_icmp_gt (tgt := 59) C dX5_readAll_10 (by decide) (fun c2 => ?_) (fun c2 => ?_)
    · replace h := (if_pos c2).symm.trans h
      refine wa_iconst (v := 0) C dX5_readAll_59 (by decide) ?_
      obtain rfl := Option.some.inj h
      exact wa_zret C rfl dX5_readAll_60
    · replace h := (if_neg c2).symm.trans h
      refine wa_aload_n C dX5_readAll_13 rfl ?_
      obtain ⟨q3, hq3, h⟩ := bd h
      refine wa_callV C (r_X5_next_35 hq3) mk_X5_next mv_X5_next qw_231 rfl (by decide) rfl rfl ⟨Nat.le_of_ble_eq_true rfl, Nat.le_of_ble_eq_true rfl⟩ ⟨Nat.zero_le _, Nat.zero_le _⟩ (Nat.le_of_ble_eq_true rfl) dX5_readAll_14 rfl ?_
      refine wa_if_ne (tgt := 22) C dX5_readAll_17 (by decide) (fun c4 => ?_) (fun c4 => ?_)
      · replace h := (if_neg c4).symm.trans h
        refine wa_aload_n C dX5_readAll_22 rfl ?_
        refine wa_geti (x := (q3.2.1 35 7)) C fl_RX5_42 rfl rfl (by decide) rfl dX5_readAll_23 ?_
        refine wa_if_ne (tgt := 34) C dX5_readAll_26 (by decide) (fun c5 => ?_) (fun c5 => ?_)
        · replace h := (if_neg c5).symm.trans h
          refine wa_aload_n C dX5_readAll_34 rfl ?_
          obtain ⟨q8, hq8, h⟩ := bd h
          refine wa_callV C (r_X5_line_35 hq8) mk_X5_line mv_X5_line qw_269 rfl (by decide) rfl rfl ⟨Nat.le_of_ble_eq_true rfl, Nat.le_of_ble_eq_true rfl⟩ ⟨Nat.zero_le _, Nat.zero_le _⟩ (Nat.le_of_ble_eq_true rfl) dX5_readAll_35 rfl ?_
          refine wa_if_ne (tgt := 43) C dX5_readAll_38 (by decide) (fun c9 => ?_) (fun c9 => ?_)
          · replace h := (if_neg c9).symm.trans h
            refine wa_aload_n C dX5_readAll_43 rfl ?_
            refine wa_dup C dX5_readAll_44 rfl ?_
            refine wa_geti (x := (q8.2.1 35 4)) C fl_RX5_25 rfl rfl (by decide) rfl dX5_readAll_45 ?_
            refine wa_iconst (v := 1) C dX5_readAll_48 (by decide) ?_
            refine wa_iadd C dX5_readAll_49 ?_
            refine wa_puti C fl_RX5_25 fp_5_4 rfl rfl (by decide) rfl rfl dX5_readAll_50 ?_
            refine wa_iinc (v := (a1 + 1)) C dX5_readAll_53 rfl rfl (by decide) ?_
            refine wa_goto (tgt := 6) C dX5_readAll_56 (by decide) ?_
            exact WA.sub (lsub_c rfl (lsub_c rfl lsub_n)) (ih _ _ h)
          · replace h := (if_pos c9).symm.trans h
            refine wa_iconst (v := 0) C dX5_readAll_41 (by decide) ?_
            obtain rfl := Option.some.inj h
            exact wa_zret C rfl dX5_readAll_42
        · replace h := (if_pos c5).symm.trans h
          refine wa_aload_n C dX5_readAll_29 rfl ?_
          obtain ⟨q6, hq6, h⟩ := bd h
          refine wa_callV C (r_X5_agrees_35 hq6) mk_X5_agrees mv_X5_agrees qw_253 rfl (by decide) rfl rfl ⟨Nat.le_of_ble_eq_true rfl, Nat.le_of_ble_eq_true rfl⟩ ⟨Nat.zero_le _, Nat.zero_le _⟩ (Nat.le_of_ble_eq_true rfl) dX5_readAll_30 rfl ?_
          obtain ⟨g7, h⟩ := gd h
          obtain rfl := Option.some.inj h
          exact wa_zret C g7 dX5_readAll_33
      · replace h := (if_pos c4).symm.trans h
        refine wa_iconst (v := 0) C dX5_readAll_20 (by decide) ?_
        obtain rfl := Option.some.inj h
        exact wa_zret C rfl dX5_readAll_21
set_option maxRecDepth 100000 in
set_option maxHeartbeats 4000000 in
theorem r_X5_readAll_35 {μ : Mem} {ρ : (Int32 × Mem)} (h : f_X5_readAll_35 μ = some ρ) : HT 8 yX5_readAll cX5_readAll 2 (some .boolean) [.ref 35] μ (some (.int ρ.1)) ρ.2 := by
  refine HT.of (by decide +kernel) (Nat.le_of_ble_eq_true rfl) (fun C => ?_)
  unfold f_X5_readAll_35 at h
  refine wa_aload_n C dX5_readAll_0 rfl ?_
  obtain ⟨q1, hq1, h⟩ := bd h
  refine wa_callV C (r_X5_begin_35 hq1) mk_X5_begin mv_X5_begin qw_214 rfl (by decide) rfl rfl ⟨Nat.le_of_ble_eq_true rfl, Nat.le_of_ble_eq_true rfl⟩ ⟨Nat.zero_le _, Nat.zero_le _⟩ (Nat.le_of_ble_eq_true rfl) dX5_readAll_1 rfl ?_
  refine wa_iconst (v := 0) C dX5_readAll_4 (by decide) ?_
  refine wa_istore_n C dX5_readAll_5 (by decide) ?_
  exact WA.sub (lsub_c rfl (lsub_c rfl lsub_n)) (r_X5_readAll_35_L6 C  _ _ _ h)
def f_X1_become_1_37 (μ : Mem) : Option Mem :=
  some (cpI (cpI (pI (pI μ 1 0 (μ.1 37 0)) 1 1 (μ.1 37 1)) 38 2 3) 39 3 6)
set_option maxRecDepth 100000 in
set_option maxHeartbeats 4000000 in
theorem r_X1_become_1_37 {μ : Mem} {ρ : Mem} (h : f_X1_become_1_37 μ = some ρ) : HT 0 yX1_become cX1_become 2 none [.ref 1, .ref 37] μ none ρ := by
  refine HT.of (by decide +kernel) (Nat.le_of_ble_eq_true rfl) (fun C => ?_)
  unfold f_X1_become_1_37 at h
  refine wa_aload_n C dX1_become_0 rfl ?_
  refine wa_aload_n C dX1_become_1 rfl ?_
  refine wa_geti (x := (μ.1 37 0)) C fl_RX1_9 rfl rfl (by decide) rfl dX1_become_2 ?_
  refine wa_puti C fl_RX1_9 fp_1_0 rfl rfl (by decide) rfl rfl dX1_become_5 ?_
  refine wa_aload_n C dX1_become_8 rfl ?_
  refine wa_aload_n C dX1_become_9 rfl ?_
  refine wa_geti (x := (μ.1 37 1)) C fl_RX1_15 rfl rfl (by decide) rfl dX1_become_10 ?_
  refine wa_puti C fl_RX1_15 fp_1_1 rfl rfl (by decide) rfl rfl dX1_become_13 ?_
  refine wa_aload_n C dX1_become_16 rfl ?_
  refine wa_getr C fl_RX1_18 rfl rfl (by decide) dX1_become_17 ?_
  refine wa_iconst (v := 0) C dX1_become_20 (by decide) ?_
  refine wa_aload_n C dX1_become_21 rfl ?_
  refine wa_getr C fl_RX1_18 rfl rfl (by decide) dX1_become_22 ?_
  refine wa_iconst (v := 0) C dX1_become_25 (by decide) ?_
  refine wa_iconst (v := 3) C dX1_become_26 (by decide) ?_
  refine wa_copy (k := 3) C qw_375 qw_376 qw_377 qw_378 rfl rfl (by decide) (by decide) rfl (by decide) (by decide) (by decide) ⟨Nat.le_of_ble_eq_true rfl, Nat.le_of_ble_eq_true rfl⟩ dX1_become_27 ?_
  refine wa_aload_n C dX1_become_30 rfl ?_
  refine wa_getr C fl_RX1_22 rfl rfl (by decide) dX1_become_31 ?_
  refine wa_iconst (v := 0) C dX1_become_34 (by decide) ?_
  refine wa_aload_n C dX1_become_35 rfl ?_
  refine wa_getr C fl_RX1_22 rfl rfl (by decide) dX1_become_36 ?_
  refine wa_iconst (v := 0) C dX1_become_39 (by decide) ?_
  refine wa_bipush (v := 6) C dX1_become_40 (by decide) ?_
  refine wa_copy (k := 6) C qw_375 qw_376 qw_377 qw_378 rfl rfl (by decide) (by decide) rfl (by decide) (by decide) (by decide) ⟨Nat.le_of_ble_eq_true rfl, Nat.le_of_ble_eq_true rfl⟩ dX1_become_42 ?_
  obtain rfl := Option.some.inj h
  exact wa_vret C dX1_become_45
def f_X4_become_4_40 (μ : Mem) : Option Mem :=
  some (pI (cpI (cpI (cpI (cpI (cpI (cpI μ 41 5 3) 42 6 6) 43 7 4) 44 8 6) 45 9 6) 46 10 8) 4 6 (μ.1 40 6))
set_option maxRecDepth 100000 in
set_option maxHeartbeats 4000000 in
theorem r_X4_become_4_40 {μ : Mem} {ρ : Mem} (h : f_X4_become_4_40 μ = some ρ) : HT 0 yX4_become cX4_become 2 none [.ref 4, .ref 40] μ none ρ := by
  refine HT.of (by decide +kernel) (Nat.le_of_ble_eq_true rfl) (fun C => ?_)
  unfold f_X4_become_4_40 at h
  refine wa_aload_n C dX4_become_0 rfl ?_
  refine wa_getr C fl_RX4_9 rfl rfl (by decide) dX4_become_1 ?_
  refine wa_iconst (v := 0) C dX4_become_4 (by decide) ?_
  refine wa_aload_n C dX4_become_5 rfl ?_
  refine wa_getr C fl_RX4_9 rfl rfl (by decide) dX4_become_6 ?_
  refine wa_iconst (v := 0) C dX4_become_9 (by decide) ?_
  refine wa_iconst (v := 3) C dX4_become_10 (by decide) ?_
  refine wa_copy (k := 3) C qw_383 qw_376 qw_377 qw_378 rfl rfl (by decide) (by decide) rfl (by decide) (by decide) (by decide) ⟨Nat.le_of_ble_eq_true rfl, Nat.le_of_ble_eq_true rfl⟩ dX4_become_11 ?_
  refine wa_aload_n C dX4_become_14 rfl ?_
  refine wa_getr C fl_RX4_15 rfl rfl (by decide) dX4_become_15 ?_
  refine wa_iconst (v := 0) C dX4_become_18 (by decide) ?_
  refine wa_aload_n C dX4_become_19 rfl ?_
  refine wa_getr C fl_RX4_15 rfl rfl (by decide) dX4_become_20 ?_
  refine wa_iconst (v := 0) C dX4_become_23 (by decide) ?_
  refine wa_bipush (v := 6) C dX4_become_24 (by decide) ?_
  refine wa_copy (k := 6) C qw_383 qw_376 qw_377 qw_378 rfl rfl (by decide) (by decide) rfl (by decide) (by decide) (by decide) ⟨Nat.le_of_ble_eq_true rfl, Nat.le_of_ble_eq_true rfl⟩ dX4_become_26 ?_
  refine wa_aload_n C dX4_become_29 rfl ?_
  refine wa_getr C fl_RX4_18 rfl rfl (by decide) dX4_become_30 ?_
  refine wa_iconst (v := 0) C dX4_become_33 (by decide) ?_
  refine wa_aload_n C dX4_become_34 rfl ?_
  refine wa_getr C fl_RX4_18 rfl rfl (by decide) dX4_become_35 ?_
  refine wa_iconst (v := 0) C dX4_become_38 (by decide) ?_
  refine wa_iconst (v := 4) C dX4_become_39 (by decide) ?_
  refine wa_copy (k := 4) C qw_383 qw_376 qw_377 qw_378 rfl rfl (by decide) (by decide) rfl (by decide) (by decide) (by decide) ⟨Nat.le_of_ble_eq_true rfl, Nat.le_of_ble_eq_true rfl⟩ dX4_become_40 ?_
  refine wa_aload_n C dX4_become_43 rfl ?_
  refine wa_getr C fl_RX4_21 rfl rfl (by decide) dX4_become_44 ?_
  refine wa_iconst (v := 0) C dX4_become_47 (by decide) ?_
  refine wa_aload_n C dX4_become_48 rfl ?_
  refine wa_getr C fl_RX4_21 rfl rfl (by decide) dX4_become_49 ?_
  refine wa_iconst (v := 0) C dX4_become_52 (by decide) ?_
  refine wa_bipush (v := 6) C dX4_become_53 (by decide) ?_
  refine wa_copy (k := 6) C qw_383 qw_376 qw_377 qw_378 rfl rfl (by decide) (by decide) rfl (by decide) (by decide) (by decide) ⟨Nat.le_of_ble_eq_true rfl, Nat.le_of_ble_eq_true rfl⟩ dX4_become_55 ?_
  refine wa_aload_n C dX4_become_58 rfl ?_
  refine wa_getr C fl_RX4_24 rfl rfl (by decide) dX4_become_59 ?_
  refine wa_iconst (v := 0) C dX4_become_62 (by decide) ?_
  refine wa_aload_n C dX4_become_63 rfl ?_
  refine wa_getr C fl_RX4_24 rfl rfl (by decide) dX4_become_64 ?_
  refine wa_iconst (v := 0) C dX4_become_67 (by decide) ?_
  refine wa_bipush (v := 6) C dX4_become_68 (by decide) ?_
  refine wa_copy (k := 6) C qw_383 qw_376 qw_377 qw_378 rfl rfl (by decide) (by decide) rfl (by decide) (by decide) (by decide) ⟨Nat.le_of_ble_eq_true rfl, Nat.le_of_ble_eq_true rfl⟩ dX4_become_70 ?_
  refine wa_aload_n C dX4_become_73 rfl ?_
  refine wa_getr C fl_RX4_27 rfl rfl (by decide) dX4_become_74 ?_
  refine wa_iconst (v := 0) C dX4_become_77 (by decide) ?_
  refine wa_aload_n C dX4_become_78 rfl ?_
  refine wa_getr C fl_RX4_27 rfl rfl (by decide) dX4_become_79 ?_
  refine wa_iconst (v := 0) C dX4_become_82 (by decide) ?_
  refine wa_bipush (v := 8) C dX4_become_83 (by decide) ?_
  refine wa_copy (k := 8) C qw_383 qw_376 qw_377 qw_378 rfl rfl (by decide) (by decide) rfl (by decide) (by decide) (by decide) ⟨Nat.le_of_ble_eq_true rfl, Nat.le_of_ble_eq_true rfl⟩ dX4_become_85 ?_
  refine wa_aload_n C dX4_become_88 rfl ?_
  refine wa_aload_n C dX4_become_89 rfl ?_
  refine wa_geti (x := (μ.1 40 6)) C fl_RX4_30 rfl rfl (by decide) rfl dX4_become_90 ?_
  refine wa_puti C fl_RX4_30 fp_4_6 rfl rfl (by decide) rfl rfl dX4_become_93 ?_
  obtain rfl := Option.some.inj h
  exact wa_vret C dX4_become_96
def f_X9_text_0 (μ : Mem) : Option (Int32 × Mem) :=
  (f_X5_readAll_35 μ).bind fun q1 =>
  if q1.1 = 0 then
    some (((-10 : Int32) - (q1.2.1 35 3)), (pI q1.2 35 1 (0 : Int32)))
  else
    (f_X1_become_1_37 (pI q1.2 35 1 (0 : Int32))).bind fun q3 =>
    (f_X4_become_4_40 q3).bind fun q4 =>
    some ((q4.1 35 4), (pI q4 0 3 (0 : Int32)))
set_option maxRecDepth 100000 in
set_option maxHeartbeats 4000000 in
theorem r_X9_text_0 {μ : Mem} {ρ : (Int32 × Mem)} (h : f_X9_text_0 μ = some ρ) : HT 9 yX9_text cX9_text 2 (some .int) [.ref 0] μ (some (.int ρ.1)) ρ.2 := by
  refine HT.of (by decide +kernel) (Nat.le_of_ble_eq_true rfl) (fun C => ?_)
  unfold f_X9_text_0 at h
  refine wa_aload_n C dX9_text_0 rfl ?_
  refine wa_getr C fl_RX9_37 rfl rfl (by decide) dX9_text_1 ?_
  obtain ⟨q1, hq1, h⟩ := bd h
  refine wa_callV C (r_X5_readAll_35 hq1) mk_X5_readAll mv_X5_readAll qw_210 rfl (by decide) rfl rfl ⟨Nat.le_of_ble_eq_true rfl, Nat.le_of_ble_eq_true rfl⟩ ⟨Nat.zero_le _, Nat.zero_le _⟩ (Nat.le_of_ble_eq_true rfl) dX9_text_4 rfl ?_
  refine wa_istore_n C dX9_text_7 (by decide) ?_
  refine wa_aload_n C dX9_text_8 rfl ?_
  refine wa_getr C fl_RX9_37 rfl rfl (by decide) dX9_text_9 ?_
  refine wa_iconst (v := 0) C dX9_text_12 (by decide) ?_
  refine wa_puti C fl_RX9_84 fp_5_1 rfl rfl (by decide) rfl rfl dX9_text_13 ?_
  refine wa_iload_n C dX9_text_16 rfl ?_
  refine wa_if_ne (tgt := 31) C dX9_text_17 (by decide) (fun c2 => ?_) (fun c2 => ?_)
  · replace h := (if_neg c2).symm.trans h
    refine wa_aload_n C dX9_text_31 rfl ?_
    refine wa_getr C fl_RX9_10 rfl rfl (by decide) dX9_text_32 ?_
    refine wa_aload_n C dX9_text_35 rfl ?_
    refine wa_getr C fl_RX9_37 rfl rfl (by decide) dX9_text_36 ?_
    refine wa_getr C fl_RX9_95 rfl rfl (by decide) dX9_text_39 ?_
    obtain ⟨q3, hq3, h⟩ := bd h
    refine wa_callV C (r_X1_become_1_37 hq3) mk_X1_become mv_X1_become qw_371 rfl (by decide) rfl rfl ⟨Nat.le_of_ble_eq_true rfl, Nat.le_of_ble_eq_true rfl⟩ ⟨Nat.zero_le _, Nat.zero_le _⟩ (Nat.le_of_ble_eq_true rfl) dX9_text_42 rfl ?_
    refine wa_aload_n C dX9_text_45 rfl ?_
    refine wa_getr C fl_RX9_19 rfl rfl (by decide) dX9_text_46 ?_
    refine wa_aload_n C dX9_text_49 rfl ?_
    refine wa_getr C fl_RX9_37 rfl rfl (by decide) dX9_text_50 ?_
    refine wa_getr C fl_RX9_100 rfl rfl (by decide) dX9_text_53 ?_
    obtain ⟨q4, hq4, h⟩ := bd h
    refine wa_callV C (r_X4_become_4_40 hq4) mk_X4_become mv_X4_become qw_379 rfl (by decide) rfl rfl ⟨Nat.le_of_ble_eq_true rfl, Nat.le_of_ble_eq_true rfl⟩ ⟨Nat.zero_le _, Nat.zero_le _⟩ (Nat.le_of_ble_eq_true rfl) dX9_text_56 rfl ?_
    refine wa_aload_n C dX9_text_59 rfl ?_
    refine wa_iconst (v := 0) C dX9_text_60 (by decide) ?_
    refine wa_puti C fl_RX9_104 fp_9_3 rfl rfl (by decide) rfl rfl dX9_text_61 ?_
    refine wa_aload_n C dX9_text_64 rfl ?_
    refine wa_getr C fl_RX9_37 rfl rfl (by decide) dX9_text_65 ?_
    refine wa_geti (x := (q4.1 35 4)) C fl_RX9_107 rfl rfl (by decide) rfl dX9_text_68 ?_
    obtain rfl := Option.some.inj h
    exact wa_iret C dX9_text_71
  · replace h := (if_pos c2).symm.trans h
    refine wa_bipush (v := -10) C dX9_text_20 (by decide) ?_
    refine wa_aload_n C dX9_text_22 rfl ?_
    refine wa_getr C fl_RX9_37 rfl rfl (by decide) dX9_text_23 ?_
    refine wa_geti (x := (q1.2.1 35 3)) C fl_RX9_92 rfl rfl (by decide) rfl dX9_text_26 ?_
    refine wa_isub C dX9_text_29 ?_
    obtain rfl := Option.some.inj h
    exact wa_iret C dX9_text_30
def f_X10_firstDraft_62_L2 (k2 : Int32 → Mem → Option Mem) (a1 : Int32) (μ : Mem) : Option Mem :=
    if (54 : Int32) ≤ a1 then
      some (pI (pI (pI (pI (pI (pI (pI (pI μ 62 8 (0 : Int32)) 62 9 (4 : Int32)) 62 12 (0 : Int32)) 62 13 (0 : Int32)) 62 14 (0 : Int32)) 62 15 (0 : Int32)) 62 16 (-4 : Int32)) 62 17 (-4 : Int32))
    else
      if inb a1 54 = false then none else
      k2 (a1 + 1) (pI μ 67 (a1.toNatClampNeg) (0 : Int32))
def f_X10_firstDraft_62 (μ : Mem) : Option Mem :=
  it2 (f_X10_firstDraft_62_L2) FU (0 : Int32) μ
set_option maxRecDepth 100000 in
set_option maxHeartbeats 4000000 in
theorem r_X10_firstDraft_62_L2 {p : Program} {l : Launch} {e : Env} {s : State} {m : MethodId} {args : Array Value} {below : List Frame} {meth : Method} {c : Code} {D : va_G} {cy : Nat → ClassId} {ad : Nat → Nat} (C : CX p s m args meth c cX10_firstDraft 2 RX10 none D cy ad (AD ad)) {ρ : Mem} : ∀ (n : Nat) (a1 : Int32) (μ : Mem), it2 (f_X10_firstDraft_62_L2) n a1 μ = some ρ → WA p l e (rmD 0) s m args below meth c 2 D cy ad (AD ad) 0 0 (ZZ below args s D cy ad (AD ad) 0 0 none ρ) μ [(0, .ref 62), (1, .int a1)] 2 [] := by
  intro n
  induction n with
  | zero =>
    intro a1 μ h
    exact absurd h (fun h => by cases h)
  | succ n ih =>
    intro a1 μ h
    replace h : f_X10_firstDraft_62_L2 (it2 (f_X10_firstDraft_62_L2) n) a1 μ = some ρ := h
    unfold f_X10_firstDraft_62_L2 at h
    refine wa_iload_n C dX10_firstDraft_2 rfl ?_
    refine wa_bipush (v := 54) C dX10_firstDraft_3 (by decide) ?_
    refine wa_icmp_ge (tgt := 21) C dX10_firstDraft_5 (by decide) (fun c1 => ?_) (fun c1 => ?_)
    · replace h := (if_pos c1).symm.trans h
      refine wa_aload_n C dX10_firstDraft_21 rfl ?_
      refine wa_iconst (v := 0) C dX10_firstDraft_22 (by decide) ?_
      refine wa_puti C fl_RX10_68 fp_10_8 rfl rfl (by decide) rfl rfl dX10_firstDraft_23 ?_
      refine wa_aload_n C dX10_firstDraft_26 rfl ?_
      refine wa_iconst (v := 4) C dX10_firstDraft_27 (by decide) ?_
      refine wa_puti C fl_RX10_72 fp_10_9 rfl rfl (by decide) rfl rfl dX10_firstDraft_28 ?_
      refine wa_aload_n C dX10_firstDraft_31 rfl ?_
      refine wa_iconst (v := 0) C dX10_firstDraft_32 (by decide) ?_
      refine wa_puti C fl_RX10_75 fp_10_12 rfl rfl (by decide) rfl rfl dX10_firstDraft_33 ?_
      refine wa_aload_n C dX10_firstDraft_36 rfl ?_
      refine wa_iconst (v := 0) C dX10_firstDraft_37 (by decide) ?_
      refine wa_puti C fl_RX10_79 fp_10_13 rfl rfl (by decide) rfl rfl dX10_firstDraft_38 ?_
      refine wa_aload_n C dX10_firstDraft_41 rfl ?_
      refine wa_iconst (v := 0) C dX10_firstDraft_42 (by decide) ?_
      refine wa_puti C fl_RX10_82 fp_10_14 rfl rfl (by decide) rfl rfl dX10_firstDraft_43 ?_
      refine wa_aload_n C dX10_firstDraft_46 rfl ?_
      refine wa_iconst (v := 0) C dX10_firstDraft_47 (by decide) ?_
      refine wa_puti C fl_RX10_85 fp_10_15 rfl rfl (by decide) rfl rfl dX10_firstDraft_48 ?_
      refine wa_aload_n C dX10_firstDraft_51 rfl ?_
      refine wa_bipush (v := -4) C dX10_firstDraft_52 (by decide) ?_
      refine wa_puti C fl_RX10_88 fp_10_16 rfl rfl (by decide) rfl rfl dX10_firstDraft_54 ?_
      refine wa_aload_n C dX10_firstDraft_57 rfl ?_
      refine wa_bipush (v := -4) C dX10_firstDraft_58 (by decide) ?_
      refine wa_puti C fl_RX10_91 fp_10_17 rfl rfl (by decide) rfl rfl dX10_firstDraft_60 ?_
      obtain rfl := Option.some.inj h
      exact wa_vret C dX10_firstDraft_63
    · replace h := (if_neg c1).symm.trans h
      refine wa_aload_n C dX10_firstDraft_8 rfl ?_
      refine wa_getr C fl_RX10_23 rfl rfl (by decide) dX10_firstDraft_9 ?_
      refine wa_iload_n C dX10_firstDraft_12 rfl ?_
      refine wa_iconst (v := 0) C dX10_firstDraft_13 (by decide) ?_
      obtain ⟨g2, h⟩ := gd h
      refine wa_iast (j := (a1.toNatClampNeg)) C rfl (by decide) g2 rfl dX10_firstDraft_14 ?_
      refine wa_iinc (v := (a1 + 1)) C dX10_firstDraft_15 rfl rfl (by decide) ?_
      refine wa_goto (tgt := 2) C dX10_firstDraft_18 (by decide) ?_
      exact WA.sub (lsub_c rfl (lsub_c rfl lsub_n)) (ih _ _ h)
set_option maxRecDepth 100000 in
set_option maxHeartbeats 4000000 in
theorem r_X10_firstDraft_62 {μ : Mem} {ρ : Mem} (h : f_X10_firstDraft_62 μ = some ρ) : HT 0 yX10_firstDraft cX10_firstDraft 2 none [.ref 62] μ none ρ := by
  refine HT.of (by decide +kernel) (Nat.le_of_ble_eq_true rfl) (fun C => ?_)
  unfold f_X10_firstDraft_62 at h
  refine wa_iconst (v := 0) C dX10_firstDraft_0 (by decide) ?_
  refine wa_istore_n C dX10_firstDraft_1 (by decide) ?_
  exact WA.sub (lsub_c rfl (lsub_c rfl lsub_n)) (r_X10_firstDraft_62_L2 C  _ _ _ h)
def f_X10_look_62 (a1 : Int32) (μ : Mem) : Option (Int32 × Mem) :=
  if (μ.1 62 19) ≤ a1 then
    some ((-1 : Int32), μ)
  else
    if inb a1 320 = false then none else
    some ((μ.1 70 (a1.toNatClampNeg)), μ)
set_option maxRecDepth 100000 in
set_option maxHeartbeats 4000000 in
theorem r_X10_look_62 {a1 : Int32} {μ : Mem} {ρ : (Int32 × Mem)} (h : f_X10_look_62 a1 μ = some ρ) : HT 0 yX10_look cX10_look 2 (some .int) [.ref 62, .int a1] μ (some (.int ρ.1)) ρ.2 := by
  refine HT.of (by decide +kernel) (Nat.le_of_ble_eq_true rfl) (fun C => ?_)
  unfold f_X10_look_62 at h
  refine wa_iload_n C dX10_look_0 rfl ?_
  refine wa_aload_n C dX10_look_1 rfl ?_
  refine wa_geti (x := (μ.1 62 19)) C fl_RX10_107 rfl rfl (by decide) rfl dX10_look_2 ?_
  refine wa_icmp_ge (tgt := 17) C dX10_look_5 (by decide) (fun c1 => ?_) (fun c1 => ?_)
  · replace h := (if_pos c1).symm.trans h
    refine wa_iconst (v := -1) C dX10_look_17 (by decide) ?_
    obtain rfl := Option.some.inj h
    exact wa_iret C dX10_look_18
  · replace h := (if_neg c1).symm.trans h
    refine wa_aload_n C dX10_look_8 rfl ?_
    refine wa_getr C fl_RX10_32 rfl rfl (by decide) dX10_look_9 ?_
    refine wa_iload_n C dX10_look_12 rfl ?_
    obtain ⟨g2, h⟩ := gd h
    refine wa_iald (j := (a1.toNatClampNeg)) (x := (μ.1 70 (a1.toNatClampNeg))) C rfl (by decide) g2 rfl rfl dX10_look_13 ?_
    refine wa_goto (tgt := 18) C dX10_look_14 (by decide) ?_
    obtain rfl := Option.some.inj h
    exact wa_iret C dX10_look_18
def f_X10_needs_62 (a1 : Int32) (a2 : Int32) (μ : Mem) : Option Mem :=
  if a1 = 0 then
    if (μ.1 62 24) = 0 then
      some (pI (pI μ 62 24 a2) 62 25 (μ.1 62 21))
    else
      some μ
  else
    some μ
set_option maxRecDepth 100000 in
set_option maxHeartbeats 4000000 in
theorem r_X10_needs_62 {a1 : Int32} {a2 : Int32} {μ : Mem} {ρ : Mem} (h : f_X10_needs_62 a1 a2 μ = some ρ) : HT 0 yX10_needs cX10_needs 3 none [.ref 62, .int a1, .int a2] μ none ρ := by
  refine HT.of (by decide +kernel) (Nat.le_of_ble_eq_true rfl) (fun C => ?_)
  unfold f_X10_needs_62 at h
  refine wa_iload_n C dX10_needs_0 rfl ?_
  refine wa_if_ne (tgt := 24) C dX10_needs_1 (by decide) (fun c1 => ?_) (fun c1 => ?_)
  · replace h := (if_neg c1).symm.trans h
    obtain rfl := Option.some.inj h
    exact wa_vret C dX10_needs_24
  · replace h := (if_pos c1).symm.trans h
    refine wa_aload_n C dX10_needs_4 rfl ?_
    refine wa_geti (x := (μ.1 62 24)) C fl_RX10_116 rfl rfl (by decide) rfl dX10_needs_5 ?_
    refine wa_if_ne (tgt := 24) C dX10_needs_8 (by decide) (fun c2 => ?_) (fun c2 => ?_)
    · replace h := (if_neg c2).symm.trans h
      obtain rfl := Option.some.inj h
      exact wa_vret C dX10_needs_24
    · replace h := (if_pos c2).symm.trans h
      refine wa_aload_n C dX10_needs_11 rfl ?_
      refine wa_iload_n C dX10_needs_12 rfl ?_
      refine wa_puti C fl_RX10_116 fp_10_24 rfl rfl (by decide) rfl rfl dX10_needs_13 ?_
      refine wa_aload_n C dX10_needs_16 rfl ?_
      refine wa_aload_n C dX10_needs_17 rfl ?_
      refine wa_geti (x := (μ.1 62 21)) C fl_RX10_119 rfl rfl (by decide) rfl dX10_needs_18 ?_
      refine wa_puti C fl_RX10_122 fp_10_25 rfl rfl (by decide) rfl rfl dX10_needs_21 ?_
      obtain rfl := Option.some.inj h
      exact wa_vret C dX10_needs_24
def f_X10_next_62_J260 (t1 : Int32) (μ : Mem) : Option Mem :=
  (f_X10_needs_62 t1 (1 : Int32) μ).bind fun q11 =>
  some (pI q11 62 20 ((q11.1 62 20) + (1 : Int32)))
def f_X10_next_62_J236 (t1 : Int32) (μ : Mem) : Option Mem :=
  (f_X10_needs_62 t1 (1 : Int32) μ).bind fun q16 =>
  some q16
def f_X10_next_62_J201 (k140 : Mem → Option Mem) (t1 : Int32) (μ : Mem) : Option Mem :=
  k140 (pI (pI μ 62 23 t1) 62 20 ((μ.1 62 20) + (1 : Int32)))
def f_X10_next_62_L140 (k140 : Mem → Option Mem) (μ : Mem) : Option Mem :=
    (f_X10_look_62 (μ.1 62 20) μ).bind fun q12 =>
    (f_X10_in (q12.1.toInt64) (48 : Int64) (57 : Int64) q12.2).bind fun q13 =>
    if q13.1 = 0 then
      if (2 : Int32) < ((q13.2.1 62 20) - (q13.2.1 62 21)) then
        f_X10_next_62_J236 (0 : Int32) q13.2
      else
        f_X10_next_62_J236 (1 : Int32) q13.2
    else
      if (2 : Int32) ≤ ((q13.2.1 62 20) - (q13.2.1 62 21)) then
        f_X10_next_62_J201 k140 (q13.2.1 62 23) q13.2
      else
        (f_X10_look_62 (q13.2.1 62 20) q13.2).bind fun q18 =>
        f_X10_next_62_J201 k140 ((((10 : Int32) * (q13.2.1 62 23)) + q18.1) - (48 : Int32)) q18.2
def f_X10_next_62_L82 (k82 : Mem → Option Mem) (μ : Mem) : Option Mem :=
    (f_X10_look_62 (μ.1 62 20) μ).bind fun q19 =>
    (f_X10_in (q19.1.toInt64) (97 : Int64) (122 : Int64) q19.2).bind fun q20 =>
    if q20.1 = 0 then
      some q20.2
    else
      k82 (pI q20.2 62 20 ((q20.2.1 62 20) + (1 : Int32)))
def f_X10_next_62_L8 (k8 : Mem → Option Mem) (μ : Mem) : Option Mem :=
    (f_X10_look_62 (μ.1 62 20) μ).bind fun q2 =>
    if q2.1 = (32 : Int32) then
      k8 (pI q2.2 62 20 ((q2.2.1 62 20) + (1 : Int32)))
    else
      (f_X10_look_62 (q2.2.1 62 20) (pI q2.2 62 21 (q2.2.1 62 20))).bind fun q4 =>
      if 0 ≤ q4.1 then
        (f_X10_in (q4.1.toInt64) (97 : Int64) (122 : Int64) q4.2).bind fun q6 =>
        if q6.1 = 0 then
          (f_X10_in (q4.1.toInt64) (48 : Int64) (57 : Int64) q6.2).bind fun q8 =>
          if q8.1 = 0 then
            if q4.1 = (59 : Int32) then
              f_X10_next_62_J260 (1 : Int32) (pI q8.2 62 22 (3 : Int32))
            else
              f_X10_next_62_J260 (0 : Int32) (pI q8.2 62 22 (3 : Int32))
          else
            it1 (f_X10_next_62_L140) FU (pI (pI q8.2 62 22 (2 : Int32)) 62 23 (0 : Int32))
        else
          it1 (f_X10_next_62_L82) FU (pI q6.2 62 22 (1 : Int32))
      else
        some (pI q4.2 62 22 (0 : Int32))
def f_X10_next_62 (μ : Mem) : Option Mem :=
  if (μ.1 62 24) ≤ 0 then
    it1 (f_X10_next_62_L8) FU μ
  else
    some μ
set_option maxRecDepth 100000 in
set_option maxHeartbeats 4000000 in
theorem r_X10_next_62_J260 {p : Program} {l : Launch} {e : Env} {s : State} {m : MethodId} {args : Array Value} {below : List Frame} {meth : Method} {c : Code} {D : va_G} {cy : Nat → ClassId} {ad : Nat → Nat} (C : CX p s m args meth c cX10_next 2 RX10 none D cy ad (AD ad)) {t1 : Int32} {μ : Mem} {ρ : Mem} (h : f_X10_next_62_J260 t1 μ = some ρ) : WA p l e (rmD 1) s m args below meth c 2 D cy ad (AD ad) 0 0 (ZZ below args s D cy ad (AD ad) 0 0 none ρ) μ [(0, .ref 62)] 260 [.int t1, .ref 62] := by
  unfold f_X10_next_62_J260 at h
  refine wa_iconst (v := 1) C dX10_next_260 (by decide) ?_
  obtain ⟨q11, hq11, h⟩ := bd h
  refine wa_callV C (r_X10_needs_62 hq11) mk_X10_needs mv_X10_needs qw_406 rfl (by decide) rfl rfl ⟨Nat.le_of_ble_eq_true rfl, Nat.le_of_ble_eq_true rfl⟩ ⟨Nat.zero_le _, Nat.zero_le _⟩ (Nat.le_of_ble_eq_true rfl) dX10_next_261 rfl ?_
  refine wa_aload_n C dX10_next_264 rfl ?_
  refine wa_dup C dX10_next_265 rfl ?_
  refine wa_geti (x := (q11.1 62 20)) C fl_RX10_125 rfl rfl (by decide) rfl dX10_next_266 ?_
  refine wa_iconst (v := 1) C dX10_next_269 (by decide) ?_
  refine wa_iadd C dX10_next_270 ?_
  refine wa_puti C fl_RX10_125 fp_10_20 rfl rfl (by decide) rfl rfl dX10_next_271 ?_
  obtain rfl := Option.some.inj h
  exact wa_vret C dX10_next_274
set_option maxRecDepth 100000 in
set_option maxHeartbeats 4000000 in
theorem r_X10_next_62_J236 {p : Program} {l : Launch} {e : Env} {s : State} {m : MethodId} {args : Array Value} {below : List Frame} {meth : Method} {c : Code} {D : va_G} {cy : Nat → ClassId} {ad : Nat → Nat} (C : CX p s m args meth c cX10_next 2 RX10 none D cy ad (AD ad)) {t1 : Int32} {μ : Mem} {ρ : Mem} (h : f_X10_next_62_J236 t1 μ = some ρ) : WA p l e (rmD 1) s m args below meth c 2 D cy ad (AD ad) 0 0 (ZZ below args s D cy ad (AD ad) 0 0 none ρ) μ [] 236 [.int t1, .ref 62] := by
  unfold f_X10_next_62_J236 at h
  refine wa_iconst (v := 1) C dX10_next_236 (by decide) ?_
  obtain ⟨q16, hq16, h⟩ := bd h
  refine wa_callV C (r_X10_needs_62 hq16) mk_X10_needs mv_X10_needs qw_406 rfl (by decide) rfl rfl ⟨Nat.le_of_ble_eq_true rfl, Nat.le_of_ble_eq_true rfl⟩ ⟨Nat.zero_le _, Nat.zero_le _⟩ (Nat.le_of_ble_eq_true rfl) dX10_next_237 rfl ?_
  refine wa_goto (tgt := 274) C dX10_next_240 (by decide) ?_
  obtain rfl := Option.some.inj h
  exact wa_vret C dX10_next_274
set_option maxRecDepth 100000 in
set_option maxHeartbeats 4000000 in
theorem r_X10_next_62_J201 {p : Program} {l : Launch} {e : Env} {s : State} {m : MethodId} {args : Array Value} {below : List Frame} {meth : Method} {c : Code} {D : va_G} {cy : Nat → ClassId} {ad : Nat → Nat} (C : CX p s m args meth c cX10_next 2 RX10 none D cy ad (AD ad)) {t1 : Int32} {μ : Mem} {ρ : Mem} (k140 : Mem → Option Mem) (hk140 : ∀ (μ : Mem), k140 μ = some ρ → WA p l e (rmD 1) s m args below meth c 2 D cy ad (AD ad) 0 0 (ZZ below args s D cy ad (AD ad) 0 0 none ρ) μ [(0, .ref 62)] 140 []) (h : f_X10_next_62_J201 k140 t1 μ = some ρ) : WA p l e (rmD 1) s m args below meth c 2 D cy ad (AD ad) 0 0 (ZZ below args s D cy ad (AD ad) 0 0 none ρ) μ [(0, .ref 62)] 201 [.int t1, .ref 62] := by
  unfold f_X10_next_62_J201 at h
  refine wa_puti C fl_RX10_151 fp_10_23 rfl rfl (by decide) rfl rfl dX10_next_201 ?_
  refine wa_aload_n C dX10_next_204 rfl ?_
  refine wa_dup C dX10_next_205 rfl ?_
  refine wa_geti (x := (μ.1 62 20)) C fl_RX10_125 rfl rfl (by decide) rfl dX10_next_206 ?_
  refine wa_iconst (v := 1) C dX10_next_209 (by decide) ?_
  refine wa_iadd C dX10_next_210 ?_
  refine wa_puti C fl_RX10_125 fp_10_20 rfl rfl (by decide) rfl rfl dX10_next_211 ?_
  refine wa_goto (tgt := 140) C dX10_next_214 (by decide) ?_
  exact WA.sub (lsub_c rfl lsub_n) (hk140 _ h)
set_option maxRecDepth 100000 in
set_option maxHeartbeats 4000000 in
theorem r_X10_next_62_L140 {p : Program} {l : Launch} {e : Env} {s : State} {m : MethodId} {args : Array Value} {below : List Frame} {meth : Method} {c : Code} {D : va_G} {cy : Nat → ClassId} {ad : Nat → Nat} (C : CX p s m args meth c cX10_next 2 RX10 none D cy ad (AD ad)) {ρ : Mem} : ∀ (n : Nat) (μ : Mem), it1 (f_X10_next_62_L140) n μ = some ρ → WA p l e (rmD 1) s m args below meth c 2 D cy ad (AD ad) 0 0 (ZZ below args s D cy ad (AD ad) 0 0 none ρ) μ [(0, .ref 62)] 140 [] := by
  intro n
  induction n with
  | zero =>
    intro μ h
    exact absurd h (fun h => by cases h)
  | succ n ih =>
    intro μ h
    replace h : f_X10_next_62_L140 (it1 (f_X10_next_62_L140) n) μ = some ρ := h
    unfold f_X10_next_62_L140 at h
    refine wa_aload_n C dX10_next_140 rfl ?_
    refine wa_aload_n C dX10_next_141 rfl ?_
    refine wa_geti (x := (μ.1 62 20)) C fl_RX10_125 rfl rfl (by decide) rfl dX10_next_142 ?_
    obtain ⟨q12, hq12, h⟩ := bd h
    refine wa_callV C (r_X10_look_62 hq12) mk_X10_look mv_X10_look qw_402 rfl (by decide) rfl rfl ⟨Nat.le_of_ble_eq_true rfl, Nat.le_of_ble_eq_true rfl⟩ ⟨Nat.zero_le _, Nat.zero_le _⟩ (Nat.le_of_ble_eq_true rfl) dX10_next_145 rfl ?_
    refine wa_i2l (v := (q12.1.toInt64)) C dX10_next_148 rfl ?_
    refine wa_ldc2 (v := 48) C qw_399 dX10_next_149 ?_
    refine wa_ldc2 (v := 57) C qw_400 dX10_next_152 ?_
    obtain ⟨q13, hq13, h⟩ := bd h
    refine wa_callS C (r_X10_in hq13) mk_X10_in ms_X10_in qw_198 rfl ⟨Nat.le_of_ble_eq_true rfl, Nat.le_of_ble_eq_true rfl⟩ ⟨Nat.zero_le _, Nat.zero_le _⟩ (Nat.le_of_ble_eq_true rfl) dX10_next_155 rfl ?_
    refine wa_if_eq (tgt := 217) C dX10_next_158 (by decide) (fun c14 => ?_) (fun c14 => ?_)
    · replace h := (if_pos c14).symm.trans h
      refine wa_aload_n C dX10_next_217 rfl ?_
      refine wa_aload_n C dX10_next_218 rfl ?_
      refine wa_geti (x := (q13.2.1 62 20)) C fl_RX10_125 rfl rfl (by decide) rfl dX10_next_219 ?_
      refine wa_aload_n C dX10_next_222 rfl ?_
      refine wa_geti (x := (q13.2.1 62 21)) C fl_RX10_119 rfl rfl (by decide) rfl dX10_next_223 ?_
      refine wa_isub C dX10_next_226 ?_
      refine wa_iconst (v := 2) C dX10_next_227 (by decide) ?_
      refine wa_icmp_gt (tgt := 235) C dX10_next_228 (by decide) (fun c15 => ?_) (fun c15 => ?_)
      · replace h := (if_pos c15).symm.trans h
        refine wa_iconst (v := 0) C dX10_next_235 (by decide) ?_
        exact WA.sub lsub_n (r_X10_next_62_J236 C h)
      · replace h := (if_neg c15).symm.trans h
        refine wa_iconst (v := 1) C dX10_next_231 (by decide) ?_
        refine wa_goto (tgt := 236) C dX10_next_232 (by decide) ?_
        exact WA.sub lsub_n (r_X10_next_62_J236 C h)
    · replace h := (if_neg c14).symm.trans h
      refine wa_aload_n C dX10_next_161 rfl ?_
      refine wa_aload_n C dX10_next_162 rfl ?_
      refine wa_geti (x := (q13.2.1 62 20)) C fl_RX10_125 rfl rfl (by decide) rfl dX10_next_163 ?_
      refine wa_aload_n C dX10_next_166 rfl ?_
      refine wa_geti (x := (q13.2.1 62 21)) C fl_RX10_119 rfl rfl (by decide) rfl dX10_next_167 ?_
      refine wa_isub C dX10_next_170 ?_
      refine wa_iconst (v := 2) C dX10_next_171 (by decide) ?_
      refine wa_icmp_ge (tgt := 197) C dX10_next_172 (by decide) (fun c17 => ?_) (fun c17 => ?_)
      · replace h := (if_pos c17).symm.trans h
        refine wa_aload_n C dX10_next_197 rfl ?_
        refine wa_geti (x := (q13.2.1 62 23)) C fl_RX10_151 rfl rfl (by decide) rfl dX10_next_198 ?_
        exact WA.sub (lsub_c rfl lsub_n) (r_X10_next_62_J201 C _ (fun _ h => ih _ h) h)
      · replace h := (if_neg c17).symm.trans h
        refine wa_bipush (v := 10) C dX10_next_175 (by decide) ?_
        refine wa_aload_n C dX10_next_177 rfl ?_
        refine wa_geti (x := (q13.2.1 62 23)) C fl_RX10_151 rfl rfl (by decide) rfl dX10_next_178 ?_
        refine wa_imul C dX10_next_181 ?_
        refine wa_aload_n C dX10_next_182 rfl ?_
        refine wa_aload_n C dX10_next_183 rfl ?_
        refine wa_geti (x := (q13.2.1 62 20)) C fl_RX10_125 rfl rfl (by decide) rfl dX10_next_184 ?_
        obtain ⟨q18, hq18, h⟩ := bd h
        refine wa_callV C (r_X10_look_62 hq18) mk_X10_look mv_X10_look qw_402 rfl (by decide) rfl rfl ⟨Nat.le_of_ble_eq_true rfl, Nat.le_of_ble_eq_true rfl⟩ ⟨Nat.zero_le _, Nat.zero_le _⟩ (Nat.le_of_ble_eq_true rfl) dX10_next_187 rfl ?_
        refine wa_iadd C dX10_next_190 ?_
        refine wa_bipush (v := 48) C dX10_next_191 (by decide) ?_
        refine wa_isub C dX10_next_193 ?_
        refine wa_goto (tgt := 201) C dX10_next_194 (by decide) ?_
        exact WA.sub (lsub_c rfl lsub_n) (r_X10_next_62_J201 C _ (fun _ h => ih _ h) h)
set_option maxRecDepth 100000 in
set_option maxHeartbeats 4000000 in
theorem r_X10_next_62_L82 {p : Program} {l : Launch} {e : Env} {s : State} {m : MethodId} {args : Array Value} {below : List Frame} {meth : Method} {c : Code} {D : va_G} {cy : Nat → ClassId} {ad : Nat → Nat} (C : CX p s m args meth c cX10_next 2 RX10 none D cy ad (AD ad)) {ρ : Mem} : ∀ (n : Nat) (μ : Mem), it1 (f_X10_next_62_L82) n μ = some ρ → WA p l e (rmD 1) s m args below meth c 2 D cy ad (AD ad) 0 0 (ZZ below args s D cy ad (AD ad) 0 0 none ρ) μ [(0, .ref 62)] 82 [] := by
  intro n
  induction n with
  | zero =>
    intro μ h
    exact absurd h (fun h => by cases h)
  | succ n ih =>
    intro μ h
    replace h : f_X10_next_62_L82 (it1 (f_X10_next_62_L82) n) μ = some ρ := h
    unfold f_X10_next_62_L82 at h
    refine wa_aload_n C dX10_next_82 rfl ?_
    refine wa_aload_n C dX10_next_83 rfl ?_
    refine wa_geti (x := (μ.1 62 20)) C fl_RX10_125 rfl rfl (by decide) rfl dX10_next_84 ?_
    obtain ⟨q19, hq19, h⟩ := bd h
    refine wa_callV C (r_X10_look_62 hq19) mk_X10_look mv_X10_look qw_402 rfl (by decide) rfl rfl ⟨Nat.le_of_ble_eq_true rfl, Nat.le_of_ble_eq_true rfl⟩ ⟨Nat.zero_le _, Nat.zero_le _⟩ (Nat.le_of_ble_eq_true rfl) dX10_next_87 rfl ?_
    refine wa_i2l (v := (q19.1.toInt64)) C dX10_next_90 rfl ?_
    refine wa_ldc2 (v := 97) C qw_397 dX10_next_91 ?_
    refine wa_ldc2 (v := 122) C qw_398 dX10_next_94 ?_
    obtain ⟨q20, hq20, h⟩ := bd h
    refine wa_callS C (r_X10_in hq20) mk_X10_in ms_X10_in qw_198 rfl ⟨Nat.le_of_ble_eq_true rfl, Nat.le_of_ble_eq_true rfl⟩ ⟨Nat.zero_le _, Nat.zero_le _⟩ (Nat.le_of_ble_eq_true rfl) dX10_next_97 rfl ?_
    refine wa_if_eq (tgt := 274) C dX10_next_100 (by decide) (fun c21 => ?_) (fun c21 => ?_)
    · replace h := (if_pos c21).symm.trans h
      obtain rfl := Option.some.inj h
      exact wa_vret C dX10_next_274
    · replace h := (if_neg c21).symm.trans h
      refine wa_aload_n C dX10_next_103 rfl ?_
      refine wa_dup C dX10_next_104 rfl ?_
      refine wa_geti (x := (q20.2.1 62 20)) C fl_RX10_125 rfl rfl (by decide) rfl dX10_next_105 ?_
      refine wa_iconst (v := 1) C dX10_next_108 (by decide) ?_
      refine wa_iadd C dX10_next_109 ?_
      refine wa_puti C fl_RX10_125 fp_10_20 rfl rfl (by decide) rfl rfl dX10_next_110 ?_
      refine wa_goto (tgt := 82) C dX10_next_113 (by decide) ?_
      exact WA.sub (lsub_c rfl lsub_n) (ih _ h)
set_option maxRecDepth 100000 in
set_option maxHeartbeats 4000000 in
theorem r_X10_next_62_L8 {p : Program} {l : Launch} {e : Env} {s : State} {m : MethodId} {args : Array Value} {below : List Frame} {meth : Method} {c : Code} {D : va_G} {cy : Nat → ClassId} {ad : Nat → Nat} (C : CX p s m args meth c cX10_next 2 RX10 none D cy ad (AD ad)) {ρ : Mem} : ∀ (n : Nat) (μ : Mem), it1 (f_X10_next_62_L8) n μ = some ρ → WA p l e (rmD 1) s m args below meth c 2 D cy ad (AD ad) 0 0 (ZZ below args s D cy ad (AD ad) 0 0 none ρ) μ [(0, .ref 62)] 8 [] := by
  intro n
  induction n with
  | zero =>
    intro μ h
    exact absurd h (fun h => by cases h)
  | succ n ih =>
    intro μ h
    replace h : f_X10_next_62_L8 (it1 (f_X10_next_62_L8) n) μ = some ρ := h
    unfold f_X10_next_62_L8 at h
    refine wa_aload_n C dX10_next_8 rfl ?_
    refine wa_aload_n C dX10_next_9 rfl ?_
    refine wa_geti (x := (μ.1 62 20)) C fl_RX10_125 rfl rfl (by decide) rfl dX10_next_10 ?_
    obtain ⟨q2, hq2, h⟩ := bd h
    refine wa_callV C (r_X10_look_62 hq2) mk_X10_look mv_X10_look qw_402 rfl (by decide) rfl rfl ⟨Nat.le_of_ble_eq_true rfl, Nat.le_of_ble_eq_true rfl⟩ ⟨Nat.zero_le _, Nat.zero_le _⟩ (Nat.le_of_ble_eq_true rfl) dX10_next_13 rfl ?_
    refine wa_bipush (v := 32) C dX10_next_16 (by decide) ?_
    refine wa_icmp_ne (tgt := 34) C dX10_next_18 (by decide) (fun c3 => ?_) (fun c3 => ?_)
    · replace h := (if_neg c3).symm.trans h
      refine wa_aload_n C dX10_next_34 rfl ?_
      refine wa_aload_n C dX10_next_35 rfl ?_
      refine wa_geti (x := (q2.2.1 62 20)) C fl_RX10_125 rfl rfl (by decide) rfl dX10_next_36 ?_
      refine wa_puti C fl_RX10_119 fp_10_21 rfl rfl (by decide) rfl rfl dX10_next_39 ?_
      refine wa_aload_n C dX10_next_42 rfl ?_
      refine wa_aload_n C dX10_next_43 rfl ?_
      refine wa_geti (x := (q2.2.1 62 20)) C fl_RX10_125 rfl rfl (by decide) rfl dX10_next_44 ?_
      obtain ⟨q4, hq4, h⟩ := bd h
      refine wa_callV C (r_X10_look_62 hq4) mk_X10_look mv_X10_look qw_402 rfl (by decide) rfl rfl ⟨Nat.le_of_ble_eq_true rfl, Nat.le_of_ble_eq_true rfl⟩ ⟨Nat.zero_le _, Nat.zero_le _⟩ (Nat.le_of_ble_eq_true rfl) dX10_next_47 rfl ?_
      refine wa_istore_n C dX10_next_50 (by decide) ?_
      refine wa_iload_n C dX10_next_51 rfl ?_
      refine wa_if_ge (tgt := 63) C dX10_next_52 (by decide) (fun c5 => ?_) (fun c5 => ?_)
      · replace h := (if_pos c5).symm.trans h
        refine wa_iload_n C dX10_next_63 rfl ?_
        refine wa_i2l (v := (q4.1.toInt64)) C dX10_next_64 rfl ?_
        refine wa_ldc2 (v := 97) C qw_397 dX10_next_65 ?_
        refine wa_ldc2 (v := 122) C qw_398 dX10_next_68 ?_
        obtain ⟨q6, hq6, h⟩ := bd h
        refine wa_callS C (r_X10_in hq6) mk_X10_in ms_X10_in qw_198 rfl ⟨Nat.le_of_ble_eq_true rfl, Nat.le_of_ble_eq_true rfl⟩ ⟨Nat.zero_le _, Nat.zero_le _⟩ (Nat.le_of_ble_eq_true rfl) dX10_next_71 rfl ?_
        refine wa_if_eq (tgt := 116) C dX10_next_74 (by decide) (fun c7 => ?_) (fun c7 => ?_)
        · replace h := (if_pos c7).symm.trans h
          refine wa_iload_n C dX10_next_116 rfl ?_
          refine wa_i2l (v := (q4.1.toInt64)) C dX10_next_117 rfl ?_
          refine wa_ldc2 (v := 48) C qw_399 dX10_next_118 ?_
          refine wa_ldc2 (v := 57) C qw_400 dX10_next_121 ?_
          obtain ⟨q8, hq8, h⟩ := bd h
          refine wa_callS C (r_X10_in hq8) mk_X10_in ms_X10_in qw_198 rfl ⟨Nat.le_of_ble_eq_true rfl, Nat.le_of_ble_eq_true rfl⟩ ⟨Nat.zero_le _, Nat.zero_le _⟩ (Nat.le_of_ble_eq_true rfl) dX10_next_124 rfl ?_
          refine wa_if_eq (tgt := 243) C dX10_next_127 (by decide) (fun c9 => ?_) (fun c9 => ?_)
          · replace h := (if_pos c9).symm.trans h
            refine wa_aload_n C dX10_next_243 rfl ?_
            refine wa_iconst (v := 3) C dX10_next_244 (by decide) ?_
            refine wa_puti C fl_RX10_140 fp_10_22 rfl rfl (by decide) rfl rfl dX10_next_245 ?_
            refine wa_aload_n C dX10_next_248 rfl ?_
            refine wa_iload_n C dX10_next_249 rfl ?_
            refine wa_bipush (v := 59) C dX10_next_250 (by decide) ?_
            refine wa_icmp_ne (tgt := 259) C dX10_next_252 (by decide) (fun c10 => ?_) (fun c10 => ?_)
            · replace h := (if_neg c10).symm.trans h
              refine wa_iconst (v := 0) C dX10_next_259 (by decide) ?_
              exact WA.sub (lsub_c rfl lsub_n) (r_X10_next_62_J260 C h)
            · replace h := (if_pos c10).symm.trans h
              refine wa_iconst (v := 1) C dX10_next_255 (by decide) ?_
              refine wa_goto (tgt := 260) C dX10_next_256 (by decide) ?_
              exact WA.sub (lsub_c rfl lsub_n) (r_X10_next_62_J260 C h)
          · replace h := (if_neg c9).symm.trans h
            refine wa_aload_n C dX10_next_130 rfl ?_
            refine wa_iconst (v := 2) C dX10_next_131 (by decide) ?_
            refine wa_puti C fl_RX10_140 fp_10_22 rfl rfl (by decide) rfl rfl dX10_next_132 ?_
            refine wa_aload_n C dX10_next_135 rfl ?_
            refine wa_iconst (v := 0) C dX10_next_136 (by decide) ?_
            refine wa_puti C fl_RX10_151 fp_10_23 rfl rfl (by decide) rfl rfl dX10_next_137 ?_
            exact WA.sub (lsub_c rfl lsub_n) (r_X10_next_62_L140 C  _ _ h)
        · replace h := (if_neg c7).symm.trans h
          refine wa_aload_n C dX10_next_77 rfl ?_
          refine wa_iconst (v := 1) C dX10_next_78 (by decide) ?_
          refine wa_puti C fl_RX10_140 fp_10_22 rfl rfl (by decide) rfl rfl dX10_next_79 ?_
          exact WA.sub (lsub_c rfl lsub_n) (r_X10_next_62_L82 C  _ _ h)
      · replace h := (if_neg c5).symm.trans h
        refine wa_aload_n C dX10_next_55 rfl ?_
        refine wa_iconst (v := 0) C dX10_next_56 (by decide) ?_
        refine wa_puti C fl_RX10_140 fp_10_22 rfl rfl (by decide) rfl rfl dX10_next_57 ?_
        refine wa_goto (tgt := 274) C dX10_next_60 (by decide) ?_
        obtain rfl := Option.some.inj h
        exact wa_vret C dX10_next_274
    · replace h := (if_pos c3).symm.trans h
      refine wa_aload_n C dX10_next_21 rfl ?_
      refine wa_dup C dX10_next_22 rfl ?_
      refine wa_geti (x := (q2.2.1 62 20)) C fl_RX10_125 rfl rfl (by decide) rfl dX10_next_23 ?_
      refine wa_iconst (v := 1) C dX10_next_26 (by decide) ?_
      refine wa_iadd C dX10_next_27 ?_
      refine wa_puti C fl_RX10_125 fp_10_20 rfl rfl (by decide) rfl rfl dX10_next_28 ?_
      refine wa_goto (tgt := 8) C dX10_next_31 (by decide) ?_
      exact WA.sub (lsub_c rfl lsub_n) (ih _ h)
set_option maxRecDepth 100000 in
set_option maxHeartbeats 4000000 in
theorem r_X10_next_62 {μ : Mem} {ρ : Mem} (h : f_X10_next_62 μ = some ρ) : HT 1 yX10_next cX10_next 2 none [.ref 62] μ none ρ := by
  refine HT.of (by decide +kernel) (Nat.le_of_ble_eq_true rfl) (fun C => ?_)
  unfold f_X10_next_62 at h
  refine wa_aload_n C dX10_next_0 rfl ?_
  refine wa_geti (x := (μ.1 62 24)) C fl_RX10_116 rfl rfl (by decide) rfl dX10_next_1 ?_
  refine wa_if_le (tgt := 8) C dX10_next_4 (by decide) (fun c1 => ?_) (fun c1 => ?_)
  · replace h := (if_pos c1).symm.trans h
    exact WA.sub (lsub_c rfl lsub_n) (r_X10_next_62_L8 C  _ _ h)
  · replace h := (if_neg c1).symm.trans h
    obtain rfl := Option.some.inj h
    exact wa_vret C dX10_next_7
