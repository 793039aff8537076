def f_X10_isLawful_62 (a1 : Int32) (a2 : Int32) (μ : Mem) : Option (Int32 × Mem) :=
  (f_X10_shutBy_62 a2 μ).bind fun q1 =>
  (f_X10_missedBy_62 a1 q1.1 q1.2).bind fun q2 =>
  if q2.1 = 0 then
    some ((1 : Int32), q2.2)
  else
    some ((0 : Int32), q2.2)
set_option maxRecDepth 100000 in
set_option maxHeartbeats 4000000 in
theorem r_X10_isLawful_62 {a1 : Int32} {a2 : Int32} {μ : Mem} {ρ : (Int32 × Mem)} (h : f_X10_isLawful_62 a1 a2 μ = some ρ) : HT 3 yX10_isLawful cX10_isLawful 3 (some .boolean) [.ref 62, .int a1, .int a2] μ (some (.int ρ.1)) ρ.2 := by
  refine HT.of (by decide +kernel) (Nat.le_of_ble_eq_true rfl) (fun C => ?_)
  unfold f_X10_isLawful_62 at h
  refine wa_aload_n C dX10_isLawful_0 rfl ?_
  refine wa_iload_n C dX10_isLawful_1 rfl ?_
  refine wa_aload_n C dX10_isLawful_2 rfl ?_
  refine wa_iload_n C dX10_isLawful_3 rfl ?_
  obtain ⟨q1, hq1, h⟩ := bd h
  refine wa_callV C (r_X10_shutBy_62 hq1) mk_X10_shutBy mv_X10_shutBy qw_647 rfl (by decide) rfl rfl ⟨Nat.le_of_ble_eq_true rfl, Nat.le_of_ble_eq_true rfl⟩ ⟨Nat.zero_le _, Nat.zero_le _⟩ (Nat.le_of_ble_eq_true rfl) dX10_isLawful_4 rfl ?_
  obtain ⟨q2, hq2, h⟩ := bd h
  refine wa_callV C (r_X10_missedBy_62 hq2) mk_X10_missedBy mv_X10_missedBy qw_684 rfl (by decide) rfl rfl ⟨Nat.le_of_ble_eq_true rfl, Nat.le_of_ble_eq_true rfl⟩ ⟨Nat.zero_le _, Nat.zero_le _⟩ (Nat.le_of_ble_eq_true rfl) dX10_isLawful_7 rfl ?_
  refine wa_if_ne (tgt := 17) C dX10_isLawful_10 (by decide) (fun c3 => ?_) (fun c3 => ?_)
  · replace h := (if_neg c3).symm.trans h
    refine wa_iconst (v := 0) C dX10_isLawful_17 (by decide) ?_
    obtain rfl := Option.some.inj h
    exact wa_zret C rfl dX10_isLawful_18
  · replace h := (if_pos c3).symm.trans h
    refine wa_iconst (v := 1) C dX10_isLawful_13 (by decide) ?_
    refine wa_goto (tgt := 18) C dX10_isLawful_14 (by decide) ?_
    obtain rfl := Option.some.inj h
    exact wa_zret C rfl dX10_isLawful_18
def f_X10_lawful_62 (a1 : Int32) (a2 : Int32) (μ : Mem) : Option (Int32 × Mem) :=
  (f_X10_isQuarter_62 a1 μ).bind fun q1 =>
  if q1.1 = 0 then
    some ((-1 : Int32), q1.2)
  else
    (f_X10_isWatch_62 a2 q1.2).bind fun q3 =>
    if q3.1 = 0 then
      some ((-1 : Int32), q3.2)
    else
      (f_X10_isLawful_62 a1 a2 q3.2).bind fun q5 =>
      (f_X10_flag q5.1 q5.2).bind fun q6 =>
      some (q6.1, q6.2)
set_option maxRecDepth 100000 in
set_option maxHeartbeats 4000000 in
theorem r_X10_lawful_62 {a1 : Int32} {a2 : Int32} {μ : Mem} {ρ : (Int32 × Mem)} (h : f_X10_lawful_62 a1 a2 μ = some ρ) : HT 4 yX10_lawful cX10_lawful 3 (some .int) [.ref 62, .int a1, .int a2] μ (some (.int ρ.1)) ρ.2 := by
  refine HT.of (by decide +kernel) (Nat.le_of_ble_eq_true rfl) (fun C => ?_)
  unfold f_X10_lawful_62 at h
  refine wa_aload_n C dX10_lawful_0 rfl ?_
  refine wa_iload_n C dX10_lawful_1 rfl ?_
  obtain ⟨q1, hq1, h⟩ := bd h
  refine wa_callV C (r_X10_isQuarter_62 hq1) mk_X10_isQuarter mv_X10_isQuarter qw_558 rfl (by decide) rfl rfl ⟨Nat.le_of_ble_eq_true rfl, Nat.le_of_ble_eq_true rfl⟩ ⟨Nat.zero_le _, Nat.zero_le _⟩ (Nat.le_of_ble_eq_true rfl) dX10_lawful_2 rfl ?_
  refine wa_if_eq (tgt := 28) C dX10_lawful_5 (by decide) (fun c2 => ?_) (fun c2 => ?_)
  · replace h := (if_pos c2).symm.trans h
    refine wa_iconst (v := -1) C dX10_lawful_28 (by decide) ?_
    obtain rfl := Option.some.inj h
    exact wa_iret C dX10_lawful_29
  · replace h := (if_neg c2).symm.trans h
    refine wa_aload_n C dX10_lawful_8 rfl ?_
    refine wa_iload_n C dX10_lawful_9 rfl ?_
    obtain ⟨q3, hq3, h⟩ := bd h
    refine wa_callV C (r_X10_isWatch_62 hq3) mk_X10_isWatch mv_X10_isWatch qw_588 rfl (by decide) rfl rfl ⟨Nat.le_of_ble_eq_true rfl, Nat.le_of_ble_eq_true rfl⟩ ⟨Nat.zero_le _, Nat.zero_le _⟩ (Nat.le_of_ble_eq_true rfl) dX10_lawful_10 rfl ?_
    refine wa_if_eq (tgt := 28) C dX10_lawful_13 (by decide) (fun c4 => ?_) (fun c4 => ?_)
    · replace h := (if_pos c4).symm.trans h
      refine wa_iconst (v := -1) C dX10_lawful_28 (by decide) ?_
      obtain rfl := Option.some.inj h
      exact wa_iret C dX10_lawful_29
    · replace h := (if_neg c4).symm.trans h
      refine wa_aload_n C dX10_lawful_16 rfl ?_
      refine wa_iload_n C dX10_lawful_17 rfl ?_
      refine wa_iload_n C dX10_lawful_18 rfl ?_
      obtain ⟨q5, hq5, h⟩ := bd h
      refine wa_callV C (r_X10_isLawful_62 hq5) mk_X10_isLawful mv_X10_isLawful qw_680 rfl (by decide) rfl rfl ⟨Nat.le_of_ble_eq_true rfl, Nat.le_of_ble_eq_true rfl⟩ ⟨Nat.zero_le _, Nat.zero_le _⟩ (Nat.le_of_ble_eq_true rfl) dX10_lawful_19 rfl ?_
      obtain ⟨q6, hq6, h⟩ := bd h
      refine wa_callS C (r_X10_flag hq6) mk_X10_flag ms_X10_flag qw_660 rfl ⟨Nat.le_of_ble_eq_true rfl, Nat.le_of_ble_eq_true rfl⟩ ⟨Nat.zero_le _, Nat.zero_le _⟩ (Nat.le_of_ble_eq_true rfl) dX10_lawful_22 rfl ?_
      refine wa_goto (tgt := 29) C dX10_lawful_25 (by decide) ?_
      obtain rfl := Option.some.inj h
      exact wa_iret C dX10_lawful_29
def f_J6_bitCount_0f7a4 (a0 : Int32) (μ : Mem) : Option (Int32 × Mem) :=
  some (((((((((a0 - ((iush a0 (1 : Int32)) &&& (1431655765 : Int32))) &&& (858993459 : Int32)) + ((iush (a0 - ((iush a0 (1 : Int32)) &&& (1431655765 : Int32))) (2 : Int32)) &&& (858993459 : Int32))) + (iush (((a0 - ((iush a0 (1 : Int32)) &&& (1431655765 : Int32))) &&& (858993459 : Int32)) + ((iush (a0 - ((iush a0 (1 : Int32)) &&& (1431655765 : Int32))) (2 : Int32)) &&& (858993459 : Int32))) (4 : Int32))) &&& (252645135 : Int32)) + (iush (((((a0 - ((iush a0 (1 : Int32)) &&& (1431655765 : Int32))) &&& (858993459 : Int32)) + ((iush (a0 - ((iush a0 (1 : Int32)) &&& (1431655765 : Int32))) (2 : Int32)) &&& (858993459 : Int32))) + (iush (((a0 - ((iush a0 (1 : Int32)) &&& (1431655765 : Int32))) &&& (858993459 : Int32)) + ((iush (a0 - ((iush a0 (1 : Int32)) &&& (1431655765 : Int32))) (2 : Int32)) &&& (858993459 : Int32))) (4 : Int32))) &&& (252645135 : Int32)) (8 : Int32))) + (iush ((((((a0 - ((iush a0 (1 : Int32)) &&& (1431655765 : Int32))) &&& (858993459 : Int32)) + ((iush (a0 - ((iush a0 (1 : Int32)) &&& (1431655765 : Int32))) (2 : Int32)) &&& (858993459 : Int32))) + (iush (((a0 - ((iush a0 (1 : Int32)) &&& (1431655765 : Int32))) &&& (858993459 : Int32)) + ((iush (a0 - ((iush a0 (1 : Int32)) &&& (1431655765 : Int32))) (2 : Int32)) &&& (858993459 : Int32))) (4 : Int32))) &&& (252645135 : Int32)) + (iush (((((a0 - ((iush a0 (1 : Int32)) &&& (1431655765 : Int32))) &&& (858993459 : Int32)) + ((iush (a0 - ((iush a0 (1 : Int32)) &&& (1431655765 : Int32))) (2 : Int32)) &&& (858993459 : Int32))) + (iush (((a0 - ((iush a0 (1 : Int32)) &&& (1431655765 : Int32))) &&& (858993459 : Int32)) + ((iush (a0 - ((iush a0 (1 : Int32)) &&& (1431655765 : Int32))) (2 : Int32)) &&& (858993459 : Int32))) (4 : Int32))) &&& (252645135 : Int32)) (8 : Int32))) (16 : Int32))) &&& (63 : Int32)), μ)
set_option maxRecDepth 100000 in
set_option maxHeartbeats 4000000 in
theorem r_J6_bitCount_0f7a4 {a0 : Int32} {μ : Mem} {ρ : (Int32 × Mem)} (h : f_J6_bitCount_0f7a4 a0 μ = some ρ) : HT 0 yJ6_bitCount_0f7a4 cJ6_bitCount_0f7a4 1 (some .int) [.int a0] μ (some (.int ρ.1)) ρ.2 := by
  refine HT.of (by decide +kernel) (Nat.le_of_ble_eq_true rfl) (fun C => ?_)
  unfold f_J6_bitCount_0f7a4 at h
  refine wa_iload_n C dJ6_bitCount_0f7a4_0 rfl ?_
  refine wa_iload_n C dJ6_bitCount_0f7a4_1 rfl ?_
  refine wa_iconst (v := 1) C dJ6_bitCount_0f7a4_2 (by decide) ?_
  refine wa_iushr (v := (iush a0 (1 : Int32))) C dJ6_bitCount_0f7a4_3 rfl ?_
  refine wa_ldc_w (v := 1431655765) C qw_699 dJ6_bitCount_0f7a4_4 ?_
  refine wa_iand C dJ6_bitCount_0f7a4_7 ?_
  refine wa_isub C dJ6_bitCount_0f7a4_8 ?_
  refine wa_istore_n C dJ6_bitCount_0f7a4_9 (by decide) ?_
  refine wa_iload_n C dJ6_bitCount_0f7a4_10 rfl ?_
  refine wa_ldc_w (v := 858993459) C qw_700 dJ6_bitCount_0f7a4_11 ?_
  refine wa_iand C dJ6_bitCount_0f7a4_14 ?_
  refine wa_iload_n C dJ6_bitCount_0f7a4_15 rfl ?_
  refine wa_iconst (v := 2) C dJ6_bitCount_0f7a4_16 (by decide) ?_
  refine wa_iushr (v := (iush (a0 - ((iush a0 (1 : Int32)) &&& (1431655765 : Int32))) (2 : Int32))) C dJ6_bitCount_0f7a4_17 rfl ?_
  refine wa_ldc_w (v := 858993459) C qw_700 dJ6_bitCount_0f7a4_18 ?_
  refine wa_iand C dJ6_bitCount_0f7a4_21 ?_
  refine wa_iadd C dJ6_bitCount_0f7a4_22 ?_
  refine wa_istore_n C dJ6_bitCount_0f7a4_23 (by decide) ?_
  refine wa_iload_n C dJ6_bitCount_0f7a4_24 rfl ?_
  refine wa_iload_n C dJ6_bitCount_0f7a4_25 rfl ?_
  refine wa_iconst (v := 4) C dJ6_bitCount_0f7a4_26 (by decide) ?_
  refine wa_iushr (v := (iush (((a0 - ((iush a0 (1 : Int32)) &&& (1431655765 : Int32))) &&& (858993459 : Int32)) + ((iush (a0 - ((iush a0 (1 : Int32)) &&& (1431655765 : Int32))) (2 : Int32)) &&& (858993459 : Int32))) (4 : Int32))) C dJ6_bitCount_0f7a4_27 rfl ?_
  refine wa_iadd C dJ6_bitCount_0f7a4_28 ?_
  refine wa_ldc_w (v := 252645135) C qw_701 dJ6_bitCount_0f7a4_29 ?_
  refine wa_iand C dJ6_bitCount_0f7a4_32 ?_
  refine wa_istore_n C dJ6_bitCount_0f7a4_33 (by decide) ?_
  refine wa_iload_n C dJ6_bitCount_0f7a4_34 rfl ?_
  refine wa_iload_n C dJ6_bitCount_0f7a4_35 rfl ?_
  refine wa_bipush (v := 8) C dJ6_bitCount_0f7a4_36 (by decide) ?_
  refine wa_iushr (v := (iush (((((a0 - ((iush a0 (1 : Int32)) &&& (1431655765 : Int32))) &&& (858993459 : Int32)) + ((iush (a0 - ((iush a0 (1 : Int32)) &&& (1431655765 : Int32))) (2 : Int32)) &&& (858993459 : Int32))) + (iush (((a0 - ((iush a0 (1 : Int32)) &&& (1431655765 : Int32))) &&& (858993459 : Int32)) + ((iush (a0 - ((iush a0 (1 : Int32)) &&& (1431655765 : Int32))) (2 : Int32)) &&& (858993459 : Int32))) (4 : Int32))) &&& (252645135 : Int32)) (8 : Int32))) C dJ6_bitCount_0f7a4_38 rfl ?_
  refine wa_iadd C dJ6_bitCount_0f7a4_39 ?_
  refine wa_istore_n C dJ6_bitCount_0f7a4_40 (by decide) ?_
  refine wa_iload_n C dJ6_bitCount_0f7a4_41 rfl ?_
  refine wa_iload_n C dJ6_bitCount_0f7a4_42 rfl ?_
  refine wa_bipush (v := 16) C dJ6_bitCount_0f7a4_43 (by decide) ?_
  refine wa_iushr (v := (iush ((((((a0 - ((iush a0 (1 : Int32)) &&& (1431655765 : Int32))) &&& (858993459 : Int32)) + ((iush (a0 - ((iush a0 (1 : Int32)) &&& (1431655765 : Int32))) (2 : Int32)) &&& (858993459 : Int32))) + (iush (((a0 - ((iush a0 (1 : Int32)) &&& (1431655765 : Int32))) &&& (858993459 : Int32)) + ((iush (a0 - ((iush a0 (1 : Int32)) &&& (1431655765 : Int32))) (2 : Int32)) &&& (858993459 : Int32))) (4 : Int32))) &&& (252645135 : Int32)) + (iush (((((a0 - ((iush a0 (1 : Int32)) &&& (1431655765 : Int32))) &&& (858993459 : Int32)) + ((iush (a0 - ((iush a0 (1 : Int32)) &&& (1431655765 : Int32))) (2 : Int32)) &&& (858993459 : Int32))) + (iush (((a0 - ((iush a0 (1 : Int32)) &&& (1431655765 : Int32))) &&& (858993459 : Int32)) + ((iush (a0 - ((iush a0 (1 : Int32)) &&& (1431655765 : Int32))) (2 : Int32)) &&& (858993459 : Int32))) (4 : Int32))) &&& (252645135 : Int32)) (8 : Int32))) (16 : Int32))) C dJ6_bitCount_0f7a4_45 rfl ?_
  refine wa_iadd C dJ6_bitCount_0f7a4_46 ?_
  refine wa_istore_n C dJ6_bitCount_0f7a4_47 (by decide) ?_
  refine wa_iload_n C dJ6_bitCount_0f7a4_48 rfl ?_
  refine wa_bipush (v := 63) C dJ6_bitCount_0f7a4_49 (by decide) ?_
  refine wa_iand C dJ6_bitCount_0f7a4_51 ?_
  obtain rfl := Option.some.inj h
  exact wa_iret C dJ6_bitCount_0f7a4_52
def f_X9_asleep_0_J91 (k35 : Int32 → Int32 → Int32 → Mem → Option (Int32 × Mem)) (a1 : Int32) (a2 : Int32) (a3 : Int32) (a4 : Int32) (a5 : Int32) (μ : Mem) : Option (Int32 × Mem) :=
  k35 a3 a4 (a5 + 1) μ
def f_X9_asleep_0_L35 (a1 : Int32) (a2 : Int32) (k35 : Int32 → Int32 → Int32 → Mem → Option (Int32 × Mem)) (a3 : Int32) (a4 : Int32) (a5 : Int32) (μ : Mem) : Option (Int32 × Mem) :=
    (f_X1_watches_1 μ).bind fun q6 =>
    if q6.1 ≤ a5 then
      if a2 = 0 then
        some (a3, q6.2)
      else
        some (a4, q6.2)
    else
      if inb a5 27 = false then none else
      (f_J6_bitCount_0f7a4 ((shuF (a5.toNatClampNeg)) &&& ((q6.2.1 47 2) ^^^ (-1 : Int32))) q6.2).bind fun q10 =>
      if q10.1 ≤ a3 then
        f_X9_asleep_0_J91 k35 a1 a2 a3 a4 a5 q10.2
      else
        (f_X9_isLawful_0 a1 a5 q10.2).bind fun q12 =>
        if q12.1 = 0 then
          f_X9_asleep_0_J91 k35 a1 a2 a3 a4 a5 q12.2
        else
          f_X9_asleep_0_J91 k35 a1 a2 q10.1 a5 a5 q12.2
def f_X9_asleep_0 (a1 : Int32) (a2 : Int32) (μ : Mem) : Option (Int32 × Mem) :=
  (f_X1_hasQuarter_1 a1 μ).bind fun q1 =>
  if q1.1 = 0 then
    some ((-1 : Int32), q1.2)
  else
    (f_X9_isEither a2 q1.2).bind fun q3 =>
    if q3.1 = 0 then
      some ((-1 : Int32), q3.2)
    else
      (f_X9_look_0 q3.2).bind fun q5 =>
      it4 (f_X9_asleep_0_L35 a1 a2) FU (-4 : Int32) (-4 : Int32) (0 : Int32) q5
set_option maxRecDepth 100000 in
set_option maxHeartbeats 4000000 in
theorem r_X9_asleep_0_J91 {p : Program} {l : Launch} {e : Env} {s : State} {m : MethodId} {args : Array Value} {below : List Frame} {meth : Method} {c : Code} {D : va_G} {cy : Nat → ClassId} {ad : Nat → Nat} (C : CX p s m args meth c cX9_asleep 7 RX9 (some .int) D cy ad (AD ad)) {a1 : Int32} {a2 : Int32} {a3 : Int32} {a4 : Int32} {a5 : Int32} {μ : Mem} {ρ : (Int32 × Mem)} (k35 : Int32 → Int32 → Int32 → Mem → Option (Int32 × Mem)) (hk35 : ∀ (a3 : Int32) (a4 : Int32) (a5 : Int32) (μ : Mem), k35 a3 a4 a5 μ = some ρ → WA p l e (rmD 3) s m args below meth c 7 D cy ad (AD ad) 0 0 (ZZ below args s D cy ad (AD ad) 0 0 (some (.int ρ.1)) ρ.2) μ [(0, .ref 0), (1, .int a1), (2, .int a2), (3, .int a3), (4, .int a4), (5, .int a5)] 35 []) (h : f_X9_asleep_0_J91 k35 a1 a2 a3 a4 a5 μ = some ρ) : WA p l e (rmD 3) s m args below meth c 7 D cy ad (AD ad) 0 0 (ZZ below args s D cy ad (AD ad) 0 0 (some (.int ρ.1)) ρ.2) μ [(0, .ref 0), (1, .int a1), (2, .int a2), (3, .int a3), (4, .int a4), (5, .int a5)] 91 [] := by
  unfold f_X9_asleep_0_J91 at h
  refine wa_iinc (v := (a5 + 1)) C dX9_asleep_91 rfl rfl (by decide) ?_
  refine wa_goto (tgt := 35) C dX9_asleep_94 (by decide) ?_
  exact WA.sub (lsub_c rfl (lsub_c rfl (lsub_c rfl (lsub_c rfl (lsub_c rfl (lsub_c rfl lsub_n)))))) (hk35 _ _ _ _ h)
set_option maxRecDepth 100000 in
set_option maxHeartbeats 4000000 in
theorem r_X9_asleep_0_L35 {p : Program} {l : Launch} {e : Env} {s : State} {m : MethodId} {args : Array Value} {below : List Frame} {meth : Method} {c : Code} {D : va_G} {cy : Nat → ClassId} {ad : Nat → Nat} (C : CX p s m args meth c cX9_asleep 7 RX9 (some .int) D cy ad (AD ad)) (a1 : Int32) (a2 : Int32) {ρ : (Int32 × Mem)} : ∀ (n : Nat) (a3 : Int32) (a4 : Int32) (a5 : Int32) (μ : Mem), it4 (f_X9_asleep_0_L35 a1 a2) n a3 a4 a5 μ = some ρ → WA p l e (rmD 3) s m args below meth c 7 D cy ad (AD ad) 0 0 (ZZ below args s D cy ad (AD ad) 0 0 (some (.int ρ.1)) ρ.2) μ [(0, .ref 0), (1, .int a1), (2, .int a2), (3, .int a3), (4, .int a4), (5, .int a5)] 35 [] := by
  intro n
  induction n with
  | zero =>
    intro a3 a4 a5 μ h
    exact absurd h (fun h => by cases h)
  | succ n ih =>
    intro a3 a4 a5 μ h
    replace h : f_X9_asleep_0_L35 a1 a2 (it4 (f_X9_asleep_0_L35 a1 a2) n) a3 a4 a5 μ = some ρ := h
    unfold f_X9_asleep_0_L35 at h
    refine wa_iload C dX9_asleep_35 rfl ?_
    refine wa_aload_n C dX9_asleep_37 rfl ?_
    refine wa_getr C fl_RX9_10 rfl rfl (by decide) dX9_asleep_38 ?_
    obtain ⟨q6, hq6, h⟩ := bd h
    refine wa_callV C (r_X1_watches_1 hq6) mk_X1_watches mv_X1_watches qw_694 rfl (by decide) rfl rfl ⟨Nat.le_of_ble_eq_true rfl, Nat.le_of_ble_eq_true rfl⟩ ⟨Nat.zero_le _, Nat.zero_le _⟩ (Nat.le_of_ble_eq_true rfl) dX9_asleep_41 rfl ?_
    refine wa_icmp_ge (tgt := 97) C dX9_asleep_44 (by decide) (fun c7 => ?_) (fun c7 => ?_)
    · replace h := (if_pos c7).symm.trans h
      refine wa_iload_n C dX9_asleep_97 rfl ?_
      refine wa_if_ne (tgt := 105) C dX9_asleep_98 (by decide) (fun c8 => ?_) (fun c8 => ?_)
      · replace h := (if_neg c8).symm.trans h
        refine wa_iload C dX9_asleep_105 rfl ?_
        obtain rfl := Option.some.inj h
        exact wa_iret C dX9_asleep_107
      · replace h := (if_pos c8).symm.trans h
        refine wa_iload_n C dX9_asleep_101 rfl ?_
        refine wa_goto (tgt := 107) C dX9_asleep_102 (by decide) ?_
        obtain rfl := Option.some.inj h
        exact wa_iret C dX9_asleep_107
    · replace h := (if_neg c7).symm.trans h
      refine wa_gshu C qw_692 dX9_asleep_47 ?_
      refine wa_iload C dX9_asleep_50 rfl ?_
      obtain ⟨g9, h⟩ := gd h
      refine wa_sald (j := (a5.toNatClampNeg)) C g9 rfl dX9_asleep_52 ?_
      refine wa_aload_n C dX9_asleep_53 rfl ?_
      refine wa_getr C fl_RX9_44 rfl rfl (by decide) dX9_asleep_54 ?_
      refine wa_geti (x := (q6.2.1 47 2)) C fl_RX9_188 rfl rfl (by decide) rfl dX9_asleep_57 ?_
      refine wa_iconst (v := -1) C dX9_asleep_60 (by decide) ?_
      refine wa_ixor C dX9_asleep_61 ?_
      refine wa_iand C dX9_asleep_62 ?_
      obtain ⟨q10, hq10, h⟩ := bd h
      refine wa_callS C (r_J6_bitCount_0f7a4 hq10) mk_J6_bitCount_0f7a4 ms_J6_bitCount_0f7a4 qw_695 rfl ⟨Nat.le_of_ble_eq_true rfl, Nat.le_of_ble_eq_true rfl⟩ ⟨Nat.zero_le _, Nat.zero_le _⟩ (Nat.le_of_ble_eq_true rfl) dX9_asleep_63 rfl ?_
      refine wa_istore C dX9_asleep_66 (by decide) ?_
      refine wa_iload C dX9_asleep_68 rfl ?_
      refine wa_iload_n C dX9_asleep_70 rfl ?_
      refine wa_icmp_le (tgt := 91) C dX9_asleep_71 (by decide) (fun c11 => ?_) (fun c11 => ?_)
      · replace h := (if_pos c11).symm.trans h
        exact WA.sub (lsub_c rfl (lsub_c rfl (lsub_c rfl (lsub_c rfl (lsub_c rfl (lsub_c rfl lsub_n)))))) (r_X9_asleep_0_J91 C _ (fun _ _ _ _ h => ih _ _ _ _ h) h)
      · replace h := (if_neg c11).symm.trans h
        refine wa_aload_n C dX9_asleep_74 rfl ?_
        refine wa_iload_n C dX9_asleep_75 rfl ?_
        refine wa_iload C dX9_asleep_76 rfl ?_
        obtain ⟨q12, hq12, h⟩ := bd h
        refine wa_callV C (r_X9_isLawful_0 hq12) mk_X9_isLawful mv_X9_isLawful qw_667 rfl (by decide) rfl rfl ⟨Nat.le_of_ble_eq_true rfl, Nat.le_of_ble_eq_true rfl⟩ ⟨Nat.zero_le _, Nat.zero_le _⟩ (Nat.le_of_ble_eq_true rfl) dX9_asleep_78 rfl ?_
        refine wa_if_eq (tgt := 91) C dX9_asleep_81 (by decide) (fun c13 => ?_) (fun c13 => ?_)
        · replace h := (if_pos c13).symm.trans h
          exact WA.sub (lsub_c rfl (lsub_c rfl (lsub_c rfl (lsub_c rfl (lsub_c rfl (lsub_c rfl lsub_n)))))) (r_X9_asleep_0_J91 C _ (fun _ _ _ _ h => ih _ _ _ _ h) h)
        · replace h := (if_neg c13).symm.trans h
          refine wa_iload C dX9_asleep_84 rfl ?_
          refine wa_istore_n C dX9_asleep_86 (by decide) ?_
          refine wa_iload C dX9_asleep_87 rfl ?_
          refine wa_istore C dX9_asleep_89 (by decide) ?_
          exact WA.sub (lsub_c rfl (lsub_c rfl (lsub_c rfl (lsub_c rfl (lsub_c rfl (lsub_c rfl lsub_n)))))) (r_X9_asleep_0_J91 C _ (fun _ _ _ _ h => ih _ _ _ _ h) h)
set_option maxRecDepth 100000 in
set_option maxHeartbeats 4000000 in
theorem r_X9_asleep_0 {a1 : Int32} {a2 : Int32} {μ : Mem} {ρ : (Int32 × Mem)} (h : f_X9_asleep_0 a1 a2 μ = some ρ) : HT 3 yX9_asleep cX9_asleep 7 (some .int) [.ref 0, .int a1, .int a2] μ (some (.int ρ.1)) ρ.2 := by
  refine HT.of (by decide +kernel) (Nat.le_of_ble_eq_true rfl) (fun C => ?_)
  unfold f_X9_asleep_0 at h
  refine wa_aload_n C dX9_asleep_0 rfl ?_
  refine wa_getr C fl_RX9_10 rfl rfl (by decide) dX9_asleep_1 ?_
  refine wa_iload_n C dX9_asleep_4 rfl ?_
  obtain ⟨q1, hq1, h⟩ := bd h
  refine wa_callV C (r_X1_hasQuarter_1 hq1) mk_X1_hasQuarter mv_X1_hasQuarter qw_546 rfl (by decide) rfl rfl ⟨Nat.le_of_ble_eq_true rfl, Nat.le_of_ble_eq_true rfl⟩ ⟨Nat.zero_le _, Nat.zero_le _⟩ (Nat.le_of_ble_eq_true rfl) dX9_asleep_5 rfl ?_
  refine wa_if_eq (tgt := 18) C dX9_asleep_8 (by decide) (fun c2 => ?_) (fun c2 => ?_)
  · replace h := (if_pos c2).symm.trans h
    refine wa_iconst (v := -1) C dX9_asleep_18 (by decide) ?_
    obtain rfl := Option.some.inj h
    exact wa_iret C dX9_asleep_19
  · replace h := (if_neg c2).symm.trans h
    refine wa_iload_n C dX9_asleep_11 rfl ?_
    obtain ⟨q3, hq3, h⟩ := bd h
    refine wa_callS C (r_X9_isEither hq3) mk_X9_isEither ms_X9_isEither qw_487 rfl ⟨Nat.le_of_ble_eq_true rfl, Nat.le_of_ble_eq_true rfl⟩ ⟨Nat.zero_le _, Nat.zero_le _⟩ (Nat.le_of_ble_eq_true rfl) dX9_asleep_12 rfl ?_
    refine wa_if_ne (tgt := 20) C dX9_asleep_15 (by decide) (fun c4 => ?_) (fun c4 => ?_)
    · replace h := (if_neg c4).symm.trans h
      refine wa_aload_n C dX9_asleep_20 rfl ?_
      obtain ⟨q5, hq5, h⟩ := bd h
      refine wa_callV C (r_X9_look_0 hq5) mk_X9_look mv_X9_look qw_508 rfl (by decide) rfl rfl ⟨Nat.le_of_ble_eq_true rfl, Nat.le_of_ble_eq_true rfl⟩ ⟨Nat.zero_le _, Nat.zero_le _⟩ (Nat.le_of_ble_eq_true rfl) dX9_asleep_21 rfl ?_
      refine wa_pop C dX9_asleep_24 rfl ?_
      refine wa_bipush (v := -4) C dX9_asleep_25 (by decide) ?_
      refine wa_istore_n C dX9_asleep_27 (by decide) ?_
      refine wa_bipush (v := -4) C dX9_asleep_28 (by decide) ?_
      refine wa_istore C dX9_asleep_30 (by decide) ?_
      refine wa_iconst (v := 0) C dX9_asleep_32 (by decide) ?_
      refine wa_istore C dX9_asleep_33 (by decide) ?_
      exact WA.sub (lsub_c rfl (lsub_c rfl (lsub_c rfl (lsub_c rfl (lsub_c rfl (lsub_c rfl lsub_n)))))) (r_X9_asleep_0_L35 C _ _ _ _ _ _ _ h)
    · replace h := (if_pos c4).symm.trans h
      refine wa_iconst (v := -1) C dX9_asleep_18 (by decide) ?_
      obtain rfl := Option.some.inj h
      exact wa_iret C dX9_asleep_19
def f_X10_isPart (a0 : Int32) (μ : Mem) : Option (Int32 × Mem) :=
  (f_X10_in (a0.toInt64) (0 : Int64) (1 : Int64) μ).bind fun q1 =>
  if zb q1.1 = false then none else
  some (q1.1, q1.2)
set_option maxRecDepth 100000 in
set_option maxHeartbeats 4000000 in
theorem r_X10_isPart {a0 : Int32} {μ : Mem} {ρ : (Int32 × Mem)} (h : f_X10_isPart a0 μ = some ρ) : HT 1 yX10_isPart cX10_isPart 1 (some .boolean) [.int a0] μ (some (.int ρ.1)) ρ.2 := by
  refine HT.of (by decide +kernel) (Nat.le_of_ble_eq_true rfl) (fun C => ?_)
  unfold f_X10_isPart at h
  refine wa_iload_n C dX10_isPart_0 rfl ?_
  refine wa_i2l (v := (a0.toInt64)) C dX10_isPart_1 rfl ?_
  refine wa_lconst (v := 0) C dX10_isPart_2 (by decide) ?_
  refine wa_lconst (v := 1) C dX10_isPart_3 (by decide) ?_
  obtain ⟨q1, hq1, h⟩ := bd h
  refine wa_callS C (r_X10_in hq1) mk_X10_in ms_X10_in qw_198 rfl ⟨Nat.le_of_ble_eq_true rfl, Nat.le_of_ble_eq_true rfl⟩ ⟨Nat.zero_le _, Nat.zero_le _⟩ (Nat.le_of_ble_eq_true rfl) dX10_isPart_4 rfl ?_
  obtain ⟨g2, h⟩ := gd h
  obtain rfl := Option.some.inj h
  exact wa_zret C g2 dX10_isPart_7
def f_X10_glassEyes_62_L4 (k4 : Int32 → Int32 → Mem → Option (Int32 × Mem)) (a1 : Int32) (a2 : Int32) (μ : Mem) : Option (Int32 × Mem) :=
    if ((2 : Int32) * (μ.1 62 2)) ≤ a2 then
      some (a1, μ)
    else
      (f_X10_isGlass_62 a2 μ).bind fun q2 =>
      (f_X10_flag q2.1 q2.2).bind fun q3 =>
      k4 (a1 ||| (q3.1 <<< (a2 &&& 31))) (a2 + 1) q3.2
def f_X10_glassEyes_62 (μ : Mem) : Option (Int32 × Mem) :=
  it3 (f_X10_glassEyes_62_L4) FU (0 : Int32) (0 : Int32) μ
set_option maxRecDepth 100000 in
set_option maxHeartbeats 4000000 in
theorem r_X10_glassEyes_62_L4 {p : Program} {l : Launch} {e : Env} {s : State} {m : MethodId} {args : Array Value} {below : List Frame} {meth : Method} {c : Code} {D : va_G} {cy : Nat → ClassId} {ad : Nat → Nat} (C : CX p s m args meth c cX10_glassEyes 3 RX10 (some .int) D cy ad (AD ad)) {ρ : (Int32 × Mem)} : ∀ (n : Nat) (a1 : Int32) (a2 : Int32) (μ : Mem), it3 (f_X10_glassEyes_62_L4) n a1 a2 μ = some ρ → WA p l e (rmD 1) s m args below meth c 3 D cy ad (AD ad) 0 0 (ZZ below args s D cy ad (AD ad) 0 0 (some (.int ρ.1)) ρ.2) μ [(0, .ref 62), (1, .int a1), (2, .int a2)] 4 [] := by
  intro n
  induction n with
  | zero =>
    intro a1 a2 μ h
    exact absurd h (fun h => by cases h)
  | succ n ih =>
    intro a1 a2 μ h
    replace h : f_X10_glassEyes_62_L4 (it3 (f_X10_glassEyes_62_L4) n) a1 a2 μ = some ρ := h
    unfold f_X10_glassEyes_62_L4 at h
    refine wa_iload_n C dX10_glassEyes_4 rfl ?_
    refine wa_iconst (v := 2) C dX10_glassEyes_5 (by decide) ?_
    refine wa_aload_n C dX10_glassEyes_6 rfl ?_
    refine wa_geti (x := (μ.1 62 2)) C fl_RX10_94 rfl rfl (by decide) rfl dX10_glassEyes_7 ?_
    refine wa_imul C dX10_glassEyes_10 ?_
    refine wa_icmp_ge (tgt := 33) C dX10_glassEyes_11 (by decide) (fun c1 => ?_) (fun c1 => ?_)
    · replace h := (if_pos c1).symm.trans h
      refine wa_iload_n C dX10_glassEyes_33 rfl ?_
      obtain rfl := Option.some.inj h
      exact wa_iret C dX10_glassEyes_34
    · replace h := (if_neg c1).symm.trans h
      refine wa_iload_n C dX10_glassEyes_14 rfl ?_
      refine wa_aload_n C dX10_glassEyes_15 rfl ?_
      refine wa_iload_n C dX10_glassEyes_16 rfl ?_
      obtain ⟨q2, hq2, h⟩ := bd h
      refine wa_callV C (r_X10_isGlass_62 hq2) mk_X10_isGlass mv_X10_isGlass qw_627 rfl (by decide) rfl rfl ⟨Nat.le_of_ble_eq_true rfl, Nat.le_of_ble_eq_true rfl⟩ ⟨Nat.zero_le _, Nat.zero_le _⟩ (Nat.le_of_ble_eq_true rfl) dX10_glassEyes_17 rfl ?_
      obtain ⟨q3, hq3, h⟩ := bd h
      refine wa_callS C (r_X10_flag hq3) mk_X10_flag ms_X10_flag qw_660 rfl ⟨Nat.le_of_ble_eq_true rfl, Nat.le_of_ble_eq_true rfl⟩ ⟨Nat.zero_le _, Nat.zero_le _⟩ (Nat.le_of_ble_eq_true rfl) dX10_glassEyes_20 rfl ?_
      refine wa_iload_n C dX10_glassEyes_23 rfl ?_
      refine wa_ishl C dX10_glassEyes_24 ?_
      refine wa_ior C dX10_glassEyes_25 ?_
      refine wa_istore_n C dX10_glassEyes_26 (by decide) ?_
      refine wa_iinc (v := (a2 + 1)) C dX10_glassEyes_27 rfl rfl (by decide) ?_
      refine wa_goto (tgt := 4) C dX10_glassEyes_30 (by decide) ?_
      exact WA.sub (lsub_c rfl (lsub_c rfl (lsub_c rfl lsub_n))) (ih _ _ _ h)
set_option maxRecDepth 100000 in
set_option maxHeartbeats 4000000 in
theorem r_X10_glassEyes_62 {μ : Mem} {ρ : (Int32 × Mem)} (h : f_X10_glassEyes_62 μ = some ρ) : HT 1 yX10_glassEyes cX10_glassEyes 3 (some .int) [.ref 62] μ (some (.int ρ.1)) ρ.2 := by
  refine HT.of (by decide +kernel) (Nat.le_of_ble_eq_true rfl) (fun C => ?_)
  unfold f_X10_glassEyes_62 at h
  refine wa_iconst (v := 0) C dX10_glassEyes_0 (by decide) ?_
  refine wa_istore_n C dX10_glassEyes_1 (by decide) ?_
  refine wa_iconst (v := 0) C dX10_glassEyes_2 (by decide) ?_
  refine wa_istore_n C dX10_glassEyes_3 (by decide) ?_
  exact WA.sub (lsub_c rfl (lsub_c rfl (lsub_c rfl lsub_n))) (r_X10_glassEyes_62_L4 C  _ _ _ _ h)
def f_X10_bitsOf_L4 (a0 : Int32) (μ : Mem) (k4 : Int32 → Int32 → Option (Int32 × Mem)) (a1 : Int32) (a2 : Int32) : Option (Int32 × Mem) :=
    if (6 : Int32) ≤ a2 then
      some (a1, μ)
    else
      k4 (a1 + ((a0 >>> (a2 &&& 31)) &&& (1 : Int32))) (a2 + 1)
def f_X10_bitsOf (a0 : Int32) (μ : Mem) : Option (Int32 × Mem) :=
  it2 (f_X10_bitsOf_L4 a0 μ) FU (0 : Int32) (0 : Int32)
set_option maxRecDepth 100000 in
set_option maxHeartbeats 4000000 in
theorem r_X10_bitsOf_L4 {p : Program} {l : Launch} {e : Env} {s : State} {m : MethodId} {args : Array Value} {below : List Frame} {meth : Method} {c : Code} {D : va_G} {cy : Nat → ClassId} {ad : Nat → Nat} (C : CX p s m args meth c cX10_bitsOf 3 RX10 (some .int) D cy ad (AD ad)) (a0 : Int32) (μ : Mem) {ρ : (Int32 × Mem)} : ∀ (n : Nat) (a1 : Int32) (a2 : Int32), it2 (f_X10_bitsOf_L4 a0 μ) n a1 a2 = some ρ → WA p l e (rmD 0) s m args below meth c 3 D cy ad (AD ad) 0 0 (ZZ below args s D cy ad (AD ad) 0 0 (some (.int ρ.1)) ρ.2) μ [(0, .int a0), (1, .int a1), (2, .int a2)] 4 [] := by
  intro n
  induction n with
  | zero =>
    intro a1 a2 h
    exact absurd h (fun h => by cases h)
  | succ n ih =>
    intro a1 a2 h
    replace h : f_X10_bitsOf_L4 a0 μ (it2 (f_X10_bitsOf_L4 a0 μ) n) a1 a2 = some ρ := h
    unfold f_X10_bitsOf_L4 at h
    refine wa_iload_n C dX10_bitsOf_4 rfl ?_
    refine wa_bipush (v := 6) C dX10_bitsOf_5 (by decide) ?_
    refine wa_icmp_ge (tgt := 24) C dX10_bitsOf_7 (by decide) (fun c1 => ?_) (fun c1 => ?_)
    · replace h := (if_pos c1).symm.trans h
      refine wa_iload_n C dX10_bitsOf_24 rfl ?_
      obtain rfl := Option.some.inj h
      exact wa_iret C dX10_bitsOf_25
    · replace h := (if_neg c1).symm.trans h
      refine wa_iload_n C dX10_bitsOf_10 rfl ?_
      refine wa_iload_n C dX10_bitsOf_11 rfl ?_
      refine wa_iload_n C dX10_bitsOf_12 rfl ?_
      refine wa_ishr C dX10_bitsOf_13 ?_
      refine wa_iconst (v := 1) C dX10_bitsOf_14 (by decide) ?_
      refine wa_iand C dX10_bitsOf_15 ?_
      refine wa_iadd C dX10_bitsOf_16 ?_
      refine wa_istore_n C dX10_bitsOf_17 (by decide) ?_
      refine wa_iinc (v := (a2 + 1)) C dX10_bitsOf_18 rfl rfl (by decide) ?_
      refine wa_goto (tgt := 4) C dX10_bitsOf_21 (by decide) ?_
      exact WA.sub (lsub_c rfl (lsub_c rfl (lsub_c rfl lsub_n))) (ih _ _ h)
set_option maxRecDepth 100000 in
set_option maxHeartbeats 4000000 in
theorem r_X10_bitsOf {a0 : Int32} {μ : Mem} {ρ : (Int32 × Mem)} (h : f_X10_bitsOf a0 μ = some ρ) : HT 0 yX10_bitsOf cX10_bitsOf 3 (some .int) [.int a0] μ (some (.int ρ.1)) ρ.2 := by
  refine HT.of (by decide +kernel) (Nat.le_of_ble_eq_true rfl) (fun C => ?_)
  unfold f_X10_bitsOf at h
  refine wa_iconst (v := 0) C dX10_bitsOf_0 (by decide) ?_
  refine wa_istore_n C dX10_bitsOf_1 (by decide) ?_
  refine wa_iconst (v := 0) C dX10_bitsOf_2 (by decide) ?_
  refine wa_istore_n C dX10_bitsOf_3 (by decide) ?_
  exact WA.sub (lsub_c rfl (lsub_c rfl (lsub_c rfl lsub_n))) (r_X10_bitsOf_L4 C _ _ _ _ _ h)
def f_X10_asleep_62_J96 (k27 : Int32 → Int32 → Int32 → Mem → Option (Int32 × Mem)) (a1 : Int32) (a2 : Int32) (a4 : Int32) (a5 : Int32) (t0 : Int32) (μ : Mem) : Option (Int32 × Mem) :=
  k27 t0 a4 (a5 + 1) μ
def f_X10_asleep_62_J82 (k27 : Int32 → Int32 → Int32 → Mem → Option (Int32 × Mem)) (a1 : Int32) (a2 : Int32) (a3 : Int32) (a5 : Int32) (a6 : Int32) (t0 : Int32) (μ : Mem) : Option (Int32 × Mem) :=
  if a6 ≤ a3 then
    f_X10_asleep_62_J96 k27 a1 a2 t0 a5 a3 μ
  else
    f_X10_asleep_62_J96 k27 a1 a2 t0 a5 a6 μ
def f_X10_asleep_62_J67 (k27 : Int32 → Int32 → Int32 → Mem → Option (Int32 × Mem)) (a1 : Int32) (a2 : Int32) (a3 : Int32) (a4 : Int32) (a5 : Int32) (t0 : Int32) (μ : Mem) : Option (Int32 × Mem) :=
  if t0 ≤ a3 then
    f_X10_asleep_62_J82 k27 a1 a2 a3 a5 t0 a4 μ
  else
    f_X10_asleep_62_J82 k27 a1 a2 a3 a5 t0 a5 μ
def f_X10_asleep_62_L27 (a1 : Int32) (a2 : Int32) (k27 : Int32 → Int32 → Int32 → Mem → Option (Int32 × Mem)) (a3 : Int32) (a4 : Int32) (a5 : Int32) (μ : Mem) : Option (Int32 × Mem) :=
    if (μ.1 62 4) ≤ a5 then
      if a2 = 0 then
        some (a3, μ)
      else
        some (a4, μ)
    else
      (f_X10_isLawful_62 a1 a5 μ).bind fun q7 =>
      if q7.1 = 0 then
        f_X10_asleep_62_J67 k27 a1 a2 a3 a4 a5 (-4 : Int32) q7.2
      else
        (f_X10_shutBy_62 a5 q7.2).bind fun q11 =>
        (f_X10_glassEyes_62 q11.2).bind fun q12 =>
        (f_X10_bitsOf (q11.1 &&& (q12.1 ^^^ (-1 : Int32))) q12.2).bind fun q13 =>
        f_X10_asleep_62_J67 k27 a1 a2 a3 a4 a5 q13.1 q13.2
def f_X10_asleep_62 (a1 : Int32) (a2 : Int32) (μ : Mem) : Option (Int32 × Mem) :=
  (f_X10_isQuarter_62 a1 μ).bind fun q1 =>
  if q1.1 = 0 then
    some ((-1 : Int32), q1.2)
  else
    (f_X10_isPart a2 q1.2).bind fun q3 =>
    if q3.1 = 0 then
      some ((-1 : Int32), q3.2)
    else
      it4 (f_X10_asleep_62_L27 a1 a2) FU (-4 : Int32) (-4 : Int32) (0 : Int32) q3.2
set_option maxRecDepth 100000 in
set_option maxHeartbeats 4000000 in
theorem r_X10_asleep_62_J96 {p : Program} {l : Launch} {e : Env} {s : State} {m : MethodId} {args : Array Value} {below : List Frame} {meth : Method} {c : Code} {D : va_G} {cy : Nat → ClassId} {ad : Nat → Nat} (C : CX p s m args meth c cX10_asleep 7 RX10 (some .int) D cy ad (AD ad)) {a1 : Int32} {a2 : Int32} {a4 : Int32} {a5 : Int32} {t0 : Int32} {μ : Mem} {ρ : (Int32 × Mem)} (k27 : Int32 → Int32 → Int32 → Mem → Option (Int32 × Mem)) (hk27 : ∀ (a3 : Int32) (a4 : Int32) (a5 : Int32) (μ : Mem), k27 a3 a4 a5 μ = some ρ → WA p l e (rmD 4) s m args below meth c 7 D cy ad (AD ad) 0 0 (ZZ below args s D cy ad (AD ad) 0 0 (some (.int ρ.1)) ρ.2) μ [(0, .ref 62), (1, .int a1), (2, .int a2), (3, .int a3), (4, .int a4), (5, .int a5)] 27 []) (h : f_X10_asleep_62_J96 k27 a1 a2 a4 a5 t0 μ = some ρ) : WA p l e (rmD 4) s m args below meth c 7 D cy ad (AD ad) 0 0 (ZZ below args s D cy ad (AD ad) 0 0 (some (.int ρ.1)) ρ.2) μ [(0, .ref 62), (1, .int a1), (2, .int a2), (4, .int a4), (5, .int a5)] 96 [.int t0] := by
  unfold f_X10_asleep_62_J96 at h
  refine wa_istore_n C dX10_asleep_96 (by decide) ?_
  refine wa_iinc (v := (a5 + 1)) C dX10_asleep_97 rfl rfl (by decide) ?_
  refine wa_goto (tgt := 27) C dX10_asleep_100 (by decide) ?_
  exact WA.sub (lsub_c rfl (lsub_c rfl (lsub_c rfl (lsub_c rfl (lsub_c rfl (lsub_c rfl lsub_n)))))) (hk27 _ _ _ _ h)
set_option maxRecDepth 100000 in
set_option maxHeartbeats 4000000 in
theorem r_X10_asleep_62_J82 {p : Program} {l : Launch} {e : Env} {s : State} {m : MethodId} {args : Array Value} {below : List Frame} {meth : Method} {c : Code} {D : va_G} {cy : Nat → ClassId} {ad : Nat → Nat} (C : CX p s m args meth c cX10_asleep 7 RX10 (some .int) D cy ad (AD ad)) {a1 : Int32} {a2 : Int32} {a3 : Int32} {a5 : Int32} {a6 : Int32} {t0 : Int32} {μ : Mem} {ρ : (Int32 × Mem)} (k27 : Int32 → Int32 → Int32 → Mem → Option (Int32 × Mem)) (hk27 : ∀ (a3 : Int32) (a4 : Int32) (a5 : Int32) (μ : Mem), k27 a3 a4 a5 μ = some ρ → WA p l e (rmD 4) s m args below meth c 7 D cy ad (AD ad) 0 0 (ZZ below args s D cy ad (AD ad) 0 0 (some (.int ρ.1)) ρ.2) μ [(0, .ref 62), (1, .int a1), (2, .int a2), (3, .int a3), (4, .int a4), (5, .int a5)] 27 []) (h : f_X10_asleep_62_J82 k27 a1 a2 a3 a5 a6 t0 μ = some ρ) : WA p l e (rmD 4) s m args below meth c 7 D cy ad (AD ad) 0 0 (ZZ below args s D cy ad (AD ad) 0 0 (some (.int ρ.1)) ρ.2) μ [(0, .ref 62), (1, .int a1), (2, .int a2), (3, .int a3), (5, .int a5), (6, .int a6)] 82 [.int t0] := by
  unfold f_X10_asleep_62_J82 at h
  refine wa_istore C dX10_asleep_82 (by decide) ?_
  refine wa_iload C dX10_asleep_84 rfl ?_
  refine wa_iload_n C dX10_asleep_86 rfl ?_
  refine wa_icmp_le (tgt := 95) C dX10_asleep_87 (by decide) (fun c10 => ?_) (fun c10 => ?_)
  · replace h := (if_pos c10).symm.trans h
    refine wa_iload_n C dX10_asleep_95 rfl ?_
    exact WA.sub (lsub_c rfl (lsub_c rfl (lsub_c rfl (lsub_c rfl (lsub_c rfl lsub_n))))) (r_X10_asleep_62_J96 C _ hk27 h)
  · replace h := (if_neg c10).symm.trans h
    refine wa_iload C dX10_asleep_90 rfl ?_
    refine wa_goto (tgt := 96) C dX10_asleep_92 (by decide) ?_
    exact WA.sub (lsub_c rfl (lsub_c rfl (lsub_c rfl (lsub_c rfl (lsub_c rfl lsub_n))))) (r_X10_asleep_62_J96 C _ hk27 h)
set_option maxRecDepth 100000 in
set_option maxHeartbeats 4000000 in
theorem r_X10_asleep_62_J67 {p : Program} {l : Launch} {e : Env} {s : State} {m : MethodId} {args : Array Value} {below : List Frame} {meth : Method} {c : Code} {D : va_G} {cy : Nat → ClassId} {ad : Nat → Nat} (C : CX p s m args meth c cX10_asleep 7 RX10 (some .int) D cy ad (AD ad)) {a1 : Int32} {a2 : Int32} {a3 : Int32} {a4 : Int32} {a5 : Int32} {t0 : Int32} {μ : Mem} {ρ : (Int32 × Mem)} (k27 : Int32 → Int32 → Int32 → Mem → Option (Int32 × Mem)) (hk27 : ∀ (a3 : Int32) (a4 : Int32) (a5 : Int32) (μ : Mem), k27 a3 a4 a5 μ = some ρ → WA p l e (rmD 4) s m args below meth c 7 D cy ad (AD ad) 0 0 (ZZ below args s D cy ad (AD ad) 0 0 (some (.int ρ.1)) ρ.2) μ [(0, .ref 62), (1, .int a1), (2, .int a2), (3, .int a3), (4, .int a4), (5, .int a5)] 27 []) (h : f_X10_asleep_62_J67 k27 a1 a2 a3 a4 a5 t0 μ = some ρ) : WA p l e (rmD 4) s m args below meth c 7 D cy ad (AD ad) 0 0 (ZZ below args s D cy ad (AD ad) 0 0 (some (.int ρ.1)) ρ.2) μ [(0, .ref 62), (1, .int a1), (2, .int a2), (3, .int a3), (4, .int a4), (5, .int a5)] 67 [.int t0] := by
  unfold f_X10_asleep_62_J67 at h
  refine wa_istore C dX10_asleep_67 (by decide) ?_
  refine wa_iload C dX10_asleep_69 rfl ?_
  refine wa_iload_n C dX10_asleep_71 rfl ?_
  refine wa_icmp_le (tgt := 80) C dX10_asleep_72 (by decide) (fun c9 => ?_) (fun c9 => ?_)
  · replace h := (if_pos c9).symm.trans h
    refine wa_iload C dX10_asleep_80 rfl ?_
    exact WA.sub (lsub_c rfl (lsub_c rfl (lsub_c rfl (lsub_c rfl (lsub_c rfl (lsub_c rfl lsub_n)))))) (r_X10_asleep_62_J82 C _ hk27 h)
  · replace h := (if_neg c9).symm.trans h
    refine wa_iload C dX10_asleep_75 rfl ?_
    refine wa_goto (tgt := 82) C dX10_asleep_77 (by decide) ?_
    exact WA.sub (lsub_c rfl (lsub_c rfl (lsub_c rfl (lsub_c rfl (lsub_c rfl (lsub_c rfl lsub_n)))))) (r_X10_asleep_62_J82 C _ hk27 h)
set_option maxRecDepth 100000 in
set_option maxHeartbeats 4000000 in
theorem r_X10_asleep_62_L27 {p : Program} {l : Launch} {e : Env} {s : State} {m : MethodId} {args : Array Value} {below : List Frame} {meth : Method} {c : Code} {D : va_G} {cy : Nat → ClassId} {ad : Nat → Nat} (C : CX p s m args meth c cX10_asleep 7 RX10 (some .int) D cy ad (AD ad)) (a1 : Int32) (a2 : Int32) {ρ : (Int32 × Mem)} : ∀ (n : Nat) (a3 : Int32) (a4 : Int32) (a5 : Int32) (μ : Mem), it4 (f_X10_asleep_62_L27 a1 a2) n a3 a4 a5 μ = some ρ → WA p l e (rmD 4) s m args below meth c 7 D cy ad (AD ad) 0 0 (ZZ below args s D cy ad (AD ad) 0 0 (some (.int ρ.1)) ρ.2) μ [(0, .ref 62), (1, .int a1), (2, .int a2), (3, .int a3), (4, .int a4), (5, .int a5)] 27 [] := by
  intro n
  induction n with
  | zero =>
    intro a3 a4 a5 μ h
    exact absurd h (fun h => by cases h)
  | succ n ih =>
    intro a3 a4 a5 μ h
    replace h : f_X10_asleep_62_L27 a1 a2 (it4 (f_X10_asleep_62_L27 a1 a2) n) a3 a4 a5 μ = some ρ := h
    unfold f_X10_asleep_62_L27 at h
    refine wa_iload C dX10_asleep_27 rfl ?_
    refine wa_aload_n C dX10_asleep_29 rfl ?_
    refine wa_geti (x := (μ.1 62 4)) C fl_RX10_104 rfl rfl (by decide) rfl dX10_asleep_30 ?_
    refine wa_icmp_ge (tgt := 103) C dX10_asleep_33 (by decide) (fun c5 => ?_) (fun c5 => ?_)
    · replace h := (if_pos c5).symm.trans h
      refine wa_iload_n C dX10_asleep_103 rfl ?_
      refine wa_if_ne (tgt := 111) C dX10_asleep_104 (by decide) (fun c6 => ?_) (fun c6 => ?_)
      · replace h := (if_neg c6).symm.trans h
        refine wa_iload C dX10_asleep_111 rfl ?_
        obtain rfl := Option.some.inj h
        exact wa_iret C dX10_asleep_113
      · replace h := (if_pos c6).symm.trans h
        refine wa_iload_n C dX10_asleep_107 rfl ?_
        refine wa_goto (tgt := 113) C dX10_asleep_108 (by decide) ?_
        obtain rfl := Option.some.inj h
        exact wa_iret C dX10_asleep_113
    · replace h := (if_neg c5).symm.trans h
      refine wa_aload_n C dX10_asleep_36 rfl ?_
      refine wa_iload_n C dX10_asleep_37 rfl ?_
      refine wa_iload C dX10_asleep_38 rfl ?_
      obtain ⟨q7, hq7, h⟩ := bd h
      refine wa_callV C (r_X10_isLawful_62 hq7) mk_X10_isLawful mv_X10_isLawful qw_680 rfl (by decide) rfl rfl ⟨Nat.le_of_ble_eq_true rfl, Nat.le_of_ble_eq_true rfl⟩ ⟨Nat.zero_le _, Nat.zero_le _⟩ (Nat.le_of_ble_eq_true rfl) dX10_asleep_40 rfl ?_
      refine wa_if_eq (tgt := 65) C dX10_asleep_43 (by decide) (fun c8 => ?_) (fun c8 => ?_)
      · replace h := (if_pos c8).symm.trans h
        refine wa_bipush (v := -4) C dX10_asleep_65 (by decide) ?_
        exact WA.sub (lsub_c rfl (lsub_c rfl (lsub_c rfl (lsub_c rfl (lsub_c rfl (lsub_c rfl lsub_n)))))) (r_X10_asleep_62_J67 C _ (fun _ _ _ _ h => ih _ _ _ _ h) h)
      · replace h := (if_neg c8).symm.trans h
        refine wa_aload_n C dX10_asleep_46 rfl ?_
        refine wa_iload C dX10_asleep_47 rfl ?_
        obtain ⟨q11, hq11, h⟩ := bd h
        refine wa_callV C (r_X10_shutBy_62 hq11) mk_X10_shutBy mv_X10_shutBy qw_647 rfl (by decide) rfl rfl ⟨Nat.le_of_ble_eq_true rfl, Nat.le_of_ble_eq_true rfl⟩ ⟨Nat.zero_le _, Nat.zero_le _⟩ (Nat.le_of_ble_eq_true rfl) dX10_asleep_49 rfl ?_
        refine wa_aload_n C dX10_asleep_52 rfl ?_
        obtain ⟨q12, hq12, h⟩ := bd h
        refine wa_callV C (r_X10_glassEyes_62 hq12) mk_X10_glassEyes mv_X10_glassEyes qw_709 rfl (by decide) rfl rfl ⟨Nat.le_of_ble_eq_true rfl, Nat.le_of_ble_eq_true rfl⟩ ⟨Nat.zero_le _, Nat.zero_le _⟩ (Nat.le_of_ble_eq_true rfl) dX10_asleep_53 rfl ?_
        refine wa_iconst (v := -1) C dX10_asleep_56 (by decide) ?_
        refine wa_ixor C dX10_asleep_57 ?_
        refine wa_iand C dX10_asleep_58 ?_
        obtain ⟨q13, hq13, h⟩ := bd h
        refine wa_callS C (r_X10_bitsOf hq13) mk_X10_bitsOf ms_X10_bitsOf qw_713 rfl ⟨Nat.le_of_ble_eq_true rfl, Nat.le_of_ble_eq_true rfl⟩ ⟨Nat.zero_le _, Nat.zero_le _⟩ (Nat.le_of_ble_eq_true rfl) dX10_asleep_59 rfl ?_
        refine wa_goto (tgt := 67) C dX10_asleep_62 (by decide) ?_
        exact WA.sub (lsub_c rfl (lsub_c rfl (lsub_c rfl (lsub_c rfl (lsub_c rfl (lsub_c rfl lsub_n)))))) (r_X10_asleep_62_J67 C _ (fun _ _ _ _ h => ih _ _ _ _ h) h)
set_option maxRecDepth 100000 in
set_option maxHeartbeats 4000000 in
theorem r_X10_asleep_62 {a1 : Int32} {a2 : Int32} {μ : Mem} {ρ : (Int32 × Mem)} (h : f_X10_asleep_62 a1 a2 μ = some ρ) : HT 4 yX10_asleep cX10_asleep 7 (some .int) [.ref 62, .int a1, .int a2] μ (some (.int ρ.1)) ρ.2 := by
  refine HT.of (by decide +kernel) (Nat.le_of_ble_eq_true rfl) (fun C => ?_)
  unfold f_X10_asleep_62 at h
  refine wa_aload_n C dX10_asleep_0 rfl ?_
  refine wa_iload_n C dX10_asleep_1 rfl ?_
  obtain ⟨q1, hq1, h⟩ := bd h
  refine wa_callV C (r_X10_isQuarter_62 hq1) mk_X10_isQuarter mv_X10_isQuarter qw_558 rfl (by decide) rfl rfl ⟨Nat.le_of_ble_eq_true rfl, Nat.le_of_ble_eq_true rfl⟩ ⟨Nat.zero_le _, Nat.zero_le _⟩ (Nat.le_of_ble_eq_true rfl) dX10_asleep_2 rfl ?_
  refine wa_if_eq (tgt := 15) C dX10_asleep_5 (by decide) (fun c2 => ?_) (fun c2 => ?_)
  · replace h := (if_pos c2).symm.trans h
    refine wa_iconst (v := -1) C dX10_asleep_15 (by decide) ?_
    obtain rfl := Option.some.inj h
    exact wa_iret C dX10_asleep_16
  · replace h := (if_neg c2).symm.trans h
    refine wa_iload_n C dX10_asleep_8 rfl ?_
    obtain ⟨q3, hq3, h⟩ := bd h
    refine wa_callS C (r_X10_isPart hq3) mk_X10_isPart ms_X10_isPart qw_706 rfl ⟨Nat.le_of_ble_eq_true rfl, Nat.le_of_ble_eq_true rfl⟩ ⟨Nat.zero_le _, Nat.zero_le _⟩ (Nat.le_of_ble_eq_true rfl) dX10_asleep_9 rfl ?_
    refine wa_if_ne (tgt := 17) C dX10_asleep_12 (by decide) (fun c4 => ?_) (fun c4 => ?_)
    · replace h := (if_neg c4).symm.trans h
      refine wa_bipush (v := -4) C dX10_asleep_17 (by decide) ?_
      refine wa_istore_n C dX10_asleep_19 (by decide) ?_
      refine wa_bipush (v := -4) C dX10_asleep_20 (by decide) ?_
      refine wa_istore C dX10_asleep_22 (by decide) ?_
      refine wa_iconst (v := 0) C dX10_asleep_24 (by decide) ?_
      refine wa_istore C dX10_asleep_25 (by decide) ?_
      exact WA.sub (lsub_c rfl (lsub_c rfl (lsub_c rfl (lsub_c rfl (lsub_c rfl (lsub_c rfl lsub_n)))))) (r_X10_asleep_62_L27 C _ _ _ _ _ _ _ h)
    · replace h := (if_pos c4).symm.trans h
      refine wa_iconst (v := -1) C dX10_asleep_15 (by decide) ?_
      obtain rfl := Option.some.inj h
      exact wa_iret C dX10_asleep_16
def f_X2_beginQuarter_49_47_J42 (k11 : Int32 → Mem → Option Mem) (a3 : Int32) (μ : Mem) : Option Mem :=
  k11 (a3 + 1) μ
def f_X2_beginQuarter_49_47_L11 (k11 : Int32 → Mem → Option Mem) (a3 : Int32) (μ : Mem) : Option Mem :=
    if (6 : Int32) ≤ a3 then
      some μ
    else
      if inb a3 6 = false then none else
      if (μ.1 50 (a3.toNatClampNeg)) < (9 : Int32) then
        f_X2_beginQuarter_49_47_J42 k11 a3 μ
      else
        f_X2_beginQuarter_49_47_J42 k11 a3 (pI μ 49 1 ((μ.1 49 1) &&& (((1 : Int32) <<< (a3 &&& 31)) ^^^ (-1 : Int32))))
def f_X2_beginQuarter_49_47 (a2 : Int32) (μ : Mem) : Option Mem :=
  (f_X7_openBy_47 a2 μ).bind fun q1 =>
  it2 (f_X2_beginQuarter_49_47_L11) FU (0 : Int32) (pI q1.2 49 1 q1.1)
set_option maxRecDepth 100000 in
set_option maxHeartbeats 4000000 in
theorem r_X2_beginQuarter_49_47_J42 {p : Program} {l : Launch} {e : Env} {s : State} {m : MethodId} {args : Array Value} {below : List Frame} {meth : Method} {c : Code} {D : va_G} {cy : Nat → ClassId} {ad : Nat → Nat} (C : CX p s m args meth c cX2_beginQuarter 4 RX2 none D cy ad (AD ad)) {a3 : Int32} {μ : Mem} {ρ : Mem} (k11 : Int32 → Mem → Option Mem) (hk11 : ∀ (a3 : Int32) (μ : Mem), k11 a3 μ = some ρ → WA p l e (rmD 1) s m args below meth c 4 D cy ad (AD ad) 0 0 (ZZ below args s D cy ad (AD ad) 0 0 none ρ) μ [(0, .ref 49), (3, .int a3)] 11 []) (h : f_X2_beginQuarter_49_47_J42 k11 a3 μ = some ρ) : WA p l e (rmD 1) s m args below meth c 4 D cy ad (AD ad) 0 0 (ZZ below args s D cy ad (AD ad) 0 0 none ρ) μ [(0, .ref 49), (3, .int a3)] 42 [] := by
  unfold f_X2_beginQuarter_49_47_J42 at h
  refine wa_iinc (v := (a3 + 1)) C dX2_beginQuarter_42 rfl rfl (by decide) ?_
  refine wa_goto (tgt := 11) C dX2_beginQuarter_45 (by decide) ?_
  exact WA.sub (lsub_c rfl (lsub_c rfl lsub_n)) (hk11 _ _ h)
set_option maxRecDepth 100000 in
set_option maxHeartbeats 4000000 in
theorem r_X2_beginQuarter_49_47_L11 {p : Program} {l : Launch} {e : Env} {s : State} {m : MethodId} {args : Array Value} {below : List Frame} {meth : Method} {c : Code} {D : va_G} {cy : Nat → ClassId} {ad : Nat → Nat} (C : CX p s m args meth c cX2_beginQuarter 4 RX2 none D cy ad (AD ad)) {ρ : Mem} : ∀ (n : Nat) (a3 : Int32) (μ : Mem), it2 (f_X2_beginQuarter_49_47_L11) n a3 μ = some ρ → WA p l e (rmD 1) s m args below meth c 4 D cy ad (AD ad) 0 0 (ZZ below args s D cy ad (AD ad) 0 0 none ρ) μ [(0, .ref 49), (3, .int a3)] 11 [] := by
  intro n
  induction n with
  | zero =>
    intro a3 μ h
    exact absurd h (fun h => by cases h)
  | succ n ih =>
    intro a3 μ h
    replace h : f_X2_beginQuarter_49_47_L11 (it2 (f_X2_beginQuarter_49_47_L11) n) a3 μ = some ρ := h
    unfold f_X2_beginQuarter_49_47_L11 at h
    refine wa_iload_n C dX2_beginQuarter_11 rfl ?_
    refine wa_bipush (v := 6) C dX2_beginQuarter_12 (by decide) ?_
    refine wa_icmp_ge (tgt := 48) C dX2_beginQuarter_14 (by decide) (fun c2 => ?_) (fun c2 => ?_)
    · replace h := (if_pos c2).symm.trans h
      obtain rfl := Option.some.inj h
      exact wa_vret C dX2_beginQuarter_48
    · replace h := (if_neg c2).symm.trans h
      refine wa_aload_n C dX2_beginQuarter_17 rfl ?_
      refine wa_getr C fl_RX2_9 rfl rfl (by decide) dX2_beginQuarter_18 ?_
      refine wa_iload_n C dX2_beginQuarter_21 rfl ?_
      obtain ⟨g3, h⟩ := gd h
      refine wa_iald (j := (a3.toNatClampNeg)) (x := (μ.1 50 (a3.toNatClampNeg))) C rfl (by decide) g3 rfl rfl dX2_beginQuarter_22 ?_
      refine wa_bipush (v := 9) C dX2_beginQuarter_23 (by decide) ?_
      refine wa_icmp_lt (tgt := 42) C dX2_beginQuarter_25 (by decide) (fun c4 => ?_) (fun c4 => ?_)
      · replace h := (if_pos c4).symm.trans h
        exact WA.sub (lsub_c rfl (lsub_c rfl lsub_n)) (r_X2_beginQuarter_49_47_J42 C _ (fun _ _ h => ih _ _ h) h)
      · replace h := (if_neg c4).symm.trans h
        refine wa_aload_n C dX2_beginQuarter_28 rfl ?_
        refine wa_dup C dX2_beginQuarter_29 rfl ?_
        refine wa_geti (x := (μ.1 49 1)) C fl_RX2_15 rfl rfl (by decide) rfl dX2_beginQuarter_30 ?_
        refine wa_iconst (v := 1) C dX2_beginQuarter_33 (by decide) ?_
        refine wa_iload_n C dX2_beginQuarter_34 rfl ?_
        refine wa_ishl C dX2_beginQuarter_35 ?_
        refine wa_iconst (v := -1) C dX2_beginQuarter_36 (by decide) ?_
        refine wa_ixor C dX2_beginQuarter_37 ?_
        refine wa_iand C dX2_beginQuarter_38 ?_
        refine wa_puti C fl_RX2_15 fp_2_1 rfl rfl (by decide) rfl rfl dX2_beginQuarter_39 ?_
        exact WA.sub (lsub_c rfl (lsub_c rfl lsub_n)) (r_X2_beginQuarter_49_47_J42 C _ (fun _ _ h => ih _ _ h) h)
set_option maxRecDepth 100000 in
set_option maxHeartbeats 4000000 in
theorem r_X2_beginQuarter_49_47 {a2 : Int32} {μ : Mem} {ρ : Mem} (h : f_X2_beginQuarter_49_47 a2 μ = some ρ) : HT 1 yX2_beginQuarter cX2_beginQuarter 4 none [.ref 49, .ref 47, .int a2] μ none ρ := by
  refine HT.of (by decide +kernel) (Nat.le_of_ble_eq_true rfl) (fun C => ?_)
  unfold f_X2_beginQuarter_49_47 at h
  refine wa_aload_n C dX2_beginQuarter_0 rfl ?_
  refine wa_aload_n C dX2_beginQuarter_1 rfl ?_
  refine wa_iload_n C dX2_beginQuarter_2 rfl ?_
  obtain ⟨q1, hq1, h⟩ := bd h
  refine wa_callV C (r_X7_openBy_47 hq1) mk_X7_openBy mv_X7_openBy qw_732 rfl (by decide) rfl rfl ⟨Nat.le_of_ble_eq_true rfl, Nat.le_of_ble_eq_true rfl⟩ ⟨Nat.zero_le _, Nat.zero_le _⟩ (Nat.le_of_ble_eq_true rfl) dX2_beginQuarter_3 rfl ?_
  refine wa_puti C fl_RX2_15 fp_2_1 rfl rfl (by decide) rfl rfl dX2_beginQuarter_6 ?_
  refine wa_iconst (v := 0) C dX2_beginQuarter_9 (by decide) ?_
  refine wa_istore_n C dX2_beginQuarter_10 (by decide) ?_
  exact WA.sub (lsub_c rfl (lsub_c rfl lsub_n)) (r_X2_beginQuarter_49_47_L11 C  _ _ _ h)
def f_X2_pass_49_1_J78 (k2 : Int32 → Mem → Option Mem) (a2 : Int32) (μ : Mem) : Option Mem :=
  k2 (a2 + 1) μ
def f_X2_pass_49_1_J37 (k2 : Int32 → Mem → Option Mem) (a2 : Int32) (t0 : Int32) (μ : Mem) : Option Mem :=
  if inb a2 6 = false then none else
  if inb a2 6 = false then none else
  f_X2_pass_49_1_J78 k2 a2 (pI μ 50 (a2.toNatClampNeg) (if ((μ.1 50 (a2.toNatClampNeg)) + t0) < (9 : Int32) then ((μ.1 50 (a2.toNatClampNeg)) + t0) else (9 : Int32)))
def f_X2_pass_49_1_L2 (k2 : Int32 → Mem → Option Mem) (a2 : Int32) (μ : Mem) : Option Mem :=
    if (6 : Int32) ≤ a2 then
      some μ
    else
      if (((μ.1 49 1) >>> (a2 &&& 31)) &&& (1 : Int32)) = (1 : Int32) then
        if inb (a2 / (2 : Int32)) 3 = false then none else
        if (μ.1 2 ((a2 / (2 : Int32)).toNatClampNeg)) = (2 : Int32) then
          f_X2_pass_49_1_J37 k2 a2 (2 : Int32) μ
        else
          f_X2_pass_49_1_J37 k2 a2 (1 : Int32) μ
      else
        if inb a2 6 = false then none else
        if inb a2 6 = false then none else
        f_X2_pass_49_1_J78 k2 a2 (pI μ 50 (a2.toNatClampNeg) (if (0 : Int32) < ((μ.1 50 (a2.toNatClampNeg)) - (2 : Int32)) then ((μ.1 50 (a2.toNatClampNeg)) - (2 : Int32)) else (0 : Int32)))
def f_X2_pass_49_1 (μ : Mem) : Option Mem :=
  it2 (f_X2_pass_49_1_L2) FU (0 : Int32) μ
set_option maxRecDepth 100000 in
set_option maxHeartbeats 4000000 in
theorem r_X2_pass_49_1_J78 {p : Program} {l : Launch} {e : Env} {s : State} {m : MethodId} {args : Array Value} {below : List Frame} {meth : Method} {c : Code} {D : va_G} {cy : Nat → ClassId} {ad : Nat → Nat} (C : CX p s m args meth c cX2_pass 4 RX2 none D cy ad (AD ad)) {a2 : Int32} {μ : Mem} {ρ : Mem} (k2 : Int32 → Mem → Option Mem) (hk2 : ∀ (a2 : Int32) (μ : Mem), k2 a2 μ = some ρ → WA p l e (rmD 0) s m args below meth c 4 D cy ad (AD ad) 0 0 (ZZ below args s D cy ad (AD ad) 0 0 none ρ) μ [(0, .ref 49), (1, .ref 1), (2, .int a2)] 2 []) (h : f_X2_pass_49_1_J78 k2 a2 μ = some ρ) : WA p l e (rmD 0) s m args below meth c 4 D cy ad (AD ad) 0 0 (ZZ below args s D cy ad (AD ad) 0 0 none ρ) μ [(0, .ref 49), (1, .ref 1), (2, .int a2)] 78 [] := by
  unfold f_X2_pass_49_1_J78 at h
  refine wa_iinc (v := (a2 + 1)) C dX2_pass_78 rfl rfl (by decide) ?_
  refine wa_goto (tgt := 2) C dX2_pass_81 (by decide) ?_
  exact WA.sub (lsub_c rfl (lsub_c rfl (lsub_c rfl lsub_n))) (hk2 _ _ h)
set_option maxRecDepth 100000 in
set_option maxHeartbeats 4000000 in
theorem r_X2_pass_49_1_J37 {p : Program} {l : Launch} {e : Env} {s : State} {m : MethodId} {args : Array Value} {below : List Frame} {meth : Method} {c : Code} {D : va_G} {cy : Nat → ClassId} {ad : Nat → Nat} (C : CX p s m args meth c cX2_pass 4 RX2 none D cy ad (AD ad)) {a2 : Int32} {t0 : Int32} {μ : Mem} {ρ : Mem} (k2 : Int32 → Mem → Option Mem) (hk2 : ∀ (a2 : Int32) (μ : Mem), k2 a2 μ = some ρ → WA p l e (rmD 0) s m args below meth c 4 D cy ad (AD ad) 0 0 (ZZ below args s D cy ad (AD ad) 0 0 none ρ) μ [(0, .ref 49), (1, .ref 1), (2, .int a2)] 2 []) (h : f_X2_pass_49_1_J37 k2 a2 t0 μ = some ρ) : WA p l e (rmD 0) s m args below meth c 4 D cy ad (AD ad) 0 0 (ZZ below args s D cy ad (AD ad) 0 0 none ρ) μ [(0, .ref 49), (1, .ref 1), (2, .int a2)] 37 [.int t0] := by
  unfold f_X2_pass_49_1_J37 at h
  refine wa_istore_n C dX2_pass_37 (by decide) ?_
  refine wa_aload_n C dX2_pass_38 rfl ?_
  refine wa_getr C fl_RX2_9 rfl rfl (by decide) dX2_pass_39 ?_
  refine wa_iload_n C dX2_pass_42 rfl ?_
  refine wa_bipush (v := 9) C dX2_pass_43 (by decide) ?_
  refine wa_aload_n C dX2_pass_45 rfl ?_
  refine wa_getr C fl_RX2_9 rfl rfl (by decide) dX2_pass_46 ?_
  refine wa_iload_n C dX2_pass_49 rfl ?_
  obtain ⟨g5, h⟩ := gd h
  refine wa_iald (j := (a2.toNatClampNeg)) (x := (μ.1 50 (a2.toNatClampNeg))) C rfl (by decide) g5 rfl rfl dX2_pass_50 ?_
  refine wa_iload_n C dX2_pass_51 rfl ?_
  refine wa_iadd C dX2_pass_52 ?_
  refine wa_min C qw_738 qw_739 qw_740 qw_741 ⟨Nat.le_of_ble_eq_true rfl, Nat.le_of_ble_eq_true rfl⟩ ⟨Nat.zero_le _, Nat.zero_le _⟩ dX2_pass_53 ?_
  obtain ⟨g6, h⟩ := gd h
  refine wa_iast (j := (a2.toNatClampNeg)) C rfl (by decide) g6 rfl dX2_pass_56 ?_
  refine wa_goto (tgt := 78) C dX2_pass_57 (by decide) ?_
  exact WA.sub (lsub_c rfl (lsub_c rfl (lsub_c rfl lsub_n))) (r_X2_pass_49_1_J78 C _ hk2 h)
set_option maxRecDepth 100000 in
set_option maxHeartbeats 4000000 in
theorem r_X2_pass_49_1_L2 {p : Program} {l : Launch} {e : Env} {s : State} {m : MethodId} {args : Array Value} {below : List Frame} {meth : Method} {c : Code} {D : va_G} {cy : Nat → ClassId} {ad : Nat → Nat} (C : CX p s m args meth c cX2_pass 4 RX2 none D cy ad (AD ad)) {ρ : Mem} : ∀ (n : Nat) (a2 : Int32) (μ : Mem), it2 (f_X2_pass_49_1_L2) n a2 μ = some ρ → WA p l e (rmD 0) s m args below meth c 4 D cy ad (AD ad) 0 0 (ZZ below args s D cy ad (AD ad) 0 0 none ρ) μ [(0, .ref 49), (1, .ref 1), (2, .int a2)] 2 [] := by
  intro n
  induction n with
  | zero =>
    intro a2 μ h
    exact absurd h (fun h => by cases h)
  | succ n ih =>
    intro a2 μ h
    replace h : f_X2_pass_49_1_L2 (it2 (f_X2_pass_49_1_L2) n) a2 μ = some ρ := h
    unfold f_X2_pass_49_1_L2 at h
    refine wa_iload_n C dX2_pass_2 rfl ?_
    refine wa_bipush (v := 6) C dX2_pass_3 (by decide) ?_
    refine wa_icmp_ge (tgt := 84) C dX2_pass_5 (by decide) (fun c1 => ?_) (fun c1 => ?_)
    · replace h := (if_pos c1).symm.trans h
      obtain rfl := Option.some.inj h
      exact wa_vret C dX2_pass_84
    · replace h := (if_neg c1).symm.trans h
      refine wa_aload_n C dX2_pass_8 rfl ?_
      refine wa_geti (x := (μ.1 49 1)) C fl_RX2_15 rfl rfl (by decide) rfl dX2_pass_9 ?_
      refine wa_iload_n C dX2_pass_12 rfl ?_
      refine wa_ishr C dX2_pass_13 ?_
      refine wa_iconst (v := 1) C dX2_pass_14 (by decide) ?_
      refine wa_iand C dX2_pass_15 ?_
      refine wa_iconst (v := 1) C dX2_pass_16 (by decide) ?_
      refine wa_icmp_ne (tgt := 60) C dX2_pass_17 (by decide) (fun c2 => ?_) (fun c2 => ?_)
      · replace h := (if_neg c2).symm.trans h
        refine wa_aload_n C dX2_pass_60 rfl ?_
        refine wa_getr C fl_RX2_9 rfl rfl (by decide) dX2_pass_61 ?_
        refine wa_iload_n C dX2_pass_64 rfl ?_
        refine wa_iconst (v := 0) C dX2_pass_65 (by decide) ?_
        refine wa_aload_n C dX2_pass_66 rfl ?_
        refine wa_getr C fl_RX2_9 rfl rfl (by decide) dX2_pass_67 ?_
        refine wa_iload_n C dX2_pass_70 rfl ?_
        obtain ⟨g7, h⟩ := gd h
        refine wa_iald (j := (a2.toNatClampNeg)) (x := (μ.1 50 (a2.toNatClampNeg))) C rfl (by decide) g7 rfl rfl dX2_pass_71 ?_
        refine wa_iconst (v := 2) C dX2_pass_72 (by decide) ?_
        refine wa_isub C dX2_pass_73 ?_
        refine wa_max C qw_742 qw_743 qw_740 qw_744 ⟨Nat.le_of_ble_eq_true rfl, Nat.le_of_ble_eq_true rfl⟩ ⟨Nat.zero_le _, Nat.zero_le _⟩ dX2_pass_74 ?_
        obtain ⟨g8, h⟩ := gd h
        refine wa_iast (j := (a2.toNatClampNeg)) C rfl (by decide) g8 rfl dX2_pass_77 ?_
        exact WA.sub (lsub_c rfl (lsub_c rfl (lsub_c rfl lsub_n))) (r_X2_pass_49_1_J78 C _ (fun _ _ h => ih _ _ h) h)
      · replace h := (if_pos c2).symm.trans h
        refine wa_aload_n C dX2_pass_20 rfl ?_
        refine wa_getr C fl_RX2_45 rfl rfl (by decide) dX2_pass_21 ?_
        refine wa_iload_n C dX2_pass_24 rfl ?_
        refine wa_iconst (v := 2) C dX2_pass_25 (by decide) ?_
        refine wa_idiv C dX2_pass_26 (by decide) ?_
        obtain ⟨g3, h⟩ := gd h
        refine wa_iald (j := ((a2 / (2 : Int32)).toNatClampNeg)) (x := (μ.1 2 ((a2 / (2 : Int32)).toNatClampNeg))) C rfl (by decide) g3 rfl rfl dX2_pass_27 ?_
        refine wa_iconst (v := 2) C dX2_pass_28 (by decide) ?_
        refine wa_icmp_ne (tgt := 36) C dX2_pass_29 (by decide) (fun c4 => ?_) (fun c4 => ?_)
        · replace h := (if_neg c4).symm.trans h
          refine wa_iconst (v := 1) C dX2_pass_36 (by decide) ?_
          exact WA.sub (lsub_c rfl (lsub_c rfl (lsub_c rfl lsub_n))) (r_X2_pass_49_1_J37 C _ (fun _ _ h => ih _ _ h) h)
        · replace h := (if_pos c4).symm.trans h
          refine wa_iconst (v := 2) C dX2_pass_32 (by decide) ?_
          refine wa_goto (tgt := 37) C dX2_pass_33 (by decide) ?_
          exact WA.sub (lsub_c rfl (lsub_c rfl (lsub_c rfl lsub_n))) (r_X2_pass_49_1_J37 C _ (fun _ _ h => ih _ _ h) h)
set_option maxRecDepth 100000 in
set_option maxHeartbeats 4000000 in
theorem r_X2_pass_49_1 {μ : Mem} {ρ : Mem} (h : f_X2_pass_49_1 μ = some ρ) : HT 0 yX2_pass cX2_pass 4 none [.ref 49, .ref 1] μ none ρ := by
  refine HT.of (by decide +kernel) (Nat.le_of_ble_eq_true rfl) (fun C => ?_)
  unfold f_X2_pass_49_1 at h
  refine wa_iconst (v := 0) C dX2_pass_0 (by decide) ?_
  refine wa_istore_n C dX2_pass_1 (by decide) ?_
  exact WA.sub (lsub_c rfl (lsub_c rfl (lsub_c rfl lsub_n))) (r_X2_pass_49_1_L2 C  _ _ _ h)
def f_X2_reach_49_1_4_47_L29 (a4 : Int32) (k29 : Int32 → Mem → Option Mem) (a5 : Int32) (μ : Mem) : Option Mem :=
    if a4 < a5 then
      some μ
    else
      (f_X2_pass_49_1 μ).bind fun q3 =>
      if inb a5 6 = false then none else
      (f_X2_beginQuarter_49_47 (q3.1 9 (a5.toNatClampNeg)) q3).bind fun q5 =>
      k29 (a5 + 1) q5
def f_X2_reach_49_1_4_47 (a4 : Int32) (μ : Mem) : Option Mem :=
  (f_X2_beginQuarter_49_47 (μ.1 9 0) (cpI μ 6 50 6)).bind fun q1 =>
  it2 (f_X2_reach_49_1_4_47_L29 a4) FU (1 : Int32) q1
set_option maxRecDepth 100000 in
set_option maxHeartbeats 4000000 in
theorem r_X2_reach_49_1_4_47_L29 {p : Program} {l : Launch} {e : Env} {s : State} {m : MethodId} {args : Array Value} {below : List Frame} {meth : Method} {c : Code} {D : va_G} {cy : Nat → ClassId} {ad : Nat → Nat} (C : CX p s m args meth c cX2_reach 6 RX2 none D cy ad (AD ad)) (a4 : Int32) {ρ : Mem} : ∀ (n : Nat) (a5 : Int32) (μ : Mem), it2 (f_X2_reach_49_1_4_47_L29 a4) n a5 μ = some ρ → WA p l e (rmD 2) s m args below meth c 6 D cy ad (AD ad) 0 0 (ZZ below args s D cy ad (AD ad) 0 0 none ρ) μ [(0, .ref 49), (1, .ref 1), (2, .ref 4), (3, .ref 47), (4, .int a4), (5, .int a5)] 29 [] := by
  intro n
  induction n with
  | zero =>
    intro a5 μ h
    exact absurd h (fun h => by cases h)
  | succ n ih =>
    intro a5 μ h
    replace h : f_X2_reach_49_1_4_47_L29 a4 (it2 (f_X2_reach_49_1_4_47_L29 a4) n) a5 μ = some ρ := h
    unfold f_X2_reach_49_1_4_47_L29 at h
    refine wa_iload C dX2_reach_29 rfl ?_
    refine wa_iload C dX2_reach_31 rfl ?_
    refine wa_icmp_gt (tgt := 59) C dX2_reach_33 (by decide) (fun c2 => ?_) (fun c2 => ?_)
    · replace h := (if_pos c2).symm.trans h
      obtain rfl := Option.some.inj h
      exact wa_vret C dX2_reach_59
    · replace h := (if_neg c2).symm.trans h
      refine wa_aload_n C dX2_reach_36 rfl ?_
      refine wa_aload_n C dX2_reach_37 rfl ?_
      obtain ⟨q3, hq3, h⟩ := bd h
      refine wa_callV C (r_X2_pass_49_1 hq3) mk_X2_pass mv_X2_pass qw_733 rfl (by decide) rfl rfl ⟨Nat.le_of_ble_eq_true rfl, Nat.le_of_ble_eq_true rfl⟩ ⟨Nat.zero_le _, Nat.zero_le _⟩ (Nat.le_of_ble_eq_true rfl) dX2_reach_38 rfl ?_
      refine wa_aload_n C dX2_reach_41 rfl ?_
      refine wa_aload_n C dX2_reach_42 rfl ?_
      refine wa_aload_n C dX2_reach_43 rfl ?_
      refine wa_getr C fl_RX2_28 rfl rfl (by decide) dX2_reach_44 ?_
      refine wa_iload C dX2_reach_47 rfl ?_
      obtain ⟨g4, h⟩ := gd h
      refine wa_iald (j := (a5.toNatClampNeg)) (x := (q3.1 9 (a5.toNatClampNeg))) C rfl (by decide) g4 rfl rfl dX2_reach_49 ?_
      obtain ⟨q5, hq5, h⟩ := bd h
      refine wa_callV C (r_X2_beginQuarter_49_47 hq5) mk_X2_beginQuarter mv_X2_beginQuarter qw_728 rfl (by decide) rfl rfl ⟨Nat.le_of_ble_eq_true rfl, Nat.le_of_ble_eq_true rfl⟩ ⟨Nat.zero_le _, Nat.zero_le _⟩ (Nat.le_of_ble_eq_true rfl) dX2_reach_50 rfl ?_
      refine wa_iinc (v := (a5 + 1)) C dX2_reach_53 rfl rfl (by decide) ?_
      refine wa_goto (tgt := 29) C dX2_reach_56 (by decide) ?_
      exact WA.sub (lsub_c rfl (lsub_c rfl (lsub_c rfl (lsub_c rfl (lsub_c rfl (lsub_c rfl lsub_n)))))) (ih _ _ h)
set_option maxRecDepth 100000 in
set_option maxHeartbeats 4000000 in
theorem r_X2_reach_49_1_4_47 {a4 : Int32} {μ : Mem} {ρ : Mem} (h : f_X2_reach_49_1_4_47 a4 μ = some ρ) : HT 2 yX2_reach cX2_reach 6 none [.ref 49, .ref 1, .ref 4, .ref 47, .int a4] μ none ρ := by
  refine HT.of (by decide +kernel) (Nat.le_of_ble_eq_true rfl) (fun C => ?_)
  unfold f_X2_reach_49_1_4_47 at h
  refine wa_aload_n C dX2_reach_0 rfl ?_
  refine wa_getr C fl_RX2_19 rfl rfl (by decide) dX2_reach_1 ?_
  refine wa_iconst (v := 0) C dX2_reach_4 (by decide) ?_
  refine wa_aload_n C dX2_reach_5 rfl ?_
  refine wa_getr C fl_RX2_9 rfl rfl (by decide) dX2_reach_6 ?_
  refine wa_iconst (v := 0) C dX2_reach_9 (by decide) ?_
  refine wa_bipush (v := 6) C dX2_reach_10 (by decide) ?_
  refine wa_copy (k := 6) C qw_726 qw_376 qw_377 qw_378 rfl rfl (by decide) (by decide) rfl (by decide) (by decide) (by decide) ⟨Nat.le_of_ble_eq_true rfl, Nat.le_of_ble_eq_true rfl⟩ dX2_reach_12 ?_
  refine wa_aload_n C dX2_reach_15 rfl ?_
  refine wa_aload_n C dX2_reach_16 rfl ?_
  refine wa_aload_n C dX2_reach_17 rfl ?_
  refine wa_getr C fl_RX2_28 rfl rfl (by decide) dX2_reach_18 ?_
  refine wa_iconst (v := 0) C dX2_reach_21 (by decide) ?_
  refine wa_iald (j := 0) (x := (μ.1 9 0)) C rfl (by decide) (by decide) (by decide) rfl dX2_reach_22 ?_
  obtain ⟨q1, hq1, h⟩ := bd h
  refine wa_callV C (r_X2_beginQuarter_49_47 hq1) mk_X2_beginQuarter mv_X2_beginQuarter qw_728 rfl (by decide) rfl rfl ⟨Nat.le_of_ble_eq_true rfl, Nat.le_of_ble_eq_true rfl⟩ ⟨Nat.zero_le _, Nat.zero_le _⟩ (Nat.le_of_ble_eq_true rfl) dX2_reach_23 rfl ?_
  refine wa_iconst (v := 1) C dX2_reach_26 (by decide) ?_
  refine wa_istore C dX2_reach_27 (by decide) ?_
  exact WA.sub (lsub_c rfl (lsub_c rfl (lsub_c rfl (lsub_c rfl (lsub_c rfl (lsub_c rfl lsub_n)))))) (r_X2_reach_49_1_4_47_L29 C _ _ _ _ h)
def f_X9_tired_0 (a1 : Int32) (a2 : Int32) (μ : Mem) : Option (Int32 × Mem) :=
  (f_X1_hasEye_1 a1 μ).bind fun q1 =>
  if q1.1 = 0 then
    some ((-1 : Int32), q1.2)
  else
    (f_X1_hasQuarter_1 a2 q1.2).bind fun q3 =>
    if q3.1 = 0 then
      some ((-1 : Int32), q3.2)
    else
      (f_X9_look_0 q3.2).bind fun q5 =>
      (f_X2_reach_49_1_4_47 a2 q5).bind fun q6 =>
      (f_X2_pass_49_1 q6).bind fun q7 =>
      if inb a1 6 = false then none else
      some ((q7.1 50 (a1.toNatClampNeg)), q7)
set_option maxRecDepth 100000 in
set_option maxHeartbeats 4000000 in
theorem r_X9_tired_0 {a1 : Int32} {a2 : Int32} {μ : Mem} {ρ : (Int32 × Mem)} (h : f_X9_tired_0 a1 a2 μ = some ρ) : HT 3 yX9_tired cX9_tired 3 (some .int) [.ref 0, .int a1, .int a2] μ (some (.int ρ.1)) ρ.2 := by
  refine HT.of (by decide +kernel) (Nat.le_of_ble_eq_true rfl) (fun C => ?_)
  unfold f_X9_tired_0 at h
  refine wa_aload_n C dX9_tired_0 rfl ?_
  refine wa_getr C fl_RX9_10 rfl rfl (by decide) dX9_tired_1 ?_
  refine wa_iload_n C dX9_tired_4 rfl ?_
  obtain ⟨q1, hq1, h⟩ := bd h
  refine wa_callV C (r_X1_hasEye_1 hq1) mk_X1_hasEye mv_X1_hasEye qw_504 rfl (by decide) rfl rfl ⟨Nat.le_of_ble_eq_true rfl, Nat.le_of_ble_eq_true rfl⟩ ⟨Nat.zero_le _, Nat.zero_le _⟩ (Nat.le_of_ble_eq_true rfl) dX9_tired_5 rfl ?_
  refine wa_if_eq (tgt := 22) C dX9_tired_8 (by decide) (fun c2 => ?_) (fun c2 => ?_)
  · replace h := (if_pos c2).symm.trans h
    refine wa_iconst (v := -1) C dX9_tired_22 (by decide) ?_
    obtain rfl := Option.some.inj h
    exact wa_iret C dX9_tired_23
  · replace h := (if_neg c2).symm.trans h
    refine wa_aload_n C dX9_tired_11 rfl ?_
    refine wa_getr C fl_RX9_10 rfl rfl (by decide) dX9_tired_12 ?_
    refine wa_iload_n C dX9_tired_15 rfl ?_
    obtain ⟨q3, hq3, h⟩ := bd h
    refine wa_callV C (r_X1_hasQuarter_1 hq3) mk_X1_hasQuarter mv_X1_hasQuarter qw_546 rfl (by decide) rfl rfl ⟨Nat.le_of_ble_eq_true rfl, Nat.le_of_ble_eq_true rfl⟩ ⟨Nat.zero_le _, Nat.zero_le _⟩ (Nat.le_of_ble_eq_true rfl) dX9_tired_16 rfl ?_
    refine wa_if_ne (tgt := 24) C dX9_tired_19 (by decide) (fun c4 => ?_) (fun c4 => ?_)
    · replace h := (if_neg c4).symm.trans h
      refine wa_aload_n C dX9_tired_24 rfl ?_
      refine wa_getr C fl_RX9_51 rfl rfl (by decide) dX9_tired_25 ?_
      refine wa_aload_n C dX9_tired_28 rfl ?_
      refine wa_getr C fl_RX9_10 rfl rfl (by decide) dX9_tired_29 ?_
      refine wa_aload_n C dX9_tired_32 rfl ?_
      refine wa_getr C fl_RX9_19 rfl rfl (by decide) dX9_tired_33 ?_
      refine wa_aload_n C dX9_tired_36 rfl ?_
      obtain ⟨q5, hq5, h⟩ := bd h
      refine wa_callV C (r_X9_look_0 hq5) mk_X9_look mv_X9_look qw_508 rfl (by decide) rfl rfl ⟨Nat.le_of_ble_eq_true rfl, Nat.le_of_ble_eq_true rfl⟩ ⟨Nat.zero_le _, Nat.zero_le _⟩ (Nat.le_of_ble_eq_true rfl) dX9_tired_37 rfl ?_
      refine wa_iload_n C dX9_tired_40 rfl ?_
      obtain ⟨q6, hq6, h⟩ := bd h
      refine wa_callV C (r_X2_reach_49_1_4_47 hq6) mk_X2_reach mv_X2_reach qw_721 rfl (by decide) rfl rfl ⟨Nat.le_of_ble_eq_true rfl, Nat.le_of_ble_eq_true rfl⟩ ⟨Nat.zero_le _, Nat.zero_le _⟩ (Nat.le_of_ble_eq_true rfl) dX9_tired_41 rfl ?_
      refine wa_aload_n C dX9_tired_44 rfl ?_
      refine wa_getr C fl_RX9_51 rfl rfl (by decide) dX9_tired_45 ?_
      refine wa_aload_n C dX9_tired_48 rfl ?_
      refine wa_getr C fl_RX9_10 rfl rfl (by decide) dX9_tired_49 ?_
      obtain ⟨q7, hq7, h⟩ := bd h
      refine wa_callV C (r_X2_pass_49_1 hq7) mk_X2_pass mv_X2_pass qw_745 rfl (by decide) rfl rfl ⟨Nat.le_of_ble_eq_true rfl, Nat.le_of_ble_eq_true rfl⟩ ⟨Nat.zero_le _, Nat.zero_le _⟩ (Nat.le_of_ble_eq_true rfl) dX9_tired_52 rfl ?_
      refine wa_aload_n C dX9_tired_55 rfl ?_
      refine wa_getr C fl_RX9_51 rfl rfl (by decide) dX9_tired_56 ?_
      refine wa_getr C fl_RX9_203 rfl rfl (by decide) dX9_tired_59 ?_
      refine wa_iload_n C dX9_tired_62 rfl ?_
      obtain ⟨g8, h⟩ := gd h
      refine wa_iald (j := (a1.toNatClampNeg)) (x := (q7.1 50 (a1.toNatClampNeg))) C rfl (by decide) g8 rfl rfl dX9_tired_63 ?_
      obtain rfl := Option.some.inj h
      exact wa_iret C dX9_tired_64
    · replace h := (if_pos c4).symm.trans h
      refine wa_iconst (v := -1) C dX9_tired_22 (by decide) ?_
      obtain rfl := Option.some.inj h
      exact wa_iret C dX9_tired_23
def f_X10_shutNow_62_J43 (k16 : Int32 → Int32 → Mem → Option (Int32 × Mem)) (a3 : Int32) (t0 : Int32) (t1 : Int32) (μ : Mem) : Option (Int32 × Mem) :=
  (f_X10_flag t1 μ).bind fun q6 =>
  k16 (t0 ||| (q6.1 <<< (a3 &&& 31))) (a3 + 1) q6.2
def f_X10_shutNow_62_L16 (k16 : Int32 → Int32 → Mem → Option (Int32 × Mem)) (a2 : Int32) (a3 : Int32) (μ : Mem) : Option (Int32 × Mem) :=
    if ((2 : Int32) * (μ.1 62 2)) ≤ a3 then
      some (a2, μ)
    else
      if inb a3 6 = false then none else
      if (μ.1 71 (a3.toNatClampNeg)) = (9 : Int32) then
        f_X10_shutNow_62_J43 k16 a3 a2 (1 : Int32) μ
      else
        f_X10_shutNow_62_J43 k16 a3 a2 (0 : Int32) μ
def f_X10_shutNow_62 (a1 : Int32) (μ : Mem) : Option (Int32 × Mem) :=
  if inb ((21 : Int32) + a1) 162 = false then none else
  (f_X10_shutBy_62 (μ.1 63 (((21 : Int32) + a1).toNatClampNeg)) μ).bind fun q2 =>
  it3 (f_X10_shutNow_62_L16) FU q2.1 (0 : Int32) q2.2
set_option maxRecDepth 100000 in
set_option maxHeartbeats 4000000 in
theorem r_X10_shutNow_62_J43 {p : Program} {l : Launch} {e : Env} {s : State} {m : MethodId} {args : Array Value} {below : List Frame} {meth : Method} {c : Code} {D : va_G} {cy : Nat → ClassId} {ad : Nat → Nat} (C : CX p s m args meth c cX10_shutNow 4 RX10 (some .int) D cy ad (AD ad)) {a3 : Int32} {t0 : Int32} {t1 : Int32} {μ : Mem} {ρ : (Int32 × Mem)} (k16 : Int32 → Int32 → Mem → Option (Int32 × Mem)) (hk16 : ∀ (a2 : Int32) (a3 : Int32) (μ : Mem), k16 a2 a3 μ = some ρ → WA p l e (rmD 1) s m args below meth c 4 D cy ad (AD ad) 0 0 (ZZ below args s D cy ad (AD ad) 0 0 (some (.int ρ.1)) ρ.2) μ [(0, .ref 62), (2, .int a2), (3, .int a3)] 16 []) (h : f_X10_shutNow_62_J43 k16 a3 t0 t1 μ = some ρ) : WA p l e (rmD 1) s m args below meth c 4 D cy ad (AD ad) 0 0 (ZZ below args s D cy ad (AD ad) 0 0 (some (.int ρ.1)) ρ.2) μ [(0, .ref 62), (3, .int a3)] 43 [.int t1, .int t0] := by
  unfold f_X10_shutNow_62_J43 at h
  obtain ⟨q6, hq6, h⟩ := bd h
  refine wa_callS C (r_X10_flag hq6) mk_X10_flag ms_X10_flag qw_660 rfl ⟨Nat.le_of_ble_eq_true rfl, Nat.le_of_ble_eq_true rfl⟩ ⟨Nat.zero_le _, Nat.zero_le _⟩ (Nat.le_of_ble_eq_true rfl) dX10_shutNow_43 rfl ?_
  refine wa_iload_n C dX10_shutNow_46 rfl ?_
  refine wa_ishl C dX10_shutNow_47 ?_
  refine wa_ior C dX10_shutNow_48 ?_
  refine wa_istore_n C dX10_shutNow_49 (by decide) ?_
  refine wa_iinc (v := (a3 + 1)) C dX10_shutNow_50 rfl rfl (by decide) ?_
  refine wa_goto (tgt := 16) C dX10_shutNow_53 (by decide) ?_
  exact WA.sub (lsub_c rfl (lsub_c rfl (lsub_c rfl lsub_n))) (hk16 _ _ _ h)
set_option maxRecDepth 100000 in
set_option maxHeartbeats 4000000 in
theorem r_X10_shutNow_62_L16 {p : Program} {l : Launch} {e : Env} {s : State} {m : MethodId} {args : Array Value} {below : List Frame} {meth : Method} {c : Code} {D : va_G} {cy : Nat → ClassId} {ad : Nat → Nat} (C : CX p s m args meth c cX10_shutNow 4 RX10 (some .int) D cy ad (AD ad)) {ρ : (Int32 × Mem)} : ∀ (n : Nat) (a2 : Int32) (a3 : Int32) (μ : Mem), it3 (f_X10_shutNow_62_L16) n a2 a3 μ = some ρ → WA p l e (rmD 1) s m args below meth c 4 D cy ad (AD ad) 0 0 (ZZ below args s D cy ad (AD ad) 0 0 (some (.int ρ.1)) ρ.2) μ [(0, .ref 62), (2, .int a2), (3, .int a3)] 16 [] := by
  intro n
  induction n with
  | zero =>
    intro a2 a3 μ h
    exact absurd h (fun h => by cases h)
  | succ n ih =>
    intro a2 a3 μ h
    replace h : f_X10_shutNow_62_L16 (it3 (f_X10_shutNow_62_L16) n) a2 a3 μ = some ρ := h
    unfold f_X10_shutNow_62_L16 at h
    refine wa_iload_n C dX10_shutNow_16 rfl ?_
    refine wa_iconst (v := 2) C dX10_shutNow_17 (by decide) ?_
    refine wa_aload_n C dX10_shutNow_18 rfl ?_
    refine wa_geti (x := (μ.1 62 2)) C fl_RX10_94 rfl rfl (by decide) rfl dX10_shutNow_19 ?_
    refine wa_imul C dX10_shutNow_22 ?_
    refine wa_icmp_ge (tgt := 56) C dX10_shutNow_23 (by decide) (fun c3 => ?_) (fun c3 => ?_)
    · replace h := (if_pos c3).symm.trans h
      refine wa_iload_n C dX10_shutNow_56 rfl ?_
      obtain rfl := Option.some.inj h
      exact wa_iret C dX10_shutNow_57
    · replace h := (if_neg c3).symm.trans h
      refine wa_iload_n C dX10_shutNow_26 rfl ?_
      refine wa_aload_n C dX10_shutNow_27 rfl ?_
      refine wa_getr C fl_RX10_35 rfl rfl (by decide) dX10_shutNow_28 ?_
      refine wa_iload_n C dX10_shutNow_31 rfl ?_
      obtain ⟨g4, h⟩ := gd h
      refine wa_iald (j := (a3.toNatClampNeg)) (x := (μ.1 71 (a3.toNatClampNeg))) C rfl (by decide) g4 rfl rfl dX10_shutNow_32 ?_
      refine wa_bipush (v := 9) C dX10_shutNow_33 (by decide) ?_
      refine wa_icmp_ne (tgt := 42) C dX10_shutNow_35 (by decide) (fun c5 => ?_) (fun c5 => ?_)
      · replace h := (if_neg c5).symm.trans h
        refine wa_iconst (v := 0) C dX10_shutNow_42 (by decide) ?_
        exact WA.sub (lsub_c rfl (lsub_c rfl lsub_n)) (r_X10_shutNow_62_J43 C _ (fun _ _ _ h => ih _ _ _ h) h)
      · replace h := (if_pos c5).symm.trans h
        refine wa_iconst (v := 1) C dX10_shutNow_38 (by decide) ?_
        refine wa_goto (tgt := 43) C dX10_shutNow_39 (by decide) ?_
        exact WA.sub (lsub_c rfl (lsub_c rfl lsub_n)) (r_X10_shutNow_62_J43 C _ (fun _ _ _ h => ih _ _ _ h) h)
set_option maxRecDepth 100000 in
set_option maxHeartbeats 4000000 in
theorem r_X10_shutNow_62 {a1 : Int32} {μ : Mem} {ρ : (Int32 × Mem)} (h : f_X10_shutNow_62 a1 μ = some ρ) : HT 1 yX10_shutNow cX10_shutNow 4 (some .int) [.ref 62, .int a1] μ (some (.int ρ.1)) ρ.2 := by
  refine HT.of (by decide +kernel) (Nat.le_of_ble_eq_true rfl) (fun C => ?_)
  unfold f_X10_shutNow_62 at h
  refine wa_aload_n C dX10_shutNow_0 rfl ?_
  refine wa_aload_n C dX10_shutNow_1 rfl ?_
  refine wa_getr C fl_RX10_7 rfl rfl (by decide) dX10_shutNow_2 ?_
  refine wa_bipush (v := 21) C dX10_shutNow_5 (by decide) ?_
  refine wa_iload_n C dX10_shutNow_7 rfl ?_
  refine wa_iadd C dX10_shutNow_8 ?_
  obtain ⟨g1, h⟩ := gd h
  refine wa_iald (j := (((21 : Int32) + a1).toNatClampNeg)) (x := (μ.1 63 (((21 : Int32) + a1).toNatClampNeg))) C rfl (by decide) g1 rfl rfl dX10_shutNow_9 ?_
  obtain ⟨q2, hq2, h⟩ := bd h
  refine wa_callV C (r_X10_shutBy_62 hq2) mk_X10_shutBy mv_X10_shutBy qw_647 rfl (by decide) rfl rfl ⟨Nat.le_of_ble_eq_true rfl, Nat.le_of_ble_eq_true rfl⟩ ⟨Nat.zero_le _, Nat.zero_le _⟩ (Nat.le_of_ble_eq_true rfl) dX10_shutNow_10 rfl ?_
  refine wa_istore_n C dX10_shutNow_13 (by decide) ?_
  refine wa_iconst (v := 0) C dX10_shutNow_14 (by decide) ?_
  refine wa_istore_n C dX10_shutNow_15 (by decide) ?_
  exact WA.sub (lsub_c rfl (lsub_c rfl (lsub_c rfl lsub_n))) (r_X10_shutNow_62_L16 C  _ _ _ _ h)
def f_X10_tiredThen_62_J60 (t0 : Int32) (t1 : Int32) (μ : Mem) : Option (Int32 × Mem) :=
  if (t0 + t1) ≤ (9 : Int32) then
    some ((t0 + t1), μ)
  else
    some ((9 : Int32), μ)
def f_X10_tiredThen_62 (a1 : Int32) (a2 : Int32) (μ : Mem) : Option (Int32 × Mem) :=
  (f_X10_isGlass_62 a1 μ).bind fun q1 =>
  if q1.1 = 0 then
    if a2 = 0 then
      if inb a1 6 = false then none else
      if inb (a1 / (2 : Int32)) 3 = false then none else
      if (q1.2.1 65 ((a1 / (2 : Int32)).toNatClampNeg)) = (2 : Int32) then
        f_X10_tiredThen_62_J60 (q1.2.1 71 (a1.toNatClampNeg)) (2 : Int32) q1.2
      else
        f_X10_tiredThen_62_J60 (q1.2.1 71 (a1.toNatClampNeg)) (1 : Int32) q1.2
    else
      if inb a1 6 = false then none else
      if (q1.2.1 71 (a1.toNatClampNeg)) ≤ (2 : Int32) then
        some ((0 : Int32), q1.2)
      else
        if inb a1 6 = false then none else
        some (((q1.2.1 71 (a1.toNatClampNeg)) - (2 : Int32)), q1.2)
  else
    some ((0 : Int32), q1.2)
set_option maxRecDepth 100000 in
set_option maxHeartbeats 4000000 in
theorem r_X10_tiredThen_62_J60 {p : Program} {l : Launch} {e : Env} {s : State} {m : MethodId} {args : Array Value} {below : List Frame} {meth : Method} {c : Code} {D : va_G} {cy : Nat → ClassId} {ad : Nat → Nat} (C : CX p s m args meth c cX10_tiredThen 4 RX10 (some .int) D cy ad (AD ad)) {t0 : Int32} {t1 : Int32} {μ : Mem} {ρ : (Int32 × Mem)} (h : f_X10_tiredThen_62_J60 t0 t1 μ = some ρ) : WA p l e (rmD 1) s m args below meth c 4 D cy ad (AD ad) 0 0 (ZZ below args s D cy ad (AD ad) 0 0 (some (.int ρ.1)) ρ.2) μ [] 60 [.int t1, .int t0] := by
  unfold f_X10_tiredThen_62_J60 at h
  refine wa_iadd C dX10_tiredThen_60 ?_
  refine wa_istore_n C dX10_tiredThen_61 (by decide) ?_
  refine wa_iload_n C dX10_tiredThen_62 rfl ?_
  refine wa_bipush (v := 9) C dX10_tiredThen_63 (by decide) ?_
  refine wa_icmp_le (tgt := 73) C dX10_tiredThen_65 (by decide) (fun c7 => ?_) (fun c7 => ?_)
  · replace h := (if_pos c7).symm.trans h
    refine wa_iload_n C dX10_tiredThen_73 rfl ?_
    obtain rfl := Option.some.inj h
    exact wa_iret C dX10_tiredThen_74
  · replace h := (if_neg c7).symm.trans h
    refine wa_bipush (v := 9) C dX10_tiredThen_68 (by decide) ?_
    refine wa_goto (tgt := 74) C dX10_tiredThen_70 (by decide) ?_
    obtain rfl := Option.some.inj h
    exact wa_iret C dX10_tiredThen_74
set_option maxRecDepth 100000 in
set_option maxHeartbeats 4000000 in
theorem r_X10_tiredThen_62 {a1 : Int32} {a2 : Int32} {μ : Mem} {ρ : (Int32 × Mem)} (h : f_X10_tiredThen_62 a1 a2 μ = some ρ) : HT 1 yX10_tiredThen cX10_tiredThen 4 (some .int) [.ref 62, .int a1, .int a2] μ (some (.int ρ.1)) ρ.2 := by
  refine HT.of (by decide +kernel) (Nat.le_of_ble_eq_true rfl) (fun C => ?_)
  unfold f_X10_tiredThen_62 at h
  refine wa_aload_n C dX10_tiredThen_0 rfl ?_
  refine wa_iload_n C dX10_tiredThen_1 rfl ?_
  obtain ⟨q1, hq1, h⟩ := bd h
  refine wa_callV C (r_X10_isGlass_62 hq1) mk_X10_isGlass mv_X10_isGlass qw_627 rfl (by decide) rfl rfl ⟨Nat.le_of_ble_eq_true rfl, Nat.le_of_ble_eq_true rfl⟩ ⟨Nat.zero_le _, Nat.zero_le _⟩ (Nat.le_of_ble_eq_true rfl) dX10_tiredThen_2 rfl ?_
  refine wa_if_eq (tgt := 10) C dX10_tiredThen_5 (by decide) (fun c2 => ?_) (fun c2 => ?_)
  · replace h := (if_pos c2).symm.trans h
    refine wa_iload_n C dX10_tiredThen_10 rfl ?_
    refine wa_if_eq (tgt := 37) C dX10_tiredThen_11 (by decide) (fun c3 => ?_) (fun c3 => ?_)
    · replace h := (if_pos c3).symm.trans h
      refine wa_aload_n C dX10_tiredThen_37 rfl ?_
      refine wa_getr C fl_RX10_35 rfl rfl (by decide) dX10_tiredThen_38 ?_
      refine wa_iload_n C dX10_tiredThen_41 rfl ?_
      obtain ⟨g4, h⟩ := gd h
      refine wa_iald (j := (a1.toNatClampNeg)) (x := (q1.2.1 71 (a1.toNatClampNeg))) C rfl (by decide) g4 rfl rfl dX10_tiredThen_42 ?_
      refine wa_aload_n C dX10_tiredThen_43 rfl ?_
      refine wa_getr C fl_RX10_17 rfl rfl (by decide) dX10_tiredThen_44 ?_
      refine wa_iload_n C dX10_tiredThen_47 rfl ?_
      refine wa_iconst (v := 2) C dX10_tiredThen_48 (by decide) ?_
      refine wa_idiv C dX10_tiredThen_49 (by decide) ?_
      obtain ⟨g5, h⟩ := gd h
      refine wa_iald (j := ((a1 / (2 : Int32)).toNatClampNeg)) (x := (q1.2.1 65 ((a1 / (2 : Int32)).toNatClampNeg))) C rfl (by decide) g5 rfl rfl dX10_tiredThen_50 ?_
      refine wa_iconst (v := 2) C dX10_tiredThen_51 (by decide) ?_
      refine wa_icmp_ne (tgt := 59) C dX10_tiredThen_52 (by decide) (fun c6 => ?_) (fun c6 => ?_)
      · replace h := (if_neg c6).symm.trans h
        refine wa_iconst (v := 1) C dX10_tiredThen_59 (by decide) ?_
        exact WA.sub lsub_n (r_X10_tiredThen_62_J60 C h)
      · replace h := (if_pos c6).symm.trans h
        refine wa_iconst (v := 2) C dX10_tiredThen_55 (by decide) ?_
        refine wa_goto (tgt := 60) C dX10_tiredThen_56 (by decide) ?_
        exact WA.sub lsub_n (r_X10_tiredThen_62_J60 C h)
    · replace h := (if_neg c3).symm.trans h
      refine wa_aload_n C dX10_tiredThen_14 rfl ?_
      refine wa_getr C fl_RX10_35 rfl rfl (by decide) dX10_tiredThen_15 ?_
      refine wa_iload_n C dX10_tiredThen_18 rfl ?_
      obtain ⟨g8, h⟩ := gd h
      refine wa_iald (j := (a1.toNatClampNeg)) (x := (q1.2.1 71 (a1.toNatClampNeg))) C rfl (by decide) g8 rfl rfl dX10_tiredThen_19 ?_
      refine wa_iconst (v := 2) C dX10_tiredThen_20 (by decide) ?_
      refine wa_icmp_le (tgt := 35) C dX10_tiredThen_21 (by decide) (fun c9 => ?_) (fun c9 => ?_)
      · replace h := (if_pos c9).symm.trans h
        refine wa_iconst (v := 0) C dX10_tiredThen_35 (by decide) ?_
        obtain rfl := Option.some.inj h
        exact wa_iret C dX10_tiredThen_36
      · replace h := (if_neg c9).symm.trans h
        refine wa_aload_n C dX10_tiredThen_24 rfl ?_
        refine wa_getr C fl_RX10_35 rfl rfl (by decide) dX10_tiredThen_25 ?_
        refine wa_iload_n C dX10_tiredThen_28 rfl ?_
        obtain ⟨g10, h⟩ := gd h
        refine wa_iald (j := (a1.toNatClampNeg)) (x := (q1.2.1 71 (a1.toNatClampNeg))) C rfl (by decide) g10 rfl rfl dX10_tiredThen_29 ?_
        refine wa_iconst (v := 2) C dX10_tiredThen_30 (by decide) ?_
        refine wa_isub C dX10_tiredThen_31 ?_
        refine wa_goto (tgt := 36) C dX10_tiredThen_32 (by decide) ?_
        obtain rfl := Option.some.inj h
        exact wa_iret C dX10_tiredThen_36
  · replace h := (if_neg c2).symm.trans h
    refine wa_iconst (v := 0) C dX10_tiredThen_8 (by decide) ?_
    obtain rfl := Option.some.inj h
    exact wa_iret C dX10_tiredThen_9
def f_X10_goes_62_J79 (k30 : Int32 → Mem → Option Mem) (k44 : Int32 → Mem → Option Mem) (a1 : Int32) (a2 : Int32) (a3 : Int32) (a4 : Int32) (t1 : Int32) (t3 : Int32) (t4 : Int32) (μ : Mem) : Option Mem :=
  (f_X10_tiredThen_62 t3 t4 μ).bind fun q6 =>
  if inb t1 6 = false then none else
  k44 (a4 + 1) (pI q6.2 71 (t1.toNatClampNeg) q6.1)
def f_X10_goes_62_L44 (a1 : Int32) (a2 : Int32) (a3 : Int32) (k30 : Int32 → Mem → Option Mem) (k44 : Int32 → Mem → Option Mem) (a4 : Int32) (μ : Mem) : Option Mem :=
    if ((2 : Int32) * (μ.1 62 2)) ≤ a4 then
      k30 (a2 + 1) μ
    else
      if ((a3 >>> (a4 &&& 31)) &&& (1 : Int32)) = (1 : Int32) then
        f_X10_goes_62_J79 k30 k44 a1 a2 a3 a4 a4 a4 (1 : Int32) μ
      else
        f_X10_goes_62_J79 k30 k44 a1 a2 a3 a4 a4 a4 (0 : Int32) μ
def f_X10_goes_62_L30 (a1 : Int32) (k30 : Int32 → Mem → Option Mem) (a2 : Int32) (μ : Mem) : Option Mem :=
    if a1 ≤ a2 then
      some μ
    else
      (f_X10_shutNow_62 a2 μ).bind fun q3 =>
      it2 (f_X10_goes_62_L44 a1 a2 q3.1 k30) FU (0 : Int32) q3.2
def f_X10_goes_62_L2 (a1 : Int32) (k2 : Int32 → Mem → Option Mem) (a2 : Int32) (μ : Mem) : Option Mem :=
    if (6 : Int32) ≤ a2 then
      it2 (f_X10_goes_62_L30 a1) FU (0 : Int32) μ
    else
      if inb ((3 : Int32) + a2) 162 = false then none else
      if inb a2 6 = false then none else
      k2 (a2 + 1) (pI μ 71 (a2.toNatClampNeg) (μ.1 63 (((3 : Int32) + a2).toNatClampNeg)))
def f_X10_goes_62 (a1 : Int32) (μ : Mem) : Option Mem :=
  it2 (f_X10_goes_62_L2 a1) FU (0 : Int32) μ
set_option maxRecDepth 100000 in
set_option maxHeartbeats 4000000 in
theorem r_X10_goes_62_J79 {p : Program} {l : Launch} {e : Env} {s : State} {m : MethodId} {args : Array Value} {below : List Frame} {meth : Method} {c : Code} {D : va_G} {cy : Nat → ClassId} {ad : Nat → Nat} (C : CX p s m args meth c cX10_goes 5 RX10 none D cy ad (AD ad)) {a1 : Int32} {a2 : Int32} {a3 : Int32} {a4 : Int32} {t1 : Int32} {t3 : Int32} {t4 : Int32} {μ : Mem} {ρ : Mem} (k30 : Int32 → Mem → Option Mem) (hk30 : ∀ (a2 : Int32) (μ : Mem), k30 a2 μ = some ρ → WA p l e (rmD 2) s m args below meth c 5 D cy ad (AD ad) 0 0 (ZZ below args s D cy ad (AD ad) 0 0 none ρ) μ [(0, .ref 62), (1, .int a1), (2, .int a2)] 30 []) (k44 : Int32 → Mem → Option Mem) (hk44 : ∀ (a4 : Int32) (μ : Mem), k44 a4 μ = some ρ → WA p l e (rmD 2) s m args below meth c 5 D cy ad (AD ad) 0 0 (ZZ below args s D cy ad (AD ad) 0 0 none ρ) μ [(0, .ref 62), (1, .int a1), (2, .int a2), (3, .int a3), (4, .int a4)] 44 []) (h : f_X10_goes_62_J79 k30 k44 a1 a2 a3 a4 t1 t3 t4 μ = some ρ) : WA p l e (rmD 2) s m args below meth c 5 D cy ad (AD ad) 0 0 (ZZ below args s D cy ad (AD ad) 0 0 none ρ) μ [(0, .ref 62), (1, .int a1), (2, .int a2), (3, .int a3), (4, .int a4)] 79 [.int t4, .int t3, .ref 62, .int t1, .ref 71] := by
  unfold f_X10_goes_62_J79 at h
  obtain ⟨q6, hq6, h⟩ := bd h
  refine wa_callV C (r_X10_tiredThen_62 hq6) mk_X10_tiredThen mv_X10_tiredThen qw_758 rfl (by decide) rfl rfl ⟨Nat.le_of_ble_eq_true rfl, Nat.le_of_ble_eq_true rfl⟩ ⟨Nat.zero_le _, Nat.zero_le _⟩ (Nat.le_of_ble_eq_true rfl) dX10_goes_79 rfl ?_
  obtain ⟨g7, h⟩ := gd h
  refine wa_iast (j := (t1.toNatClampNeg)) C rfl (by decide) g7 rfl dX10_goes_82 ?_
  refine wa_iinc (v := (a4 + 1)) C dX10_goes_83 rfl rfl (by decide) ?_
  refine wa_goto (tgt := 44) C dX10_goes_86 (by decide) ?_
  exact WA.sub (lsub_c rfl (lsub_c rfl (lsub_c rfl (lsub_c rfl (lsub_c rfl lsub_n))))) (hk44 _ _ h)
set_option maxRecDepth 100000 in
set_option maxHeartbeats 4000000 in
theorem r_X10_goes_62_L44 {p : Program} {l : Launch} {e : Env} {s : State} {m : MethodId} {args : Array Value} {below : List Frame} {meth : Method} {c : Code} {D : va_G} {cy : Nat → ClassId} {ad : Nat → Nat} (C : CX p s m args meth c cX10_goes 5 RX10 none D cy ad (AD ad)) (a1 : Int32) (a2 : Int32) (a3 : Int32) {ρ : Mem} (k30 : Int32 → Mem → Option Mem) (hk30 : ∀ (a2 : Int32) (μ : Mem), k30 a2 μ = some ρ → WA p l e (rmD 2) s m args below meth c 5 D cy ad (AD ad) 0 0 (ZZ below args s D cy ad (AD ad) 0 0 none ρ) μ [(0, .ref 62), (1, .int a1), (2, .int a2)] 30 []) : ∀ (n : Nat) (a4 : Int32) (μ : Mem), it2 (f_X10_goes_62_L44 a1 a2 a3 k30) n a4 μ = some ρ → WA p l e (rmD 2) s m args below meth c 5 D cy ad (AD ad) 0 0 (ZZ below args s D cy ad (AD ad) 0 0 none ρ) μ [(0, .ref 62), (1, .int a1), (2, .int a2), (3, .int a3), (4, .int a4)] 44 [] := by
  intro n
  induction n with
  | zero =>
    intro a4 μ h
    exact absurd h (fun h => by cases h)
  | succ n ih =>
    intro a4 μ h
    replace h : f_X10_goes_62_L44 a1 a2 a3 k30 (it2 (f_X10_goes_62_L44 a1 a2 a3 k30) n) a4 μ = some ρ := h
    unfold f_X10_goes_62_L44 at h
    refine wa_iload C dX10_goes_44 rfl ?_
    refine wa_iconst (v := 2) C dX10_goes_46 (by decide) ?_
    refine wa_aload_n C dX10_goes_47 rfl ?_
    refine wa_geti (x := (μ.1 62 2)) C fl_RX10_94 rfl rfl (by decide) rfl dX10_goes_48 ?_
    refine wa_imul C dX10_goes_51 ?_
    refine wa_icmp_ge (tgt := 89) C dX10_goes_52 (by decide) (fun c4 => ?_) (fun c4 => ?_)
    · replace h := (if_pos c4).symm.trans h
      refine wa_iinc (v := (a2 + 1)) C dX10_goes_89 rfl rfl (by decide) ?_
      refine wa_goto (tgt := 30) C dX10_goes_92 (by decide) ?_
      exact WA.sub (lsub_c rfl (lsub_c rfl (lsub_c rfl lsub_n))) (hk30 _ _ h)
    · replace h := (if_neg c4).symm.trans h
      refine wa_aload_n C dX10_goes_55 rfl ?_
      refine wa_getr C fl_RX10_35 rfl rfl (by decide) dX10_goes_56 ?_
      refine wa_iload C dX10_goes_59 rfl ?_
      refine wa_aload_n C dX10_goes_61 rfl ?_
      refine wa_iload C dX10_goes_62 rfl ?_
      refine wa_iload_n C dX10_goes_64 rfl ?_
      refine wa_iload C dX10_goes_65 rfl ?_
      refine wa_ishr C dX10_goes_67 ?_
      refine wa_iconst (v := 1) C dX10_goes_68 (by decide) ?_
      refine wa_iand C dX10_goes_69 ?_
      refine wa_iconst (v := 1) C dX10_goes_70 (by decide) ?_
      refine wa_icmp_ne (tgt := 78) C dX10_goes_71 (by decide) (fun c5 => ?_) (fun c5 => ?_)
      · replace h := (if_neg c5).symm.trans h
        refine wa_iconst (v := 0) C dX10_goes_78 (by decide) ?_
        exact WA.sub (lsub_c rfl (lsub_c rfl (lsub_c rfl (lsub_c rfl (lsub_c rfl lsub_n))))) (r_X10_goes_62_J79 C _ hk30 _ (fun _ _ h => ih _ _ h) h)
      · replace h := (if_pos c5).symm.trans h
        refine wa_iconst (v := 1) C dX10_goes_74 (by decide) ?_
        refine wa_goto (tgt := 79) C dX10_goes_75 (by decide) ?_
        exact WA.sub (lsub_c rfl (lsub_c rfl (lsub_c rfl (lsub_c rfl (lsub_c rfl lsub_n))))) (r_X10_goes_62_J79 C _ hk30 _ (fun _ _ h => ih _ _ h) h)
set_option maxRecDepth 100000 in
set_option maxHeartbeats 4000000 in
theorem r_X10_goes_62_L30 {p : Program} {l : Launch} {e : Env} {s : State} {m : MethodId} {args : Array Value} {below : List Frame} {meth : Method} {c : Code} {D : va_G} {cy : Nat → ClassId} {ad : Nat → Nat} (C : CX p s m args meth c cX10_goes 5 RX10 none D cy ad (AD ad)) (a1 : Int32) {ρ : Mem} : ∀ (n : Nat) (a2 : Int32) (μ : Mem), it2 (f_X10_goes_62_L30 a1) n a2 μ = some ρ → WA p l e (rmD 2) s m args below meth c 5 D cy ad (AD ad) 0 0 (ZZ below args s D cy ad (AD ad) 0 0 none ρ) μ [(0, .ref 62), (1, .int a1), (2, .int a2)] 30 [] := by
  intro n
  induction n with
  | zero =>
    intro a2 μ h
    exact absurd h (fun h => by cases h)
  | succ n ih =>
    intro a2 μ h
    replace h : f_X10_goes_62_L30 a1 (it2 (f_X10_goes_62_L30 a1) n) a2 μ = some ρ := h
    unfold f_X10_goes_62_L30 at h
    refine wa_iload_n C dX10_goes_30 rfl ?_
    refine wa_iload_n C dX10_goes_31 rfl ?_
    refine wa_icmp_ge (tgt := 95) C dX10_goes_32 (by decide) (fun c2 => ?_) (fun c2 => ?_)
    · replace h := (if_pos c2).symm.trans h
      obtain rfl := Option.some.inj h
      exact wa_vret C dX10_goes_95
    · replace h := (if_neg c2).symm.trans h
      refine wa_aload_n C dX10_goes_35 rfl ?_
      refine wa_iload_n C dX10_goes_36 rfl ?_
      obtain ⟨q3, hq3, h⟩ := bd h
      refine wa_callV C (r_X10_shutNow_62 hq3) mk_X10_shutNow mv_X10_shutNow qw_754 rfl (by decide) rfl rfl ⟨Nat.le_of_ble_eq_true rfl, Nat.le_of_ble_eq_true rfl⟩ ⟨Nat.zero_le _, Nat.zero_le _⟩ (Nat.le_of_ble_eq_true rfl) dX10_goes_37 rfl ?_
      refine wa_istore_n C dX10_goes_40 (by decide) ?_
      refine wa_iconst (v := 0) C dX10_goes_41 (by decide) ?_
      refine wa_istore C dX10_goes_42 (by decide) ?_
      exact WA.sub (lsub_c rfl (lsub_c rfl (lsub_c rfl (lsub_c rfl (lsub_c rfl lsub_n))))) (r_X10_goes_62_L44 C _ _ _ _ (fun _ _ h => ih _ _ h) _ _ _ h)
set_option maxRecDepth 100000 in
set_option maxHeartbeats 4000000 in
theorem r_X10_goes_62_L2 {p : Program} {l : Launch} {e : Env} {s : State} {m : MethodId} {args : Array Value} {below : List Frame} {meth : Method} {c : Code} {D : va_G} {cy : Nat → ClassId} {ad : Nat → Nat} (C : CX p s m args meth c cX10_goes 5 RX10 none D cy ad (AD ad)) (a1 : Int32) {ρ : Mem} : ∀ (n : Nat) (a2 : Int32) (μ : Mem), it2 (f_X10_goes_62_L2 a1) n a2 μ = some ρ → WA p l e (rmD 2) s m args below meth c 5 D cy ad (AD ad) 0 0 (ZZ below args s D cy ad (AD ad) 0 0 none ρ) μ [(0, .ref 62), (1, .int a1), (2, .int a2)] 2 [] := by
  intro n
  induction n with
  | zero =>
    intro a2 μ h
    exact absurd h (fun h => by cases h)
  | succ n ih =>
    intro a2 μ h
    replace h : f_X10_goes_62_L2 a1 (it2 (f_X10_goes_62_L2 a1) n) a2 μ = some ρ := h
    unfold f_X10_goes_62_L2 at h
    refine wa_iload_n C dX10_goes_2 rfl ?_
    refine wa_bipush (v := 6) C dX10_goes_3 (by decide) ?_
    refine wa_icmp_ge (tgt := 28) C dX10_goes_5 (by decide) (fun c1 => ?_) (fun c1 => ?_)
    · replace h := (if_pos c1).symm.trans h
      refine wa_iconst (v := 0) C dX10_goes_28 (by decide) ?_
      refine wa_istore_n C dX10_goes_29 (by decide) ?_
      exact WA.sub (lsub_c rfl (lsub_c rfl (lsub_c rfl lsub_n))) (r_X10_goes_62_L30 C _ _ _ _ h)
    · replace h := (if_neg c1).symm.trans h
      refine wa_aload_n C dX10_goes_8 rfl ?_
      refine wa_getr C fl_RX10_35 rfl rfl (by decide) dX10_goes_9 ?_
      refine wa_iload_n C dX10_goes_12 rfl ?_
      refine wa_aload_n C dX10_goes_13 rfl ?_
      refine wa_getr C fl_RX10_7 rfl rfl (by decide) dX10_goes_14 ?_
      refine wa_iconst (v := 3) C dX10_goes_17 (by decide) ?_
      refine wa_iload_n C dX10_goes_18 rfl ?_
      refine wa_iadd C dX10_goes_19 ?_
      obtain ⟨g8, h⟩ := gd h
      refine wa_iald (j := (((3 : Int32) + a2).toNatClampNeg)) (x := (μ.1 63 (((3 : Int32) + a2).toNatClampNeg))) C rfl (by decide) g8 rfl rfl dX10_goes_20 ?_
      obtain ⟨g9, h⟩ := gd h
      refine wa_iast (j := (a2.toNatClampNeg)) C rfl (by decide) g9 rfl dX10_goes_21 ?_
      refine wa_iinc (v := (a2 + 1)) C dX10_goes_22 rfl rfl (by decide) ?_
      refine wa_goto (tgt := 2) C dX10_goes_25 (by decide) ?_
      exact WA.sub (lsub_c rfl (lsub_c rfl (lsub_c rfl lsub_n))) (ih _ _ h)
set_option maxRecDepth 100000 in
set_option maxHeartbeats 4000000 in
theorem r_X10_goes_62 {a1 : Int32} {μ : Mem} {ρ : Mem} (h : f_X10_goes_62 a1 μ = some ρ) : HT 2 yX10_goes cX10_goes 5 none [.ref 62, .int a1] μ none ρ := by
  refine HT.of (by decide +kernel) (Nat.le_of_ble_eq_true rfl) (fun C => ?_)
  unfold f_X10_goes_62 at h
  refine wa_iconst (v := 0) C dX10_goes_0 (by decide) ?_
  refine wa_istore_n C dX10_goes_1 (by decide) ?_
  exact WA.sub (lsub_c rfl (lsub_c rfl (lsub_c rfl lsub_n))) (r_X10_goes_62_L2 C _ _ _ _ h)
def f_X10_tired_62 (a1 : Int32) (a2 : Int32) (μ : Mem) : Option (Int32 × Mem) :=
  (f_X10_isEye_62 a1 μ).bind fun q1 =>
  if q1.1 = 0 then
    some ((-1 : Int32), q1.2)
  else
    (f_X10_isQuarter_62 a2 q1.2).bind fun q3 =>
    if q3.1 = 0 then
      some ((-1 : Int32), q3.2)
    else
      (f_X10_goes_62 (a2 + (1 : Int32)) q3.2).bind fun q5 =>
      if inb a1 6 = false then none else
      some ((q5.1 71 (a1.toNatClampNeg)), q5)
set_option maxRecDepth 100000 in
set_option maxHeartbeats 4000000 in
theorem r_X10_tired_62 {a1 : Int32} {a2 : Int32} {μ : Mem} {ρ : (Int32 × Mem)} (h : f_X10_tired_62 a1 a2 μ = some ρ) : HT 3 yX10_tired cX10_tired 3 (some .int) [.ref 62, .int a1, .int a2] μ (some (.int ρ.1)) ρ.2 := by
  refine HT.of (by decide +kernel) (Nat.le_of_ble_eq_true rfl) (fun C => ?_)
  unfold f_X10_tired_62 at h
  refine wa_aload_n C dX10_tired_0 rfl ?_
  refine wa_iload_n C dX10_tired_1 rfl ?_
  obtain ⟨q1, hq1, h⟩ := bd h
  refine wa_callV C (r_X10_isEye_62 hq1) mk_X10_isEye mv_X10_isEye qw_529 rfl (by decide) rfl rfl ⟨Nat.le_of_ble_eq_true rfl, Nat.le_of_ble_eq_true rfl⟩ ⟨Nat.zero_le _, Nat.zero_le _⟩ (Nat.le_of_ble_eq_true rfl) dX10_tired_2 rfl ?_
  refine wa_if_eq (tgt := 16) C dX10_tired_5 (by decide) (fun c2 => ?_) (fun c2 => ?_)
  · replace h := (if_pos c2).symm.trans h
    refine wa_iconst (v := -1) C dX10_tired_16 (by decide) ?_
    obtain rfl := Option.some.inj h
    exact wa_iret C dX10_tired_17
  · replace h := (if_neg c2).symm.trans h
    refine wa_aload_n C dX10_tired_8 rfl ?_
    refine wa_iload_n C dX10_tired_9 rfl ?_
    obtain ⟨q3, hq3, h⟩ := bd h
    refine wa_callV C (r_X10_isQuarter_62 hq3) mk_X10_isQuarter mv_X10_isQuarter qw_558 rfl (by decide) rfl rfl ⟨Nat.le_of_ble_eq_true rfl, Nat.le_of_ble_eq_true rfl⟩ ⟨Nat.zero_le _, Nat.zero_le _⟩ (Nat.le_of_ble_eq_true rfl) dX10_tired_10 rfl ?_
    refine wa_if_ne (tgt := 18) C dX10_tired_13 (by decide) (fun c4 => ?_) (fun c4 => ?_)
    · replace h := (if_neg c4).symm.trans h
      refine wa_aload_n C dX10_tired_18 rfl ?_
      refine wa_iload_n C dX10_tired_19 rfl ?_
      refine wa_iconst (v := 1) C dX10_tired_20 (by decide) ?_
      refine wa_iadd C dX10_tired_21 ?_
      obtain ⟨q5, hq5, h⟩ := bd h
      refine wa_callV C (r_X10_goes_62 hq5) mk_X10_goes mv_X10_goes qw_750 rfl (by decide) rfl rfl ⟨Nat.le_of_ble_eq_true rfl, Nat.le_of_ble_eq_true rfl⟩ ⟨Nat.zero_le _, Nat.zero_le _⟩ (Nat.le_of_ble_eq_true rfl) dX10_tired_22 rfl ?_
      refine wa_aload_n C dX10_tired_25 rfl ?_
      refine wa_getr C fl_RX10_35 rfl rfl (by decide) dX10_tired_26 ?_
      refine wa_iload_n C dX10_tired_29 rfl ?_
      obtain ⟨g6, h⟩ := gd h
      refine wa_iald (j := (a1.toNatClampNeg)) (x := (q5.1 71 (a1.toNatClampNeg))) C rfl (by decide) g6 rfl rfl dX10_tired_30 ?_
      obtain rfl := Option.some.inj h
      exact wa_iret C dX10_tired_31
    · replace h := (if_pos c4).symm.trans h
      refine wa_iconst (v := -1) C dX10_tired_16 (by decide) ?_
      obtain rfl := Option.some.inj h
      exact wa_iret C dX10_tired_17
def f_X9_open_0 (a1 : Int32) (μ : Mem) : Option (Int32 × Mem) :=
  (f_X1_hasQuarter_1 a1 μ).bind fun q1 =>
  if q1.1 = 0 then
    some ((-1 : Int32), q1.2)
  else
    (f_X9_look_0 q1.2).bind fun q3 =>
    (f_X2_reach_49_1_4_47 a1 q3).bind fun q4 =>
    some ((q4.1 49 1), q4)
set_option maxRecDepth 100000 in
set_option maxHeartbeats 4000000 in
theorem r_X9_open_0 {a1 : Int32} {μ : Mem} {ρ : (Int32 × Mem)} (h : f_X9_open_0 a1 μ = some ρ) : HT 3 yX9_open cX9_open 2 (some .int) [.ref 0, .int a1] μ (some (.int ρ.1)) ρ.2 := by
  refine HT.of (by decide +kernel) (Nat.le_of_ble_eq_true rfl) (fun C => ?_)
  unfold f_X9_open_0 at h
  refine wa_aload_n C dX9_open_0 rfl ?_
  refine wa_getr C fl_RX9_10 rfl rfl (by decide) dX9_open_1 ?_
  refine wa_iload_n C dX9_open_4 rfl ?_
  obtain ⟨q1, hq1, h⟩ := bd h
  refine wa_callV C (r_X1_hasQuarter_1 hq1) mk_X1_hasQuarter mv_X1_hasQuarter qw_546 rfl (by decide) rfl rfl ⟨Nat.le_of_ble_eq_true rfl, Nat.le_of_ble_eq_true rfl⟩ ⟨Nat.zero_le _, Nat.zero_le _⟩ (Nat.le_of_ble_eq_true rfl) dX9_open_5 rfl ?_
  refine wa_if_ne (tgt := 13) C dX9_open_8 (by decide) (fun c2 => ?_) (fun c2 => ?_)
  · replace h := (if_neg c2).symm.trans h
    refine wa_aload_n C dX9_open_13 rfl ?_
    refine wa_getr C fl_RX9_51 rfl rfl (by decide) dX9_open_14 ?_
    refine wa_aload_n C dX9_open_17 rfl ?_
    refine wa_getr C fl_RX9_10 rfl rfl (by decide) dX9_open_18 ?_
    refine wa_aload_n C dX9_open_21 rfl ?_
    refine wa_getr C fl_RX9_19 rfl rfl (by decide) dX9_open_22 ?_
    refine wa_aload_n C dX9_open_25 rfl ?_
    obtain ⟨q3, hq3, h⟩ := bd h
    refine wa_callV C (r_X9_look_0 hq3) mk_X9_look mv_X9_look qw_508 rfl (by decide) rfl rfl ⟨Nat.le_of_ble_eq_true rfl, Nat.le_of_ble_eq_true rfl⟩ ⟨Nat.zero_le _, Nat.zero_le _⟩ (Nat.le_of_ble_eq_true rfl) dX9_open_26 rfl ?_
    refine wa_iload_n C dX9_open_29 rfl ?_
    obtain ⟨q4, hq4, h⟩ := bd h
    refine wa_callV C (r_X2_reach_49_1_4_47 hq4) mk_X2_reach mv_X2_reach qw_721 rfl (by decide) rfl rfl ⟨Nat.le_of_ble_eq_true rfl, Nat.le_of_ble_eq_true rfl⟩ ⟨Nat.zero_le _, Nat.zero_le _⟩ (Nat.le_of_ble_eq_true rfl) dX9_open_30 rfl ?_
    refine wa_aload_n C dX9_open_33 rfl ?_
    refine wa_getr C fl_RX9_51 rfl rfl (by decide) dX9_open_34 ?_
    refine wa_geti (x := (q4.1 49 1)) C fl_RX9_204 rfl rfl (by decide) rfl dX9_open_37 ?_
    obtain rfl := Option.some.inj h
    exact wa_iret C dX9_open_40
  · replace h := (if_pos c2).symm.trans h
    refine wa_iconst (v := -1) C dX9_open_11 (by decide) ?_
    obtain rfl := Option.some.inj h
    exact wa_iret C dX9_open_12
def f_X10_openIn_62 (a1 : Int32) (μ : Mem) : Option (Int32 × Mem) :=
  (f_X10_goes_62 a1 μ).bind fun q1 =>
  (f_X10_shutNow_62 a1 q1).bind fun q2 =>
  (f_X10_glassEyes_62 q2.2).bind fun q3 =>
  some ((((((1 : Int32) <<< (((2 : Int32) * (q1.1 62 2)) &&& 31)) - (1 : Int32)) &&& (q2.1 ^^^ (-1 : Int32))) &&& (q3.1 ^^^ (-1 : Int32))), q3.2)
set_option maxRecDepth 100000 in
set_option maxHeartbeats 4000000 in
theorem r_X10_openIn_62 {a1 : Int32} {μ : Mem} {ρ : (Int32 × Mem)} (h : f_X10_openIn_62 a1 μ = some ρ) : HT 3 yX10_openIn cX10_openIn 2 (some .int) [.ref 62, .int a1] μ (some (.int ρ.1)) ρ.2 := by
  refine HT.of (by decide +kernel) (Nat.le_of_ble_eq_true rfl) (fun C => ?_)
  unfold f_X10_openIn_62 at h
  refine wa_aload_n C dX10_openIn_0 rfl ?_
  refine wa_iload_n C dX10_openIn_1 rfl ?_
  obtain ⟨q1, hq1, h⟩ := bd h
  refine wa_callV C (r_X10_goes_62 hq1) mk_X10_goes mv_X10_goes qw_750 rfl (by decide) rfl rfl ⟨Nat.le_of_ble_eq_true rfl, Nat.le_of_ble_eq_true rfl⟩ ⟨Nat.zero_le _, Nat.zero_le _⟩ (Nat.le_of_ble_eq_true rfl) dX10_openIn_2 rfl ?_
  refine wa_iconst (v := 1) C dX10_openIn_5 (by decide) ?_
  refine wa_iconst (v := 2) C dX10_openIn_6 (by decide) ?_
  refine wa_aload_n C dX10_openIn_7 rfl ?_
  refine wa_geti (x := (q1.1 62 2)) C fl_RX10_94 rfl rfl (by decide) rfl dX10_openIn_8 ?_
  refine wa_imul C dX10_openIn_11 ?_
  refine wa_ishl C dX10_openIn_12 ?_
  refine wa_iconst (v := 1) C dX10_openIn_13 (by decide) ?_
  refine wa_isub C dX10_openIn_14 ?_
  refine wa_aload_n C dX10_openIn_15 rfl ?_
  refine wa_iload_n C dX10_openIn_16 rfl ?_
  obtain ⟨q2, hq2, h⟩ := bd h
  refine wa_callV C (r_X10_shutNow_62 hq2) mk_X10_shutNow mv_X10_shutNow qw_754 rfl (by decide) rfl rfl ⟨Nat.le_of_ble_eq_true rfl, Nat.le_of_ble_eq_true rfl⟩ ⟨Nat.zero_le _, Nat.zero_le _⟩ (Nat.le_of_ble_eq_true rfl) dX10_openIn_17 rfl ?_
  refine wa_iconst (v := -1) C dX10_openIn_20 (by decide) ?_
  refine wa_ixor C dX10_openIn_21 ?_
  refine wa_iand C dX10_openIn_22 ?_
  refine wa_aload_n C dX10_openIn_23 rfl ?_
  obtain ⟨q3, hq3, h⟩ := bd h
  refine wa_callV C (r_X10_glassEyes_62 hq3) mk_X10_glassEyes mv_X10_glassEyes qw_709 rfl (by decide) rfl rfl ⟨Nat.le_of_ble_eq_true rfl, Nat.le_of_ble_eq_true rfl⟩ ⟨Nat.zero_le _, Nat.zero_le _⟩ (Nat.le_of_ble_eq_true rfl) dX10_openIn_24 rfl ?_
  refine wa_iconst (v := -1) C dX10_openIn_27 (by decide) ?_
  refine wa_ixor C dX10_openIn_28 ?_
  refine wa_iand C dX10_openIn_29 ?_
  obtain rfl := Option.some.inj h
  exact wa_iret C dX10_openIn_30
def f_X10_open_62 (a1 : Int32) (μ : Mem) : Option (Int32 × Mem) :=
  (f_X10_isQuarter_62 a1 μ).bind fun q1 =>
  if q1.1 = 0 then
    some ((-1 : Int32), q1.2)
  else
    (f_X10_openIn_62 a1 q1.2).bind fun q3 =>
    some (q3.1, q3.2)
set_option maxRecDepth 100000 in
set_option maxHeartbeats 4000000 in
theorem r_X10_open_62 {a1 : Int32} {μ : Mem} {ρ : (Int32 × Mem)} (h : f_X10_open_62 a1 μ = some ρ) : HT 4 yX10_open cX10_open 2 (some .int) [.ref 62, .int a1] μ (some (.int ρ.1)) ρ.2 := by
  refine HT.of (by decide +kernel) (Nat.le_of_ble_eq_true rfl) (fun C => ?_)
  unfold f_X10_open_62 at h
  refine wa_aload_n C dX10_open_0 rfl ?_
  refine wa_iload_n C dX10_open_1 rfl ?_
  obtain ⟨q1, hq1, h⟩ := bd h
  refine wa_callV C (r_X10_isQuarter_62 hq1) mk_X10_isQuarter mv_X10_isQuarter qw_558 rfl (by decide) rfl rfl ⟨Nat.le_of_ble_eq_true rfl, Nat.le_of_ble_eq_true rfl⟩ ⟨Nat.zero_le _, Nat.zero_le _⟩ (Nat.le_of_ble_eq_true rfl) dX10_open_2 rfl ?_
  refine wa_if_eq (tgt := 16) C dX10_open_5 (by decide) (fun c2 => ?_) (fun c2 => ?_)
  · replace h := (if_pos c2).symm.trans h
    refine wa_iconst (v := -1) C dX10_open_16 (by decide) ?_
    obtain rfl := Option.some.inj h
    exact wa_iret C dX10_open_17
  · replace h := (if_neg c2).symm.trans h
    refine wa_aload_n C dX10_open_8 rfl ?_
    refine wa_iload_n C dX10_open_9 rfl ?_
    obtain ⟨q3, hq3, h⟩ := bd h
    refine wa_callV C (r_X10_openIn_62 hq3) mk_X10_openIn mv_X10_openIn qw_771 rfl (by decide) rfl rfl ⟨Nat.le_of_ble_eq_true rfl, Nat.le_of_ble_eq_true rfl⟩ ⟨Nat.zero_le _, Nat.zero_le _⟩ (Nat.le_of_ble_eq_true rfl) dX10_open_10 rfl ?_
    refine wa_goto (tgt := 17) C dX10_open_13 (by decide) ?_
    obtain rfl := Option.some.inj h
    exact wa_iret C dX10_open_17
def f_X9_missedIn_0 (a1 : Int32) (μ : Mem) : Option (Int32 × Mem) :=
  (f_X9_look_0 μ).bind fun q1 =>
  (f_X2_reach_49_1_4_47 a1 q1).bind fun q2 =>
  if inb a1 6 = false then none else
  (f_X7_lacking_47_7 (q2.1 8 (a1.toNatClampNeg)) (q2.1 49 1) q2).bind fun q4 =>
  some (q4.1, q4.2)
set_option maxRecDepth 100000 in
set_option maxHeartbeats 4000000 in
theorem r_X9_missedIn_0 {a1 : Int32} {μ : Mem} {ρ : (Int32 × Mem)} (h : f_X9_missedIn_0 a1 μ = some ρ) : HT 3 yX9_missedIn cX9_missedIn 2 (some .int) [.ref 0, .int a1] μ (some (.int ρ.1)) ρ.2 := by
  refine HT.of (by decide +kernel) (Nat.le_of_ble_eq_true rfl) (fun C => ?_)
  unfold f_X9_missedIn_0 at h
  refine wa_aload_n C dX9_missedIn_0 rfl ?_
  refine wa_getr C fl_RX9_51 rfl rfl (by decide) dX9_missedIn_1 ?_
  refine wa_aload_n C dX9_missedIn_4 rfl ?_
  refine wa_getr C fl_RX9_10 rfl rfl (by decide) dX9_missedIn_5 ?_
  refine wa_aload_n C dX9_missedIn_8 rfl ?_
  refine wa_getr C fl_RX9_19 rfl rfl (by decide) dX9_missedIn_9 ?_
  refine wa_aload_n C dX9_missedIn_12 rfl ?_
  obtain ⟨q1, hq1, h⟩ := bd h
  refine wa_callV C (r_X9_look_0 hq1) mk_X9_look mv_X9_look qw_508 rfl (by decide) rfl rfl ⟨Nat.le_of_ble_eq_true rfl, Nat.le_of_ble_eq_true rfl⟩ ⟨Nat.zero_le _, Nat.zero_le _⟩ (Nat.le_of_ble_eq_true rfl) dX9_missedIn_13 rfl ?_
  refine wa_iload_n C dX9_missedIn_16 rfl ?_
  obtain ⟨q2, hq2, h⟩ := bd h
  refine wa_callV C (r_X2_reach_49_1_4_47 hq2) mk_X2_reach mv_X2_reach qw_721 rfl (by decide) rfl rfl ⟨Nat.le_of_ble_eq_true rfl, Nat.le_of_ble_eq_true rfl⟩ ⟨Nat.zero_le _, Nat.zero_le _⟩ (Nat.le_of_ble_eq_true rfl) dX9_missedIn_17 rfl ?_
  refine wa_aload_n C dX9_missedIn_20 rfl ?_
  refine wa_getr C fl_RX9_44 rfl rfl (by decide) dX9_missedIn_21 ?_
  refine wa_aload_n C dX9_missedIn_24 rfl ?_
  refine wa_getr C fl_RX9_19 rfl rfl (by decide) dX9_missedIn_25 ?_
  refine wa_getr C fl_RX9_151 rfl rfl (by decide) dX9_missedIn_28 ?_
  refine wa_aload_n C dX9_missedIn_31 rfl ?_
  refine wa_getr C fl_RX9_19 rfl rfl (by decide) dX9_missedIn_32 ?_
  refine wa_getr C fl_RX9_154 rfl rfl (by decide) dX9_missedIn_35 ?_
  refine wa_iload_n C dX9_missedIn_38 rfl ?_
  obtain ⟨g3, h⟩ := gd h
  refine wa_iald (j := (a1.toNatClampNeg)) (x := (q2.1 8 (a1.toNatClampNeg))) C rfl (by decide) g3 rfl rfl dX9_missedIn_39 ?_
  refine wa_aload_n C dX9_missedIn_40 rfl ?_
  refine wa_getr C fl_RX9_51 rfl rfl (by decide) dX9_missedIn_41 ?_
  refine wa_geti (x := (q2.1 49 1)) C fl_RX9_204 rfl rfl (by decide) rfl dX9_missedIn_44 ?_
  obtain ⟨q4, hq4, h⟩ := bd h
  refine wa_callV C (r_X7_lacking_47_7 hq4) mk_X7_lacking mv_X7_lacking qw_671 rfl (by decide) rfl rfl ⟨Nat.le_of_ble_eq_true rfl, Nat.le_of_ble_eq_true rfl⟩ ⟨Nat.zero_le _, Nat.zero_le _⟩ (Nat.le_of_ble_eq_true rfl) dX9_missedIn_47 rfl ?_
  obtain rfl := Option.some.inj h
  exact wa_iret C dX9_missedIn_50
def f_X9_missed_0 (a1 : Int32) (μ : Mem) : Option (Int32 × Mem) :=
  (f_X1_hasQuarter_1 a1 μ).bind fun q1 =>
  if q1.1 = 0 then
    some ((-1 : Int32), q1.2)
  else
    (f_X9_missedIn_0 a1 q1.2).bind fun q3 =>
    some (q3.1, q3.2)
set_option maxRecDepth 100000 in
set_option maxHeartbeats 4000000 in
theorem r_X9_missed_0 {a1 : Int32} {μ : Mem} {ρ : (Int32 × Mem)} (h : f_X9_missed_0 a1 μ = some ρ) : HT 4 yX9_missed cX9_missed 2 (some .int) [.ref 0, .int a1] μ (some (.int ρ.1)) ρ.2 := by
  refine HT.of (by decide +kernel) (Nat.le_of_ble_eq_true rfl) (fun C => ?_)
  unfold f_X9_missed_0 at h
  refine wa_aload_n C dX9_missed_0 rfl ?_
  refine wa_getr C fl_RX9_10 rfl rfl (by decide) dX9_missed_1 ?_
  refine wa_iload_n C dX9_missed_4 rfl ?_
  obtain ⟨q1, hq1, h⟩ := bd h
  refine wa_callV C (r_X1_hasQuarter_1 hq1) mk_X1_hasQuarter mv_X1_hasQuarter qw_546 rfl (by decide) rfl rfl ⟨Nat.le_of_ble_eq_true rfl, Nat.le_of_ble_eq_true rfl⟩ ⟨Nat.zero_le _, Nat.zero_le _⟩ (Nat.le_of_ble_eq_true rfl) dX9_missed_5 rfl ?_
  refine wa_if_eq (tgt := 19) C dX9_missed_8 (by decide) (fun c2 => ?_) (fun c2 => ?_)
  · replace h := (if_pos c2).symm.trans h
    refine wa_iconst (v := -1) C dX9_missed_19 (by decide) ?_
    obtain rfl := Option.some.inj h
    exact wa_iret C dX9_missed_20
  · replace h := (if_neg c2).symm.trans h
    refine wa_aload_n C dX9_missed_11 rfl ?_
    refine wa_iload_n C dX9_missed_12 rfl ?_
    obtain ⟨q3, hq3, h⟩ := bd h
    refine wa_callV C (r_X9_missedIn_0 hq3) mk_X9_missedIn mv_X9_missedIn qw_779 rfl (by decide) rfl rfl ⟨Nat.le_of_ble_eq_true rfl, Nat.le_of_ble_eq_true rfl⟩ ⟨Nat.zero_le _, Nat.zero_le _⟩ (Nat.le_of_ble_eq_true rfl) dX9_missed_13 rfl ?_
    refine wa_goto (tgt := 20) C dX9_missed_16 (by decide) ?_
    obtain rfl := Option.some.inj h
    exact wa_iret C dX9_missed_20
def f_X10_missedIn_62 (a1 : Int32) (μ : Mem) : Option (Int32 × Mem) :=
  (f_X10_goes_62 a1 μ).bind fun q1 =>
  (f_X10_shutNow_62 a1 q1).bind fun q2 =>
  (f_X10_missedBy_62 a1 q2.1 q2.2).bind fun q3 =>
  some (q3.1, q3.2)
set_option maxRecDepth 100000 in
set_option maxHeartbeats 4000000 in
theorem r_X10_missedIn_62 {a1 : Int32} {μ : Mem} {ρ : (Int32 × Mem)} (h : f_X10_missedIn_62 a1 μ = some ρ) : HT 3 yX10_missedIn cX10_missedIn 2 (some .int) [.ref 62, .int a1] μ (some (.int ρ.1)) ρ.2 := by
  refine HT.of (by decide +kernel) (Nat.le_of_ble_eq_true rfl) (fun C => ?_)
  unfold f_X10_missedIn_62 at h
  refine wa_aload_n C dX10_missedIn_0 rfl ?_
  refine wa_iload_n C dX10_missedIn_1 rfl ?_
  obtain ⟨q1, hq1, h⟩ := bd h
  refine wa_callV C (r_X10_goes_62 hq1) mk_X10_goes mv_X10_goes qw_750 rfl (by decide) rfl rfl ⟨Nat.le_of_ble_eq_true rfl, Nat.le_of_ble_eq_true rfl⟩ ⟨Nat.zero_le _, Nat.zero_le _⟩ (Nat.le_of_ble_eq_true rfl) dX10_missedIn_2 rfl ?_
  refine wa_aload_n C dX10_missedIn_5 rfl ?_
  refine wa_iload_n C dX10_missedIn_6 rfl ?_
  refine wa_aload_n C dX10_missedIn_7 rfl ?_
  refine wa_iload_n C dX10_missedIn_8 rfl ?_
  obtain ⟨q2, hq2, h⟩ := bd h
  refine wa_callV C (r_X10_shutNow_62 hq2) mk_X10_shutNow mv_X10_shutNow qw_754 rfl (by decide) rfl rfl ⟨Nat.le_of_ble_eq_true rfl, Nat.le_of_ble_eq_true rfl⟩ ⟨Nat.zero_le _, Nat.zero_le _⟩ (Nat.le_of_ble_eq_true rfl) dX10_missedIn_9 rfl ?_
  obtain ⟨q3, hq3, h⟩ := bd h
  refine wa_callV C (r_X10_missedBy_62 hq3) mk_X10_missedBy mv_X10_missedBy qw_684 rfl (by decide) rfl rfl ⟨Nat.le_of_ble_eq_true rfl, Nat.le_of_ble_eq_true rfl⟩ ⟨Nat.zero_le _, Nat.zero_le _⟩ (Nat.le_of_ble_eq_true rfl) dX10_missedIn_12 rfl ?_
  obtain rfl := Option.some.inj h
  exact wa_iret C dX10_missedIn_15
def f_X10_missed_62 (a1 : Int32) (μ : Mem) : Option (Int32 × Mem) :=
  (f_X10_isQuarter_62 a1 μ).bind fun q1 =>
  if q1.1 = 0 then
    some ((-1 : Int32), q1.2)
  else
    (f_X10_missedIn_62 a1 q1.2).bind fun q3 =>
    some (q3.1, q3.2)
set_option maxRecDepth 100000 in
set_option maxHeartbeats 4000000 in
theorem r_X10_missed_62 {a1 : Int32} {μ : Mem} {ρ : (Int32 × Mem)} (h : f_X10_missed_62 a1 μ = some ρ) : HT 4 yX10_missed cX10_missed 2 (some .int) [.ref 62, .int a1] μ (some (.int ρ.1)) ρ.2 := by
  refine HT.of (by decide +kernel) (Nat.le_of_ble_eq_true rfl) (fun C => ?_)
  unfold f_X10_missed_62 at h
  refine wa_aload_n C dX10_missed_0 rfl ?_
  refine wa_iload_n C dX10_missed_1 rfl ?_
  obtain ⟨q1, hq1, h⟩ := bd h
  refine wa_callV C (r_X10_isQuarter_62 hq1) mk_X10_isQuarter mv_X10_isQuarter qw_558 rfl (by decide) rfl rfl ⟨Nat.le_of_ble_eq_true rfl, Nat.le_of_ble_eq_true rfl⟩ ⟨Nat.zero_le _, Nat.zero_le _⟩ (Nat.le_of_ble_eq_true rfl) dX10_missed_2 rfl ?_
  refine wa_if_eq (tgt := 16) C dX10_missed_5 (by decide) (fun c2 => ?_) (fun c2 => ?_)
  · replace h := (if_pos c2).symm.trans h
    refine wa_iconst (v := -1) C dX10_missed_16 (by decide) ?_
    obtain rfl := Option.some.inj h
    exact wa_iret C dX10_missed_17
  · replace h := (if_neg c2).symm.trans h
    refine wa_aload_n C dX10_missed_8 rfl ?_
    refine wa_iload_n C dX10_missed_9 rfl ?_
    obtain ⟨q3, hq3, h⟩ := bd h
    refine wa_callV C (r_X10_missedIn_62 hq3) mk_X10_missedIn mv_X10_missedIn qw_787 rfl (by decide) rfl rfl ⟨Nat.le_of_ble_eq_true rfl, Nat.le_of_ble_eq_true rfl⟩ ⟨Nat.zero_le _, Nat.zero_le _⟩ (Nat.le_of_ble_eq_true rfl) dX10_missed_10 rfl ?_
    refine wa_goto (tgt := 17) C dX10_missed_13 (by decide) ?_
    obtain rfl := Option.some.inj h
    exact wa_iret C dX10_missed_17
def f_X9_wreck_0_L2 (k2 : Int32 → Mem → Option (Int32 × Mem)) (a1 : Int32) (μ : Mem) : Option (Int32 × Mem) :=
    if (μ.1 1 1) ≤ a1 then
      some ((-4 : Int32), μ)
    else
      (f_X9_missedIn_0 a1 μ).bind fun q2 =>
      if q2.1 = 0 then
        k2 (a1 + 1) q2.2
      else
        some (a1, q2.2)
def f_X9_wreck_0 (μ : Mem) : Option (Int32 × Mem) :=
  it2 (f_X9_wreck_0_L2) FU (0 : Int32) μ
set_option maxRecDepth 100000 in
set_option maxHeartbeats 4000000 in
theorem r_X9_wreck_0_L2 {p : Program} {l : Launch} {e : Env} {s : State} {m : MethodId} {args : Array Value} {below : List Frame} {meth : Method} {c : Code} {D : va_G} {cy : Nat → ClassId} {ad : Nat → Nat} (C : CX p s m args meth c cX9_wreck 2 RX9 (some .int) D cy ad (AD ad)) {ρ : (Int32 × Mem)} : ∀ (n : Nat) (a1 : Int32) (μ : Mem), it2 (f_X9_wreck_0_L2) n a1 μ = some ρ → WA p l e (rmD 4) s m args below meth c 2 D cy ad (AD ad) 0 0 (ZZ below args s D cy ad (AD ad) 0 0 (some (.int ρ.1)) ρ.2) μ [(0, .ref 0), (1, .int a1)] 2 [] := by
  intro n
  induction n with
  | zero =>
    intro a1 μ h
    exact absurd h (fun h => by cases h)
  | succ n ih =>
    intro a1 μ h
    replace h : f_X9_wreck_0_L2 (it2 (f_X9_wreck_0_L2) n) a1 μ = some ρ := h
    unfold f_X9_wreck_0_L2 at h
    refine wa_iload_n C dX9_wreck_2 rfl ?_
    refine wa_aload_n C dX9_wreck_3 rfl ?_
    refine wa_getr C fl_RX9_10 rfl rfl (by decide) dX9_wreck_4 ?_
    refine wa_geti (x := (μ.1 1 1)) C fl_RX9_116 rfl rfl (by decide) rfl dX9_wreck_7 ?_
    refine wa_icmp_ge (tgt := 29) C dX9_wreck_10 (by decide) (fun c1 => ?_) (fun c1 => ?_)
    · replace h := (if_pos c1).symm.trans h
      refine wa_bipush (v := -4) C dX9_wreck_29 (by decide) ?_
      obtain rfl := Option.some.inj h
      exact wa_iret C dX9_wreck_31
    · replace h := (if_neg c1).symm.trans h
      refine wa_aload_n C dX9_wreck_13 rfl ?_
      refine wa_iload_n C dX9_wreck_14 rfl ?_
      obtain ⟨q2, hq2, h⟩ := bd h
      refine wa_callV C (r_X9_missedIn_0 hq2) mk_X9_missedIn mv_X9_missedIn qw_779 rfl (by decide) rfl rfl ⟨Nat.le_of_ble_eq_true rfl, Nat.le_of_ble_eq_true rfl⟩ ⟨Nat.zero_le _, Nat.zero_le _⟩ (Nat.le_of_ble_eq_true rfl) dX9_wreck_15 rfl ?_
      refine wa_if_eq (tgt := 23) C dX9_wreck_18 (by decide) (fun c3 => ?_) (fun c3 => ?_)
      · replace h := (if_pos c3).symm.trans h
        refine wa_iinc (v := (a1 + 1)) C dX9_wreck_23 rfl rfl (by decide) ?_
        refine wa_goto (tgt := 2) C dX9_wreck_26 (by decide) ?_
        exact WA.sub (lsub_c rfl (lsub_c rfl lsub_n)) (ih _ _ h)
      · replace h := (if_neg c3).symm.trans h
        refine wa_iload_n C dX9_wreck_21 rfl ?_
        obtain rfl := Option.some.inj h
        exact wa_iret C dX9_wreck_22
set_option maxRecDepth 100000 in
set_option maxHeartbeats 4000000 in
theorem r_X9_wreck_0 {μ : Mem} {ρ : (Int32 × Mem)} (h : f_X9_wreck_0 μ = some ρ) : HT 4 yX9_wreck cX9_wreck 2 (some .int) [.ref 0] μ (some (.int ρ.1)) ρ.2 := by
  refine HT.of (by decide +kernel) (Nat.le_of_ble_eq_true rfl) (fun C => ?_)
  unfold f_X9_wreck_0 at h
  refine wa_iconst (v := 0) C dX9_wreck_0 (by decide) ?_
  refine wa_istore_n C dX9_wreck_1 (by decide) ?_
  exact WA.sub (lsub_c rfl (lsub_c rfl lsub_n)) (r_X9_wreck_0_L2 C  _ _ _ h)
def f_X10_wreck_62_L2 (k2 : Int32 → Mem → Option (Int32 × Mem)) (a1 : Int32) (μ : Mem) : Option (Int32 × Mem) :=
    if (μ.1 62 3) ≤ a1 then
      some ((-4 : Int32), μ)
    else
      (f_X10_missedIn_62 a1 μ).bind fun q2 =>
      if q2.1 = 0 then
        k2 (a1 + 1) q2.2
      else
        some (a1, q2.2)
def f_X10_wreck_62 (μ : Mem) : Option (Int32 × Mem) :=
  it2 (f_X10_wreck_62_L2) FU (0 : Int32) μ
set_option maxRecDepth 100000 in
set_option maxHeartbeats 4000000 in
theorem r_X10_wreck_62_L2 {p : Program} {l : Launch} {e : Env} {s : State} {m : MethodId} {args : Array Value} {below : List Frame} {meth : Method} {c : Code} {D : va_G} {cy : Nat → ClassId} {ad : Nat → Nat} (C : CX p s m args meth c cX10_wreck 2 RX10 (some .int) D cy ad (AD ad)) {ρ : (Int32 × Mem)} : ∀ (n : Nat) (a1 : Int32) (μ : Mem), it2 (f_X10_wreck_62_L2) n a1 μ = some ρ → WA p l e (rmD 4) s m args below meth c 2 D cy ad (AD ad) 0 0 (ZZ below args s D cy ad (AD ad) 0 0 (some (.int ρ.1)) ρ.2) μ [(0, .ref 62), (1, .int a1)] 2 [] := by
  intro n
  induction n with
  | zero =>
    intro a1 μ h
    exact absurd h (fun h => by cases h)
  | succ n ih =>
    intro a1 μ h
    replace h : f_X10_wreck_62_L2 (it2 (f_X10_wreck_62_L2) n) a1 μ = some ρ := h
    unfold f_X10_wreck_62_L2 at h
    refine wa_iload_n C dX10_wreck_2 rfl ?_
    refine wa_aload_n C dX10_wreck_3 rfl ?_
    refine wa_geti (x := (μ.1 62 3)) C fl_RX10_97 rfl rfl (by decide) rfl dX10_wreck_4 ?_
    refine wa_icmp_ge (tgt := 26) C dX10_wreck_7 (by decide) (fun c1 => ?_) (fun c1 => ?_)
    · replace h := (if_pos c1).symm.trans h
      refine wa_bipush (v := -4) C dX10_wreck_26 (by decide) ?_
      obtain rfl := Option.some.inj h
      exact wa_iret C dX10_wreck_28
    · replace h := (if_neg c1).symm.trans h
      refine wa_aload_n C dX10_wreck_10 rfl ?_
      refine wa_iload_n C dX10_wreck_11 rfl ?_
      obtain ⟨q2, hq2, h⟩ := bd h
      refine wa_callV C (r_X10_missedIn_62 hq2) mk_X10_missedIn mv_X10_missedIn qw_787 rfl (by decide) rfl rfl ⟨Nat.le_of_ble_eq_true rfl, Nat.le_of_ble_eq_true rfl⟩ ⟨Nat.zero_le _, Nat.zero_le _⟩ (Nat.le_of_ble_eq_true rfl) dX10_wreck_12 rfl ?_
      refine wa_if_eq (tgt := 20) C dX10_wreck_15 (by decide) (fun c3 => ?_) (fun c3 => ?_)
      · replace h := (if_pos c3).symm.trans h
        refine wa_iinc (v := (a1 + 1)) C dX10_wreck_20 rfl rfl (by decide) ?_
        refine wa_goto (tgt := 2) C dX10_wreck_23 (by decide) ?_
        exact WA.sub (lsub_c rfl (lsub_c rfl lsub_n)) (ih _ _ h)
      · replace h := (if_neg c3).symm.trans h
        refine wa_iload_n C dX10_wreck_18 rfl ?_
        obtain rfl := Option.some.inj h
        exact wa_iret C dX10_wreck_19
set_option maxRecDepth 100000 in
set_option maxHeartbeats 4000000 in
theorem r_X10_wreck_62 {μ : Mem} {ρ : (Int32 × Mem)} (h : f_X10_wreck_62 μ = some ρ) : HT 4 yX10_wreck cX10_wreck 2 (some .int) [.ref 62] μ (some (.int ρ.1)) ρ.2 := by
  refine HT.of (by decide +kernel) (Nat.le_of_ble_eq_true rfl) (fun C => ?_)
  unfold f_X10_wreck_62 at h
  refine wa_iconst (v := 0) C dX10_wreck_0 (by decide) ?_
  refine wa_istore_n C dX10_wreck_1 (by decide) ?_
  exact WA.sub (lsub_c rfl (lsub_c rfl lsub_n)) (r_X10_wreck_62_L2 C  _ _ _ h)
def f_X9_rest_0_L17 (a1 : Int32) (μ : Mem) (k17 : Int32 → Int32 → Option (Int32 × Mem)) (a2 : Int32) (a3 : Int32) : Option (Int32 × Mem) :=
    if (μ.1 1 1) ≤ a3 then
      some (a2, μ)
    else
      if inb a3 6 = false then none else
      if inb (μ.1 9 (a3.toNatClampNeg)) 27 = false then none else
      k17 (a2 + (((shuF ((μ.1 9 (a3.toNatClampNeg)).toNatClampNeg)) >>> (a1 &&& 31)) &&& (1 : Int32))) (a3 + 1)
def f_X9_rest_0 (a1 : Int32) (μ : Mem) : Option (Int32 × Mem) :=
  (f_X1_hasEye_1 a1 μ).bind fun q1 =>
  if q1.1 = 0 then
    some ((-1 : Int32), q1.2)
  else
    it2 (f_X9_rest_0_L17 a1 q1.2) FU (0 : Int32) (0 : Int32)
set_option maxRecDepth 100000 in
set_option maxHeartbeats 4000000 in
theorem r_X9_rest_0_L17 {p : Program} {l : Launch} {e : Env} {s : State} {m : MethodId} {args : Array Value} {below : List Frame} {meth : Method} {c : Code} {D : va_G} {cy : Nat → ClassId} {ad : Nat → Nat} (C : CX p s m args meth c cX9_rest 4 RX9 (some .int) D cy ad (AD ad)) (a1 : Int32) (μ : Mem) {ρ : (Int32 × Mem)} : ∀ (n : Nat) (a2 : Int32) (a3 : Int32), it2 (f_X9_rest_0_L17 a1 μ) n a2 a3 = some ρ → WA p l e (rmD 1) s m args below meth c 4 D cy ad (AD ad) 0 0 (ZZ below args s D cy ad (AD ad) 0 0 (some (.int ρ.1)) ρ.2) μ [(0, .ref 0), (1, .int a1), (2, .int a2), (3, .int a3)] 17 [] := by
  intro n
  induction n with
  | zero =>
    intro a2 a3 h
    exact absurd h (fun h => by cases h)
  | succ n ih =>
    intro a2 a3 h
    replace h : f_X9_rest_0_L17 a1 μ (it2 (f_X9_rest_0_L17 a1 μ) n) a2 a3 = some ρ := h
    unfold f_X9_rest_0_L17 at h
    refine wa_iload_n C dX9_rest_17 rfl ?_
    refine wa_aload_n C dX9_rest_18 rfl ?_
    refine wa_getr C fl_RX9_10 rfl rfl (by decide) dX9_rest_19 ?_
    refine wa_geti (x := (μ.1 1 1)) C fl_RX9_116 rfl rfl (by decide) rfl dX9_rest_22 ?_
    refine wa_icmp_ge (tgt := 54) C dX9_rest_25 (by decide) (fun c3 => ?_) (fun c3 => ?_)
    · replace h := (if_pos c3).symm.trans h
      refine wa_iload_n C dX9_rest_54 rfl ?_
      obtain rfl := Option.some.inj h
      exact wa_iret C dX9_rest_55
    · replace h := (if_neg c3).symm.trans h
      refine wa_iload_n C dX9_rest_28 rfl ?_
      refine wa_gshu C qw_692 dX9_rest_29 ?_
      refine wa_aload_n C dX9_rest_32 rfl ?_
      refine wa_getr C fl_RX9_19 rfl rfl (by decide) dX9_rest_33 ?_
      refine wa_getr C fl_RX9_157 rfl rfl (by decide) dX9_rest_36 ?_
      refine wa_iload_n C dX9_rest_39 rfl ?_
      obtain ⟨g4, h⟩ := gd h
      refine wa_iald (j := (a3.toNatClampNeg)) (x := (μ.1 9 (a3.toNatClampNeg))) C rfl (by decide) g4 rfl rfl dX9_rest_40 ?_
      obtain ⟨g5, h⟩ := gd h
      refine wa_sald (j := ((μ.1 9 (a3.toNatClampNeg)).toNatClampNeg)) C g5 rfl dX9_rest_41 ?_
      refine wa_iload_n C dX9_rest_42 rfl ?_
      refine wa_ishr C dX9_rest_43 ?_
      refine wa_iconst (v := 1) C dX9_rest_44 (by decide) ?_
      refine wa_iand C dX9_rest_45 ?_
      refine wa_iadd C dX9_rest_46 ?_
      refine wa_istore_n C dX9_rest_47 (by decide) ?_
      refine wa_iinc (v := (a3 + 1)) C dX9_rest_48 rfl rfl (by decide) ?_
      refine wa_goto (tgt := 17) C dX9_rest_51 (by decide) ?_
      exact WA.sub (lsub_c rfl (lsub_c rfl (lsub_c rfl (lsub_c rfl lsub_n)))) (ih _ _ h)
set_option maxRecDepth 100000 in
set_option maxHeartbeats 4000000 in
theorem r_X9_rest_0 {a1 : Int32} {μ : Mem} {ρ : (Int32 × Mem)} (h : f_X9_rest_0 a1 μ = some ρ) : HT 1 yX9_rest cX9_rest 4 (some .int) [.ref 0, .int a1] μ (some (.int ρ.1)) ρ.2 := by
  refine HT.of (by decide +kernel) (Nat.le_of_ble_eq_true rfl) (fun C => ?_)
  unfold f_X9_rest_0 at h
  refine wa_aload_n C dX9_rest_0 rfl ?_
  refine wa_getr C fl_RX9_10 rfl rfl (by decide) dX9_rest_1 ?_
  refine wa_iload_n C dX9_rest_4 rfl ?_
  obtain ⟨q1, hq1, h⟩ := bd h
  refine wa_callV C (r_X1_hasEye_1 hq1) mk_X1_hasEye mv_X1_hasEye qw_504 rfl (by decide) rfl rfl ⟨Nat.le_of_ble_eq_true rfl, Nat.le_of_ble_eq_true rfl⟩ ⟨Nat.zero_le _, Nat.zero_le _⟩ (Nat.le_of_ble_eq_true rfl) dX9_rest_5 rfl ?_
  refine wa_if_ne (tgt := 13) C dX9_rest_8 (by decide) (fun c2 => ?_) (fun c2 => ?_)
  · replace h := (if_neg c2).symm.trans h
    refine wa_iconst (v := 0) C dX9_rest_13 (by decide) ?_
    refine wa_istore_n C dX9_rest_14 (by decide) ?_
    refine wa_iconst (v := 0) C dX9_rest_15 (by decide) ?_
    refine wa_istore_n C dX9_rest_16 (by decide) ?_
    exact WA.sub (lsub_c rfl (lsub_c rfl (lsub_c rfl (lsub_c rfl lsub_n)))) (r_X9_rest_0_L17 C _ _ _ _ _ h)
  · replace h := (if_pos c2).symm.trans h
    refine wa_iconst (v := -1) C dX9_rest_11 (by decide) ?_
    obtain rfl := Option.some.inj h
    exact wa_iret C dX9_rest_12
def f_X10_rest_62_L14 (a1 : Int32) (k14 : Int32 → Int32 → Mem → Option (Int32 × Mem)) (a2 : Int32) (a3 : Int32) (μ : Mem) : Option (Int32 × Mem) :=
    if (μ.1 62 3) ≤ a3 then
      some (a2, μ)
    else
      if inb ((21 : Int32) + a3) 162 = false then none else
      (f_X10_shutBy_62 (μ.1 63 (((21 : Int32) + a3).toNatClampNeg)) μ).bind fun q5 =>
      k14 (a2 + ((q5.1 >>> (a1 &&& 31)) &&& (1 : Int32))) (a3 + 1) q5.2
def f_X10_rest_62 (a1 : Int32) (μ : Mem) : Option (Int32 × Mem) :=
  (f_X10_isEye_62 a1 μ).bind fun q1 =>
  if q1.1 = 0 then
    some ((-1 : Int32), q1.2)
  else
    it3 (f_X10_rest_62_L14 a1) FU (0 : Int32) (0 : Int32) q1.2
set_option maxRecDepth 100000 in
set_option maxHeartbeats 4000000 in
theorem r_X10_rest_62_L14 {p : Program} {l : Launch} {e : Env} {s : State} {m : MethodId} {args : Array Value} {below : List Frame} {meth : Method} {c : Code} {D : va_G} {cy : Nat → ClassId} {ad : Nat → Nat} (C : CX p s m args meth c cX10_rest 4 RX10 (some .int) D cy ad (AD ad)) (a1 : Int32) {ρ : (Int32 × Mem)} : ∀ (n : Nat) (a2 : Int32) (a3 : Int32) (μ : Mem), it3 (f_X10_rest_62_L14 a1) n a2 a3 μ = some ρ → WA p l e (rmD 2) s m args below meth c 4 D cy ad (AD ad) 0 0 (ZZ below args s D cy ad (AD ad) 0 0 (some (.int ρ.1)) ρ.2) μ [(0, .ref 62), (1, .int a1), (2, .int a2), (3, .int a3)] 14 [] := by
  intro n
  induction n with
  | zero =>
    intro a2 a3 μ h
    exact absurd h (fun h => by cases h)
  | succ n ih =>
    intro a2 a3 μ h
    replace h : f_X10_rest_62_L14 a1 (it3 (f_X10_rest_62_L14 a1) n) a2 a3 μ = some ρ := h
    unfold f_X10_rest_62_L14 at h
    refine wa_iload_n C dX10_rest_14 rfl ?_
    refine wa_aload_n C dX10_rest_15 rfl ?_
    refine wa_geti (x := (μ.1 62 3)) C fl_RX10_97 rfl rfl (by decide) rfl dX10_rest_16 ?_
    refine wa_icmp_ge (tgt := 48) C dX10_rest_19 (by decide) (fun c3 => ?_) (fun c3 => ?_)
    · replace h := (if_pos c3).symm.trans h
      refine wa_iload_n C dX10_rest_48 rfl ?_
      obtain rfl := Option.some.inj h
      exact wa_iret C dX10_rest_49
    · replace h := (if_neg c3).symm.trans h
      refine wa_iload_n C dX10_rest_22 rfl ?_
      refine wa_aload_n C dX10_rest_23 rfl ?_
      refine wa_aload_n C dX10_rest_24 rfl ?_
      refine wa_getr C fl_RX10_7 rfl rfl (by decide) dX10_rest_25 ?_
      refine wa_bipush (v := 21) C dX10_rest_28 (by decide) ?_
      refine wa_iload_n C dX10_rest_30 rfl ?_
      refine wa_iadd C dX10_rest_31 ?_
      obtain ⟨g4, h⟩ := gd h
      refine wa_iald (j := (((21 : Int32) + a3).toNatClampNeg)) (x := (μ.1 63 (((21 : Int32) + a3).toNatClampNeg))) C rfl (by decide) g4 rfl rfl dX10_rest_32 ?_
      obtain ⟨q5, hq5, h⟩ := bd h
      refine wa_callV C (r_X10_shutBy_62 hq5) mk_X10_shutBy mv_X10_shutBy qw_647 rfl (by decide) rfl rfl ⟨Nat.le_of_ble_eq_true rfl, Nat.le_of_ble_eq_true rfl⟩ ⟨Nat.zero_le _, Nat.zero_le _⟩ (Nat.le_of_ble_eq_true rfl) dX10_rest_33 rfl ?_
      refine wa_iload_n C dX10_rest_36 rfl ?_
      refine wa_ishr C dX10_rest_37 ?_
      refine wa_iconst (v := 1) C dX10_rest_38 (by decide) ?_
      refine wa_iand C dX10_rest_39 ?_
      refine wa_iadd C dX10_rest_40 ?_
      refine wa_istore_n C dX10_rest_41 (by decide) ?_
      refine wa_iinc (v := (a3 + 1)) C dX10_rest_42 rfl rfl (by decide) ?_
      refine wa_goto (tgt := 14) C dX10_rest_45 (by decide) ?_
      exact WA.sub (lsub_c rfl (lsub_c rfl (lsub_c rfl (lsub_c rfl lsub_n)))) (ih _ _ _ h)
set_option maxRecDepth 100000 in
set_option maxHeartbeats 4000000 in
theorem r_X10_rest_62 {a1 : Int32} {μ : Mem} {ρ : (Int32 × Mem)} (h : f_X10_rest_62 a1 μ = some ρ) : HT 2 yX10_rest cX10_rest 4 (some .int) [.ref 62, .int a1] μ (some (.int ρ.1)) ρ.2 := by
  refine HT.of (by decide +kernel) (Nat.le_of_ble_eq_true rfl) (fun C => ?_)
  unfold f_X10_rest_62 at h
  refine wa_aload_n C dX10_rest_0 rfl ?_
  refine wa_iload_n C dX10_rest_1 rfl ?_
  obtain ⟨q1, hq1, h⟩ := bd h
  refine wa_callV C (r_X10_isEye_62 hq1) mk_X10_isEye mv_X10_isEye qw_529 rfl (by decide) rfl rfl ⟨Nat.le_of_ble_eq_true rfl, Nat.le_of_ble_eq_true rfl⟩ ⟨Nat.zero_le _, Nat.zero_le _⟩ (Nat.le_of_ble_eq_true rfl) dX10_rest_2 rfl ?_
  refine wa_if_ne (tgt := 10) C dX10_rest_5 (by decide) (fun c2 => ?_) (fun c2 => ?_)
  · replace h := (if_neg c2).symm.trans h
    refine wa_iconst (v := 0) C dX10_rest_10 (by decide) ?_
    refine wa_istore_n C dX10_rest_11 (by decide) ?_
    refine wa_iconst (v := 0) C dX10_rest_12 (by decide) ?_
    refine wa_istore_n C dX10_rest_13 (by decide) ?_
    exact WA.sub (lsub_c rfl (lsub_c rfl (lsub_c rfl (lsub_c rfl lsub_n)))) (r_X10_rest_62_L14 C _ _ _ _ _ h)
  · replace h := (if_pos c2).symm.trans h
    refine wa_iconst (v := -1) C dX10_rest_8 (by decide) ?_
    obtain rfl := Option.some.inj h
    exact wa_iret C dX10_rest_9
def f_X0_fill_57_J10 (self : Int32 → Int32 → Int32 → Mem → Option (Int32 × Mem)) (a3 : Int32) (μ : Mem) : Option (Int32 × Mem) :=
  if a3 = 0 then
    some ((1 : Int32), μ)
  else
    some ((0 : Int32), μ)
def f_X0_fill_57_J74 (self : Int32 → Int32 → Int32 → Mem → Option (Int32 × Mem)) (k23 : Int32 → Mem → Option (Int32 × Mem)) (a1 : Int32) (a2 : Int32) (a3 : Int32) (a4 : Int32) (μ : Mem) : Option (Int32 × Mem) :=
  k23 (a4 + 1) μ
def f_X0_fill_57_L23 (self : Int32 → Int32 → Int32 → Mem → Option (Int32 × Mem)) (a1 : Int32) (a2 : Int32) (a3 : Int32) (k23 : Int32 → Mem → Option (Int32 × Mem)) (a4 : Int32) (μ : Mem) : Option (Int32 × Mem) :=
    if (27 : Int32) ≤ a4 then
      some ((0 : Int32), μ)
    else
      if (((μ.1 57 1) >>> (a4 &&& 31)) &&& (1 : Int32)) = (1 : Int32) then
        if inb a1 3 = false then none else
        if inb a4 27 = false then none else
        (self (a1 + (1 : Int32)) a2 (a3 &&& ((shuF (a4.toNatClampNeg)) ^^^ (-1 : Int32))) (pI μ 58 (a1.toNatClampNeg) a4)).bind fun q8 =>
        if q8.1 = 0 then
          f_X0_fill_57_J74 self k23 a1 a2 a3 a4 q8.2
        else
          some ((1 : Int32), q8.2)
      else
        f_X0_fill_57_J74 self k23 a1 a2 a3 a4 μ
def f_X0_fill_57_B (self : Int32 → Int32 → Int32 → Mem → Option (Int32 × Mem)) (a1 : Int32) (a2 : Int32) (a3 : Int32) (μ : Mem) : Option (Int32 × Mem) :=
  if a2 ≤ a1 then
    f_X0_fill_57_J10 self a3 μ
  else
    if a1 < (3 : Int32) then
      it2 (f_X0_fill_57_L23 self a1 a2 a3) FU (0 : Int32) μ
    else
      f_X0_fill_57_J10 self a3 μ
def f_X0_fill_57 (a1 : Int32) (a2 : Int32) (a3 : Int32) (μ : Mem) : Option (Int32 × Mem) := it4 f_X0_fill_57_B 12 a1 a2 a3 μ
set_option maxRecDepth 100000 in
set_option maxHeartbeats 4000000 in
theorem r_X0_fill_57_J10 {p : Program} {l : Launch} {e : Env} {s : State} {m : MethodId} {args : Array Value} {below : List Frame} {meth : Method} {c : Code} {D : va_G} {cy : Nat → ClassId} {ad : Nat → Nat} (C : CX p s m args meth c cX0_fill 5 RX0 (some .boolean) D cy ad (AD ad)) {d0 : Nat} (hd0 : 0 ≤ d0) (self : Int32 → Int32 → Int32 → Mem → Option (Int32 × Mem)) (hself : ∀ (a1 : Int32) (a2 : Int32) (a3 : Int32) (μ : Mem) (ρ : (Int32 × Mem)), self a1 a2 a3 μ = some ρ → HT d0 yX0_fill cX0_fill 5 (some .boolean) [.ref 57, .int a1, .int a2, .int a3] μ (some (.int ρ.1)) ρ.2) {a3 : Int32} {μ : Mem} {ρ : (Int32 × Mem)} (h : f_X0_fill_57_J10 self a3 μ = some ρ) : WA p l e (rmD (d0 + 1)) s m args below meth c 5 D cy ad (AD ad) 0 0 (ZZ below args s D cy ad (AD ad) 0 0 (some (.int ρ.1)) ρ.2) μ [(3, .int a3)] 10 [] := by
  unfold f_X0_fill_57_J10 at h
  refine wa_iload_n C dX0_fill_10 rfl ?_
  refine wa_if_ne (tgt := 18) C dX0_fill_11 (by decide) (fun c2 => ?_) (fun c2 => ?_)
  · replace h := (if_neg c2).symm.trans h
    refine wa_iconst (v := 0) C dX0_fill_18 (by decide) ?_
    obtain rfl := Option.some.inj h
    exact wa_zret C rfl dX0_fill_19
  · replace h := (if_pos c2).symm.trans h
    refine wa_iconst (v := 1) C dX0_fill_14 (by decide) ?_
    refine wa_goto (tgt := 19) C dX0_fill_15 (by decide) ?_
    obtain rfl := Option.some.inj h
    exact wa_zret C rfl dX0_fill_19
set_option maxRecDepth 100000 in
set_option maxHeartbeats 4000000 in
theorem r_X0_fill_57_J74 {p : Program} {l : Launch} {e : Env} {s : State} {m : MethodId} {args : Array Value} {below : List Frame} {meth : Method} {c : Code} {D : va_G} {cy : Nat → ClassId} {ad : Nat → Nat} (C : CX p s m args meth c cX0_fill 5 RX0 (some .boolean) D cy ad (AD ad)) {d0 : Nat} (hd0 : 0 ≤ d0) (self : Int32 → Int32 → Int32 → Mem → Option (Int32 × Mem)) (hself : ∀ (a1 : Int32) (a2 : Int32) (a3 : Int32) (μ : Mem) (ρ : (Int32 × Mem)), self a1 a2 a3 μ = some ρ → HT d0 yX0_fill cX0_fill 5 (some .boolean) [.ref 57, .int a1, .int a2, .int a3] μ (some (.int ρ.1)) ρ.2) {a1 : Int32} {a2 : Int32} {a3 : Int32} {a4 : Int32} {μ : Mem} {ρ : (Int32 × Mem)} (k23 : Int32 → Mem → Option (Int32 × Mem)) (hk23 : ∀ (a4 : Int32) (μ : Mem), k23 a4 μ = some ρ → WA p l e (rmD (d0 + 1)) s m args below meth c 5 D cy ad (AD ad) 0 0 (ZZ below args s D cy ad (AD ad) 0 0 (some (.int ρ.1)) ρ.2) μ [(0, .ref 57), (1, .int a1), (2, .int a2), (3, .int a3), (4, .int a4)] 23 []) (h : f_X0_fill_57_J74 self k23 a1 a2 a3 a4 μ = some ρ) : WA p l e (rmD (d0 + 1)) s m args below meth c 5 D cy ad (AD ad) 0 0 (ZZ below args s D cy ad (AD ad) 0 0 (some (.int ρ.1)) ρ.2) μ [(0, .ref 57), (1, .int a1), (2, .int a2), (3, .int a3), (4, .int a4)] 74 [] := by
  unfold f_X0_fill_57_J74 at h
  refine wa_iinc (v := (a4 + 1)) C dX0_fill_74 rfl rfl (by decide) ?_
  refine wa_goto (tgt := 23) C dX0_fill_77 (by decide) ?_
  exact WA.sub (lsub_c rfl (lsub_c rfl (lsub_c rfl (lsub_c rfl (lsub_c rfl lsub_n))))) (hk23 _ _ h)
set_option maxRecDepth 100000 in
set_option maxHeartbeats 4000000 in
theorem r_X0_fill_57_L23 {p : Program} {l : Launch} {e : Env} {s : State} {m : MethodId} {args : Array Value} {below : List Frame} {meth : Method} {c : Code} {D : va_G} {cy : Nat → ClassId} {ad : Nat → Nat} (C : CX p s m args meth c cX0_fill 5 RX0 (some .boolean) D cy ad (AD ad)) {d0 : Nat} (hd0 : 0 ≤ d0) (self : Int32 → Int32 → Int32 → Mem → Option (Int32 × Mem)) (hself : ∀ (a1 : Int32) (a2 : Int32) (a3 : Int32) (μ : Mem) (ρ : (Int32 × Mem)), self a1 a2 a3 μ = some ρ → HT d0 yX0_fill cX0_fill 5 (some .boolean) [.ref 57, .int a1, .int a2, .int a3] μ (some (.int ρ.1)) ρ.2) (a1 : Int32) (a2 : Int32) (a3 : Int32) {ρ : (Int32 × Mem)} : ∀ (n : Nat) (a4 : Int32) (μ : Mem), it2 (f_X0_fill_57_L23 self a1 a2 a3) n a4 μ = some ρ → WA p l e (rmD (d0 + 1)) s m args below meth c 5 D cy ad (AD ad) 0 0 (ZZ below args s D cy ad (AD ad) 0 0 (some (.int ρ.1)) ρ.2) μ [(0, .ref 57), (1, .int a1), (2, .int a2), (3, .int a3), (4, .int a4)] 23 [] := by
  intro n
  induction n with
  | zero =>
    intro a4 μ h
    exact absurd h (fun h => by cases h)
  | succ n ih =>
    intro a4 μ h
    replace h : f_X0_fill_57_L23 self a1 a2 a3 (it2 (f_X0_fill_57_L23 self a1 a2 a3) n) a4 μ = some ρ := h
    unfold f_X0_fill_57_L23 at h
    refine wa_iload C dX0_fill_23 rfl ?_
    refine wa_bipush (v := 27) C dX0_fill_25 (by decide) ?_
    refine wa_icmp_ge (tgt := 80) C dX0_fill_27 (by decide) (fun c4 => ?_) (fun c4 => ?_)
    · replace h := (if_pos c4).symm.trans h
      refine wa_iconst (v := 0) C dX0_fill_80 (by decide) ?_
      obtain rfl := Option.some.inj h
      exact wa_zret C rfl dX0_fill_81
    · replace h := (if_neg c4).symm.trans h
      refine wa_aload_n C dX0_fill_30 rfl ?_
      refine wa_geti (x := (μ.1 57 1)) C fl_RX0_15 rfl rfl (by decide) rfl dX0_fill_31 ?_
      refine wa_iload C dX0_fill_34 rfl ?_
      refine wa_ishr C dX0_fill_36 ?_
      refine wa_iconst (v := 1) C dX0_fill_37 (by decide) ?_
      refine wa_iand C dX0_fill_38 ?_
      refine wa_iconst (v := 1) C dX0_fill_39 (by decide) ?_
      refine wa_icmp_ne (tgt := 74) C dX0_fill_40 (by decide) (fun c5 => ?_) (fun c5 => ?_)
      · replace h := (if_neg c5).symm.trans h
        exact WA.sub (lsub_c rfl (lsub_c rfl (lsub_c rfl (lsub_c rfl (lsub_c rfl lsub_n))))) (r_X0_fill_57_J74 C hd0 _ hself _ (fun _ _ h => ih _ _ h) h)
      · replace h := (if_pos c5).symm.trans h
        refine wa_aload_n C dX0_fill_43 rfl ?_
        refine wa_getr C fl_RX0_9 rfl rfl (by decide) dX0_fill_44 ?_
        refine wa_iload_n C dX0_fill_47 rfl ?_
        refine wa_iload C dX0_fill_48 rfl ?_
        obtain ⟨g6, h⟩ := gd h
        refine wa_iast (j := (a1.toNatClampNeg)) C rfl (by decide) g6 rfl dX0_fill_50 ?_
        refine wa_aload_n C dX0_fill_51 rfl ?_
        refine wa_iload_n C dX0_fill_52 rfl ?_
        refine wa_iconst (v := 1) C dX0_fill_53 (by decide) ?_
        refine wa_iadd C dX0_fill_54 ?_
        refine wa_iload_n C dX0_fill_55 rfl ?_
        refine wa_iload_n C dX0_fill_56 rfl ?_
        refine wa_gshu0 C dX0_fill_57 ?_
        refine wa_iload C dX0_fill_60 rfl ?_
        obtain ⟨g7, h⟩ := gd h
        refine wa_sald (j := (a4.toNatClampNeg)) C g7 rfl dX0_fill_62 ?_
        refine wa_iconst (v := -1) C dX0_fill_63 (by decide) ?_
        refine wa_ixor C dX0_fill_64 ?_
        refine wa_iand C dX0_fill_65 ?_
        obtain ⟨q8, hq8, h⟩ := bd h
        refine wa_callS C (hself _ _ _ _ _ hq8) mk_X0_fill ms_X0_fill qw_820 rfl ⟨by simp only [rmD]; omega, by simp only [rmD]; omega⟩ ⟨Nat.zero_le _, Nat.zero_le _⟩ (Nat.le_of_ble_eq_true rfl) dX0_fill_66 rfl ?_
        refine wa_if_eq (tgt := 74) C dX0_fill_69 (by decide) (fun c9 => ?_) (fun c9 => ?_)
        · replace h := (if_pos c9).symm.trans h
          exact WA.sub (lsub_c rfl (lsub_c rfl (lsub_c rfl (lsub_c rfl (lsub_c rfl lsub_n))))) (r_X0_fill_57_J74 C hd0 _ hself _ (fun _ _ h => ih _ _ h) h)
        · replace h := (if_neg c9).symm.trans h
          refine wa_iconst (v := 1) C dX0_fill_72 (by decide) ?_
          obtain rfl := Option.some.inj h
          exact wa_zret C rfl dX0_fill_73
set_option maxRecDepth 100000 in
set_option maxHeartbeats 4000000 in
theorem r_X0_fill_57_B : ∀ (n : Nat) (a1 : Int32) (a2 : Int32) (a3 : Int32) (μ : Mem) (ρ : (Int32 × Mem)), it4 f_X0_fill_57_B n a1 a2 a3 μ = some ρ → HT (0 + n) yX0_fill cX0_fill 5 (some .boolean) [.ref 57, .int a1, .int a2, .int a3] μ (some (.int ρ.1)) ρ.2 := by
  intro n
  induction n with
  | zero =>
    intro a1 a2 a3 μ ρ h
    exact absurd h (fun h => by cases h)
  | succ n hself =>
    intro a1 a2 a3 μ ρ h
    have hd0 : 0 ≤ 0 + n := Nat.le_add_right _ _
    replace h : f_X0_fill_57_B (it4 f_X0_fill_57_B n) a1 a2 a3 μ = some ρ := h
    refine HT.of (by decide +kernel) (Nat.le_of_ble_eq_true rfl) (fun C => ?_)
    unfold f_X0_fill_57_B at h
    refine wa_iload_n C dX0_fill_0 rfl ?_
    refine wa_iload_n C dX0_fill_1 rfl ?_
    refine wa_icmp_ge (tgt := 10) C dX0_fill_2 (by decide) (fun c1 => ?_) (fun c1 => ?_)
    · replace h := (if_pos c1).symm.trans h
      exact WA.sub (lsub_c rfl lsub_n) (r_X0_fill_57_J10 C hd0 _ hself h)
    · replace h := (if_neg c1).symm.trans h
      refine wa_iload_n C dX0_fill_5 rfl ?_
      refine wa_iconst (v := 3) C dX0_fill_6 (by decide) ?_
      refine wa_icmp_lt (tgt := 20) C dX0_fill_7 (by decide) (fun c3 => ?_) (fun c3 => ?_)
      · replace h := (if_pos c3).symm.trans h
        refine wa_iconst (v := 0) C dX0_fill_20 (by decide) ?_
        refine wa_istore C dX0_fill_21 (by decide) ?_
        exact WA.sub (lsub_c rfl (lsub_c rfl (lsub_c rfl (lsub_c rfl (lsub_c rfl lsub_n))))) (r_X0_fill_57_L23 C hd0 _ hself _ _ _ _ _ _ h)
      · replace h := (if_neg c3).symm.trans h
        exact WA.sub (lsub_c rfl lsub_n) (r_X0_fill_57_J10 C hd0 _ hself h)
set_option maxRecDepth 100000 in
set_option maxHeartbeats 4000000 in
theorem r_X0_fill_57 {a1 : Int32} {a2 : Int32} {a3 : Int32} {μ : Mem} {ρ : (Int32 × Mem)} (h : f_X0_fill_57 a1 a2 a3 μ = some ρ) : HT (0 + 12) yX0_fill cX0_fill 5 (some .boolean) [.ref 57, .int a1, .int a2, .int a3] μ (some (.int ρ.1)) ρ.2 := r_X0_fill_57_B 12 _ _ _ _ ρ h
def f_X0_shortest_57_47_7_L74 (k74 : Int32 → Mem → Option (Int32 × Mem)) (a3 : Int32) (μ : Mem) : Option (Int32 × Mem) :=
    if (3 : Int32) < a3 then
      some ((0 : Int32), μ)
    else
      (f_X0_fill_57 (0 : Int32) a3 ((μ.1 47 1) &&& ((μ.1 47 2) ^^^ (-1 : Int32))) μ).bind fun q3 =>
      if q3.1 = 0 then
        k74 (a3 + 1) q3.2
      else
        some (a3, q3.2)
def f_X0_shortest_57_47_7_J66 (k7 : Int32 → Mem → Option (Int32 × Mem)) (a3 : Int32) (μ : Mem) : Option (Int32 × Mem) :=
  k7 (a3 + 1) μ
def f_X0_shortest_57_47_7_J33 (k7 : Int32 → Mem → Option (Int32 × Mem)) (a3 : Int32) (t0 : Int32) (μ : Mem) : Option (Int32 × Mem) :=
  if t0 = 0 then
    f_X0_shortest_57_47_7_J66 k7 a3 μ
  else
    (f_X7_openBy_47 a3 μ).bind fun q8 =>
    (f_X7_lacking_47_7 (0 : Int32) q8.1 q8.2).bind fun q9 =>
    if q9.1 = 0 then
      f_X0_shortest_57_47_7_J66 k7 a3 (pI q9.2 57 1 ((q9.2.1 57 1) ||| ((1 : Int32) <<< (a3 &&& 31))))
    else
      f_X0_shortest_57_47_7_J66 k7 a3 q9.2
def f_X0_shortest_57_47_7_L7 (k7 : Int32 → Mem → Option (Int32 × Mem)) (a3 : Int32) (μ : Mem) : Option (Int32 × Mem) :=
    if (27 : Int32) ≤ a3 then
      it2 (f_X0_shortest_57_47_7_L74) FU (1 : Int32) μ
    else
      if inb a3 27 = false then none else
      if ((shuF (a3.toNatClampNeg)) &&& ((μ.1 47 1) ^^^ (-1 : Int32))) = 0 then
        f_X0_shortest_57_47_7_J33 k7 a3 (1 : Int32) μ
      else
        f_X0_shortest_57_47_7_J33 k7 a3 (0 : Int32) μ
def f_X0_shortest_57_47_7 (μ : Mem) : Option (Int32 × Mem) :=
  it2 (f_X0_shortest_57_47_7_L7) FU (0 : Int32) (pI μ 57 1 (0 : Int32))
set_option maxRecDepth 100000 in
set_option maxHeartbeats 4000000 in
theorem r_X0_shortest_57_47_7_L74 {p : Program} {l : Launch} {e : Env} {s : State} {m : MethodId} {args : Array Value} {below : List Frame} {meth : Method} {c : Code} {D : va_G} {cy : Nat → ClassId} {ad : Nat → Nat} (C : CX p s m args meth c cX0_shortest 5 RX0 (some .int) D cy ad (AD ad)) {ρ : (Int32 × Mem)} : ∀ (n : Nat) (a3 : Int32) (μ : Mem), it2 (f_X0_shortest_57_47_7_L74) n a3 μ = some ρ → WA p l e (rmD 13) s m args below meth c 5 D cy ad (AD ad) 0 0 (ZZ below args s D cy ad (AD ad) 0 0 (some (.int ρ.1)) ρ.2) μ [(0, .ref 57), (1, .ref 47), (3, .int a3)] 74 [] := by
  intro n
  induction n with
  | zero =>
    intro a3 μ h
    exact absurd h (fun h => by cases h)
  | succ n ih =>
    intro a3 μ h
    replace h : f_X0_shortest_57_47_7_L74 (it2 (f_X0_shortest_57_47_7_L74) n) a3 μ = some ρ := h
    unfold f_X0_shortest_57_47_7_L74 at h
    refine wa_iload_n C dX0_shortest_74 rfl ?_
    refine wa_iconst (v := 3) C dX0_shortest_75 (by decide) ?_
    refine wa_icmp_gt (tgt := 107) C dX0_shortest_76 (by decide) (fun c2 => ?_) (fun c2 => ?_)
    · replace h := (if_pos c2).symm.trans h
      refine wa_iconst (v := 0) C dX0_shortest_107 (by decide) ?_
      obtain rfl := Option.some.inj h
      exact wa_iret C dX0_shortest_108
    · replace h := (if_neg c2).symm.trans h
      refine wa_aload_n C dX0_shortest_79 rfl ?_
      refine wa_iconst (v := 0) C dX0_shortest_80 (by decide) ?_
      refine wa_iload_n C dX0_shortest_81 rfl ?_
      refine wa_aload_n C dX0_shortest_82 rfl ?_
      refine wa_geti (x := (μ.1 47 1)) C fl_RX0_22 rfl rfl (by decide) rfl dX0_shortest_83 ?_
      refine wa_aload_n C dX0_shortest_86 rfl ?_
      refine wa_geti (x := (μ.1 47 2)) C fl_RX0_35 rfl rfl (by decide) rfl dX0_shortest_87 ?_
      refine wa_iconst (v := -1) C dX0_shortest_90 (by decide) ?_
      refine wa_ixor C dX0_shortest_91 ?_
      refine wa_iand C dX0_shortest_92 ?_
      obtain ⟨q3, hq3, h⟩ := bd h
      refine wa_callS C (r_X0_fill_57 hq3) mk_X0_fill ms_X0_fill qw_820 rfl ⟨Nat.le_of_ble_eq_true rfl, Nat.le_of_ble_eq_true rfl⟩ ⟨Nat.zero_le _, Nat.zero_le _⟩ (Nat.le_of_ble_eq_true rfl) dX0_shortest_93 rfl ?_
      refine wa_if_eq (tgt := 101) C dX0_shortest_96 (by decide) (fun c4 => ?_) (fun c4 => ?_)
      · replace h := (if_pos c4).symm.trans h
        refine wa_iinc (v := (a3 + 1)) C dX0_shortest_101 rfl rfl (by decide) ?_
        refine wa_goto (tgt := 74) C dX0_shortest_104 (by decide) ?_
        exact WA.sub (lsub_c rfl (lsub_c rfl (lsub_c rfl lsub_n))) (ih _ _ h)
      · replace h := (if_neg c4).symm.trans h
        refine wa_iload_n C dX0_shortest_99 rfl ?_
        obtain rfl := Option.some.inj h
        exact wa_iret C dX0_shortest_100
set_option maxRecDepth 100000 in
set_option maxHeartbeats 4000000 in
theorem r_X0_shortest_57_47_7_J66 {p : Program} {l : Launch} {e : Env} {s : State} {m : MethodId} {args : Array Value} {below : List Frame} {meth : Method} {c : Code} {D : va_G} {cy : Nat → ClassId} {ad : Nat → Nat} (C : CX p s m args meth c cX0_shortest 5 RX0 (some .int) D cy ad (AD ad)) {a3 : Int32} {μ : Mem} {ρ : (Int32 × Mem)} (k7 : Int32 → Mem → Option (Int32 × Mem)) (hk7 : ∀ (a3 : Int32) (μ : Mem), k7 a3 μ = some ρ → WA p l e (rmD 13) s m args below meth c 5 D cy ad (AD ad) 0 0 (ZZ below args s D cy ad (AD ad) 0 0 (some (.int ρ.1)) ρ.2) μ [(0, .ref 57), (1, .ref 47), (2, .ref 7), (3, .int a3)] 7 []) (h : f_X0_shortest_57_47_7_J66 k7 a3 μ = some ρ) : WA p l e (rmD 13) s m args below meth c 5 D cy ad (AD ad) 0 0 (ZZ below args s D cy ad (AD ad) 0 0 (some (.int ρ.1)) ρ.2) μ [(0, .ref 57), (1, .ref 47), (2, .ref 7), (3, .int a3)] 66 [] := by
  unfold f_X0_shortest_57_47_7_J66 at h
  refine wa_iinc (v := (a3 + 1)) C dX0_shortest_66 rfl rfl (by decide) ?_
  refine wa_goto (tgt := 7) C dX0_shortest_69 (by decide) ?_
  exact WA.sub (lsub_c rfl (lsub_c rfl (lsub_c rfl (lsub_c rfl lsub_n)))) (hk7 _ _ h)
set_option maxRecDepth 100000 in
set_option maxHeartbeats 4000000 in
theorem r_X0_shortest_57_47_7_J33 {p : Program} {l : Launch} {e : Env} {s : State} {m : MethodId} {args : Array Value} {below : List Frame} {meth : Method} {c : Code} {D : va_G} {cy : Nat → ClassId} {ad : Nat → Nat} (C : CX p s m args meth c cX0_shortest 5 RX0 (some .int) D cy ad (AD ad)) {a3 : Int32} {t0 : Int32} {μ : Mem} {ρ : (Int32 × Mem)} (k7 : Int32 → Mem → Option (Int32 × Mem)) (hk7 : ∀ (a3 : Int32) (μ : Mem), k7 a3 μ = some ρ → WA p l e (rmD 13) s m args below meth c 5 D cy ad (AD ad) 0 0 (ZZ below args s D cy ad (AD ad) 0 0 (some (.int ρ.1)) ρ.2) μ [(0, .ref 57), (1, .ref 47), (2, .ref 7), (3, .int a3)] 7 []) (h : f_X0_shortest_57_47_7_J33 k7 a3 t0 μ = some ρ) : WA p l e (rmD 13) s m args below meth c 5 D cy ad (AD ad) 0 0 (ZZ below args s D cy ad (AD ad) 0 0 (some (.int ρ.1)) ρ.2) μ [(0, .ref 57), (1, .ref 47), (2, .ref 7), (3, .int a3)] 33 [.int t0] := by
  unfold f_X0_shortest_57_47_7_J33 at h
  refine wa_istore C dX0_shortest_33 (by decide) ?_
  refine wa_iload C dX0_shortest_35 rfl ?_
  refine wa_if_eq (tgt := 66) C dX0_shortest_37 (by decide) (fun c7 => ?_) (fun c7 => ?_)
  · replace h := (if_pos c7).symm.trans h
    exact WA.sub (lsub_c rfl (lsub_c rfl (lsub_c rfl (lsub_c rfl lsub_n)))) (r_X0_shortest_57_47_7_J66 C _ hk7 h)
  · replace h := (if_neg c7).symm.trans h
    refine wa_aload_n C dX0_shortest_40 rfl ?_
    refine wa_aload_n C dX0_shortest_41 rfl ?_
    refine wa_iconst (v := 0) C dX0_shortest_42 (by decide) ?_
    refine wa_aload_n C dX0_shortest_43 rfl ?_
    refine wa_iload_n C dX0_shortest_44 rfl ?_
    obtain ⟨q8, hq8, h⟩ := bd h
    refine wa_callV C (r_X7_openBy_47 hq8) mk_X7_openBy mv_X7_openBy qw_818 rfl (by decide) rfl rfl ⟨Nat.le_of_ble_eq_true rfl, Nat.le_of_ble_eq_true rfl⟩ ⟨Nat.zero_le _, Nat.zero_le _⟩ (Nat.le_of_ble_eq_true rfl) dX0_shortest_45 rfl ?_
    obtain ⟨q9, hq9, h⟩ := bd h
    refine wa_callV C (r_X7_lacking_47_7 hq9) mk_X7_lacking mv_X7_lacking qw_819 rfl (by decide) rfl rfl ⟨Nat.le_of_ble_eq_true rfl, Nat.le_of_ble_eq_true rfl⟩ ⟨Nat.zero_le _, Nat.zero_le _⟩ (Nat.le_of_ble_eq_true rfl) dX0_shortest_48 rfl ?_
    refine wa_if_ne (tgt := 66) C dX0_shortest_51 (by decide) (fun c10 => ?_) (fun c10 => ?_)
    · replace h := (if_neg c10).symm.trans h
      exact WA.sub (lsub_c rfl (lsub_c rfl (lsub_c rfl (lsub_c rfl lsub_n)))) (r_X0_shortest_57_47_7_J66 C _ hk7 h)
    · replace h := (if_pos c10).symm.trans h
      refine wa_aload_n C dX0_shortest_54 rfl ?_
      refine wa_dup C dX0_shortest_55 rfl ?_
      refine wa_geti (x := (q9.2.1 57 1)) C fl_RX0_15 rfl rfl (by decide) rfl dX0_shortest_56 ?_
      refine wa_iconst (v := 1) C dX0_shortest_59 (by decide) ?_
      refine wa_iload_n C dX0_shortest_60 rfl ?_
      refine wa_ishl C dX0_shortest_61 ?_
      refine wa_ior C dX0_shortest_62 ?_
      refine wa_puti C fl_RX0_15 fp_0_1 rfl rfl (by decide) rfl rfl dX0_shortest_63 ?_
      exact WA.sub (lsub_c rfl (lsub_c rfl (lsub_c rfl (lsub_c rfl lsub_n)))) (r_X0_shortest_57_47_7_J66 C _ hk7 h)
set_option maxRecDepth 100000 in
set_option maxHeartbeats 4000000 in
theorem r_X0_shortest_57_47_7_L7 {p : Program} {l : Launch} {e : Env} {s : State} {m : MethodId} {args : Array Value} {below : List Frame} {meth : Method} {c : Code} {D : va_G} {cy : Nat → ClassId} {ad : Nat → Nat} (C : CX p s m args meth c cX0_shortest 5 RX0 (some .int) D cy ad (AD ad)) {ρ : (Int32 × Mem)} : ∀ (n : Nat) (a3 : Int32) (μ : Mem), it2 (f_X0_shortest_57_47_7_L7) n a3 μ = some ρ → WA p l e (rmD 13) s m args below meth c 5 D cy ad (AD ad) 0 0 (ZZ below args s D cy ad (AD ad) 0 0 (some (.int ρ.1)) ρ.2) μ [(0, .ref 57), (1, .ref 47), (2, .ref 7), (3, .int a3)] 7 [] := by
  intro n
  induction n with
  | zero =>
    intro a3 μ h
    exact absurd h (fun h => by cases h)
  | succ n ih =>
    intro a3 μ h
    replace h : f_X0_shortest_57_47_7_L7 (it2 (f_X0_shortest_57_47_7_L7) n) a3 μ = some ρ := h
    unfold f_X0_shortest_57_47_7_L7 at h
    refine wa_iload_n C dX0_shortest_7 rfl ?_
    refine wa_bipush (v := 27) C dX0_shortest_8 (by decide) ?_
    refine wa_icmp_ge (tgt := 72) C dX0_shortest_10 (by decide) (fun c1 => ?_) (fun c1 => ?_)
    · replace h := (if_pos c1).symm.trans h
      refine wa_iconst (v := 1) C dX0_shortest_72 (by decide) ?_
      refine wa_istore_n C dX0_shortest_73 (by decide) ?_
      exact WA.sub (lsub_c rfl (lsub_c rfl (lsub_c rfl lsub_n))) (r_X0_shortest_57_47_7_L74 C  _ _ _ h)
    · replace h := (if_neg c1).symm.trans h
      refine wa_gshu0 C dX0_shortest_13 ?_
      refine wa_iload_n C dX0_shortest_16 rfl ?_
      obtain ⟨g5, h⟩ := gd h
      refine wa_sald (j := (a3.toNatClampNeg)) C g5 rfl dX0_shortest_17 ?_
      refine wa_aload_n C dX0_shortest_18 rfl ?_
      refine wa_geti (x := (μ.1 47 1)) C fl_RX0_22 rfl rfl (by decide) rfl dX0_shortest_19 ?_
      refine wa_iconst (v := -1) C dX0_shortest_22 (by decide) ?_
      refine wa_ixor C dX0_shortest_23 ?_
      refine wa_iand C dX0_shortest_24 ?_
      refine wa_if_ne (tgt := 32) C dX0_shortest_25 (by decide) (fun c6 => ?_) (fun c6 => ?_)
      · replace h := (if_neg c6).symm.trans h
        refine wa_iconst (v := 0) C dX0_shortest_32 (by decide) ?_
        exact WA.sub (lsub_c rfl (lsub_c rfl (lsub_c rfl (lsub_c rfl lsub_n)))) (r_X0_shortest_57_47_7_J33 C _ (fun _ _ h => ih _ _ h) h)
      · replace h := (if_pos c6).symm.trans h
        refine wa_iconst (v := 1) C dX0_shortest_28 (by decide) ?_
        refine wa_goto (tgt := 33) C dX0_shortest_29 (by decide) ?_
        exact WA.sub (lsub_c rfl (lsub_c rfl (lsub_c rfl (lsub_c rfl lsub_n)))) (r_X0_shortest_57_47_7_J33 C _ (fun _ _ h => ih _ _ h) h)
set_option maxRecDepth 100000 in
set_option maxHeartbeats 4000000 in
theorem r_X0_shortest_57_47_7 {μ : Mem} {ρ : (Int32 × Mem)} (h : f_X0_shortest_57_47_7 μ = some ρ) : HT 13 yX0_shortest cX0_shortest 5 (some .int) [.ref 57, .ref 47, .ref 7] μ (some (.int ρ.1)) ρ.2 := by
  refine HT.of (by decide +kernel) (Nat.le_of_ble_eq_true rfl) (fun C => ?_)
  unfold f_X0_shortest_57_47_7 at h
  refine wa_aload_n C dX0_shortest_0 rfl ?_
  refine wa_iconst (v := 0) C dX0_shortest_1 (by decide) ?_
  refine wa_puti C fl_RX0_15 fp_0_1 rfl rfl (by decide) rfl rfl dX0_shortest_2 ?_
  refine wa_iconst (v := 0) C dX0_shortest_5 (by decide) ?_
  refine wa_istore_n C dX0_shortest_6 (by decide) ?_
  exact WA.sub (lsub_c rfl (lsub_c rfl (lsub_c rfl (lsub_c rfl lsub_n)))) (r_X0_shortest_57_47_7_L7 C  _ _ _ h)
def f_X9_round_0_J18 (a1 : Int32) (μ : Mem) : Option (Int32 × Mem) :=
  if (μ.1 1 0) = 0 then
    some ((-2 : Int32), μ)
  else
    (f_X9_look_0 μ).bind fun q3 =>
    (f_X0_shortest_57_47_7 q3).bind fun q4 =>
    if q4.1 = 0 then
      some ((-4 : Int32), q4.2)
    else
      if a1 = 0 then
        some (q4.1, q4.2)
      else
        if q4.1 ≤ (a1 - (10 : Int32)) then
          some ((-4 : Int32), q4.2)
        else
          if inb (a1 - (10 : Int32)) 3 = false then none else
          some ((q4.2.1 58 ((a1 - (10 : Int32)).toNatClampNeg)), q4.2)
def f_X9_round_0 (a1 : Int32) (μ : Mem) : Option (Int32 × Mem) :=
  if a1 = 0 then
    f_X9_round_0_J18 a1 μ
  else
    if a1 < (10 : Int32) then
      some ((-1 : Int32), μ)
    else
      if a1 < (13 : Int32) then
        f_X9_round_0_J18 a1 μ
      else
        some ((-1 : Int32), μ)
set_option maxRecDepth 100000 in
set_option maxHeartbeats 4000000 in
theorem r_X9_round_0_J18 {p : Program} {l : Launch} {e : Env} {s : State} {m : MethodId} {args : Array Value} {below : List Frame} {meth : Method} {c : Code} {D : va_G} {cy : Nat → ClassId} {ad : Nat → Nat} (C : CX p s m args meth c cX9_round 3 RX9 (some .int) D cy ad (AD ad)) {a1 : Int32} {μ : Mem} {ρ : (Int32 × Mem)} (h : f_X9_round_0_J18 a1 μ = some ρ) : WA p l e (rmD 14) s m args below meth c 3 D cy ad (AD ad) 0 0 (ZZ below args s D cy ad (AD ad) 0 0 (some (.int ρ.1)) ρ.2) μ [(0, .ref 0), (1, .int a1)] 18 [] := by
  unfold f_X9_round_0_J18 at h
  refine wa_aload_n C dX9_round_18 rfl ?_
  refine wa_getr C fl_RX9_10 rfl rfl (by decide) dX9_round_19 ?_
  refine wa_geti (x := (μ.1 1 0)) C fl_RX9_113 rfl rfl (by decide) rfl dX9_round_22 ?_
  refine wa_if_ne (tgt := 31) C dX9_round_25 (by decide) (fun c2 => ?_) (fun c2 => ?_)
  · replace h := (if_neg c2).symm.trans h
    refine wa_aload_n C dX9_round_31 rfl ?_
    refine wa_getr C fl_RX9_65 rfl rfl (by decide) dX9_round_32 ?_
    refine wa_aload_n C dX9_round_35 rfl ?_
    obtain ⟨q3, hq3, h⟩ := bd h
    refine wa_callV C (r_X9_look_0 hq3) mk_X9_look mv_X9_look qw_508 rfl (by decide) rfl rfl ⟨Nat.le_of_ble_eq_true rfl, Nat.le_of_ble_eq_true rfl⟩ ⟨Nat.zero_le _, Nat.zero_le _⟩ (Nat.le_of_ble_eq_true rfl) dX9_round_36 rfl ?_
    refine wa_aload_n C dX9_round_39 rfl ?_
    refine wa_getr C fl_RX9_19 rfl rfl (by decide) dX9_round_40 ?_
    refine wa_getr C fl_RX9_151 rfl rfl (by decide) dX9_round_43 ?_
    obtain ⟨q4, hq4, h⟩ := bd h
    refine wa_callV C (r_X0_shortest_57_47_7 hq4) mk_X0_shortest mv_X0_shortest qw_812 rfl (by decide) rfl rfl ⟨Nat.le_of_ble_eq_true rfl, Nat.le_of_ble_eq_true rfl⟩ ⟨Nat.zero_le _, Nat.zero_le _⟩ (Nat.le_of_ble_eq_true rfl) dX9_round_46 rfl ?_
    refine wa_istore_n C dX9_round_49 (by decide) ?_
    refine wa_iload_n C dX9_round_50 rfl ?_
    refine wa_if_ne (tgt := 57) C dX9_round_51 (by decide) (fun c5 => ?_) (fun c5 => ?_)
    · replace h := (if_neg c5).symm.trans h
      refine wa_iload_n C dX9_round_57 rfl ?_
      refine wa_if_ne (tgt := 63) C dX9_round_58 (by decide) (fun c6 => ?_) (fun c6 => ?_)
      · replace h := (if_neg c6).symm.trans h
        refine wa_iload_n C dX9_round_63 rfl ?_
        refine wa_bipush (v := 10) C dX9_round_64 (by decide) ?_
        refine wa_isub C dX9_round_66 ?_
        refine wa_iload_n C dX9_round_67 rfl ?_
        refine wa_icmp_ge (tgt := 86) C dX9_round_68 (by decide) (fun c7 => ?_) (fun c7 => ?_)
        · replace h := (if_pos c7).symm.trans h
          refine wa_bipush (v := -4) C dX9_round_86 (by decide) ?_
          obtain rfl := Option.some.inj h
          exact wa_iret C dX9_round_88
        · replace h := (if_neg c7).symm.trans h
          refine wa_aload_n C dX9_round_71 rfl ?_
          refine wa_getr C fl_RX9_65 rfl rfl (by decide) dX9_round_72 ?_
          refine wa_getr C fl_RX9_214 rfl rfl (by decide) dX9_round_75 ?_
          refine wa_iload_n C dX9_round_78 rfl ?_
          refine wa_bipush (v := 10) C dX9_round_79 (by decide) ?_
          refine wa_isub C dX9_round_81 ?_
          obtain ⟨g8, h⟩ := gd h
          refine wa_iald (j := ((a1 - (10 : Int32)).toNatClampNeg)) (x := (q4.2.1 58 ((a1 - (10 : Int32)).toNatClampNeg))) C rfl (by decide) g8 rfl rfl dX9_round_82 ?_
          refine wa_goto (tgt := 88) C dX9_round_83 (by decide) ?_
          obtain rfl := Option.some.inj h
          exact wa_iret C dX9_round_88
      · replace h := (if_pos c6).symm.trans h
        refine wa_iload_n C dX9_round_61 rfl ?_
        obtain rfl := Option.some.inj h
        exact wa_iret C dX9_round_62
    · replace h := (if_pos c5).symm.trans h
      refine wa_bipush (v := -4) C dX9_round_54 (by decide) ?_
      obtain rfl := Option.some.inj h
      exact wa_iret C dX9_round_56
  · replace h := (if_pos c2).symm.trans h
    refine wa_bipush (v := -2) C dX9_round_28 (by decide) ?_
    obtain rfl := Option.some.inj h
    exact wa_iret C dX9_round_30
set_option maxRecDepth 100000 in
set_option maxHeartbeats 4000000 in
theorem r_X9_round_0 {a1 : Int32} {μ : Mem} {ρ : (Int32 × Mem)} (h : f_X9_round_0 a1 μ = some ρ) : HT 14 yX9_round cX9_round 3 (some .int) [.ref 0, .int a1] μ (some (.int ρ.1)) ρ.2 := by
  refine HT.of (by decide +kernel) (Nat.le_of_ble_eq_true rfl) (fun C => ?_)
  unfold f_X9_round_0 at h
  refine wa_iload_n C dX9_round_0 rfl ?_
  refine wa_if_eq (tgt := 18) C dX9_round_1 (by decide) (fun c1 => ?_) (fun c1 => ?_)
  · replace h := (if_pos c1).symm.trans h
    exact WA.sub (lsub_c rfl (lsub_c rfl lsub_n)) (r_X9_round_0_J18 C h)
  · replace h := (if_neg c1).symm.trans h
    refine wa_iload_n C dX9_round_4 rfl ?_
    refine wa_bipush (v := 10) C dX9_round_5 (by decide) ?_
    refine wa_icmp_lt (tgt := 16) C dX9_round_7 (by decide) (fun c9 => ?_) (fun c9 => ?_)
    · replace h := (if_pos c9).symm.trans h
      refine wa_iconst (v := -1) C dX9_round_16 (by decide) ?_
      obtain rfl := Option.some.inj h
      exact wa_iret C dX9_round_17
    · replace h := (if_neg c9).symm.trans h
      refine wa_iload_n C dX9_round_10 rfl ?_
      refine wa_bipush (v := 13) C dX9_round_11 (by decide) ?_
      refine wa_icmp_lt (tgt := 18) C dX9_round_13 (by decide) (fun c10 => ?_) (fun c10 => ?_)
      · replace h := (if_pos c10).symm.trans h
        exact WA.sub (lsub_c rfl (lsub_c rfl lsub_n)) (r_X9_round_0_J18 C h)
      · replace h := (if_neg c10).symm.trans h
        refine wa_iconst (v := -1) C dX9_round_16 (by decide) ?_
        obtain rfl := Option.some.inj h
        exact wa_iret C dX9_round_17
def f_X10_findEyes_62_J53 (k7 : Int32 → Mem → Option Mem) (a1 : Int32) (μ : Mem) : Option Mem :=
  k7 (a1 + 1) μ
def f_X10_findEyes_62_L7 (k7 : Int32 → Mem → Option Mem) (a1 : Int32) (μ : Mem) : Option Mem :=
    if ((2 : Int32) * (μ.1 62 2)) ≤ a1 then
      some μ
    else
      (f_X10_isGlass_62 a1 μ).bind fun q2 =>
      if q2.1 = 0 then
        (f_X10_isHere_62 a1 q2.2).bind fun q4 =>
        if q4.1 = 0 then
          f_X10_findEyes_62_J53 k7 a1 q4.2
        else
          if inb (q4.2.1 62 28) 6 = false then none else
          f_X10_findEyes_62_J53 k7 a1 (pI (pI q4.2 72 ((q4.2.1 62 28).toNatClampNeg) a1) 62 28 ((q4.2.1 62 28) + (1 : Int32)))
      else
        f_X10_findEyes_62_J53 k7 a1 q2.2
def f_X10_findEyes_62 (μ : Mem) : Option Mem :=
  it2 (f_X10_findEyes_62_L7) FU (0 : Int32) (pI μ 62 28 (0 : Int32))
set_option maxRecDepth 100000 in
set_option maxHeartbeats 4000000 in
theorem r_X10_findEyes_62_J53 {p : Program} {l : Launch} {e : Env} {s : State} {m : MethodId} {args : Array Value} {below : List Frame} {meth : Method} {c : Code} {D : va_G} {cy : Nat → ClassId} {ad : Nat → Nat} (C : CX p s m args meth c cX10_findEyes 2 RX10 none D cy ad (AD ad)) {a1 : Int32} {μ : Mem} {ρ : Mem} (k7 : Int32 → Mem → Option Mem) (hk7 : ∀ (a1 : Int32) (μ : Mem), k7 a1 μ = some ρ → WA p l e (rmD 1) s m args below meth c 2 D cy ad (AD ad) 0 0 (ZZ below args s D cy ad (AD ad) 0 0 none ρ) μ [(0, .ref 62), (1, .int a1)] 7 []) (h : f_X10_findEyes_62_J53 k7 a1 μ = some ρ) : WA p l e (rmD 1) s m args below meth c 2 D cy ad (AD ad) 0 0 (ZZ below args s D cy ad (AD ad) 0 0 none ρ) μ [(0, .ref 62), (1, .int a1)] 53 [] := by
  unfold f_X10_findEyes_62_J53 at h
  refine wa_iinc (v := (a1 + 1)) C dX10_findEyes_53 rfl rfl (by decide) ?_
  refine wa_goto (tgt := 7) C dX10_findEyes_56 (by decide) ?_
  exact WA.sub (lsub_c rfl (lsub_c rfl lsub_n)) (hk7 _ _ h)
set_option maxRecDepth 100000 in
set_option maxHeartbeats 4000000 in
theorem r_X10_findEyes_62_L7 {p : Program} {l : Launch} {e : Env} {s : State} {m : MethodId} {args : Array Value} {below : List Frame} {meth : Method} {c : Code} {D : va_G} {cy : Nat → ClassId} {ad : Nat → Nat} (C : CX p s m args meth c cX10_findEyes 2 RX10 none D cy ad (AD ad)) {ρ : Mem} : ∀ (n : Nat) (a1 : Int32) (μ : Mem), it2 (f_X10_findEyes_62_L7) n a1 μ = some ρ → WA p l e (rmD 1) s m args below meth c 2 D cy ad (AD ad) 0 0 (ZZ below args s D cy ad (AD ad) 0 0 none ρ) μ [(0, .ref 62), (1, .int a1)] 7 [] := by
  intro n
  induction n with
  | zero =>
    intro a1 μ h
    exact absurd h (fun h => by cases h)
  | succ n ih =>
    intro a1 μ h
    replace h : f_X10_findEyes_62_L7 (it2 (f_X10_findEyes_62_L7) n) a1 μ = some ρ := h
    unfold f_X10_findEyes_62_L7 at h
    refine wa_iload_n C dX10_findEyes_7 rfl ?_
    refine wa_iconst (v := 2) C dX10_findEyes_8 (by decide) ?_
    refine wa_aload_n C dX10_findEyes_9 rfl ?_
    refine wa_geti (x := (μ.1 62 2)) C fl_RX10_94 rfl rfl (by decide) rfl dX10_findEyes_10 ?_
    refine wa_imul C dX10_findEyes_13 ?_
    refine wa_icmp_ge (tgt := 59) C dX10_findEyes_14 (by decide) (fun c1 => ?_) (fun c1 => ?_)
    · replace h := (if_pos c1).symm.trans h
      obtain rfl := Option.some.inj h
      exact wa_vret C dX10_findEyes_59
    · replace h := (if_neg c1).symm.trans h
      refine wa_aload_n C dX10_findEyes_17 rfl ?_
      refine wa_iload_n C dX10_findEyes_18 rfl ?_
      obtain ⟨q2, hq2, h⟩ := bd h
      refine wa_callV C (r_X10_isGlass_62 hq2) mk_X10_isGlass mv_X10_isGlass qw_627 rfl (by decide) rfl rfl ⟨Nat.le_of_ble_eq_true rfl, Nat.le_of_ble_eq_true rfl⟩ ⟨Nat.zero_le _, Nat.zero_le _⟩ (Nat.le_of_ble_eq_true rfl) dX10_findEyes_19 rfl ?_
      refine wa_if_ne (tgt := 53) C dX10_findEyes_22 (by decide) (fun c3 => ?_) (fun c3 => ?_)
      · replace h := (if_neg c3).symm.trans h
        exact WA.sub (lsub_c rfl (lsub_c rfl lsub_n)) (r_X10_findEyes_62_J53 C _ (fun _ _ h => ih _ _ h) h)
      · replace h := (if_pos c3).symm.trans h
        refine wa_aload_n C dX10_findEyes_25 rfl ?_
        refine wa_iload_n C dX10_findEyes_26 rfl ?_
        obtain ⟨q4, hq4, h⟩ := bd h
        refine wa_callV C (r_X10_isHere_62 hq4) mk_X10_isHere mv_X10_isHere qw_655 rfl (by decide) rfl rfl ⟨Nat.le_of_ble_eq_true rfl, Nat.le_of_ble_eq_true rfl⟩ ⟨Nat.zero_le _, Nat.zero_le _⟩ (Nat.le_of_ble_eq_true rfl) dX10_findEyes_27 rfl ?_
        refine wa_if_eq (tgt := 53) C dX10_findEyes_30 (by decide) (fun c5 => ?_) (fun c5 => ?_)
        · replace h := (if_pos c5).symm.trans h
          exact WA.sub (lsub_c rfl (lsub_c rfl lsub_n)) (r_X10_findEyes_62_J53 C _ (fun _ _ h => ih _ _ h) h)
        · replace h := (if_neg c5).symm.trans h
          refine wa_aload_n C dX10_findEyes_33 rfl ?_
          refine wa_getr C fl_RX10_38 rfl rfl (by decide) dX10_findEyes_34 ?_
          refine wa_aload_n C dX10_findEyes_37 rfl ?_
          refine wa_geti (x := (q4.2.1 62 28)) C fl_RX10_273 rfl rfl (by decide) rfl dX10_findEyes_38 ?_
          refine wa_iload_n C dX10_findEyes_41 rfl ?_
          obtain ⟨g6, h⟩ := gd h
          refine wa_iast (j := ((q4.2.1 62 28).toNatClampNeg)) C rfl (by decide) g6 rfl dX10_findEyes_42 ?_
          refine wa_aload_n C dX10_findEyes_43 rfl ?_
          refine wa_dup C dX10_findEyes_44 rfl ?_
          refine wa_geti (x := (q4.2.1 62 28)) C fl_RX10_273 rfl rfl (by decide) rfl dX10_findEyes_45 ?_
          refine wa_iconst (v := 1) C dX10_findEyes_48 (by decide) ?_
          refine wa_iadd C dX10_findEyes_49 ?_
          refine wa_puti C fl_RX10_273 fp_10_28 rfl rfl (by decide) rfl rfl dX10_findEyes_50 ?_
          exact WA.sub (lsub_c rfl (lsub_c rfl lsub_n)) (r_X10_findEyes_62_J53 C _ (fun _ _ h => ih _ _ h) h)
set_option maxRecDepth 100000 in
set_option maxHeartbeats 4000000 in
theorem r_X10_findEyes_62 {μ : Mem} {ρ : Mem} (h : f_X10_findEyes_62 μ = some ρ) : HT 1 yX10_findEyes cX10_findEyes 2 none [.ref 62] μ none ρ := by
  refine HT.of (by decide +kernel) (Nat.le_of_ble_eq_true rfl) (fun C => ?_)
  unfold f_X10_findEyes_62 at h
  refine wa_aload_n C dX10_findEyes_0 rfl ?_
  refine wa_iconst (v := 0) C dX10_findEyes_1 (by decide) ?_
  refine wa_puti C fl_RX10_273 fp_10_28 rfl rfl (by decide) rfl rfl dX10_findEyes_2 ?_
  refine wa_iconst (v := 0) C dX10_findEyes_5 (by decide) ?_
  refine wa_istore_n C dX10_findEyes_6 (by decide) ?_
  exact WA.sub (lsub_c rfl (lsub_c rfl lsub_n)) (r_X10_findEyes_62_L7 C  _ _ _ h)
def f_X10_allLack_62_L4 (a1 : Int32) (μ : Mem) (k4 : Int32 → Int32 → Option (Int32 × Mem)) (a2 : Int32) (a3 : Int32) : Option (Int32 × Mem) :=
    if (μ.1 62 28) ≤ a3 then
      some (a2, μ)
    else
      k4 ((a2 * (μ.1 62 32)) + a1) (a3 + 1)
def f_X10_allLack_62 (a1 : Int32) (μ : Mem) : Option (Int32 × Mem) :=
  it2 (f_X10_allLack_62_L4 a1 μ) FU (0 : Int32) (0 : Int32)
set_option maxRecDepth 100000 in
set_option maxHeartbeats 4000000 in
theorem r_X10_allLack_62_L4 {p : Program} {l : Launch} {e : Env} {s : State} {m : MethodId} {args : Array Value} {below : List Frame} {meth : Method} {c : Code} {D : va_G} {cy : Nat → ClassId} {ad : Nat → Nat} (C : CX p s m args meth c cX10_allLack 4 RX10 (some .int) D cy ad (AD ad)) (a1 : Int32) (μ : Mem) {ρ : (Int32 × Mem)} : ∀ (n : Nat) (a2 : Int32) (a3 : Int32), it2 (f_X10_allLack_62_L4 a1 μ) n a2 a3 = some ρ → WA p l e (rmD 0) s m args below meth c 4 D cy ad (AD ad) 0 0 (ZZ below args s D cy ad (AD ad) 0 0 (some (.int ρ.1)) ρ.2) μ [(0, .ref 62), (1, .int a1), (2, .int a2), (3, .int a3)] 4 [] := by
  intro n
  induction n with
  | zero =>
    intro a2 a3 h
    exact absurd h (fun h => by cases h)
  | succ n ih =>
    intro a2 a3 h
    replace h : f_X10_allLack_62_L4 a1 μ (it2 (f_X10_allLack_62_L4 a1 μ) n) a2 a3 = some ρ := h
    unfold f_X10_allLack_62_L4 at h
    refine wa_iload_n C dX10_allLack_4 rfl ?_
    refine wa_aload_n C dX10_allLack_5 rfl ?_
    refine wa_geti (x := (μ.1 62 28)) C fl_RX10_273 rfl rfl (by decide) rfl dX10_allLack_6 ?_
    refine wa_icmp_ge (tgt := 27) C dX10_allLack_9 (by decide) (fun c1 => ?_) (fun c1 => ?_)
    · replace h := (if_pos c1).symm.trans h
      refine wa_iload_n C dX10_allLack_27 rfl ?_
      obtain rfl := Option.some.inj h
      exact wa_iret C dX10_allLack_28
    · replace h := (if_neg c1).symm.trans h
      refine wa_iload_n C dX10_allLack_12 rfl ?_
      refine wa_aload_n C dX10_allLack_13 rfl ?_
      refine wa_geti (x := (μ.1 62 32)) C fl_RX10_276 rfl rfl (by decide) rfl dX10_allLack_14 ?_
      refine wa_imul C dX10_allLack_17 ?_
      refine wa_iload_n C dX10_allLack_18 rfl ?_
      refine wa_iadd C dX10_allLack_19 ?_
      refine wa_istore_n C dX10_allLack_20 (by decide) ?_
      refine wa_iinc (v := (a3 + 1)) C dX10_allLack_21 rfl rfl (by decide) ?_
      refine wa_goto (tgt := 4) C dX10_allLack_24 (by decide) ?_
      exact WA.sub (lsub_c rfl (lsub_c rfl (lsub_c rfl (lsub_c rfl lsub_n)))) (ih _ _ h)
set_option maxRecDepth 100000 in
set_option maxHeartbeats 4000000 in
theorem r_X10_allLack_62 {a1 : Int32} {μ : Mem} {ρ : (Int32 × Mem)} (h : f_X10_allLack_62 a1 μ = some ρ) : HT 0 yX10_allLack cX10_allLack 4 (some .int) [.ref 62, .int a1] μ (some (.int ρ.1)) ρ.2 := by
  refine HT.of (by decide +kernel) (Nat.le_of_ble_eq_true rfl) (fun C => ?_)
  unfold f_X10_allLack_62 at h
  refine wa_iconst (v := 0) C dX10_allLack_0 (by decide) ?_
  refine wa_istore_n C dX10_allLack_1 (by decide) ?_
  refine wa_iconst (v := 0) C dX10_allLack_2 (by decide) ?_
  refine wa_istore_n C dX10_allLack_3 (by decide) ?_
  exact WA.sub (lsub_c rfl (lsub_c rfl (lsub_c rfl (lsub_c rfl lsub_n)))) (r_X10_allLack_62_L4 C _ _ _ _ _ h)
