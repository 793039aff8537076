def f_X10_sheet_62_L40 (a1 : Int32) (k40 : Int32 → Mem → Option (Int32 × Mem)) (a4 : Int32) (μ : Mem) : Option (Int32 × Mem) :=
    if (40 : Int32) ≤ a4 then
      some ((1 : Int32), μ)
    else
      if inb (((40 : Int32) * a1) + a4) 160 = false then none else
      k40 (a4 + 1) (pI μ 78 ((((40 : Int32) * a1) + a4).toNatClampNeg) (0 : Int32))
def f_X10_sheet_62 (a1 : Int32) (a2 : Int32) (a3 : Int32) (μ : Mem) : Option (Int32 × Mem) :=
  (f_X10_isSheet a1 a2 μ).bind fun q1 =>
  if q1.1 = 0 then
    some ((-1 : Int32), q1.2)
  else
    if a3 ≤ (40 : Int32) then
      if 0 ≤ a3 then
        if inb a1 4 = false then none else
        if inb a1 4 = false then none else
        it2 (f_X10_sheet_62_L40 a1) FU (0 : Int32) (pI (pI q1.2 76 (a1.toNatClampNeg) a2) 77 (a1.toNatClampNeg) a3)
      else
        some ((-14 : Int32), q1.2)
    else
      some ((-1 : Int32), q1.2)
set_option maxRecDepth 100000 in
set_option maxHeartbeats 4000000 in
theorem r_X10_sheet_62_L40 {p : Program} {l : Launch} {e : Env} {s : State} {m : MethodId} {args : Array Value} {below : List Frame} {meth : Method} {c : Code} {D : va_G} {cy : Nat → ClassId} {ad : Nat → Nat} (C : CX p s m args meth c cX10_sheet 5 RX10 (some .int) D cy ad (AD ad)) (a1 : Int32) {ρ : (Int32 × Mem)} : ∀ (n : Nat) (a4 : Int32) (μ : Mem), it2 (f_X10_sheet_62_L40 a1) n a4 μ = some ρ → WA p l e (rmD 2) s m args below meth c 5 D cy ad (AD ad) 0 0 (ZZ below args s D cy ad (AD ad) 0 0 (some (.int ρ.1)) ρ.2) μ [(0, .ref 62), (1, .int a1), (4, .int a4)] 40 [] := by
  intro n
  induction n with
  | zero =>
    intro a4 μ h
    exact absurd h (fun h => by cases h)
  | succ n ih =>
    intro a4 μ h
    replace h : f_X10_sheet_62_L40 a1 (it2 (f_X10_sheet_62_L40 a1) n) a4 μ = some ρ := h
    unfold f_X10_sheet_62_L40 at h
    refine wa_iload C dX10_sheet_40 rfl ?_
    refine wa_bipush (v := 40) C dX10_sheet_42 (by decide) ?_
    refine wa_icmp_ge (tgt := 66) C dX10_sheet_44 (by decide) (fun c7 => ?_) (fun c7 => ?_)
    · replace h := (if_pos c7).symm.trans h
      refine wa_iconst (v := 1) C dX10_sheet_66 (by decide) ?_
      obtain rfl := Option.some.inj h
      exact wa_iret C dX10_sheet_67
    · replace h := (if_neg c7).symm.trans h
      refine wa_aload_n C dX10_sheet_47 rfl ?_
      refine wa_getr C fl_RX10_56 rfl rfl (by decide) dX10_sheet_48 ?_
      refine wa_bipush (v := 40) C dX10_sheet_51 (by decide) ?_
      refine wa_iload_n C dX10_sheet_53 rfl ?_
      refine wa_imul C dX10_sheet_54 ?_
      refine wa_iload C dX10_sheet_55 rfl ?_
      refine wa_iadd C dX10_sheet_57 ?_
      refine wa_iconst (v := 0) C dX10_sheet_58 (by decide) ?_
      obtain ⟨g8, h⟩ := gd h
      refine wa_iast (j := ((((40 : Int32) * a1) + a4).toNatClampNeg)) C rfl (by decide) g8 rfl dX10_sheet_59 ?_
      refine wa_iinc (v := (a4 + 1)) C dX10_sheet_60 rfl rfl (by decide) ?_
      refine wa_goto (tgt := 40) C dX10_sheet_63 (by decide) ?_
      exact WA.sub (lsub_c rfl (lsub_c rfl (lsub_c rfl lsub_n))) (ih _ _ h)
set_option maxRecDepth 100000 in
set_option maxHeartbeats 4000000 in
theorem r_X10_sheet_62 {a1 : Int32} {a2 : Int32} {a3 : Int32} {μ : Mem} {ρ : (Int32 × Mem)} (h : f_X10_sheet_62 a1 a2 a3 μ = some ρ) : HT 2 yX10_sheet cX10_sheet 5 (some .int) [.ref 62, .int a1, .int a2, .int a3] μ (some (.int ρ.1)) ρ.2 := by
  refine HT.of (by decide +kernel) (Nat.le_of_ble_eq_true rfl) (fun C => ?_)
  unfold f_X10_sheet_62 at h
  refine wa_iload_n C dX10_sheet_0 rfl ?_
  refine wa_iload_n C dX10_sheet_1 rfl ?_
  obtain ⟨q1, hq1, h⟩ := bd h
  refine wa_callS C (r_X10_isSheet hq1) mk_X10_isSheet ms_X10_isSheet qw_1082 rfl ⟨Nat.le_of_ble_eq_true rfl, Nat.le_of_ble_eq_true rfl⟩ ⟨Nat.zero_le _, Nat.zero_le _⟩ (Nat.le_of_ble_eq_true rfl) dX10_sheet_2 rfl ?_
  refine wa_if_eq (tgt := 14) C dX10_sheet_5 (by decide) (fun c2 => ?_) (fun c2 => ?_)
  · replace h := (if_pos c2).symm.trans h
    refine wa_iconst (v := -1) C dX10_sheet_14 (by decide) ?_
    obtain rfl := Option.some.inj h
    exact wa_iret C dX10_sheet_15
  · replace h := (if_neg c2).symm.trans h
    refine wa_iload_n C dX10_sheet_8 rfl ?_
    refine wa_bipush (v := 40) C dX10_sheet_9 (by decide) ?_
    refine wa_icmp_le (tgt := 16) C dX10_sheet_11 (by decide) (fun c3 => ?_) (fun c3 => ?_)
    · replace h := (if_pos c3).symm.trans h
      refine wa_iload_n C dX10_sheet_16 rfl ?_
      refine wa_if_ge (tgt := 23) C dX10_sheet_17 (by decide) (fun c4 => ?_) (fun c4 => ?_)
      · replace h := (if_pos c4).symm.trans h
        refine wa_aload_n C dX10_sheet_23 rfl ?_
        refine wa_getr C fl_RX10_50 rfl rfl (by decide) dX10_sheet_24 ?_
        refine wa_iload_n C dX10_sheet_27 rfl ?_
        refine wa_iload_n C dX10_sheet_28 rfl ?_
        obtain ⟨g5, h⟩ := gd h
        refine wa_iast (j := (a1.toNatClampNeg)) C rfl (by decide) g5 rfl dX10_sheet_29 ?_
        refine wa_aload_n C dX10_sheet_30 rfl ?_
        refine wa_getr C fl_RX10_53 rfl rfl (by decide) dX10_sheet_31 ?_
        refine wa_iload_n C dX10_sheet_34 rfl ?_
        refine wa_iload_n C dX10_sheet_35 rfl ?_
        obtain ⟨g6, h⟩ := gd h
        refine wa_iast (j := (a1.toNatClampNeg)) C rfl (by decide) g6 rfl dX10_sheet_36 ?_
        refine wa_iconst (v := 0) C dX10_sheet_37 (by decide) ?_
        refine wa_istore C dX10_sheet_38 (by decide) ?_
        exact WA.sub (lsub_c rfl (lsub_c rfl (lsub_c rfl lsub_n))) (r_X10_sheet_62_L40 C _ _ _ _ h)
      · replace h := (if_neg c4).symm.trans h
        refine wa_bipush (v := -14) C dX10_sheet_20 (by decide) ?_
        obtain rfl := Option.some.inj h
        exact wa_iret C dX10_sheet_22
    · replace h := (if_neg c3).symm.trans h
      refine wa_iconst (v := -1) C dX10_sheet_14 (by decide) ?_
      obtain rfl := Option.some.inj h
      exact wa_iret C dX10_sheet_15
def f_X6_isNothing_27 (μ : Mem) : Option (Int32 × Mem) :=
  if 0 ≤ (μ.1 27 1) then
    some ((0 : Int32), μ)
  else
    some ((1 : Int32), μ)
set_option maxRecDepth 100000 in
set_option maxHeartbeats 4000000 in
theorem r_X6_isNothing_27 {μ : Mem} {ρ : (Int32 × Mem)} (h : f_X6_isNothing_27 μ = some ρ) : HT 0 yX6_isNothing cX6_isNothing 1 (some .boolean) [.ref 27] μ (some (.int ρ.1)) ρ.2 := by
  refine HT.of (by decide +kernel) (Nat.le_of_ble_eq_true rfl) (fun C => ?_)
  unfold f_X6_isNothing_27 at h
  refine wa_aload_n C dX6_isNothing_0 rfl ?_
  refine wa_geti (x := (μ.1 27 1)) C fl_RX6_15 rfl rfl (by decide) rfl dX6_isNothing_1 ?_
  refine wa_if_ge (tgt := 11) C dX6_isNothing_4 (by decide) (fun c1 => ?_) (fun c1 => ?_)
  · replace h := (if_pos c1).symm.trans h
    refine wa_iconst (v := 0) C dX6_isNothing_11 (by decide) ?_
    obtain rfl := Option.some.inj h
    exact wa_zret C rfl dX6_isNothing_12
  · replace h := (if_neg c1).symm.trans h
    refine wa_iconst (v := 1) C dX6_isNothing_7 (by decide) ?_
    refine wa_goto (tgt := 12) C dX6_isNothing_8 (by decide) ?_
    obtain rfl := Option.some.inj h
    exact wa_zret C rfl dX6_isNothing_12
def f_X6_faultAt_27_J21 (μ : Mem) : Option (Int32 × Mem) :=
  some ((2 : Int32), μ)
def f_X6_faultAt_27 (a1 : Int32) (μ : Mem) : Option (Int32 × Mem) :=
  (f_X6_isNothing_27 μ).bind fun q1 =>
  if q1.1 = 0 then
    if a1 < 0 then
      f_X6_faultAt_27_J21 q1.2
    else
      if a1 < (q1.2.1 27 1) then
        some ((0 : Int32), q1.2)
      else
        f_X6_faultAt_27_J21 q1.2
  else
    some ((1 : Int32), q1.2)
set_option maxRecDepth 100000 in
set_option maxHeartbeats 4000000 in
theorem r_X6_faultAt_27_J21 {p : Program} {l : Launch} {e : Env} {s : State} {m : MethodId} {args : Array Value} {below : List Frame} {meth : Method} {c : Code} {D : va_G} {cy : Nat → ClassId} {ad : Nat → Nat} (C : CX p s m args meth c cX6_faultAt 2 RX6 (some .int) D cy ad (AD ad)) {μ : Mem} {ρ : (Int32 × Mem)} (h : f_X6_faultAt_27_J21 μ = some ρ) : WA p l e (rmD 1) s m args below meth c 2 D cy ad (AD ad) 0 0 (ZZ below args s D cy ad (AD ad) 0 0 (some (.int ρ.1)) ρ.2) μ [] 21 [] := by
  unfold f_X6_faultAt_27_J21 at h
  refine wa_iconst (v := 2) C dX6_faultAt_21 (by decide) ?_
  refine wa_goto (tgt := 26) C dX6_faultAt_22 (by decide) ?_
  obtain rfl := Option.some.inj h
  exact wa_iret C dX6_faultAt_26
set_option maxRecDepth 100000 in
set_option maxHeartbeats 4000000 in
theorem r_X6_faultAt_27 {a1 : Int32} {μ : Mem} {ρ : (Int32 × Mem)} (h : f_X6_faultAt_27 a1 μ = some ρ) : HT 1 yX6_faultAt cX6_faultAt 2 (some .int) [.ref 27, .int a1] μ (some (.int ρ.1)) ρ.2 := by
  refine HT.of (by decide +kernel) (Nat.le_of_ble_eq_true rfl) (fun C => ?_)
  unfold f_X6_faultAt_27 at h
  refine wa_aload_n C dX6_faultAt_0 rfl ?_
  obtain ⟨q1, hq1, h⟩ := bd h
  refine wa_callV C (r_X6_isNothing_27 hq1) mk_X6_isNothing mv_X6_isNothing qw_1094 rfl (by decide) rfl rfl ⟨Nat.le_of_ble_eq_true rfl, Nat.le_of_ble_eq_true rfl⟩ ⟨Nat.zero_le _, Nat.zero_le _⟩ (Nat.le_of_ble_eq_true rfl) dX6_faultAt_1 rfl ?_
  refine wa_if_eq (tgt := 9) C dX6_faultAt_4 (by decide) (fun c2 => ?_) (fun c2 => ?_)
  · replace h := (if_pos c2).symm.trans h
    refine wa_iload_n C dX6_faultAt_9 rfl ?_
    refine wa_if_lt (tgt := 21) C dX6_faultAt_10 (by decide) (fun c3 => ?_) (fun c3 => ?_)
    · replace h := (if_pos c3).symm.trans h
      exact WA.sub lsub_n (r_X6_faultAt_27_J21 C h)
    · replace h := (if_neg c3).symm.trans h
      refine wa_iload_n C dX6_faultAt_13 rfl ?_
      refine wa_aload_n C dX6_faultAt_14 rfl ?_
      refine wa_geti (x := (q1.2.1 27 1)) C fl_RX6_15 rfl rfl (by decide) rfl dX6_faultAt_15 ?_
      refine wa_icmp_lt (tgt := 25) C dX6_faultAt_18 (by decide) (fun c4 => ?_) (fun c4 => ?_)
      · replace h := (if_pos c4).symm.trans h
        refine wa_iconst (v := 0) C dX6_faultAt_25 (by decide) ?_
        obtain rfl := Option.some.inj h
        exact wa_iret C dX6_faultAt_26
      · replace h := (if_neg c4).symm.trans h
        exact WA.sub lsub_n (r_X6_faultAt_27_J21 C h)
  · replace h := (if_neg c2).symm.trans h
    refine wa_iconst (v := 1) C dX6_faultAt_7 (by decide) ?_
    obtain rfl := Option.some.inj h
    exact wa_iret C dX6_faultAt_8
def f_X6_put_27_J37 (t1 : Int32) (t2 : Int32) (μ : Mem) : Option Mem :=
  if inb t1 40 = false then none else
  some (pI μ 28 (t1.toNatClampNeg) t2)
def f_X6_put_27 (a1 : Int32) (a2 : Int32) (μ : Mem) : Option Mem :=
  if (μ.1 27 0) = 0 then
    if inb a1 40 = false then none else
    some (pI μ 28 (a1.toNatClampNeg) (a2.toInt8.toInt32))
  else
    if (μ.1 27 0) = (1 : Int32) then
      f_X6_put_27_J37 a1 (a2.toInt16.toInt32) μ
    else
      f_X6_put_27_J37 a1 a2 μ
set_option maxRecDepth 100000 in
set_option maxHeartbeats 4000000 in
theorem r_X6_put_27_J37 {p : Program} {l : Launch} {e : Env} {s : State} {m : MethodId} {args : Array Value} {below : List Frame} {meth : Method} {c : Code} {D : va_G} {cy : Nat → ClassId} {ad : Nat → Nat} (C : CX p s m args meth c cX6_put 3 RX6 none D cy ad (AD ad)) {t1 : Int32} {t2 : Int32} {μ : Mem} {ρ : Mem} (h : f_X6_put_27_J37 t1 t2 μ = some ρ) : WA p l e (rmD 0) s m args below meth c 3 D cy ad (AD ad) 0 0 (ZZ below args s D cy ad (AD ad) 0 0 none ρ) μ [] 37 [.int t2, .int t1, .ref 28] := by
  unfold f_X6_put_27_J37 at h
  obtain ⟨g4, h⟩ := gd h
  refine wa_iast (j := (t1.toNatClampNeg)) C rfl (by decide) g4 rfl dX6_put_37 ?_
  obtain rfl := Option.some.inj h
  exact wa_vret C dX6_put_38
set_option maxRecDepth 100000 in
set_option maxHeartbeats 4000000 in
theorem r_X6_put_27 {a1 : Int32} {a2 : Int32} {μ : Mem} {ρ : Mem} (h : f_X6_put_27 a1 a2 μ = some ρ) : HT 0 yX6_put cX6_put 3 none [.ref 27, .int a1, .int a2] μ none ρ := by
  refine HT.of (by decide +kernel) (Nat.le_of_ble_eq_true rfl) (fun C => ?_)
  unfold f_X6_put_27 at h
  refine wa_aload_n C dX6_put_0 rfl ?_
  refine wa_geti (x := (μ.1 27 0)) C fl_RX6_9 rfl rfl (by decide) rfl dX6_put_1 ?_
  refine wa_if_ne (tgt := 18) C dX6_put_4 (by decide) (fun c1 => ?_) (fun c1 => ?_)
  · replace h := (if_neg c1).symm.trans h
    refine wa_aload_n C dX6_put_18 rfl ?_
    refine wa_getr C fl_RX6_18 rfl rfl (by decide) dX6_put_19 ?_
    refine wa_iload_n C dX6_put_22 rfl ?_
    refine wa_aload_n C dX6_put_23 rfl ?_
    refine wa_geti (x := (μ.1 27 0)) C fl_RX6_9 rfl rfl (by decide) rfl dX6_put_24 ?_
    refine wa_iconst (v := 1) C dX6_put_27 (by decide) ?_
    refine wa_icmp_ne (tgt := 36) C dX6_put_28 (by decide) (fun c3 => ?_) (fun c3 => ?_)
    · replace h := (if_neg c3).symm.trans h
      refine wa_iload_n C dX6_put_36 rfl ?_
      exact WA.sub lsub_n (r_X6_put_27_J37 C h)
    · replace h := (if_pos c3).symm.trans h
      refine wa_iload_n C dX6_put_31 rfl ?_
      refine wa_i2s (v := (a2.toInt16.toInt32)) C dX6_put_32 rfl ?_
      refine wa_goto (tgt := 37) C dX6_put_33 (by decide) ?_
      exact WA.sub lsub_n (r_X6_put_27_J37 C h)
  · replace h := (if_pos c1).symm.trans h
    refine wa_aload_n C dX6_put_7 rfl ?_
    refine wa_getr C fl_RX6_18 rfl rfl (by decide) dX6_put_8 ?_
    refine wa_iload_n C dX6_put_11 rfl ?_
    refine wa_iload_n C dX6_put_12 rfl ?_
    refine wa_i2b (v := (a2.toInt8.toInt32)) C dX6_put_13 rfl ?_
    obtain ⟨g2, h⟩ := gd h
    refine wa_iast (j := (a1.toNatClampNeg)) C rfl (by decide) g2 rfl dX6_put_14 ?_
    refine wa_goto (tgt := 38) C dX6_put_15 (by decide) ?_
    obtain rfl := Option.some.inj h
    exact wa_vret C dX6_put_38
def f_X6_put_29_J37 (t1 : Int32) (t2 : Int32) (μ : Mem) : Option Mem :=
  if inb t1 40 = false then none else
  some (pI μ 30 (t1.toNatClampNeg) t2)
def f_X6_put_29 (a1 : Int32) (a2 : Int32) (μ : Mem) : Option Mem :=
  if (μ.1 29 0) = 0 then
    if inb a1 40 = false then none else
    some (pI μ 30 (a1.toNatClampNeg) (a2.toInt8.toInt32))
  else
    if (μ.1 29 0) = (1 : Int32) then
      f_X6_put_29_J37 a1 (a2.toInt16.toInt32) μ
    else
      f_X6_put_29_J37 a1 a2 μ
set_option maxRecDepth 100000 in
set_option maxHeartbeats 4000000 in
theorem r_X6_put_29_J37 {p : Program} {l : Launch} {e : Env} {s : State} {m : MethodId} {args : Array Value} {below : List Frame} {meth : Method} {c : Code} {D : va_G} {cy : Nat → ClassId} {ad : Nat → Nat} (C : CX p s m args meth c cX6_put 3 RX6 none D cy ad (AD ad)) {t1 : Int32} {t2 : Int32} {μ : Mem} {ρ : Mem} (h : f_X6_put_29_J37 t1 t2 μ = some ρ) : WA p l e (rmD 0) s m args below meth c 3 D cy ad (AD ad) 0 0 (ZZ below args s D cy ad (AD ad) 0 0 none ρ) μ [] 37 [.int t2, .int t1, .ref 30] := by
  unfold f_X6_put_29_J37 at h
  obtain ⟨g4, h⟩ := gd h
  refine wa_iast (j := (t1.toNatClampNeg)) C rfl (by decide) g4 rfl dX6_put_37 ?_
  obtain rfl := Option.some.inj h
  exact wa_vret C dX6_put_38
set_option maxRecDepth 100000 in
set_option maxHeartbeats 4000000 in
theorem r_X6_put_29 {a1 : Int32} {a2 : Int32} {μ : Mem} {ρ : Mem} (h : f_X6_put_29 a1 a2 μ = some ρ) : HT 0 yX6_put cX6_put 3 none [.ref 29, .int a1, .int a2] μ none ρ := by
  refine HT.of (by decide +kernel) (Nat.le_of_ble_eq_true rfl) (fun C => ?_)
  unfold f_X6_put_29 at h
  refine wa_aload_n C dX6_put_0 rfl ?_
  refine wa_geti (x := (μ.1 29 0)) C fl_RX6_9 rfl rfl (by decide) rfl dX6_put_1 ?_
  refine wa_if_ne (tgt := 18) C dX6_put_4 (by decide) (fun c1 => ?_) (fun c1 => ?_)
  · replace h := (if_neg c1).symm.trans h
    refine wa_aload_n C dX6_put_18 rfl ?_
    refine wa_getr C fl_RX6_18 rfl rfl (by decide) dX6_put_19 ?_
    refine wa_iload_n C dX6_put_22 rfl ?_
    refine wa_aload_n C dX6_put_23 rfl ?_
    refine wa_geti (x := (μ.1 29 0)) C fl_RX6_9 rfl rfl (by decide) rfl dX6_put_24 ?_
    refine wa_iconst (v := 1) C dX6_put_27 (by decide) ?_
    refine wa_icmp_ne (tgt := 36) C dX6_put_28 (by decide) (fun c3 => ?_) (fun c3 => ?_)
    · replace h := (if_neg c3).symm.trans h
      refine wa_iload_n C dX6_put_36 rfl ?_
      exact WA.sub lsub_n (r_X6_put_29_J37 C h)
    · replace h := (if_pos c3).symm.trans h
      refine wa_iload_n C dX6_put_31 rfl ?_
      refine wa_i2s (v := (a2.toInt16.toInt32)) C dX6_put_32 rfl ?_
      refine wa_goto (tgt := 37) C dX6_put_33 (by decide) ?_
      exact WA.sub lsub_n (r_X6_put_29_J37 C h)
  · replace h := (if_pos c1).symm.trans h
    refine wa_aload_n C dX6_put_7 rfl ?_
    refine wa_getr C fl_RX6_18 rfl rfl (by decide) dX6_put_8 ?_
    refine wa_iload_n C dX6_put_11 rfl ?_
    refine wa_iload_n C dX6_put_12 rfl ?_
    refine wa_i2b (v := (a2.toInt8.toInt32)) C dX6_put_13 rfl ?_
    obtain ⟨g2, h⟩ := gd h
    refine wa_iast (j := (a1.toNatClampNeg)) C rfl (by decide) g2 rfl dX6_put_14 ?_
    refine wa_goto (tgt := 38) C dX6_put_15 (by decide) ?_
    obtain rfl := Option.some.inj h
    exact wa_vret C dX6_put_38
def f_X6_put_31_J37 (t1 : Int32) (t2 : Int32) (μ : Mem) : Option Mem :=
  if inb t1 40 = false then none else
  some (pI μ 32 (t1.toNatClampNeg) t2)
def f_X6_put_31 (a1 : Int32) (a2 : Int32) (μ : Mem) : Option Mem :=
  if (μ.1 31 0) = 0 then
    if inb a1 40 = false then none else
    some (pI μ 32 (a1.toNatClampNeg) (a2.toInt8.toInt32))
  else
    if (μ.1 31 0) = (1 : Int32) then
      f_X6_put_31_J37 a1 (a2.toInt16.toInt32) μ
    else
      f_X6_put_31_J37 a1 a2 μ
set_option maxRecDepth 100000 in
set_option maxHeartbeats 4000000 in
theorem r_X6_put_31_J37 {p : Program} {l : Launch} {e : Env} {s : State} {m : MethodId} {args : Array Value} {below : List Frame} {meth : Method} {c : Code} {D : va_G} {cy : Nat → ClassId} {ad : Nat → Nat} (C : CX p s m args meth c cX6_put 3 RX6 none D cy ad (AD ad)) {t1 : Int32} {t2 : Int32} {μ : Mem} {ρ : Mem} (h : f_X6_put_31_J37 t1 t2 μ = some ρ) : WA p l e (rmD 0) s m args below meth c 3 D cy ad (AD ad) 0 0 (ZZ below args s D cy ad (AD ad) 0 0 none ρ) μ [] 37 [.int t2, .int t1, .ref 32] := by
  unfold f_X6_put_31_J37 at h
  obtain ⟨g4, h⟩ := gd h
  refine wa_iast (j := (t1.toNatClampNeg)) C rfl (by decide) g4 rfl dX6_put_37 ?_
  obtain rfl := Option.some.inj h
  exact wa_vret C dX6_put_38
set_option maxRecDepth 100000 in
set_option maxHeartbeats 4000000 in
theorem r_X6_put_31 {a1 : Int32} {a2 : Int32} {μ : Mem} {ρ : Mem} (h : f_X6_put_31 a1 a2 μ = some ρ) : HT 0 yX6_put cX6_put 3 none [.ref 31, .int a1, .int a2] μ none ρ := by
  refine HT.of (by decide +kernel) (Nat.le_of_ble_eq_true rfl) (fun C => ?_)
  unfold f_X6_put_31 at h
  refine wa_aload_n C dX6_put_0 rfl ?_
  refine wa_geti (x := (μ.1 31 0)) C fl_RX6_9 rfl rfl (by decide) rfl dX6_put_1 ?_
  refine wa_if_ne (tgt := 18) C dX6_put_4 (by decide) (fun c1 => ?_) (fun c1 => ?_)
  · replace h := (if_neg c1).symm.trans h
    refine wa_aload_n C dX6_put_18 rfl ?_
    refine wa_getr C fl_RX6_18 rfl rfl (by decide) dX6_put_19 ?_
    refine wa_iload_n C dX6_put_22 rfl ?_
    refine wa_aload_n C dX6_put_23 rfl ?_
    refine wa_geti (x := (μ.1 31 0)) C fl_RX6_9 rfl rfl (by decide) rfl dX6_put_24 ?_
    refine wa_iconst (v := 1) C dX6_put_27 (by decide) ?_
    refine wa_icmp_ne (tgt := 36) C dX6_put_28 (by decide) (fun c3 => ?_) (fun c3 => ?_)
    · replace h := (if_neg c3).symm.trans h
      refine wa_iload_n C dX6_put_36 rfl ?_
      exact WA.sub lsub_n (r_X6_put_31_J37 C h)
    · replace h := (if_pos c3).symm.trans h
      refine wa_iload_n C dX6_put_31 rfl ?_
      refine wa_i2s (v := (a2.toInt16.toInt32)) C dX6_put_32 rfl ?_
      refine wa_goto (tgt := 37) C dX6_put_33 (by decide) ?_
      exact WA.sub lsub_n (r_X6_put_31_J37 C h)
  · replace h := (if_pos c1).symm.trans h
    refine wa_aload_n C dX6_put_7 rfl ?_
    refine wa_getr C fl_RX6_18 rfl rfl (by decide) dX6_put_8 ?_
    refine wa_iload_n C dX6_put_11 rfl ?_
    refine wa_iload_n C dX6_put_12 rfl ?_
    refine wa_i2b (v := (a2.toInt8.toInt32)) C dX6_put_13 rfl ?_
    obtain ⟨g2, h⟩ := gd h
    refine wa_iast (j := (a1.toNatClampNeg)) C rfl (by decide) g2 rfl dX6_put_14 ?_
    refine wa_goto (tgt := 38) C dX6_put_15 (by decide) ?_
    obtain rfl := Option.some.inj h
    exact wa_vret C dX6_put_38
def f_X6_put_33_J37 (t1 : Int32) (t2 : Int32) (μ : Mem) : Option Mem :=
  if inb t1 40 = false then none else
  some (pI μ 34 (t1.toNatClampNeg) t2)
def f_X6_put_33 (a1 : Int32) (a2 : Int32) (μ : Mem) : Option Mem :=
  if (μ.1 33 0) = 0 then
    if inb a1 40 = false then none else
    some (pI μ 34 (a1.toNatClampNeg) (a2.toInt8.toInt32))
  else
    if (μ.1 33 0) = (1 : Int32) then
      f_X6_put_33_J37 a1 (a2.toInt16.toInt32) μ
    else
      f_X6_put_33_J37 a1 a2 μ
set_option maxRecDepth 100000 in
set_option maxHeartbeats 4000000 in
theorem r_X6_put_33_J37 {p : Program} {l : Launch} {e : Env} {s : State} {m : MethodId} {args : Array Value} {below : List Frame} {meth : Method} {c : Code} {D : va_G} {cy : Nat → ClassId} {ad : Nat → Nat} (C : CX p s m args meth c cX6_put 3 RX6 none D cy ad (AD ad)) {t1 : Int32} {t2 : Int32} {μ : Mem} {ρ : Mem} (h : f_X6_put_33_J37 t1 t2 μ = some ρ) : WA p l e (rmD 0) s m args below meth c 3 D cy ad (AD ad) 0 0 (ZZ below args s D cy ad (AD ad) 0 0 none ρ) μ [] 37 [.int t2, .int t1, .ref 34] := by
  unfold f_X6_put_33_J37 at h
  obtain ⟨g4, h⟩ := gd h
  refine wa_iast (j := (t1.toNatClampNeg)) C rfl (by decide) g4 rfl dX6_put_37 ?_
  obtain rfl := Option.some.inj h
  exact wa_vret C dX6_put_38
set_option maxRecDepth 100000 in
set_option maxHeartbeats 4000000 in
theorem r_X6_put_33 {a1 : Int32} {a2 : Int32} {μ : Mem} {ρ : Mem} (h : f_X6_put_33 a1 a2 μ = some ρ) : HT 0 yX6_put cX6_put 3 none [.ref 33, .int a1, .int a2] μ none ρ := by
  refine HT.of (by decide +kernel) (Nat.le_of_ble_eq_true rfl) (fun C => ?_)
  unfold f_X6_put_33 at h
  refine wa_aload_n C dX6_put_0 rfl ?_
  refine wa_geti (x := (μ.1 33 0)) C fl_RX6_9 rfl rfl (by decide) rfl dX6_put_1 ?_
  refine wa_if_ne (tgt := 18) C dX6_put_4 (by decide) (fun c1 => ?_) (fun c1 => ?_)
  · replace h := (if_neg c1).symm.trans h
    refine wa_aload_n C dX6_put_18 rfl ?_
    refine wa_getr C fl_RX6_18 rfl rfl (by decide) dX6_put_19 ?_
    refine wa_iload_n C dX6_put_22 rfl ?_
    refine wa_aload_n C dX6_put_23 rfl ?_
    refine wa_geti (x := (μ.1 33 0)) C fl_RX6_9 rfl rfl (by decide) rfl dX6_put_24 ?_
    refine wa_iconst (v := 1) C dX6_put_27 (by decide) ?_
    refine wa_icmp_ne (tgt := 36) C dX6_put_28 (by decide) (fun c3 => ?_) (fun c3 => ?_)
    · replace h := (if_neg c3).symm.trans h
      refine wa_iload_n C dX6_put_36 rfl ?_
      exact WA.sub lsub_n (r_X6_put_33_J37 C h)
    · replace h := (if_pos c3).symm.trans h
      refine wa_iload_n C dX6_put_31 rfl ?_
      refine wa_i2s (v := (a2.toInt16.toInt32)) C dX6_put_32 rfl ?_
      refine wa_goto (tgt := 37) C dX6_put_33 (by decide) ?_
      exact WA.sub lsub_n (r_X6_put_33_J37 C h)
  · replace h := (if_pos c1).symm.trans h
    refine wa_aload_n C dX6_put_7 rfl ?_
    refine wa_getr C fl_RX6_18 rfl rfl (by decide) dX6_put_8 ?_
    refine wa_iload_n C dX6_put_11 rfl ?_
    refine wa_iload_n C dX6_put_12 rfl ?_
    refine wa_i2b (v := (a2.toInt8.toInt32)) C dX6_put_13 rfl ?_
    obtain ⟨g2, h⟩ := gd h
    refine wa_iast (j := (a1.toNatClampNeg)) C rfl (by decide) g2 rfl dX6_put_14 ?_
    refine wa_goto (tgt := 38) C dX6_put_15 (by decide) ?_
    obtain rfl := Option.some.inj h
    exact wa_vret C dX6_put_38
def f_X6_isNothing_29 (μ : Mem) : Option (Int32 × Mem) :=
  if 0 ≤ (μ.1 29 1) then
    some ((0 : Int32), μ)
  else
    some ((1 : Int32), μ)
set_option maxRecDepth 100000 in
set_option maxHeartbeats 4000000 in
theorem r_X6_isNothing_29 {μ : Mem} {ρ : (Int32 × Mem)} (h : f_X6_isNothing_29 μ = some ρ) : HT 0 yX6_isNothing cX6_isNothing 1 (some .boolean) [.ref 29] μ (some (.int ρ.1)) ρ.2 := by
  refine HT.of (by decide +kernel) (Nat.le_of_ble_eq_true rfl) (fun C => ?_)
  unfold f_X6_isNothing_29 at h
  refine wa_aload_n C dX6_isNothing_0 rfl ?_
  refine wa_geti (x := (μ.1 29 1)) C fl_RX6_15 rfl rfl (by decide) rfl dX6_isNothing_1 ?_
  refine wa_if_ge (tgt := 11) C dX6_isNothing_4 (by decide) (fun c1 => ?_) (fun c1 => ?_)
  · replace h := (if_pos c1).symm.trans h
    refine wa_iconst (v := 0) C dX6_isNothing_11 (by decide) ?_
    obtain rfl := Option.some.inj h
    exact wa_zret C rfl dX6_isNothing_12
  · replace h := (if_neg c1).symm.trans h
    refine wa_iconst (v := 1) C dX6_isNothing_7 (by decide) ?_
    refine wa_goto (tgt := 12) C dX6_isNothing_8 (by decide) ?_
    obtain rfl := Option.some.inj h
    exact wa_zret C rfl dX6_isNothing_12
def f_X6_faultAt_29_J21 (μ : Mem) : Option (Int32 × Mem) :=
  some ((2 : Int32), μ)
def f_X6_faultAt_29 (a1 : Int32) (μ : Mem) : Option (Int32 × Mem) :=
  (f_X6_isNothing_29 μ).bind fun q1 =>
  if q1.1 = 0 then
    if a1 < 0 then
      f_X6_faultAt_29_J21 q1.2
    else
      if a1 < (q1.2.1 29 1) then
        some ((0 : Int32), q1.2)
      else
        f_X6_faultAt_29_J21 q1.2
  else
    some ((1 : Int32), q1.2)
set_option maxRecDepth 100000 in
set_option maxHeartbeats 4000000 in
theorem r_X6_faultAt_29_J21 {p : Program} {l : Launch} {e : Env} {s : State} {m : MethodId} {args : Array Value} {below : List Frame} {meth : Method} {c : Code} {D : va_G} {cy : Nat → ClassId} {ad : Nat → Nat} (C : CX p s m args meth c cX6_faultAt 2 RX6 (some .int) D cy ad (AD ad)) {μ : Mem} {ρ : (Int32 × Mem)} (h : f_X6_faultAt_29_J21 μ = some ρ) : WA p l e (rmD 1) s m args below meth c 2 D cy ad (AD ad) 0 0 (ZZ below args s D cy ad (AD ad) 0 0 (some (.int ρ.1)) ρ.2) μ [] 21 [] := by
  unfold f_X6_faultAt_29_J21 at h
  refine wa_iconst (v := 2) C dX6_faultAt_21 (by decide) ?_
  refine wa_goto (tgt := 26) C dX6_faultAt_22 (by decide) ?_
  obtain rfl := Option.some.inj h
  exact wa_iret C dX6_faultAt_26
set_option maxRecDepth 100000 in
set_option maxHeartbeats 4000000 in
theorem r_X6_faultAt_29 {a1 : Int32} {μ : Mem} {ρ : (Int32 × Mem)} (h : f_X6_faultAt_29 a1 μ = some ρ) : HT 1 yX6_faultAt cX6_faultAt 2 (some .int) [.ref 29, .int a1] μ (some (.int ρ.1)) ρ.2 := by
  refine HT.of (by decide +kernel) (Nat.le_of_ble_eq_true rfl) (fun C => ?_)
  unfold f_X6_faultAt_29 at h
  refine wa_aload_n C dX6_faultAt_0 rfl ?_
  obtain ⟨q1, hq1, h⟩ := bd h
  refine wa_callV C (r_X6_isNothing_29 hq1) mk_X6_isNothing mv_X6_isNothing qw_1094 rfl (by decide) rfl rfl ⟨Nat.le_of_ble_eq_true rfl, Nat.le_of_ble_eq_true rfl⟩ ⟨Nat.zero_le _, Nat.zero_le _⟩ (Nat.le_of_ble_eq_true rfl) dX6_faultAt_1 rfl ?_
  refine wa_if_eq (tgt := 9) C dX6_faultAt_4 (by decide) (fun c2 => ?_) (fun c2 => ?_)
  · replace h := (if_pos c2).symm.trans h
    refine wa_iload_n C dX6_faultAt_9 rfl ?_
    refine wa_if_lt (tgt := 21) C dX6_faultAt_10 (by decide) (fun c3 => ?_) (fun c3 => ?_)
    · replace h := (if_pos c3).symm.trans h
      exact WA.sub lsub_n (r_X6_faultAt_29_J21 C h)
    · replace h := (if_neg c3).symm.trans h
      refine wa_iload_n C dX6_faultAt_13 rfl ?_
      refine wa_aload_n C dX6_faultAt_14 rfl ?_
      refine wa_geti (x := (q1.2.1 29 1)) C fl_RX6_15 rfl rfl (by decide) rfl dX6_faultAt_15 ?_
      refine wa_icmp_lt (tgt := 25) C dX6_faultAt_18 (by decide) (fun c4 => ?_) (fun c4 => ?_)
      · replace h := (if_pos c4).symm.trans h
        refine wa_iconst (v := 0) C dX6_faultAt_25 (by decide) ?_
        obtain rfl := Option.some.inj h
        exact wa_iret C dX6_faultAt_26
      · replace h := (if_neg c4).symm.trans h
        exact WA.sub lsub_n (r_X6_faultAt_29_J21 C h)
  · replace h := (if_neg c2).symm.trans h
    refine wa_iconst (v := 1) C dX6_faultAt_7 (by decide) ?_
    obtain rfl := Option.some.inj h
    exact wa_iret C dX6_faultAt_8
def f_X6_isNothing_31 (μ : Mem) : Option (Int32 × Mem) :=
  if 0 ≤ (μ.1 31 1) then
    some ((0 : Int32), μ)
  else
    some ((1 : Int32), μ)
set_option maxRecDepth 100000 in
set_option maxHeartbeats 4000000 in
theorem r_X6_isNothing_31 {μ : Mem} {ρ : (Int32 × Mem)} (h : f_X6_isNothing_31 μ = some ρ) : HT 0 yX6_isNothing cX6_isNothing 1 (some .boolean) [.ref 31] μ (some (.int ρ.1)) ρ.2 := by
  refine HT.of (by decide +kernel) (Nat.le_of_ble_eq_true rfl) (fun C => ?_)
  unfold f_X6_isNothing_31 at h
  refine wa_aload_n C dX6_isNothing_0 rfl ?_
  refine wa_geti (x := (μ.1 31 1)) C fl_RX6_15 rfl rfl (by decide) rfl dX6_isNothing_1 ?_
  refine wa_if_ge (tgt := 11) C dX6_isNothing_4 (by decide) (fun c1 => ?_) (fun c1 => ?_)
  · replace h := (if_pos c1).symm.trans h
    refine wa_iconst (v := 0) C dX6_isNothing_11 (by decide) ?_
    obtain rfl := Option.some.inj h
    exact wa_zret C rfl dX6_isNothing_12
  · replace h := (if_neg c1).symm.trans h
    refine wa_iconst (v := 1) C dX6_isNothing_7 (by decide) ?_
    refine wa_goto (tgt := 12) C dX6_isNothing_8 (by decide) ?_
    obtain rfl := Option.some.inj h
    exact wa_zret C rfl dX6_isNothing_12
def f_X6_faultAt_31_J21 (μ : Mem) : Option (Int32 × Mem) :=
  some ((2 : Int32), μ)
def f_X6_faultAt_31 (a1 : Int32) (μ : Mem) : Option (Int32 × Mem) :=
  (f_X6_isNothing_31 μ).bind fun q1 =>
  if q1.1 = 0 then
    if a1 < 0 then
      f_X6_faultAt_31_J21 q1.2
    else
      if a1 < (q1.2.1 31 1) then
        some ((0 : Int32), q1.2)
      else
        f_X6_faultAt_31_J21 q1.2
  else
    some ((1 : Int32), q1.2)
set_option maxRecDepth 100000 in
set_option maxHeartbeats 4000000 in
theorem r_X6_faultAt_31_J21 {p : Program} {l : Launch} {e : Env} {s : State} {m : MethodId} {args : Array Value} {below : List Frame} {meth : Method} {c : Code} {D : va_G} {cy : Nat → ClassId} {ad : Nat → Nat} (C : CX p s m args meth c cX6_faultAt 2 RX6 (some .int) D cy ad (AD ad)) {μ : Mem} {ρ : (Int32 × Mem)} (h : f_X6_faultAt_31_J21 μ = some ρ) : WA p l e (rmD 1) s m args below meth c 2 D cy ad (AD ad) 0 0 (ZZ below args s D cy ad (AD ad) 0 0 (some (.int ρ.1)) ρ.2) μ [] 21 [] := by
  unfold f_X6_faultAt_31_J21 at h
  refine wa_iconst (v := 2) C dX6_faultAt_21 (by decide) ?_
  refine wa_goto (tgt := 26) C dX6_faultAt_22 (by decide) ?_
  obtain rfl := Option.some.inj h
  exact wa_iret C dX6_faultAt_26
set_option maxRecDepth 100000 in
set_option maxHeartbeats 4000000 in
theorem r_X6_faultAt_31 {a1 : Int32} {μ : Mem} {ρ : (Int32 × Mem)} (h : f_X6_faultAt_31 a1 μ = some ρ) : HT 1 yX6_faultAt cX6_faultAt 2 (some .int) [.ref 31, .int a1] μ (some (.int ρ.1)) ρ.2 := by
  refine HT.of (by decide +kernel) (Nat.le_of_ble_eq_true rfl) (fun C => ?_)
  unfold f_X6_faultAt_31 at h
  refine wa_aload_n C dX6_faultAt_0 rfl ?_
  obtain ⟨q1, hq1, h⟩ := bd h
  refine wa_callV C (r_X6_isNothing_31 hq1) mk_X6_isNothing mv_X6_isNothing qw_1094 rfl (by decide) rfl rfl ⟨Nat.le_of_ble_eq_true rfl, Nat.le_of_ble_eq_true rfl⟩ ⟨Nat.zero_le _, Nat.zero_le _⟩ (Nat.le_of_ble_eq_true rfl) dX6_faultAt_1 rfl ?_
  refine wa_if_eq (tgt := 9) C dX6_faultAt_4 (by decide) (fun c2 => ?_) (fun c2 => ?_)
  · replace h := (if_pos c2).symm.trans h
    refine wa_iload_n C dX6_faultAt_9 rfl ?_
    refine wa_if_lt (tgt := 21) C dX6_faultAt_10 (by decide) (fun c3 => ?_) (fun c3 => ?_)
    · replace h := (if_pos c3).symm.trans h
      exact WA.sub lsub_n (r_X6_faultAt_31_J21 C h)
    · replace h := (if_neg c3).symm.trans h
      refine wa_iload_n C dX6_faultAt_13 rfl ?_
      refine wa_aload_n C dX6_faultAt_14 rfl ?_
      refine wa_geti (x := (q1.2.1 31 1)) C fl_RX6_15 rfl rfl (by decide) rfl dX6_faultAt_15 ?_
      refine wa_icmp_lt (tgt := 25) C dX6_faultAt_18 (by decide) (fun c4 => ?_) (fun c4 => ?_)
      · replace h := (if_pos c4).symm.trans h
        refine wa_iconst (v := 0) C dX6_faultAt_25 (by decide) ?_
        obtain rfl := Option.some.inj h
        exact wa_iret C dX6_faultAt_26
      · replace h := (if_neg c4).symm.trans h
        exact WA.sub lsub_n (r_X6_faultAt_31_J21 C h)
  · replace h := (if_neg c2).symm.trans h
    refine wa_iconst (v := 1) C dX6_faultAt_7 (by decide) ?_
    obtain rfl := Option.some.inj h
    exact wa_iret C dX6_faultAt_8
def f_X6_isNothing_33 (μ : Mem) : Option (Int32 × Mem) :=
  if 0 ≤ (μ.1 33 1) then
    some ((0 : Int32), μ)
  else
    some ((1 : Int32), μ)
set_option maxRecDepth 100000 in
set_option maxHeartbeats 4000000 in
theorem r_X6_isNothing_33 {μ : Mem} {ρ : (Int32 × Mem)} (h : f_X6_isNothing_33 μ = some ρ) : HT 0 yX6_isNothing cX6_isNothing 1 (some .boolean) [.ref 33] μ (some (.int ρ.1)) ρ.2 := by
  refine HT.of (by decide +kernel) (Nat.le_of_ble_eq_true rfl) (fun C => ?_)
  unfold f_X6_isNothing_33 at h
  refine wa_aload_n C dX6_isNothing_0 rfl ?_
  refine wa_geti (x := (μ.1 33 1)) C fl_RX6_15 rfl rfl (by decide) rfl dX6_isNothing_1 ?_
  refine wa_if_ge (tgt := 11) C dX6_isNothing_4 (by decide) (fun c1 => ?_) (fun c1 => ?_)
  · replace h := (if_pos c1).symm.trans h
    refine wa_iconst (v := 0) C dX6_isNothing_11 (by decide) ?_
    obtain rfl := Option.some.inj h
    exact wa_zret C rfl dX6_isNothing_12
  · replace h := (if_neg c1).symm.trans h
    refine wa_iconst (v := 1) C dX6_isNothing_7 (by decide) ?_
    refine wa_goto (tgt := 12) C dX6_isNothing_8 (by decide) ?_
    obtain rfl := Option.some.inj h
    exact wa_zret C rfl dX6_isNothing_12
def f_X6_faultAt_33_J21 (μ : Mem) : Option (Int32 × Mem) :=
  some ((2 : Int32), μ)
def f_X6_faultAt_33 (a1 : Int32) (μ : Mem) : Option (Int32 × Mem) :=
  (f_X6_isNothing_33 μ).bind fun q1 =>
  if q1.1 = 0 then
    if a1 < 0 then
      f_X6_faultAt_33_J21 q1.2
    else
      if a1 < (q1.2.1 33 1) then
        some ((0 : Int32), q1.2)
      else
        f_X6_faultAt_33_J21 q1.2
  else
    some ((1 : Int32), q1.2)
set_option maxRecDepth 100000 in
set_option maxHeartbeats 4000000 in
theorem r_X6_faultAt_33_J21 {p : Program} {l : Launch} {e : Env} {s : State} {m : MethodId} {args : Array Value} {below : List Frame} {meth : Method} {c : Code} {D : va_G} {cy : Nat → ClassId} {ad : Nat → Nat} (C : CX p s m args meth c cX6_faultAt 2 RX6 (some .int) D cy ad (AD ad)) {μ : Mem} {ρ : (Int32 × Mem)} (h : f_X6_faultAt_33_J21 μ = some ρ) : WA p l e (rmD 1) s m args below meth c 2 D cy ad (AD ad) 0 0 (ZZ below args s D cy ad (AD ad) 0 0 (some (.int ρ.1)) ρ.2) μ [] 21 [] := by
  unfold f_X6_faultAt_33_J21 at h
  refine wa_iconst (v := 2) C dX6_faultAt_21 (by decide) ?_
  refine wa_goto (tgt := 26) C dX6_faultAt_22 (by decide) ?_
  obtain rfl := Option.some.inj h
  exact wa_iret C dX6_faultAt_26
set_option maxRecDepth 100000 in
set_option maxHeartbeats 4000000 in
theorem r_X6_faultAt_33 {a1 : Int32} {μ : Mem} {ρ : (Int32 × Mem)} (h : f_X6_faultAt_33 a1 μ = some ρ) : HT 1 yX6_faultAt cX6_faultAt 2 (some .int) [.ref 33, .int a1] μ (some (.int ρ.1)) ρ.2 := by
  refine HT.of (by decide +kernel) (Nat.le_of_ble_eq_true rfl) (fun C => ?_)
  unfold f_X6_faultAt_33 at h
  refine wa_aload_n C dX6_faultAt_0 rfl ?_
  obtain ⟨q1, hq1, h⟩ := bd h
  refine wa_callV C (r_X6_isNothing_33 hq1) mk_X6_isNothing mv_X6_isNothing qw_1094 rfl (by decide) rfl rfl ⟨Nat.le_of_ble_eq_true rfl, Nat.le_of_ble_eq_true rfl⟩ ⟨Nat.zero_le _, Nat.zero_le _⟩ (Nat.le_of_ble_eq_true rfl) dX6_faultAt_1 rfl ?_
  refine wa_if_eq (tgt := 9) C dX6_faultAt_4 (by decide) (fun c2 => ?_) (fun c2 => ?_)
  · replace h := (if_pos c2).symm.trans h
    refine wa_iload_n C dX6_faultAt_9 rfl ?_
    refine wa_if_lt (tgt := 21) C dX6_faultAt_10 (by decide) (fun c3 => ?_) (fun c3 => ?_)
    · replace h := (if_pos c3).symm.trans h
      exact WA.sub lsub_n (r_X6_faultAt_33_J21 C h)
    · replace h := (if_neg c3).symm.trans h
      refine wa_iload_n C dX6_faultAt_13 rfl ?_
      refine wa_aload_n C dX6_faultAt_14 rfl ?_
      refine wa_geti (x := (q1.2.1 33 1)) C fl_RX6_15 rfl rfl (by decide) rfl dX6_faultAt_15 ?_
      refine wa_icmp_lt (tgt := 25) C dX6_faultAt_18 (by decide) (fun c4 => ?_) (fun c4 => ?_)
      · replace h := (if_pos c4).symm.trans h
        refine wa_iconst (v := 0) C dX6_faultAt_25 (by decide) ?_
        obtain rfl := Option.some.inj h
        exact wa_iret C dX6_faultAt_26
      · replace h := (if_neg c4).symm.trans h
        exact WA.sub lsub_n (r_X6_faultAt_33_J21 C h)
  · replace h := (if_neg c2).symm.trans h
    refine wa_iconst (v := 1) C dX6_faultAt_7 (by decide) ?_
    obtain rfl := Option.some.inj h
    exact wa_iret C dX6_faultAt_8
def f_X9_lay_0 (a1 : Int32) (a2 : Int32) (a3 : Int32) (μ : Mem) : Option (Int32 × Mem) :=
  (f_X9_isSheet a1 μ).bind fun q1 =>
  if q1.1 = 0 then
    some ((-1 : Int32), q1.2)
  else
    if a1 = 0 then
      (f_X6_faultAt_27 a2 q1.2).bind fun q4 =>
      if q4.1 = 0 then
        if a1 = 0 then
          (f_X6_put_27 a2 a3 q4.2).bind fun q7 =>
          some ((1 : Int32), q7)
        else
        if a1 = 1 then
          (f_X6_put_29 a2 a3 q4.2).bind fun q9 =>
          some ((1 : Int32), q9)
        else
        if a1 = 2 then
          (f_X6_put_31 a2 a3 q4.2).bind fun q11 =>
          some ((1 : Int32), q11)
        else
        if a1 = 3 then
          (f_X6_put_33 a2 a3 q4.2).bind fun q13 =>
          some ((1 : Int32), q13)
        else
        none
      else
        some (((-10 : Int32) - q4.1), q4.2)
    else
    if a1 = 1 then
      (f_X6_faultAt_29 a2 q1.2).bind fun q15 =>
      if q15.1 = 0 then
        if a1 = 0 then
          (f_X6_put_27 a2 a3 q15.2).bind fun q18 =>
          some ((1 : Int32), q18)
        else
        if a1 = 1 then
          (f_X6_put_29 a2 a3 q15.2).bind fun q20 =>
          some ((1 : Int32), q20)
        else
        if a1 = 2 then
          (f_X6_put_31 a2 a3 q15.2).bind fun q22 =>
          some ((1 : Int32), q22)
        else
        if a1 = 3 then
          (f_X6_put_33 a2 a3 q15.2).bind fun q24 =>
          some ((1 : Int32), q24)
        else
        none
      else
        some (((-10 : Int32) - q15.1), q15.2)
    else
    if a1 = 2 then
      (f_X6_faultAt_31 a2 q1.2).bind fun q26 =>
      if q26.1 = 0 then
        if a1 = 0 then
          (f_X6_put_27 a2 a3 q26.2).bind fun q29 =>
          some ((1 : Int32), q29)
        else
        if a1 = 1 then
          (f_X6_put_29 a2 a3 q26.2).bind fun q31 =>
          some ((1 : Int32), q31)
        else
        if a1 = 2 then
          (f_X6_put_31 a2 a3 q26.2).bind fun q33 =>
          some ((1 : Int32), q33)
        else
        if a1 = 3 then
          (f_X6_put_33 a2 a3 q26.2).bind fun q35 =>
          some ((1 : Int32), q35)
        else
        none
      else
        some (((-10 : Int32) - q26.1), q26.2)
    else
    if a1 = 3 then
      (f_X6_faultAt_33 a2 q1.2).bind fun q37 =>
      if q37.1 = 0 then
        if a1 = 0 then
          (f_X6_put_27 a2 a3 q37.2).bind fun q40 =>
          some ((1 : Int32), q40)
        else
        if a1 = 1 then
          (f_X6_put_29 a2 a3 q37.2).bind fun q42 =>
          some ((1 : Int32), q42)
        else
        if a1 = 2 then
          (f_X6_put_31 a2 a3 q37.2).bind fun q44 =>
          some ((1 : Int32), q44)
        else
        if a1 = 3 then
          (f_X6_put_33 a2 a3 q37.2).bind fun q46 =>
          some ((1 : Int32), q46)
        else
        none
      else
        some (((-10 : Int32) - q37.1), q37.2)
    else
    none
set_option maxRecDepth 100000 in
set_option maxHeartbeats 4000000 in
theorem r_X9_lay_0 {a1 : Int32} {a2 : Int32} {a3 : Int32} {μ : Mem} {ρ : (Int32 × Mem)} (h : f_X9_lay_0 a1 a2 a3 μ = some ρ) : HT 2 yX9_lay cX9_lay 5 (some .int) [.ref 0, .int a1, .int a2, .int a3] μ (some (.int ρ.1)) ρ.2 := by
  refine HT.of (by decide +kernel) (Nat.le_of_ble_eq_true rfl) (fun C => ?_)
  unfold f_X9_lay_0 at h
  refine wa_iload_n C dX9_lay_0 rfl ?_
  obtain ⟨q1, hq1, h⟩ := bd h
  refine wa_callS C (r_X9_isSheet hq1) mk_X9_isSheet ms_X9_isSheet qw_1067 rfl ⟨Nat.le_of_ble_eq_true rfl, Nat.le_of_ble_eq_true rfl⟩ ⟨Nat.zero_le _, Nat.zero_le _⟩ (Nat.le_of_ble_eq_true rfl) dX9_lay_1 rfl ?_
  refine wa_if_ne (tgt := 9) C dX9_lay_4 (by decide) (fun c2 => ?_) (fun c2 => ?_)
  · replace h := (if_neg c2).symm.trans h
    refine wa_aload_n C dX9_lay_9 rfl ?_
    refine wa_getr C fl_RX9_30 rfl rfl (by decide) dX9_lay_10 ?_
    refine wa_iload_n C dX9_lay_13 rfl ?_
    by_cases c3 : a1 = 0
    · replace h := (if_pos c3).symm.trans h
      refine wa_aald5 (j := 0) (q := 27) C (by rw [c3]; rfl) (by rw [c3]; rfl) rfl dX9_lay_14 ?_
      refine wa_iload_n C dX9_lay_15 rfl ?_
      obtain ⟨q4, hq4, h⟩ := bd h
      refine wa_callV C (r_X6_faultAt_27 hq4) mk_X6_faultAt mv_X6_faultAt qw_1090 rfl (by decide) rfl rfl ⟨Nat.le_of_ble_eq_true rfl, Nat.le_of_ble_eq_true rfl⟩ ⟨Nat.zero_le _, Nat.zero_le _⟩ (Nat.le_of_ble_eq_true rfl) dX9_lay_16 rfl ?_
      refine wa_istore C dX9_lay_19 (by decide) ?_
      refine wa_iload C dX9_lay_21 rfl ?_
      refine wa_if_eq (tgt := 32) C dX9_lay_23 (by decide) (fun c5 => ?_) (fun c5 => ?_)
      · replace h := (if_pos c5).symm.trans h
        refine wa_aload_n C dX9_lay_32 rfl ?_
        refine wa_getr C fl_RX9_30 rfl rfl (by decide) dX9_lay_33 ?_
        refine wa_iload_n C dX9_lay_36 rfl ?_
        by_cases c6 : a1 = 0
        · replace h := (if_pos c6).symm.trans h
          refine wa_aald5 (j := 0) (q := 27) C (by rw [c6]; rfl) (by rw [c6]; rfl) rfl dX9_lay_37 ?_
          refine wa_iload_n C dX9_lay_38 rfl ?_
          refine wa_iload_n C dX9_lay_39 rfl ?_
          obtain ⟨q7, hq7, h⟩ := bd h
          refine wa_callV C (r_X6_put_27 hq7) mk_X6_put mv_X6_put qw_1098 rfl (by decide) rfl rfl ⟨Nat.le_of_ble_eq_true rfl, Nat.le_of_ble_eq_true rfl⟩ ⟨Nat.zero_le _, Nat.zero_le _⟩ (Nat.le_of_ble_eq_true rfl) dX9_lay_40 rfl ?_
          refine wa_iconst (v := 1) C dX9_lay_43 (by decide) ?_
          obtain rfl := Option.some.inj h
          exact wa_iret C dX9_lay_44
        replace h := (if_neg c6).symm.trans h
        by_cases c8 : a1 = 1
        · replace h := (if_pos c8).symm.trans h
          refine wa_aald5 (j := 1) (q := 29) C (by rw [c8]; rfl) (by rw [c8]; rfl) rfl dX9_lay_37 ?_
          refine wa_iload_n C dX9_lay_38 rfl ?_
          refine wa_iload_n C dX9_lay_39 rfl ?_
          obtain ⟨q9, hq9, h⟩ := bd h
          refine wa_callV C (r_X6_put_29 hq9) mk_X6_put mv_X6_put qw_1098 rfl (by decide) rfl rfl ⟨Nat.le_of_ble_eq_true rfl, Nat.le_of_ble_eq_true rfl⟩ ⟨Nat.zero_le _, Nat.zero_le _⟩ (Nat.le_of_ble_eq_true rfl) dX9_lay_40 rfl ?_
          refine wa_iconst (v := 1) C dX9_lay_43 (by decide) ?_
          obtain rfl := Option.some.inj h
          exact wa_iret C dX9_lay_44
        replace h := (if_neg c8).symm.trans h
        by_cases c10 : a1 = 2
        · replace h := (if_pos c10).symm.trans h
          refine wa_aald5 (j := 2) (q := 31) C (by rw [c10]; rfl) (by rw [c10]; rfl) rfl dX9_lay_37 ?_
          refine wa_iload_n C dX9_lay_38 rfl ?_
          refine wa_iload_n C dX9_lay_39 rfl ?_
          obtain ⟨q11, hq11, h⟩ := bd h
          refine wa_callV C (r_X6_put_31 hq11) mk_X6_put mv_X6_put qw_1098 rfl (by decide) rfl rfl ⟨Nat.le_of_ble_eq_true rfl, Nat.le_of_ble_eq_true rfl⟩ ⟨Nat.zero_le _, Nat.zero_le _⟩ (Nat.le_of_ble_eq_true rfl) dX9_lay_40 rfl ?_
          refine wa_iconst (v := 1) C dX9_lay_43 (by decide) ?_
          obtain rfl := Option.some.inj h
          exact wa_iret C dX9_lay_44
        replace h := (if_neg c10).symm.trans h
        by_cases c12 : a1 = 3
        · replace h := (if_pos c12).symm.trans h
          refine wa_aald5 (j := 3) (q := 33) C (by rw [c12]; rfl) (by rw [c12]; rfl) rfl dX9_lay_37 ?_
          refine wa_iload_n C dX9_lay_38 rfl ?_
          refine wa_iload_n C dX9_lay_39 rfl ?_
          obtain ⟨q13, hq13, h⟩ := bd h
          refine wa_callV C (r_X6_put_33 hq13) mk_X6_put mv_X6_put qw_1098 rfl (by decide) rfl rfl ⟨Nat.le_of_ble_eq_true rfl, Nat.le_of_ble_eq_true rfl⟩ ⟨Nat.zero_le _, Nat.zero_le _⟩ (Nat.le_of_ble_eq_true rfl) dX9_lay_40 rfl ?_
          refine wa_iconst (v := 1) C dX9_lay_43 (by decide) ?_
          obtain rfl := Option.some.inj h
          exact wa_iret C dX9_lay_44
        replace h := (if_neg c12).symm.trans h
        cases h
      · replace h := (if_neg c5).symm.trans h
        refine wa_bipush (v := -10) C dX9_lay_26 (by decide) ?_
        refine wa_iload C dX9_lay_28 rfl ?_
        refine wa_isub C dX9_lay_30 ?_
        obtain rfl := Option.some.inj h
        exact wa_iret C dX9_lay_31
    replace h := (if_neg c3).symm.trans h
    by_cases c14 : a1 = 1
    · replace h := (if_pos c14).symm.trans h
      refine wa_aald5 (j := 1) (q := 29) C (by rw [c14]; rfl) (by rw [c14]; rfl) rfl dX9_lay_14 ?_
      refine wa_iload_n C dX9_lay_15 rfl ?_
      obtain ⟨q15, hq15, h⟩ := bd h
      refine wa_callV C (r_X6_faultAt_29 hq15) mk_X6_faultAt mv_X6_faultAt qw_1090 rfl (by decide) rfl rfl ⟨Nat.le_of_ble_eq_true rfl, Nat.le_of_ble_eq_true rfl⟩ ⟨Nat.zero_le _, Nat.zero_le _⟩ (Nat.le_of_ble_eq_true rfl) dX9_lay_16 rfl ?_
      refine wa_istore C dX9_lay_19 (by decide) ?_
      refine wa_iload C dX9_lay_21 rfl ?_
      refine wa_if_eq (tgt := 32) C dX9_lay_23 (by decide) (fun c16 => ?_) (fun c16 => ?_)
      · replace h := (if_pos c16).symm.trans h
        refine wa_aload_n C dX9_lay_32 rfl ?_
        refine wa_getr C fl_RX9_30 rfl rfl (by decide) dX9_lay_33 ?_
        refine wa_iload_n C dX9_lay_36 rfl ?_
        by_cases c17 : a1 = 0
        · replace h := (if_pos c17).symm.trans h
          refine wa_aald5 (j := 0) (q := 27) C (by rw [c17]; rfl) (by rw [c17]; rfl) rfl dX9_lay_37 ?_
          refine wa_iload_n C dX9_lay_38 rfl ?_
          refine wa_iload_n C dX9_lay_39 rfl ?_
          obtain ⟨q18, hq18, h⟩ := bd h
          refine wa_callV C (r_X6_put_27 hq18) mk_X6_put mv_X6_put qw_1098 rfl (by decide) rfl rfl ⟨Nat.le_of_ble_eq_true rfl, Nat.le_of_ble_eq_true rfl⟩ ⟨Nat.zero_le _, Nat.zero_le _⟩ (Nat.le_of_ble_eq_true rfl) dX9_lay_40 rfl ?_
          refine wa_iconst (v := 1) C dX9_lay_43 (by decide) ?_
          obtain rfl := Option.some.inj h
          exact wa_iret C dX9_lay_44
        replace h := (if_neg c17).symm.trans h
        by_cases c19 : a1 = 1
        · replace h := (if_pos c19).symm.trans h
          refine wa_aald5 (j := 1) (q := 29) C (by rw [c19]; rfl) (by rw [c19]; rfl) rfl dX9_lay_37 ?_
          refine wa_iload_n C dX9_lay_38 rfl ?_
          refine wa_iload_n C dX9_lay_39 rfl ?_
          obtain ⟨q20, hq20, h⟩ := bd h
          refine wa_callV C (r_X6_put_29 hq20) mk_X6_put mv_X6_put qw_1098 rfl (by decide) rfl rfl ⟨Nat.le_of_ble_eq_true rfl, Nat.le_of_ble_eq_true rfl⟩ ⟨Nat.zero_le _, Nat.zero_le _⟩ (Nat.le_of_ble_eq_true rfl) dX9_lay_40 rfl ?_
          refine wa_iconst (v := 1) C dX9_lay_43 (by decide) ?_
          obtain rfl := Option.some.inj h
          exact wa_iret C dX9_lay_44
        replace h := (if_neg c19).symm.trans h
        by_cases c21 : a1 = 2
        · replace h := (if_pos c21).symm.trans h
          refine wa_aald5 (j := 2) (q := 31) C (by rw [c21]; rfl) (by rw [c21]; rfl) rfl dX9_lay_37 ?_
          refine wa_iload_n C dX9_lay_38 rfl ?_
          refine wa_iload_n C dX9_lay_39 rfl ?_
          obtain ⟨q22, hq22, h⟩ := bd h
          refine wa_callV C (r_X6_put_31 hq22) mk_X6_put mv_X6_put qw_1098 rfl (by decide) rfl rfl ⟨Nat.le_of_ble_eq_true rfl, Nat.le_of_ble_eq_true rfl⟩ ⟨Nat.zero_le _, Nat.zero_le _⟩ (Nat.le_of_ble_eq_true rfl) dX9_lay_40 rfl ?_
          refine wa_iconst (v := 1) C dX9_lay_43 (by decide) ?_
          obtain rfl := Option.some.inj h
          exact wa_iret C dX9_lay_44
        replace h := (if_neg c21).symm.trans h
        by_cases c23 : a1 = 3
        · replace h := (if_pos c23).symm.trans h
          refine wa_aald5 (j := 3) (q := 33) C (by rw [c23]; rfl) (by rw [c23]; rfl) rfl dX9_lay_37 ?_
          refine wa_iload_n C dX9_lay_38 rfl ?_
          refine wa_iload_n C dX9_lay_39 rfl ?_
          obtain ⟨q24, hq24, h⟩ := bd h
          refine wa_callV C (r_X6_put_33 hq24) mk_X6_put mv_X6_put qw_1098 rfl (by decide) rfl rfl ⟨Nat.le_of_ble_eq_true rfl, Nat.le_of_ble_eq_true rfl⟩ ⟨Nat.zero_le _, Nat.zero_le _⟩ (Nat.le_of_ble_eq_true rfl) dX9_lay_40 rfl ?_
          refine wa_iconst (v := 1) C dX9_lay_43 (by decide) ?_
          obtain rfl := Option.some.inj h
          exact wa_iret C dX9_lay_44
        replace h := (if_neg c23).symm.trans h
        cases h
      · replace h := (if_neg c16).symm.trans h
        refine wa_bipush (v := -10) C dX9_lay_26 (by decide) ?_
        refine wa_iload C dX9_lay_28 rfl ?_
        refine wa_isub C dX9_lay_30 ?_
        obtain rfl := Option.some.inj h
        exact wa_iret C dX9_lay_31
    replace h := (if_neg c14).symm.trans h
    by_cases c25 : a1 = 2
    · replace h := (if_pos c25).symm.trans h
      refine wa_aald5 (j := 2) (q := 31) C (by rw [c25]; rfl) (by rw [c25]; rfl) rfl dX9_lay_14 ?_
      refine wa_iload_n C dX9_lay_15 rfl ?_
      obtain ⟨q26, hq26, h⟩ := bd h
      refine wa_callV C (r_X6_faultAt_31 hq26) mk_X6_faultAt mv_X6_faultAt qw_1090 rfl (by decide) rfl rfl ⟨Nat.le_of_ble_eq_true rfl, Nat.le_of_ble_eq_true rfl⟩ ⟨Nat.zero_le _, Nat.zero_le _⟩ (Nat.le_of_ble_eq_true rfl) dX9_lay_16 rfl ?_
      refine wa_istore C dX9_lay_19 (by decide) ?_
      refine wa_iload C dX9_lay_21 rfl ?_
      refine wa_if_eq (tgt := 32) C dX9_lay_23 (by decide) (fun c27 => ?_) (fun c27 => ?_)
      · replace h := (if_pos c27).symm.trans h
        refine wa_aload_n C dX9_lay_32 rfl ?_
        refine wa_getr C fl_RX9_30 rfl rfl (by decide) dX9_lay_33 ?_
        refine wa_iload_n C dX9_lay_36 rfl ?_
        by_cases c28 : a1 = 0
        · replace h := (if_pos c28).symm.trans h
          refine wa_aald5 (j := 0) (q := 27) C (by rw [c28]; rfl) (by rw [c28]; rfl) rfl dX9_lay_37 ?_
          refine wa_iload_n C dX9_lay_38 rfl ?_
          refine wa_iload_n C dX9_lay_39 rfl ?_
          obtain ⟨q29, hq29, h⟩ := bd h
          refine wa_callV C (r_X6_put_27 hq29) mk_X6_put mv_X6_put qw_1098 rfl (by decide) rfl rfl ⟨Nat.le_of_ble_eq_true rfl, Nat.le_of_ble_eq_true rfl⟩ ⟨Nat.zero_le _, Nat.zero_le _⟩ (Nat.le_of_ble_eq_true rfl) dX9_lay_40 rfl ?_
          refine wa_iconst (v := 1) C dX9_lay_43 (by decide) ?_
          obtain rfl := Option.some.inj h
          exact wa_iret C dX9_lay_44
        replace h := (if_neg c28).symm.trans h
        by_cases c30 : a1 = 1
        · replace h := (if_pos c30).symm.trans h
          refine wa_aald5 (j := 1) (q := 29) C (by rw [c30]; rfl) (by rw [c30]; rfl) rfl dX9_lay_37 ?_
          refine wa_iload_n C dX9_lay_38 rfl ?_
          refine wa_iload_n C dX9_lay_39 rfl ?_
          obtain ⟨q31, hq31, h⟩ := bd h
          refine wa_callV C (r_X6_put_29 hq31) mk_X6_put mv_X6_put qw_1098 rfl (by decide) rfl rfl ⟨Nat.le_of_ble_eq_true rfl, Nat.le_of_ble_eq_true rfl⟩ ⟨Nat.zero_le _, Nat.zero_le _⟩ (Nat.le_of_ble_eq_true rfl) dX9_lay_40 rfl ?_
          refine wa_iconst (v := 1) C dX9_lay_43 (by decide) ?_
          obtain rfl := Option.some.inj h
          exact wa_iret C dX9_lay_44
        replace h := (if_neg c30).symm.trans h
        by_cases c32 : a1 = 2
        · replace h := (if_pos c32).symm.trans h
          refine wa_aald5 (j := 2) (q := 31) C (by rw [c32]; rfl) (by rw [c32]; rfl) rfl dX9_lay_37 ?_
          refine wa_iload_n C dX9_lay_38 rfl ?_
          refine wa_iload_n C dX9_lay_39 rfl ?_
          obtain ⟨q33, hq33, h⟩ := bd h
          refine wa_callV C (r_X6_put_31 hq33) mk_X6_put mv_X6_put qw_1098 rfl (by decide) rfl rfl ⟨Nat.le_of_ble_eq_true rfl, Nat.le_of_ble_eq_true rfl⟩ ⟨Nat.zero_le _, Nat.zero_le _⟩ (Nat.le_of_ble_eq_true rfl) dX9_lay_40 rfl ?_
          refine wa_iconst (v := 1) C dX9_lay_43 (by decide) ?_
          obtain rfl := Option.some.inj h
          exact wa_iret C dX9_lay_44
        replace h := (if_neg c32).symm.trans h
        by_cases c34 : a1 = 3
        · replace h := (if_pos c34).symm.trans h
          refine wa_aald5 (j := 3) (q := 33) C (by rw [c34]; rfl) (by rw [c34]; rfl) rfl dX9_lay_37 ?_
          refine wa_iload_n C dX9_lay_38 rfl ?_
          refine wa_iload_n C dX9_lay_39 rfl ?_
          obtain ⟨q35, hq35, h⟩ := bd h
          refine wa_callV C (r_X6_put_33 hq35) mk_X6_put mv_X6_put qw_1098 rfl (by decide) rfl rfl ⟨Nat.le_of_ble_eq_true rfl, Nat.le_of_ble_eq_true rfl⟩ ⟨Nat.zero_le _, Nat.zero_le _⟩ (Nat.le_of_ble_eq_true rfl) dX9_lay_40 rfl ?_
          refine wa_iconst (v := 1) C dX9_lay_43 (by decide) ?_
          obtain rfl := Option.some.inj h
          exact wa_iret C dX9_lay_44
        replace h := (if_neg c34).symm.trans h
        cases h
      · replace h := (if_neg c27).symm.trans h
        refine wa_bipush (v := -10) C dX9_lay_26 (by decide) ?_
        refine wa_iload C dX9_lay_28 rfl ?_
        refine wa_isub C dX9_lay_30 ?_
        obtain rfl := Option.some.inj h
        exact wa_iret C dX9_lay_31
    replace h := (if_neg c25).symm.trans h
    by_cases c36 : a1 = 3
    · replace h := (if_pos c36).symm.trans h
      refine wa_aald5 (j := 3) (q := 33) C (by rw [c36]; rfl) (by rw [c36]; rfl) rfl dX9_lay_14 ?_
      refine wa_iload_n C dX9_lay_15 rfl ?_
      obtain ⟨q37, hq37, h⟩ := bd h
      refine wa_callV C (r_X6_faultAt_33 hq37) mk_X6_faultAt mv_X6_faultAt qw_1090 rfl (by decide) rfl rfl ⟨Nat.le_of_ble_eq_true rfl, Nat.le_of_ble_eq_true rfl⟩ ⟨Nat.zero_le _, Nat.zero_le _⟩ (Nat.le_of_ble_eq_true rfl) dX9_lay_16 rfl ?_
      refine wa_istore C dX9_lay_19 (by decide) ?_
      refine wa_iload C dX9_lay_21 rfl ?_
      refine wa_if_eq (tgt := 32) C dX9_lay_23 (by decide) (fun c38 => ?_) (fun c38 => ?_)
      · replace h := (if_pos c38).symm.trans h
        refine wa_aload_n C dX9_lay_32 rfl ?_
        refine wa_getr C fl_RX9_30 rfl rfl (by decide) dX9_lay_33 ?_
        refine wa_iload_n C dX9_lay_36 rfl ?_
        by_cases c39 : a1 = 0
        · replace h := (if_pos c39).symm.trans h
          refine wa_aald5 (j := 0) (q := 27) C (by rw [c39]; rfl) (by rw [c39]; rfl) rfl dX9_lay_37 ?_
          refine wa_iload_n C dX9_lay_38 rfl ?_
          refine wa_iload_n C dX9_lay_39 rfl ?_
          obtain ⟨q40, hq40, h⟩ := bd h
          refine wa_callV C (r_X6_put_27 hq40) mk_X6_put mv_X6_put qw_1098 rfl (by decide) rfl rfl ⟨Nat.le_of_ble_eq_true rfl, Nat.le_of_ble_eq_true rfl⟩ ⟨Nat.zero_le _, Nat.zero_le _⟩ (Nat.le_of_ble_eq_true rfl) dX9_lay_40 rfl ?_
          refine wa_iconst (v := 1) C dX9_lay_43 (by decide) ?_
          obtain rfl := Option.some.inj h
          exact wa_iret C dX9_lay_44
        replace h := (if_neg c39).symm.trans h
        by_cases c41 : a1 = 1
        · replace h := (if_pos c41).symm.trans h
          refine wa_aald5 (j := 1) (q := 29) C (by rw [c41]; rfl) (by rw [c41]; rfl) rfl dX9_lay_37 ?_
          refine wa_iload_n C dX9_lay_38 rfl ?_
          refine wa_iload_n C dX9_lay_39 rfl ?_
          obtain ⟨q42, hq42, h⟩ := bd h
          refine wa_callV C (r_X6_put_29 hq42) mk_X6_put mv_X6_put qw_1098 rfl (by decide) rfl rfl ⟨Nat.le_of_ble_eq_true rfl, Nat.le_of_ble_eq_true rfl⟩ ⟨Nat.zero_le _, Nat.zero_le _⟩ (Nat.le_of_ble_eq_true rfl) dX9_lay_40 rfl ?_
          refine wa_iconst (v := 1) C dX9_lay_43 (by decide) ?_
          obtain rfl := Option.some.inj h
          exact wa_iret C dX9_lay_44
        replace h := (if_neg c41).symm.trans h
        by_cases c43 : a1 = 2
        · replace h := (if_pos c43).symm.trans h
          refine wa_aald5 (j := 2) (q := 31) C (by rw [c43]; rfl) (by rw [c43]; rfl) rfl dX9_lay_37 ?_
          refine wa_iload_n C dX9_lay_38 rfl ?_
          refine wa_iload_n C dX9_lay_39 rfl ?_
          obtain ⟨q44, hq44, h⟩ := bd h
          refine wa_callV C (r_X6_put_31 hq44) mk_X6_put mv_X6_put qw_1098 rfl (by decide) rfl rfl ⟨Nat.le_of_ble_eq_true rfl, Nat.le_of_ble_eq_true rfl⟩ ⟨Nat.zero_le _, Nat.zero_le _⟩ (Nat.le_of_ble_eq_true rfl) dX9_lay_40 rfl ?_
          refine wa_iconst (v := 1) C dX9_lay_43 (by decide) ?_
          obtain rfl := Option.some.inj h
          exact wa_iret C dX9_lay_44
        replace h := (if_neg c43).symm.trans h
        by_cases c45 : a1 = 3
        · replace h := (if_pos c45).symm.trans h
          refine wa_aald5 (j := 3) (q := 33) C (by rw [c45]; rfl) (by rw [c45]; rfl) rfl dX9_lay_37 ?_
          refine wa_iload_n C dX9_lay_38 rfl ?_
          refine wa_iload_n C dX9_lay_39 rfl ?_
          obtain ⟨q46, hq46, h⟩ := bd h
          refine wa_callV C (r_X6_put_33 hq46) mk_X6_put mv_X6_put qw_1098 rfl (by decide) rfl rfl ⟨Nat.le_of_ble_eq_true rfl, Nat.le_of_ble_eq_true rfl⟩ ⟨Nat.zero_le _, Nat.zero_le _⟩ (Nat.le_of_ble_eq_true rfl) dX9_lay_40 rfl ?_
          refine wa_iconst (v := 1) C dX9_lay_43 (by decide) ?_
          obtain rfl := Option.some.inj h
          exact wa_iret C dX9_lay_44
        replace h := (if_neg c45).symm.trans h
        cases h
      · replace h := (if_neg c38).symm.trans h
        refine wa_bipush (v := -10) C dX9_lay_26 (by decide) ?_
        refine wa_iload C dX9_lay_28 rfl ?_
        refine wa_isub C dX9_lay_30 ?_
        obtain rfl := Option.some.inj h
        exact wa_iret C dX9_lay_31
    replace h := (if_neg c36).symm.trans h
    cases h
  · replace h := (if_pos c2).symm.trans h
    refine wa_iconst (v := -1) C dX9_lay_7 (by decide) ?_
    obtain rfl := Option.some.inj h
    exact wa_iret C dX9_lay_8
def f_X10_lay_62_J85 (t1 : Int32) (t2 : Int32) (μ : Mem) : Option (Int32 × Mem) :=
  if inb t1 160 = false then none else
  some ((1 : Int32), (pI μ 78 (t1.toNatClampNeg) t2))
def f_X10_lay_62 (a1 : Int32) (a2 : Int32) (a3 : Int32) (μ : Mem) : Option (Int32 × Mem) :=
  (f_X10_isSheet a1 (0 : Int32) μ).bind fun q1 =>
  if q1.1 = 0 then
    some ((-1 : Int32), q1.2)
  else
    if inb a1 4 = false then none else
    if (q1.2.1 76 (a1.toNatClampNeg)) = (-4 : Int32) then
      some ((-11 : Int32), q1.2)
    else
      if inb a1 4 = false then none else
      (f_X10_in (a2.toInt64) (0 : Int64) (((q1.2.1 77 (a1.toNatClampNeg)) - (1 : Int32)).toInt64) q1.2).bind fun q6 =>
      if q6.1 = 0 then
        some ((-12 : Int32), q6.2)
      else
        if inb a1 4 = false then none else
        if (q6.2.1 76 (a1.toNatClampNeg)) = 0 then
          f_X10_lay_62_J85 (((40 : Int32) * a1) + a2) (a3.toInt8.toInt32) q6.2
        else
          if inb a1 4 = false then none else
          if (q6.2.1 76 (a1.toNatClampNeg)) = (1 : Int32) then
            f_X10_lay_62_J85 (((40 : Int32) * a1) + a2) (a3.toInt16.toInt32) q6.2
          else
            f_X10_lay_62_J85 (((40 : Int32) * a1) + a2) a3 q6.2
set_option maxRecDepth 100000 in
set_option maxHeartbeats 4000000 in
theorem r_X10_lay_62_J85 {p : Program} {l : Launch} {e : Env} {s : State} {m : MethodId} {args : Array Value} {below : List Frame} {meth : Method} {c : Code} {D : va_G} {cy : Nat → ClassId} {ad : Nat → Nat} (C : CX p s m args meth c cX10_lay 4 RX10 (some .int) D cy ad (AD ad)) {t1 : Int32} {t2 : Int32} {μ : Mem} {ρ : (Int32 × Mem)} (h : f_X10_lay_62_J85 t1 t2 μ = some ρ) : WA p l e (rmD 2) s m args below meth c 4 D cy ad (AD ad) 0 0 (ZZ below args s D cy ad (AD ad) 0 0 (some (.int ρ.1)) ρ.2) μ [] 85 [.int t2, .int t1, .ref 78] := by
  unfold f_X10_lay_62_J85 at h
  obtain ⟨g10, h⟩ := gd h
  refine wa_iast (j := (t1.toNatClampNeg)) C rfl (by decide) g10 rfl dX10_lay_85 ?_
  refine wa_iconst (v := 1) C dX10_lay_86 (by decide) ?_
  obtain rfl := Option.some.inj h
  exact wa_iret C dX10_lay_87
set_option maxRecDepth 100000 in
set_option maxHeartbeats 4000000 in
theorem r_X10_lay_62 {a1 : Int32} {a2 : Int32} {a3 : Int32} {μ : Mem} {ρ : (Int32 × Mem)} (h : f_X10_lay_62 a1 a2 a3 μ = some ρ) : HT 2 yX10_lay cX10_lay 4 (some .int) [.ref 62, .int a1, .int a2, .int a3] μ (some (.int ρ.1)) ρ.2 := by
  refine HT.of (by decide +kernel) (Nat.le_of_ble_eq_true rfl) (fun C => ?_)
  unfold f_X10_lay_62 at h
  refine wa_iload_n C dX10_lay_0 rfl ?_
  refine wa_iconst (v := 0) C dX10_lay_1 (by decide) ?_
  obtain ⟨q1, hq1, h⟩ := bd h
  refine wa_callS C (r_X10_isSheet hq1) mk_X10_isSheet ms_X10_isSheet qw_1082 rfl ⟨Nat.le_of_ble_eq_true rfl, Nat.le_of_ble_eq_true rfl⟩ ⟨Nat.zero_le _, Nat.zero_le _⟩ (Nat.le_of_ble_eq_true rfl) dX10_lay_2 rfl ?_
  refine wa_if_ne (tgt := 10) C dX10_lay_5 (by decide) (fun c2 => ?_) (fun c2 => ?_)
  · replace h := (if_neg c2).symm.trans h
    refine wa_aload_n C dX10_lay_10 rfl ?_
    refine wa_getr C fl_RX10_50 rfl rfl (by decide) dX10_lay_11 ?_
    refine wa_iload_n C dX10_lay_14 rfl ?_
    obtain ⟨g3, h⟩ := gd h
    refine wa_iald (j := (a1.toNatClampNeg)) (x := (q1.2.1 76 (a1.toNatClampNeg))) C rfl (by decide) g3 rfl rfl dX10_lay_15 ?_
    refine wa_bipush (v := -4) C dX10_lay_16 (by decide) ?_
    refine wa_icmp_ne (tgt := 24) C dX10_lay_18 (by decide) (fun c4 => ?_) (fun c4 => ?_)
    · replace h := (if_neg c4).symm.trans h
      refine wa_iload_n C dX10_lay_24 rfl ?_
      refine wa_i2l (v := (a2.toInt64)) C dX10_lay_25 rfl ?_
      refine wa_lconst (v := 0) C dX10_lay_26 (by decide) ?_
      refine wa_aload_n C dX10_lay_27 rfl ?_
      refine wa_getr C fl_RX10_53 rfl rfl (by decide) dX10_lay_28 ?_
      refine wa_iload_n C dX10_lay_31 rfl ?_
      obtain ⟨g5, h⟩ := gd h
      refine wa_iald (j := (a1.toNatClampNeg)) (x := (q1.2.1 77 (a1.toNatClampNeg))) C rfl (by decide) g5 rfl rfl dX10_lay_32 ?_
      refine wa_iconst (v := 1) C dX10_lay_33 (by decide) ?_
      refine wa_isub C dX10_lay_34 ?_
      refine wa_i2l (v := (((q1.2.1 77 (a1.toNatClampNeg)) - (1 : Int32)).toInt64)) C dX10_lay_35 rfl ?_
      obtain ⟨q6, hq6, h⟩ := bd h
      refine wa_callS C (r_X10_in hq6) mk_X10_in ms_X10_in qw_198 rfl ⟨Nat.le_of_ble_eq_true rfl, Nat.le_of_ble_eq_true rfl⟩ ⟨Nat.zero_le _, Nat.zero_le _⟩ (Nat.le_of_ble_eq_true rfl) dX10_lay_36 rfl ?_
      refine wa_if_ne (tgt := 45) C dX10_lay_39 (by decide) (fun c7 => ?_) (fun c7 => ?_)
      · replace h := (if_neg c7).symm.trans h
        refine wa_aload_n C dX10_lay_45 rfl ?_
        refine wa_getr C fl_RX10_56 rfl rfl (by decide) dX10_lay_46 ?_
        refine wa_bipush (v := 40) C dX10_lay_49 (by decide) ?_
        refine wa_iload_n C dX10_lay_51 rfl ?_
        refine wa_imul C dX10_lay_52 ?_
        refine wa_iload_n C dX10_lay_53 rfl ?_
        refine wa_iadd C dX10_lay_54 ?_
        refine wa_aload_n C dX10_lay_55 rfl ?_
        refine wa_getr C fl_RX10_50 rfl rfl (by decide) dX10_lay_56 ?_
        refine wa_iload_n C dX10_lay_59 rfl ?_
        obtain ⟨g8, h⟩ := gd h
        refine wa_iald (j := (a1.toNatClampNeg)) (x := (q6.2.1 76 (a1.toNatClampNeg))) C rfl (by decide) g8 rfl rfl dX10_lay_60 ?_
        refine wa_if_ne (tgt := 69) C dX10_lay_61 (by decide) (fun c9 => ?_) (fun c9 => ?_)
        · replace h := (if_neg c9).symm.trans h
          refine wa_aload_n C dX10_lay_69 rfl ?_
          refine wa_getr C fl_RX10_50 rfl rfl (by decide) dX10_lay_70 ?_
          refine wa_iload_n C dX10_lay_73 rfl ?_
          obtain ⟨g11, h⟩ := gd h
          refine wa_iald (j := (a1.toNatClampNeg)) (x := (q6.2.1 76 (a1.toNatClampNeg))) C rfl (by decide) g11 rfl rfl dX10_lay_74 ?_
          refine wa_iconst (v := 1) C dX10_lay_75 (by decide) ?_
          refine wa_icmp_ne (tgt := 84) C dX10_lay_76 (by decide) (fun c12 => ?_) (fun c12 => ?_)
          · replace h := (if_neg c12).symm.trans h
            refine wa_iload_n C dX10_lay_84 rfl ?_
            exact WA.sub lsub_n (r_X10_lay_62_J85 C h)
          · replace h := (if_pos c12).symm.trans h
            refine wa_iload_n C dX10_lay_79 rfl ?_
            refine wa_i2s (v := (a3.toInt16.toInt32)) C dX10_lay_80 rfl ?_
            refine wa_goto (tgt := 85) C dX10_lay_81 (by decide) ?_
            exact WA.sub lsub_n (r_X10_lay_62_J85 C h)
        · replace h := (if_pos c9).symm.trans h
          refine wa_iload_n C dX10_lay_64 rfl ?_
          refine wa_i2b (v := (a3.toInt8.toInt32)) C dX10_lay_65 rfl ?_
          refine wa_goto (tgt := 85) C dX10_lay_66 (by decide) ?_
          exact WA.sub lsub_n (r_X10_lay_62_J85 C h)
      · replace h := (if_pos c7).symm.trans h
        refine wa_bipush (v := -12) C dX10_lay_42 (by decide) ?_
        obtain rfl := Option.some.inj h
        exact wa_iret C dX10_lay_44
    · replace h := (if_pos c4).symm.trans h
      refine wa_bipush (v := -11) C dX10_lay_21 (by decide) ?_
      obtain rfl := Option.some.inj h
      exact wa_iret C dX10_lay_23
  · replace h := (if_pos c2).symm.trans h
    refine wa_iconst (v := -1) C dX10_lay_8 (by decide) ?_
    obtain rfl := Option.some.inj h
    exact wa_iret C dX10_lay_9
def f_X6_faultOfPair_27 (a1 : Int32) (a2 : Int32) (a3 : Int32) (μ : Mem) : Option (Int32 × Mem) :=
  (f_X6_isNothing_27 μ).bind fun q1 =>
  if q1.1 = 0 then
    if a1 = (q1.2.1 27 0) then
      if a2 < 0 then
        some ((2 : Int32), q1.2)
      else
        if a2 < (q1.2.1 27 1) then
          (f_X6_faultAt_27 ((a2 + ((2 : Int32) * a3)) + (1 : Int32)) q1.2).bind fun q6 =>
          some (q6.1, q6.2)
        else
          some ((2 : Int32), q1.2)
    else
      some ((3 : Int32), q1.2)
  else
    some ((1 : Int32), q1.2)
set_option maxRecDepth 100000 in
set_option maxHeartbeats 4000000 in
theorem r_X6_faultOfPair_27 {a1 : Int32} {a2 : Int32} {a3 : Int32} {μ : Mem} {ρ : (Int32 × Mem)} (h : f_X6_faultOfPair_27 a1 a2 a3 μ = some ρ) : HT 2 yX6_faultOfPair cX6_faultOfPair 4 (some .int) [.ref 27, .int a1, .int a2, .int a3] μ (some (.int ρ.1)) ρ.2 := by
  refine HT.of (by decide +kernel) (Nat.le_of_ble_eq_true rfl) (fun C => ?_)
  unfold f_X6_faultOfPair_27 at h
  refine wa_aload_n C dX6_faultOfPair_0 rfl ?_
  obtain ⟨q1, hq1, h⟩ := bd h
  refine wa_callV C (r_X6_isNothing_27 hq1) mk_X6_isNothing mv_X6_isNothing qw_1094 rfl (by decide) rfl rfl ⟨Nat.le_of_ble_eq_true rfl, Nat.le_of_ble_eq_true rfl⟩ ⟨Nat.zero_le _, Nat.zero_le _⟩ (Nat.le_of_ble_eq_true rfl) dX6_faultOfPair_1 rfl ?_
  refine wa_if_eq (tgt := 9) C dX6_faultOfPair_4 (by decide) (fun c2 => ?_) (fun c2 => ?_)
  · replace h := (if_pos c2).symm.trans h
    refine wa_iload_n C dX6_faultOfPair_9 rfl ?_
    refine wa_aload_n C dX6_faultOfPair_10 rfl ?_
    refine wa_geti (x := (q1.2.1 27 0)) C fl_RX6_9 rfl rfl (by decide) rfl dX6_faultOfPair_11 ?_
    refine wa_icmp_eq (tgt := 19) C dX6_faultOfPair_14 (by decide) (fun c3 => ?_) (fun c3 => ?_)
    · replace h := (if_pos c3).symm.trans h
      refine wa_iload_n C dX6_faultOfPair_19 rfl ?_
      refine wa_if_lt (tgt := 31) C dX6_faultOfPair_20 (by decide) (fun c4 => ?_) (fun c4 => ?_)
      · replace h := (if_pos c4).symm.trans h
        refine wa_iconst (v := 2) C dX6_faultOfPair_31 (by decide) ?_
        obtain rfl := Option.some.inj h
        exact wa_iret C dX6_faultOfPair_32
      · replace h := (if_neg c4).symm.trans h
        refine wa_iload_n C dX6_faultOfPair_23 rfl ?_
        refine wa_aload_n C dX6_faultOfPair_24 rfl ?_
        refine wa_geti (x := (q1.2.1 27 1)) C fl_RX6_15 rfl rfl (by decide) rfl dX6_faultOfPair_25 ?_
        refine wa_icmp_lt (tgt := 33) C dX6_faultOfPair_28 (by decide) (fun c5 => ?_) (fun c5 => ?_)
        · replace h := (if_pos c5).symm.trans h
          refine wa_aload_n C dX6_faultOfPair_33 rfl ?_
          refine wa_iload_n C dX6_faultOfPair_34 rfl ?_
          refine wa_iconst (v := 2) C dX6_faultOfPair_35 (by decide) ?_
          refine wa_iload_n C dX6_faultOfPair_36 rfl ?_
          refine wa_imul C dX6_faultOfPair_37 ?_
          refine wa_iadd C dX6_faultOfPair_38 ?_
          refine wa_iconst (v := 1) C dX6_faultOfPair_39 (by decide) ?_
          refine wa_iadd C dX6_faultOfPair_40 ?_
          obtain ⟨q6, hq6, h⟩ := bd h
          refine wa_callV C (r_X6_faultAt_27 hq6) mk_X6_faultAt mv_X6_faultAt qw_1116 rfl (by decide) rfl rfl ⟨Nat.le_of_ble_eq_true rfl, Nat.le_of_ble_eq_true rfl⟩ ⟨Nat.zero_le _, Nat.zero_le _⟩ (Nat.le_of_ble_eq_true rfl) dX6_faultOfPair_41 rfl ?_
          obtain rfl := Option.some.inj h
          exact wa_iret C dX6_faultOfPair_44
        · replace h := (if_neg c5).symm.trans h
          refine wa_iconst (v := 2) C dX6_faultOfPair_31 (by decide) ?_
          obtain rfl := Option.some.inj h
          exact wa_iret C dX6_faultOfPair_32
    · replace h := (if_neg c3).symm.trans h
      refine wa_iconst (v := 3) C dX6_faultOfPair_17 (by decide) ?_
      obtain rfl := Option.some.inj h
      exact wa_iret C dX6_faultOfPair_18
  · replace h := (if_neg c2).symm.trans h
    refine wa_iconst (v := 1) C dX6_faultOfPair_7 (by decide) ?_
    obtain rfl := Option.some.inj h
    exact wa_iret C dX6_faultOfPair_8
def f_X6_faultOfPair_29 (a1 : Int32) (a2 : Int32) (a3 : Int32) (μ : Mem) : Option (Int32 × Mem) :=
  (f_X6_isNothing_29 μ).bind fun q1 =>
  if q1.1 = 0 then
    if a1 = (q1.2.1 29 0) then
      if a2 < 0 then
        some ((2 : Int32), q1.2)
      else
        if a2 < (q1.2.1 29 1) then
          (f_X6_faultAt_29 ((a2 + ((2 : Int32) * a3)) + (1 : Int32)) q1.2).bind fun q6 =>
          some (q6.1, q6.2)
        else
          some ((2 : Int32), q1.2)
    else
      some ((3 : Int32), q1.2)
  else
    some ((1 : Int32), q1.2)
set_option maxRecDepth 100000 in
set_option maxHeartbeats 4000000 in
theorem r_X6_faultOfPair_29 {a1 : Int32} {a2 : Int32} {a3 : Int32} {μ : Mem} {ρ : (Int32 × Mem)} (h : f_X6_faultOfPair_29 a1 a2 a3 μ = some ρ) : HT 2 yX6_faultOfPair cX6_faultOfPair 4 (some .int) [.ref 29, .int a1, .int a2, .int a3] μ (some (.int ρ.1)) ρ.2 := by
  refine HT.of (by decide +kernel) (Nat.le_of_ble_eq_true rfl) (fun C => ?_)
  unfold f_X6_faultOfPair_29 at h
  refine wa_aload_n C dX6_faultOfPair_0 rfl ?_
  obtain ⟨q1, hq1, h⟩ := bd h
  refine wa_callV C (r_X6_isNothing_29 hq1) mk_X6_isNothing mv_X6_isNothing qw_1094 rfl (by decide) rfl rfl ⟨Nat.le_of_ble_eq_true rfl, Nat.le_of_ble_eq_true rfl⟩ ⟨Nat.zero_le _, Nat.zero_le _⟩ (Nat.le_of_ble_eq_true rfl) dX6_faultOfPair_1 rfl ?_
  refine wa_if_eq (tgt := 9) C dX6_faultOfPair_4 (by decide) (fun c2 => ?_) (fun c2 => ?_)
  · replace h := (if_pos c2).symm.trans h
    refine wa_iload_n C dX6_faultOfPair_9 rfl ?_
    refine wa_aload_n C dX6_faultOfPair_10 rfl ?_
    refine wa_geti (x := (q1.2.1 29 0)) C fl_RX6_9 rfl rfl (by decide) rfl dX6_faultOfPair_11 ?_
    refine wa_icmp_eq (tgt := 19) C dX6_faultOfPair_14 (by decide) (fun c3 => ?_) (fun c3 => ?_)
    · replace h := (if_pos c3).symm.trans h
      refine wa_iload_n C dX6_faultOfPair_19 rfl ?_
      refine wa_if_lt (tgt := 31) C dX6_faultOfPair_20 (by decide) (fun c4 => ?_) (fun c4 => ?_)
      · replace h := (if_pos c4).symm.trans h
        refine wa_iconst (v := 2) C dX6_faultOfPair_31 (by decide) ?_
        obtain rfl := Option.some.inj h
        exact wa_iret C dX6_faultOfPair_32
      · replace h := (if_neg c4).symm.trans h
        refine wa_iload_n C dX6_faultOfPair_23 rfl ?_
        refine wa_aload_n C dX6_faultOfPair_24 rfl ?_
        refine wa_geti (x := (q1.2.1 29 1)) C fl_RX6_15 rfl rfl (by decide) rfl dX6_faultOfPair_25 ?_
        refine wa_icmp_lt (tgt := 33) C dX6_faultOfPair_28 (by decide) (fun c5 => ?_) (fun c5 => ?_)
        · replace h := (if_pos c5).symm.trans h
          refine wa_aload_n C dX6_faultOfPair_33 rfl ?_
          refine wa_iload_n C dX6_faultOfPair_34 rfl ?_
          refine wa_iconst (v := 2) C dX6_faultOfPair_35 (by decide) ?_
          refine wa_iload_n C dX6_faultOfPair_36 rfl ?_
          refine wa_imul C dX6_faultOfPair_37 ?_
          refine wa_iadd C dX6_faultOfPair_38 ?_
          refine wa_iconst (v := 1) C dX6_faultOfPair_39 (by decide) ?_
          refine wa_iadd C dX6_faultOfPair_40 ?_
          obtain ⟨q6, hq6, h⟩ := bd h
          refine wa_callV C (r_X6_faultAt_29 hq6) mk_X6_faultAt mv_X6_faultAt qw_1116 rfl (by decide) rfl rfl ⟨Nat.le_of_ble_eq_true rfl, Nat.le_of_ble_eq_true rfl⟩ ⟨Nat.zero_le _, Nat.zero_le _⟩ (Nat.le_of_ble_eq_true rfl) dX6_faultOfPair_41 rfl ?_
          obtain rfl := Option.some.inj h
          exact wa_iret C dX6_faultOfPair_44
        · replace h := (if_neg c5).symm.trans h
          refine wa_iconst (v := 2) C dX6_faultOfPair_31 (by decide) ?_
          obtain rfl := Option.some.inj h
          exact wa_iret C dX6_faultOfPair_32
    · replace h := (if_neg c3).symm.trans h
      refine wa_iconst (v := 3) C dX6_faultOfPair_17 (by decide) ?_
      obtain rfl := Option.some.inj h
      exact wa_iret C dX6_faultOfPair_18
  · replace h := (if_neg c2).symm.trans h
    refine wa_iconst (v := 1) C dX6_faultOfPair_7 (by decide) ?_
    obtain rfl := Option.some.inj h
    exact wa_iret C dX6_faultOfPair_8
def f_X6_faultOfPair_31 (a1 : Int32) (a2 : Int32) (a3 : Int32) (μ : Mem) : Option (Int32 × Mem) :=
  (f_X6_isNothing_31 μ).bind fun q1 =>
  if q1.1 = 0 then
    if a1 = (q1.2.1 31 0) then
      if a2 < 0 then
        some ((2 : Int32), q1.2)
      else
        if a2 < (q1.2.1 31 1) then
          (f_X6_faultAt_31 ((a2 + ((2 : Int32) * a3)) + (1 : Int32)) q1.2).bind fun q6 =>
          some (q6.1, q6.2)
        else
          some ((2 : Int32), q1.2)
    else
      some ((3 : Int32), q1.2)
  else
    some ((1 : Int32), q1.2)
set_option maxRecDepth 100000 in
set_option maxHeartbeats 4000000 in
theorem r_X6_faultOfPair_31 {a1 : Int32} {a2 : Int32} {a3 : Int32} {μ : Mem} {ρ : (Int32 × Mem)} (h : f_X6_faultOfPair_31 a1 a2 a3 μ = some ρ) : HT 2 yX6_faultOfPair cX6_faultOfPair 4 (some .int) [.ref 31, .int a1, .int a2, .int a3] μ (some (.int ρ.1)) ρ.2 := by
  refine HT.of (by decide +kernel) (Nat.le_of_ble_eq_true rfl) (fun C => ?_)
  unfold f_X6_faultOfPair_31 at h
  refine wa_aload_n C dX6_faultOfPair_0 rfl ?_
  obtain ⟨q1, hq1, h⟩ := bd h
  refine wa_callV C (r_X6_isNothing_31 hq1) mk_X6_isNothing mv_X6_isNothing qw_1094 rfl (by decide) rfl rfl ⟨Nat.le_of_ble_eq_true rfl, Nat.le_of_ble_eq_true rfl⟩ ⟨Nat.zero_le _, Nat.zero_le _⟩ (Nat.le_of_ble_eq_true rfl) dX6_faultOfPair_1 rfl ?_
  refine wa_if_eq (tgt := 9) C dX6_faultOfPair_4 (by decide) (fun c2 => ?_) (fun c2 => ?_)
  · replace h := (if_pos c2).symm.trans h
    refine wa_iload_n C dX6_faultOfPair_9 rfl ?_
    refine wa_aload_n C dX6_faultOfPair_10 rfl ?_
    refine wa_geti (x := (q1.2.1 31 0)) C fl_RX6_9 rfl rfl (by decide) rfl dX6_faultOfPair_11 ?_
    refine wa_icmp_eq (tgt := 19) C dX6_faultOfPair_14 (by decide) (fun c3 => ?_) (fun c3 => ?_)
    · replace h := (if_pos c3).symm.trans h
      refine wa_iload_n C dX6_faultOfPair_19 rfl ?_
      refine wa_if_lt (tgt := 31) C dX6_faultOfPair_20 (by decide) (fun c4 => ?_) (fun c4 => ?_)
      · replace h := (if_pos c4).symm.trans h
        refine wa_iconst (v := 2) C dX6_faultOfPair_31 (by decide) ?_
        obtain rfl := Option.some.inj h
        exact wa_iret C dX6_faultOfPair_32
      · replace h := (if_neg c4).symm.trans h
        refine wa_iload_n C dX6_faultOfPair_23 rfl ?_
        refine wa_aload_n C dX6_faultOfPair_24 rfl ?_
        refine wa_geti (x := (q1.2.1 31 1)) C fl_RX6_15 rfl rfl (by decide) rfl dX6_faultOfPair_25 ?_
        refine wa_icmp_lt (tgt := 33) C dX6_faultOfPair_28 (by decide) (fun c5 => ?_) (fun c5 => ?_)
        · replace h := (if_pos c5).symm.trans h
          refine wa_aload_n C dX6_faultOfPair_33 rfl ?_
          refine wa_iload_n C dX6_faultOfPair_34 rfl ?_
          refine wa_iconst (v := 2) C dX6_faultOfPair_35 (by decide) ?_
          refine wa_iload_n C dX6_faultOfPair_36 rfl ?_
          refine wa_imul C dX6_faultOfPair_37 ?_
          refine wa_iadd C dX6_faultOfPair_38 ?_
          refine wa_iconst (v := 1) C dX6_faultOfPair_39 (by decide) ?_
          refine wa_iadd C dX6_faultOfPair_40 ?_
          obtain ⟨q6, hq6, h⟩ := bd h
          refine wa_callV C (r_X6_faultAt_31 hq6) mk_X6_faultAt mv_X6_faultAt qw_1116 rfl (by decide) rfl rfl ⟨Nat.le_of_ble_eq_true rfl, Nat.le_of_ble_eq_true rfl⟩ ⟨Nat.zero_le _, Nat.zero_le _⟩ (Nat.le_of_ble_eq_true rfl) dX6_faultOfPair_41 rfl ?_
          obtain rfl := Option.some.inj h
          exact wa_iret C dX6_faultOfPair_44
        · replace h := (if_neg c5).symm.trans h
          refine wa_iconst (v := 2) C dX6_faultOfPair_31 (by decide) ?_
          obtain rfl := Option.some.inj h
          exact wa_iret C dX6_faultOfPair_32
    · replace h := (if_neg c3).symm.trans h
      refine wa_iconst (v := 3) C dX6_faultOfPair_17 (by decide) ?_
      obtain rfl := Option.some.inj h
      exact wa_iret C dX6_faultOfPair_18
  · replace h := (if_neg c2).symm.trans h
    refine wa_iconst (v := 1) C dX6_faultOfPair_7 (by decide) ?_
    obtain rfl := Option.some.inj h
    exact wa_iret C dX6_faultOfPair_8
def f_X6_faultOfPair_33 (a1 : Int32) (a2 : Int32) (a3 : Int32) (μ : Mem) : Option (Int32 × Mem) :=
  (f_X6_isNothing_33 μ).bind fun q1 =>
  if q1.1 = 0 then
    if a1 = (q1.2.1 33 0) then
      if a2 < 0 then
        some ((2 : Int32), q1.2)
      else
        if a2 < (q1.2.1 33 1) then
          (f_X6_faultAt_33 ((a2 + ((2 : Int32) * a3)) + (1 : Int32)) q1.2).bind fun q6 =>
          some (q6.1, q6.2)
        else
          some ((2 : Int32), q1.2)
    else
      some ((3 : Int32), q1.2)
  else
    some ((1 : Int32), q1.2)
set_option maxRecDepth 100000 in
set_option maxHeartbeats 4000000 in
theorem r_X6_faultOfPair_33 {a1 : Int32} {a2 : Int32} {a3 : Int32} {μ : Mem} {ρ : (Int32 × Mem)} (h : f_X6_faultOfPair_33 a1 a2 a3 μ = some ρ) : HT 2 yX6_faultOfPair cX6_faultOfPair 4 (some .int) [.ref 33, .int a1, .int a2, .int a3] μ (some (.int ρ.1)) ρ.2 := by
  refine HT.of (by decide +kernel) (Nat.le_of_ble_eq_true rfl) (fun C => ?_)
  unfold f_X6_faultOfPair_33 at h
  refine wa_aload_n C dX6_faultOfPair_0 rfl ?_
  obtain ⟨q1, hq1, h⟩ := bd h
  refine wa_callV C (r_X6_isNothing_33 hq1) mk_X6_isNothing mv_X6_isNothing qw_1094 rfl (by decide) rfl rfl ⟨Nat.le_of_ble_eq_true rfl, Nat.le_of_ble_eq_true rfl⟩ ⟨Nat.zero_le _, Nat.zero_le _⟩ (Nat.le_of_ble_eq_true rfl) dX6_faultOfPair_1 rfl ?_
  refine wa_if_eq (tgt := 9) C dX6_faultOfPair_4 (by decide) (fun c2 => ?_) (fun c2 => ?_)
  · replace h := (if_pos c2).symm.trans h
    refine wa_iload_n C dX6_faultOfPair_9 rfl ?_
    refine wa_aload_n C dX6_faultOfPair_10 rfl ?_
    refine wa_geti (x := (q1.2.1 33 0)) C fl_RX6_9 rfl rfl (by decide) rfl dX6_faultOfPair_11 ?_
    refine wa_icmp_eq (tgt := 19) C dX6_faultOfPair_14 (by decide) (fun c3 => ?_) (fun c3 => ?_)
    · replace h := (if_pos c3).symm.trans h
      refine wa_iload_n C dX6_faultOfPair_19 rfl ?_
      refine wa_if_lt (tgt := 31) C dX6_faultOfPair_20 (by decide) (fun c4 => ?_) (fun c4 => ?_)
      · replace h := (if_pos c4).symm.trans h
        refine wa_iconst (v := 2) C dX6_faultOfPair_31 (by decide) ?_
        obtain rfl := Option.some.inj h
        exact wa_iret C dX6_faultOfPair_32
      · replace h := (if_neg c4).symm.trans h
        refine wa_iload_n C dX6_faultOfPair_23 rfl ?_
        refine wa_aload_n C dX6_faultOfPair_24 rfl ?_
        refine wa_geti (x := (q1.2.1 33 1)) C fl_RX6_15 rfl rfl (by decide) rfl dX6_faultOfPair_25 ?_
        refine wa_icmp_lt (tgt := 33) C dX6_faultOfPair_28 (by decide) (fun c5 => ?_) (fun c5 => ?_)
        · replace h := (if_pos c5).symm.trans h
          refine wa_aload_n C dX6_faultOfPair_33 rfl ?_
          refine wa_iload_n C dX6_faultOfPair_34 rfl ?_
          refine wa_iconst (v := 2) C dX6_faultOfPair_35 (by decide) ?_
          refine wa_iload_n C dX6_faultOfPair_36 rfl ?_
          refine wa_imul C dX6_faultOfPair_37 ?_
          refine wa_iadd C dX6_faultOfPair_38 ?_
          refine wa_iconst (v := 1) C dX6_faultOfPair_39 (by decide) ?_
          refine wa_iadd C dX6_faultOfPair_40 ?_
          obtain ⟨q6, hq6, h⟩ := bd h
          refine wa_callV C (r_X6_faultAt_33 hq6) mk_X6_faultAt mv_X6_faultAt qw_1116 rfl (by decide) rfl rfl ⟨Nat.le_of_ble_eq_true rfl, Nat.le_of_ble_eq_true rfl⟩ ⟨Nat.zero_le _, Nat.zero_le _⟩ (Nat.le_of_ble_eq_true rfl) dX6_faultOfPair_41 rfl ?_
          obtain rfl := Option.some.inj h
          exact wa_iret C dX6_faultOfPair_44
        · replace h := (if_neg c5).symm.trans h
          refine wa_iconst (v := 2) C dX6_faultOfPair_31 (by decide) ?_
          obtain rfl := Option.some.inj h
          exact wa_iret C dX6_faultOfPair_32
    · replace h := (if_neg c3).symm.trans h
      refine wa_iconst (v := 3) C dX6_faultOfPair_17 (by decide) ?_
      obtain rfl := Option.some.inj h
      exact wa_iret C dX6_faultOfPair_18
  · replace h := (if_neg c2).symm.trans h
    refine wa_iconst (v := 1) C dX6_faultOfPair_7 (by decide) ?_
    obtain rfl := Option.some.inj h
    exact wa_iret C dX6_faultOfPair_8
def f_X9_read_0_L124 (a3 : Int32) (a6 : Int32) (a7 : Int32) (k124 : Int32 → Mem → Option (Int32 × Mem)) (a8 : Int32) (μ : Mem) : Option (Int32 × Mem) :=
    if a7 ≤ a8 then
      some (a7, (pI μ 0 5 a6))
    else
      if inb (a3 + ((2 : Int32) * a8)) 40 = false then none else
      if inb ((a3 + ((2 : Int32) * a8)) + (1 : Int32)) 40 = false then none else
      if inb (μ.1 28 ((a3 + ((2 : Int32) * a8)).toNatClampNeg)) 6 = false then none else
      k124 (a8 + 1) (pI μ 9 ((μ.1 28 ((a3 + ((2 : Int32) * a8)).toNatClampNeg)).toNatClampNeg) (μ.1 28 (((a3 + ((2 : Int32) * a8)) + (1 : Int32)).toNatClampNeg)))
def f_X9_read_0_J121 (a3 : Int32) (a6 : Int32) (a7 : Int32) (μ : Mem) : Option (Int32 × Mem) :=
  it2 (f_X9_read_0_L124 a3 a6 a7) FU (0 : Int32) μ
def f_X9_read_0_J115 (k45 : Int32 → Int32 → Int32 → Mem → Option (Int32 × Mem)) (a2 : Int32) (a3 : Int32) (a4 : Int32) (a6 : Int32) (a7 : Int32) (a8 : Int32) (μ : Mem) : Option (Int32 × Mem) :=
  k45 a6 a7 (a8 + 1) μ
def f_X9_read_0_L45 (a2 : Int32) (a3 : Int32) (a4 : Int32) (k45 : Int32 → Int32 → Int32 → Mem → Option (Int32 × Mem)) (a6 : Int32) (a7 : Int32) (a8 : Int32) (μ : Mem) : Option (Int32 × Mem) :=
    if a4 ≤ a8 then
      f_X9_read_0_J121 a3 a6 a7 μ
    else
      if a6 = 0 then
        (f_X6_faultOfPair_27 a2 a3 a8 μ).bind fun q14 =>
        if q14.1 = 0 then
          if inb (a3 + ((2 : Int32) * a8)) 40 = false then none else
          if inb ((a3 + ((2 : Int32) * a8)) + (1 : Int32)) 40 = false then none else
          (f_X9_canTell_0 (q14.2.1 28 ((a3 + ((2 : Int32) * a8)).toNatClampNeg)) (q14.2.1 28 (((a3 + ((2 : Int32) * a8)) + (1 : Int32)).toNatClampNeg)) q14.2).bind fun q18 =>
          if q18.1 = 0 then
            some (((-20 : Int32) - a8), q18.2)
          else
            f_X9_read_0_J115 k45 a2 a3 a4 q14.1 (a7 + 1) a8 q18.2
        else
          f_X9_read_0_J115 k45 a2 a3 a4 q14.1 a7 a8 q14.2
      else
        f_X9_read_0_J121 a3 a6 a7 μ
def f_X9_read_0_L124e1 (a3 : Int32) (a6 : Int32) (a7 : Int32) (k124 : Int32 → Mem → Option (Int32 × Mem)) (a8 : Int32) (μ : Mem) : Option (Int32 × Mem) :=
    if a7 ≤ a8 then
      some (a7, (pI μ 0 5 a6))
    else
      if inb (a3 + ((2 : Int32) * a8)) 40 = false then none else
      if inb ((a3 + ((2 : Int32) * a8)) + (1 : Int32)) 40 = false then none else
      if inb (μ.1 30 ((a3 + ((2 : Int32) * a8)).toNatClampNeg)) 6 = false then none else
      k124 (a8 + 1) (pI μ 9 ((μ.1 30 ((a3 + ((2 : Int32) * a8)).toNatClampNeg)).toNatClampNeg) (μ.1 30 (((a3 + ((2 : Int32) * a8)) + (1 : Int32)).toNatClampNeg)))
def f_X9_read_0_J121e1 (a3 : Int32) (a6 : Int32) (a7 : Int32) (μ : Mem) : Option (Int32 × Mem) :=
  it2 (f_X9_read_0_L124e1 a3 a6 a7) FU (0 : Int32) μ
def f_X9_read_0_J115e1 (k45 : Int32 → Int32 → Int32 → Mem → Option (Int32 × Mem)) (a2 : Int32) (a3 : Int32) (a4 : Int32) (a6 : Int32) (a7 : Int32) (a8 : Int32) (μ : Mem) : Option (Int32 × Mem) :=
  k45 a6 a7 (a8 + 1) μ
def f_X9_read_0_L45e1 (a2 : Int32) (a3 : Int32) (a4 : Int32) (k45 : Int32 → Int32 → Int32 → Mem → Option (Int32 × Mem)) (a6 : Int32) (a7 : Int32) (a8 : Int32) (μ : Mem) : Option (Int32 × Mem) :=
    if a4 ≤ a8 then
      f_X9_read_0_J121e1 a3 a6 a7 μ
    else
      if a6 = 0 then
        (f_X6_faultOfPair_29 a2 a3 a8 μ).bind fun q27 =>
        if q27.1 = 0 then
          if inb (a3 + ((2 : Int32) * a8)) 40 = false then none else
          if inb ((a3 + ((2 : Int32) * a8)) + (1 : Int32)) 40 = false then none else
          (f_X9_canTell_0 (q27.2.1 30 ((a3 + ((2 : Int32) * a8)).toNatClampNeg)) (q27.2.1 30 (((a3 + ((2 : Int32) * a8)) + (1 : Int32)).toNatClampNeg)) q27.2).bind fun q31 =>
          if q31.1 = 0 then
            some (((-20 : Int32) - a8), q31.2)
          else
            f_X9_read_0_J115e1 k45 a2 a3 a4 q27.1 (a7 + 1) a8 q31.2
        else
          f_X9_read_0_J115e1 k45 a2 a3 a4 q27.1 a7 a8 q27.2
      else
        f_X9_read_0_J121e1 a3 a6 a7 μ
def f_X9_read_0_L124e2 (a3 : Int32) (a6 : Int32) (a7 : Int32) (k124 : Int32 → Mem → Option (Int32 × Mem)) (a8 : Int32) (μ : Mem) : Option (Int32 × Mem) :=
    if a7 ≤ a8 then
      some (a7, (pI μ 0 5 a6))
    else
      if inb (a3 + ((2 : Int32) * a8)) 40 = false then none else
      if inb ((a3 + ((2 : Int32) * a8)) + (1 : Int32)) 40 = false then none else
      if inb (μ.1 32 ((a3 + ((2 : Int32) * a8)).toNatClampNeg)) 6 = false then none else
      k124 (a8 + 1) (pI μ 9 ((μ.1 32 ((a3 + ((2 : Int32) * a8)).toNatClampNeg)).toNatClampNeg) (μ.1 32 (((a3 + ((2 : Int32) * a8)) + (1 : Int32)).toNatClampNeg)))
def f_X9_read_0_J121e2 (a3 : Int32) (a6 : Int32) (a7 : Int32) (μ : Mem) : Option (Int32 × Mem) :=
  it2 (f_X9_read_0_L124e2 a3 a6 a7) FU (0 : Int32) μ
def f_X9_read_0_J115e2 (k45 : Int32 → Int32 → Int32 → Mem → Option (Int32 × Mem)) (a2 : Int32) (a3 : Int32) (a4 : Int32) (a6 : Int32) (a7 : Int32) (a8 : Int32) (μ : Mem) : Option (Int32 × Mem) :=
  k45 a6 a7 (a8 + 1) μ
def f_X9_read_0_L45e2 (a2 : Int32) (a3 : Int32) (a4 : Int32) (k45 : Int32 → Int32 → Int32 → Mem → Option (Int32 × Mem)) (a6 : Int32) (a7 : Int32) (a8 : Int32) (μ : Mem) : Option (Int32 × Mem) :=
    if a4 ≤ a8 then
      f_X9_read_0_J121e2 a3 a6 a7 μ
    else
      if a6 = 0 then
        (f_X6_faultOfPair_31 a2 a3 a8 μ).bind fun q40 =>
        if q40.1 = 0 then
          if inb (a3 + ((2 : Int32) * a8)) 40 = false then none else
          if inb ((a3 + ((2 : Int32) * a8)) + (1 : Int32)) 40 = false then none else
          (f_X9_canTell_0 (q40.2.1 32 ((a3 + ((2 : Int32) * a8)).toNatClampNeg)) (q40.2.1 32 (((a3 + ((2 : Int32) * a8)) + (1 : Int32)).toNatClampNeg)) q40.2).bind fun q44 =>
          if q44.1 = 0 then
            some (((-20 : Int32) - a8), q44.2)
          else
            f_X9_read_0_J115e2 k45 a2 a3 a4 q40.1 (a7 + 1) a8 q44.2
        else
          f_X9_read_0_J115e2 k45 a2 a3 a4 q40.1 a7 a8 q40.2
      else
        f_X9_read_0_J121e2 a3 a6 a7 μ
def f_X9_read_0_L124e3 (a3 : Int32) (a6 : Int32) (a7 : Int32) (k124 : Int32 → Mem → Option (Int32 × Mem)) (a8 : Int32) (μ : Mem) : Option (Int32 × Mem) :=
    if a7 ≤ a8 then
      some (a7, (pI μ 0 5 a6))
    else
      if inb (a3 + ((2 : Int32) * a8)) 40 = false then none else
      if inb ((a3 + ((2 : Int32) * a8)) + (1 : Int32)) 40 = false then none else
      if inb (μ.1 34 ((a3 + ((2 : Int32) * a8)).toNatClampNeg)) 6 = false then none else
      k124 (a8 + 1) (pI μ 9 ((μ.1 34 ((a3 + ((2 : Int32) * a8)).toNatClampNeg)).toNatClampNeg) (μ.1 34 (((a3 + ((2 : Int32) * a8)) + (1 : Int32)).toNatClampNeg)))
def f_X9_read_0_J121e3 (a3 : Int32) (a6 : Int32) (a7 : Int32) (μ : Mem) : Option (Int32 × Mem) :=
  it2 (f_X9_read_0_L124e3 a3 a6 a7) FU (0 : Int32) μ
def f_X9_read_0_J115e3 (k45 : Int32 → Int32 → Int32 → Mem → Option (Int32 × Mem)) (a2 : Int32) (a3 : Int32) (a4 : Int32) (a6 : Int32) (a7 : Int32) (a8 : Int32) (μ : Mem) : Option (Int32 × Mem) :=
  k45 a6 a7 (a8 + 1) μ
def f_X9_read_0_L45e3 (a2 : Int32) (a3 : Int32) (a4 : Int32) (k45 : Int32 → Int32 → Int32 → Mem → Option (Int32 × Mem)) (a6 : Int32) (a7 : Int32) (a8 : Int32) (μ : Mem) : Option (Int32 × Mem) :=
    if a4 ≤ a8 then
      f_X9_read_0_J121e3 a3 a6 a7 μ
    else
      if a6 = 0 then
        (f_X6_faultOfPair_33 a2 a3 a8 μ).bind fun q53 =>
        if q53.1 = 0 then
          if inb (a3 + ((2 : Int32) * a8)) 40 = false then none else
          if inb ((a3 + ((2 : Int32) * a8)) + (1 : Int32)) 40 = false then none else
          (f_X9_canTell_0 (q53.2.1 34 ((a3 + ((2 : Int32) * a8)).toNatClampNeg)) (q53.2.1 34 (((a3 + ((2 : Int32) * a8)) + (1 : Int32)).toNatClampNeg)) q53.2).bind fun q57 =>
          if q57.1 = 0 then
            some (((-20 : Int32) - a8), q57.2)
          else
            f_X9_read_0_J115e3 k45 a2 a3 a4 q53.1 (a7 + 1) a8 q57.2
        else
          f_X9_read_0_J115e3 k45 a2 a3 a4 q53.1 a7 a8 q53.2
      else
        f_X9_read_0_J121e3 a3 a6 a7 μ
def f_X9_read_0 (a1 : Int32) (a2 : Int32) (a3 : Int32) (a4 : Int32) (μ : Mem) : Option (Int32 × Mem) :=
  (f_X9_isSheet a1 μ).bind fun q1 =>
  if q1.1 = 0 then
    some ((-1 : Int32), q1.2)
  else
    (f_X9_isLane a2 q1.2).bind fun q3 =>
    if q3.1 = 0 then
      some ((-1 : Int32), q3.2)
    else
      if a4 < 0 then
        some ((-1 : Int32), q3.2)
      else
        if a4 ≤ (13 : Int32) then
          if a1 = 0 then
            it4 (f_X9_read_0_L45 a2 a3 a4) FU (0 : Int32) (0 : Int32) (0 : Int32) q3.2
          else
          if a1 = 1 then
            it4 (f_X9_read_0_L45e1 a2 a3 a4) FU (0 : Int32) (0 : Int32) (0 : Int32) q3.2
          else
          if a1 = 2 then
            it4 (f_X9_read_0_L45e2 a2 a3 a4) FU (0 : Int32) (0 : Int32) (0 : Int32) q3.2
          else
          if a1 = 3 then
            it4 (f_X9_read_0_L45e3 a2 a3 a4) FU (0 : Int32) (0 : Int32) (0 : Int32) q3.2
          else
          none
        else
          some ((-1 : Int32), q3.2)
set_option maxRecDepth 100000 in
set_option maxHeartbeats 4000000 in
theorem r_X9_read_0_L124 {p : Program} {l : Launch} {e : Env} {s : State} {m : MethodId} {args : Array Value} {below : List Frame} {meth : Method} {c : Code} {D : va_G} {cy : Nat → ClassId} {ad : Nat → Nat} (C : CX p s m args meth c cX9_read 9 RX9 (some .int) D cy ad (AD ad)) (a3 : Int32) (a6 : Int32) (a7 : Int32) {ρ : (Int32 × Mem)} : ∀ (n : Nat) (a8 : Int32) (μ : Mem), it2 (f_X9_read_0_L124 a3 a6 a7) n a8 μ = some ρ → WA p l e (rmD 3) s m args below meth c 9 D cy ad (AD ad) 0 0 (ZZ below args s D cy ad (AD ad) 0 0 (some (.int ρ.1)) ρ.2) μ [(0, .ref 0), (3, .int a3), (5, .ref 27), (6, .int a6), (7, .int a7), (8, .int a8)] 124 [] := by
  intro n
  induction n with
  | zero =>
    intro a8 μ h
    exact absurd h (fun h => by cases h)
  | succ n ih =>
    intro a8 μ h
    replace h : f_X9_read_0_L124 a3 a6 a7 (it2 (f_X9_read_0_L124 a3 a6 a7) n) a8 μ = some ρ := h
    unfold f_X9_read_0_L124 at h
    refine wa_iload C dX9_read_124 rfl ?_
    refine wa_iload C dX9_read_126 rfl ?_
    refine wa_icmp_ge (tgt := 171) C dX9_read_128 (by decide) (fun c9 => ?_) (fun c9 => ?_)
    · replace h := (if_pos c9).symm.trans h
      refine wa_aload_n C dX9_read_171 rfl ?_
      refine wa_iload C dX9_read_172 rfl ?_
      refine wa_puti C fl_RX9_290 fp_9_5 rfl rfl (by decide) rfl rfl dX9_read_174 ?_
      refine wa_iload C dX9_read_177 rfl ?_
      obtain rfl := Option.some.inj h
      exact wa_iret C dX9_read_179
    · replace h := (if_neg c9).symm.trans h
      refine wa_aload_n C dX9_read_131 rfl ?_
      refine wa_getr C fl_RX9_19 rfl rfl (by decide) dX9_read_132 ?_
      refine wa_getr C fl_RX9_157 rfl rfl (by decide) dX9_read_135 ?_
      refine wa_aload C dX9_read_138 rfl ?_
      refine wa_getr C fl_RX9_287 rfl rfl (by decide) dX9_read_140 ?_
      refine wa_iload_n C dX9_read_143 rfl ?_
      refine wa_iconst (v := 2) C dX9_read_144 (by decide) ?_
      refine wa_iload C dX9_read_145 rfl ?_
      refine wa_imul C dX9_read_147 ?_
      refine wa_iadd C dX9_read_148 ?_
      obtain ⟨g10, h⟩ := gd h
      refine wa_iald (j := ((a3 + ((2 : Int32) * a8)).toNatClampNeg)) (x := (μ.1 28 ((a3 + ((2 : Int32) * a8)).toNatClampNeg))) C rfl (by decide) g10 rfl rfl dX9_read_149 ?_
      refine wa_aload C dX9_read_150 rfl ?_
      refine wa_getr C fl_RX9_287 rfl rfl (by decide) dX9_read_152 ?_
      refine wa_iload_n C dX9_read_155 rfl ?_
      refine wa_iconst (v := 2) C dX9_read_156 (by decide) ?_
      refine wa_iload C dX9_read_157 rfl ?_
      refine wa_imul C dX9_read_159 ?_
      refine wa_iadd C dX9_read_160 ?_
      refine wa_iconst (v := 1) C dX9_read_161 (by decide) ?_
      refine wa_iadd C dX9_read_162 ?_
      obtain ⟨g11, h⟩ := gd h
      refine wa_iald (j := (((a3 + ((2 : Int32) * a8)) + (1 : Int32)).toNatClampNeg)) (x := (μ.1 28 (((a3 + ((2 : Int32) * a8)) + (1 : Int32)).toNatClampNeg))) C rfl (by decide) g11 rfl rfl dX9_read_163 ?_
      obtain ⟨g12, h⟩ := gd h
      refine wa_iast (j := ((μ.1 28 ((a3 + ((2 : Int32) * a8)).toNatClampNeg)).toNatClampNeg)) C rfl (by decide) g12 rfl dX9_read_164 ?_
      refine wa_iinc (v := (a8 + 1)) C dX9_read_165 rfl rfl (by decide) ?_
      refine wa_goto (tgt := 124) C dX9_read_168 (by decide) ?_
      exact WA.sub (lsub_c rfl (lsub_c rfl (lsub_c rfl (lsub_c rfl (lsub_c rfl (lsub_c rfl lsub_n)))))) (ih _ _ h)
set_option maxRecDepth 100000 in
set_option maxHeartbeats 4000000 in
theorem r_X9_read_0_J121 {p : Program} {l : Launch} {e : Env} {s : State} {m : MethodId} {args : Array Value} {below : List Frame} {meth : Method} {c : Code} {D : va_G} {cy : Nat → ClassId} {ad : Nat → Nat} (C : CX p s m args meth c cX9_read 9 RX9 (some .int) D cy ad (AD ad)) {a3 : Int32} {a6 : Int32} {a7 : Int32} {μ : Mem} {ρ : (Int32 × Mem)} (h : f_X9_read_0_J121 a3 a6 a7 μ = some ρ) : WA p l e (rmD 3) s m args below meth c 9 D cy ad (AD ad) 0 0 (ZZ below args s D cy ad (AD ad) 0 0 (some (.int ρ.1)) ρ.2) μ [(0, .ref 0), (3, .int a3), (5, .ref 27), (6, .int a6), (7, .int a7)] 121 [] := by
  unfold f_X9_read_0_J121 at h
  refine wa_iconst (v := 0) C dX9_read_121 (by decide) ?_
  refine wa_istore C dX9_read_122 (by decide) ?_
  exact WA.sub (lsub_c rfl (lsub_c rfl (lsub_c rfl (lsub_c rfl (lsub_c rfl (lsub_c rfl lsub_n)))))) (r_X9_read_0_L124 C _ _ _ _ _ _ h)
set_option maxRecDepth 100000 in
set_option maxHeartbeats 4000000 in
theorem r_X9_read_0_J115 {p : Program} {l : Launch} {e : Env} {s : State} {m : MethodId} {args : Array Value} {below : List Frame} {meth : Method} {c : Code} {D : va_G} {cy : Nat → ClassId} {ad : Nat → Nat} (C : CX p s m args meth c cX9_read 9 RX9 (some .int) D cy ad (AD ad)) {a2 : Int32} {a3 : Int32} {a4 : Int32} {a6 : Int32} {a7 : Int32} {a8 : Int32} {μ : Mem} {ρ : (Int32 × Mem)} (k45 : Int32 → Int32 → Int32 → Mem → Option (Int32 × Mem)) (hk45 : ∀ (a6 : Int32) (a7 : Int32) (a8 : Int32) (μ : Mem), k45 a6 a7 a8 μ = some ρ → WA p l e (rmD 3) s m args below meth c 9 D cy ad (AD ad) 0 0 (ZZ below args s D cy ad (AD ad) 0 0 (some (.int ρ.1)) ρ.2) μ [(0, .ref 0), (2, .int a2), (3, .int a3), (4, .int a4), (5, .ref 27), (6, .int a6), (7, .int a7), (8, .int a8)] 45 []) (h : f_X9_read_0_J115 k45 a2 a3 a4 a6 a7 a8 μ = some ρ) : WA p l e (rmD 3) s m args below meth c 9 D cy ad (AD ad) 0 0 (ZZ below args s D cy ad (AD ad) 0 0 (some (.int ρ.1)) ρ.2) μ [(0, .ref 0), (2, .int a2), (3, .int a3), (4, .int a4), (5, .ref 27), (6, .int a6), (7, .int a7), (8, .int a8)] 115 [] := by
  unfold f_X9_read_0_J115 at h
  refine wa_iinc (v := (a8 + 1)) C dX9_read_115 rfl rfl (by decide) ?_
  refine wa_goto (tgt := 45) C dX9_read_118 (by decide) ?_
  exact WA.sub (lsub_c rfl (lsub_c rfl (lsub_c rfl (lsub_c rfl (lsub_c rfl (lsub_c rfl (lsub_c rfl (lsub_c rfl lsub_n)))))))) (hk45 _ _ _ _ h)
set_option maxRecDepth 100000 in
set_option maxHeartbeats 4000000 in
theorem r_X9_read_0_L45 {p : Program} {l : Launch} {e : Env} {s : State} {m : MethodId} {args : Array Value} {below : List Frame} {meth : Method} {c : Code} {D : va_G} {cy : Nat → ClassId} {ad : Nat → Nat} (C : CX p s m args meth c cX9_read 9 RX9 (some .int) D cy ad (AD ad)) (a2 : Int32) (a3 : Int32) (a4 : Int32) {ρ : (Int32 × Mem)} : ∀ (n : Nat) (a6 : Int32) (a7 : Int32) (a8 : Int32) (μ : Mem), it4 (f_X9_read_0_L45 a2 a3 a4) n a6 a7 a8 μ = some ρ → WA p l e (rmD 3) s m args below meth c 9 D cy ad (AD ad) 0 0 (ZZ below args s D cy ad (AD ad) 0 0 (some (.int ρ.1)) ρ.2) μ [(0, .ref 0), (2, .int a2), (3, .int a3), (4, .int a4), (5, .ref 27), (6, .int a6), (7, .int a7), (8, .int a8)] 45 [] := by
  intro n
  induction n with
  | zero =>
    intro a6 a7 a8 μ h
    exact absurd h (fun h => by cases h)
  | succ n ih =>
    intro a6 a7 a8 μ h
    replace h : f_X9_read_0_L45 a2 a3 a4 (it4 (f_X9_read_0_L45 a2 a3 a4) n) a6 a7 a8 μ = some ρ := h
    unfold f_X9_read_0_L45 at h
    refine wa_iload C dX9_read_45 rfl ?_
    refine wa_iload C dX9_read_47 rfl ?_
    refine wa_icmp_ge (tgt := 121) C dX9_read_49 (by decide) (fun c8 => ?_) (fun c8 => ?_)
    · replace h := (if_pos c8).symm.trans h
      exact WA.sub (lsub_c rfl (lsub_c rfl (lsub_c rfl (lsub_c rfl (lsub_c rfl lsub_n))))) (r_X9_read_0_J121 C h)
    · replace h := (if_neg c8).symm.trans h
      refine wa_iload C dX9_read_52 rfl ?_
      refine wa_if_ne (tgt := 121) C dX9_read_54 (by decide) (fun c13 => ?_) (fun c13 => ?_)
      · replace h := (if_neg c13).symm.trans h
        exact WA.sub (lsub_c rfl (lsub_c rfl (lsub_c rfl (lsub_c rfl (lsub_c rfl lsub_n))))) (r_X9_read_0_J121 C h)
      · replace h := (if_pos c13).symm.trans h
        refine wa_aload C dX9_read_57 rfl ?_
        refine wa_iload_n C dX9_read_59 rfl ?_
        refine wa_iload_n C dX9_read_60 rfl ?_
        refine wa_iload C dX9_read_61 rfl ?_
        obtain ⟨q14, hq14, h⟩ := bd h
        refine wa_callV C (r_X6_faultOfPair_27 hq14) mk_X6_faultOfPair mv_X6_faultOfPair qw_1112 rfl (by decide) rfl rfl ⟨Nat.le_of_ble_eq_true rfl, Nat.le_of_ble_eq_true rfl⟩ ⟨Nat.zero_le _, Nat.zero_le _⟩ (Nat.le_of_ble_eq_true rfl) dX9_read_63 rfl ?_
        refine wa_istore C dX9_read_66 (by decide) ?_
        refine wa_iload C dX9_read_68 rfl ?_
        refine wa_if_ne (tgt := 115) C dX9_read_70 (by decide) (fun c15 => ?_) (fun c15 => ?_)
        · replace h := (if_neg c15).symm.trans h
          exact WA.sub (lsub_c rfl (lsub_c rfl (lsub_c rfl (lsub_c rfl (lsub_c rfl (lsub_c rfl (lsub_c rfl (lsub_c rfl lsub_n)))))))) (r_X9_read_0_J115 C _ (fun _ _ _ _ h => ih _ _ _ _ h) h)
        · replace h := (if_pos c15).symm.trans h
          refine wa_aload_n C dX9_read_73 rfl ?_
          refine wa_aload C dX9_read_74 rfl ?_
          refine wa_getr C fl_RX9_287 rfl rfl (by decide) dX9_read_76 ?_
          refine wa_iload_n C dX9_read_79 rfl ?_
          refine wa_iconst (v := 2) C dX9_read_80 (by decide) ?_
          refine wa_iload C dX9_read_81 rfl ?_
          refine wa_imul C dX9_read_83 ?_
          refine wa_iadd C dX9_read_84 ?_
          obtain ⟨g16, h⟩ := gd h
          refine wa_iald (j := ((a3 + ((2 : Int32) * a8)).toNatClampNeg)) (x := (q14.2.1 28 ((a3 + ((2 : Int32) * a8)).toNatClampNeg))) C rfl (by decide) g16 rfl rfl dX9_read_85 ?_
          refine wa_aload C dX9_read_86 rfl ?_
          refine wa_getr C fl_RX9_287 rfl rfl (by decide) dX9_read_88 ?_
          refine wa_iload_n C dX9_read_91 rfl ?_
          refine wa_iconst (v := 2) C dX9_read_92 (by decide) ?_
          refine wa_iload C dX9_read_93 rfl ?_
          refine wa_imul C dX9_read_95 ?_
          refine wa_iadd C dX9_read_96 ?_
          refine wa_iconst (v := 1) C dX9_read_97 (by decide) ?_
          refine wa_iadd C dX9_read_98 ?_
          obtain ⟨g17, h⟩ := gd h
          refine wa_iald (j := (((a3 + ((2 : Int32) * a8)) + (1 : Int32)).toNatClampNeg)) (x := (q14.2.1 28 (((a3 + ((2 : Int32) * a8)) + (1 : Int32)).toNatClampNeg))) C rfl (by decide) g17 rfl rfl dX9_read_99 ?_
          obtain ⟨q18, hq18, h⟩ := bd h
          refine wa_callV C (r_X9_canTell_0 hq18) mk_X9_canTell mv_X9_canTell qw_579 rfl (by decide) rfl rfl ⟨Nat.le_of_ble_eq_true rfl, Nat.le_of_ble_eq_true rfl⟩ ⟨Nat.zero_le _, Nat.zero_le _⟩ (Nat.le_of_ble_eq_true rfl) dX9_read_100 rfl ?_
          refine wa_if_ne (tgt := 112) C dX9_read_103 (by decide) (fun c19 => ?_) (fun c19 => ?_)
          · replace h := (if_neg c19).symm.trans h
            refine wa_iinc (v := (a7 + 1)) C dX9_read_112 rfl rfl (by decide) ?_
            exact WA.sub (lsub_c rfl (lsub_c rfl (lsub_c rfl (lsub_c rfl (lsub_c rfl (lsub_c rfl (lsub_c rfl (lsub_c rfl lsub_n)))))))) (r_X9_read_0_J115 C _ (fun _ _ _ _ h => ih _ _ _ _ h) h)
          · replace h := (if_pos c19).symm.trans h
            refine wa_bipush (v := -20) C dX9_read_106 (by decide) ?_
            refine wa_iload C dX9_read_108 rfl ?_
            refine wa_isub C dX9_read_110 ?_
            obtain rfl := Option.some.inj h
            exact wa_iret C dX9_read_111
set_option maxRecDepth 100000 in
set_option maxHeartbeats 4000000 in
theorem r_X9_read_0_L124e1 {p : Program} {l : Launch} {e : Env} {s : State} {m : MethodId} {args : Array Value} {below : List Frame} {meth : Method} {c : Code} {D : va_G} {cy : Nat → ClassId} {ad : Nat → Nat} (C : CX p s m args meth c cX9_read 9 RX9 (some .int) D cy ad (AD ad)) (a3 : Int32) (a6 : Int32) (a7 : Int32) {ρ : (Int32 × Mem)} : ∀ (n : Nat) (a8 : Int32) (μ : Mem), it2 (f_X9_read_0_L124e1 a3 a6 a7) n a8 μ = some ρ → WA p l e (rmD 3) s m args below meth c 9 D cy ad (AD ad) 0 0 (ZZ below args s D cy ad (AD ad) 0 0 (some (.int ρ.1)) ρ.2) μ [(0, .ref 0), (3, .int a3), (5, .ref 29), (6, .int a6), (7, .int a7), (8, .int a8)] 124 [] := by
  intro n
  induction n with
  | zero =>
    intro a8 μ h
    exact absurd h (fun h => by cases h)
  | succ n ih =>
    intro a8 μ h
    replace h : f_X9_read_0_L124e1 a3 a6 a7 (it2 (f_X9_read_0_L124e1 a3 a6 a7) n) a8 μ = some ρ := h
    unfold f_X9_read_0_L124e1 at h
    refine wa_iload C dX9_read_124 rfl ?_
    refine wa_iload C dX9_read_126 rfl ?_
    refine wa_icmp_ge (tgt := 171) C dX9_read_128 (by decide) (fun c22 => ?_) (fun c22 => ?_)
    · replace h := (if_pos c22).symm.trans h
      refine wa_aload_n C dX9_read_171 rfl ?_
      refine wa_iload C dX9_read_172 rfl ?_
      refine wa_puti C fl_RX9_290 fp_9_5 rfl rfl (by decide) rfl rfl dX9_read_174 ?_
      refine wa_iload C dX9_read_177 rfl ?_
      obtain rfl := Option.some.inj h
      exact wa_iret C dX9_read_179
    · replace h := (if_neg c22).symm.trans h
      refine wa_aload_n C dX9_read_131 rfl ?_
      refine wa_getr C fl_RX9_19 rfl rfl (by decide) dX9_read_132 ?_
      refine wa_getr C fl_RX9_157 rfl rfl (by decide) dX9_read_135 ?_
      refine wa_aload C dX9_read_138 rfl ?_
      refine wa_getr C fl_RX9_287 rfl rfl (by decide) dX9_read_140 ?_
      refine wa_iload_n C dX9_read_143 rfl ?_
      refine wa_iconst (v := 2) C dX9_read_144 (by decide) ?_
      refine wa_iload C dX9_read_145 rfl ?_
      refine wa_imul C dX9_read_147 ?_
      refine wa_iadd C dX9_read_148 ?_
      obtain ⟨g23, h⟩ := gd h
      refine wa_iald (j := ((a3 + ((2 : Int32) * a8)).toNatClampNeg)) (x := (μ.1 30 ((a3 + ((2 : Int32) * a8)).toNatClampNeg))) C rfl (by decide) g23 rfl rfl dX9_read_149 ?_
      refine wa_aload C dX9_read_150 rfl ?_
      refine wa_getr C fl_RX9_287 rfl rfl (by decide) dX9_read_152 ?_
      refine wa_iload_n C dX9_read_155 rfl ?_
      refine wa_iconst (v := 2) C dX9_read_156 (by decide) ?_
      refine wa_iload C dX9_read_157 rfl ?_
      refine wa_imul C dX9_read_159 ?_
      refine wa_iadd C dX9_read_160 ?_
      refine wa_iconst (v := 1) C dX9_read_161 (by decide) ?_
      refine wa_iadd C dX9_read_162 ?_
      obtain ⟨g24, h⟩ := gd h
      refine wa_iald (j := (((a3 + ((2 : Int32) * a8)) + (1 : Int32)).toNatClampNeg)) (x := (μ.1 30 (((a3 + ((2 : Int32) * a8)) + (1 : Int32)).toNatClampNeg))) C rfl (by decide) g24 rfl rfl dX9_read_163 ?_
      obtain ⟨g25, h⟩ := gd h
      refine wa_iast (j := ((μ.1 30 ((a3 + ((2 : Int32) * a8)).toNatClampNeg)).toNatClampNeg)) C rfl (by decide) g25 rfl dX9_read_164 ?_
      refine wa_iinc (v := (a8 + 1)) C dX9_read_165 rfl rfl (by decide) ?_
      refine wa_goto (tgt := 124) C dX9_read_168 (by decide) ?_
      exact WA.sub (lsub_c rfl (lsub_c rfl (lsub_c rfl (lsub_c rfl (lsub_c rfl (lsub_c rfl lsub_n)))))) (ih _ _ h)
set_option maxRecDepth 100000 in
set_option maxHeartbeats 4000000 in
theorem r_X9_read_0_J121e1 {p : Program} {l : Launch} {e : Env} {s : State} {m : MethodId} {args : Array Value} {below : List Frame} {meth : Method} {c : Code} {D : va_G} {cy : Nat → ClassId} {ad : Nat → Nat} (C : CX p s m args meth c cX9_read 9 RX9 (some .int) D cy ad (AD ad)) {a3 : Int32} {a6 : Int32} {a7 : Int32} {μ : Mem} {ρ : (Int32 × Mem)} (h : f_X9_read_0_J121e1 a3 a6 a7 μ = some ρ) : WA p l e (rmD 3) s m args below meth c 9 D cy ad (AD ad) 0 0 (ZZ below args s D cy ad (AD ad) 0 0 (some (.int ρ.1)) ρ.2) μ [(0, .ref 0), (3, .int a3), (5, .ref 29), (6, .int a6), (7, .int a7)] 121 [] := by
  unfold f_X9_read_0_J121e1 at h
  refine wa_iconst (v := 0) C dX9_read_121 (by decide) ?_
  refine wa_istore C dX9_read_122 (by decide) ?_
  exact WA.sub (lsub_c rfl (lsub_c rfl (lsub_c rfl (lsub_c rfl (lsub_c rfl (lsub_c rfl lsub_n)))))) (r_X9_read_0_L124e1 C _ _ _ _ _ _ h)
set_option maxRecDepth 100000 in
set_option maxHeartbeats 4000000 in
theorem r_X9_read_0_J115e1 {p : Program} {l : Launch} {e : Env} {s : State} {m : MethodId} {args : Array Value} {below : List Frame} {meth : Method} {c : Code} {D : va_G} {cy : Nat → ClassId} {ad : Nat → Nat} (C : CX p s m args meth c cX9_read 9 RX9 (some .int) D cy ad (AD ad)) {a2 : Int32} {a3 : Int32} {a4 : Int32} {a6 : Int32} {a7 : Int32} {a8 : Int32} {μ : Mem} {ρ : (Int32 × Mem)} (k45 : Int32 → Int32 → Int32 → Mem → Option (Int32 × Mem)) (hk45 : ∀ (a6 : Int32) (a7 : Int32) (a8 : Int32) (μ : Mem), k45 a6 a7 a8 μ = some ρ → WA p l e (rmD 3) s m args below meth c 9 D cy ad (AD ad) 0 0 (ZZ below args s D cy ad (AD ad) 0 0 (some (.int ρ.1)) ρ.2) μ [(0, .ref 0), (2, .int a2), (3, .int a3), (4, .int a4), (5, .ref 29), (6, .int a6), (7, .int a7), (8, .int a8)] 45 []) (h : f_X9_read_0_J115e1 k45 a2 a3 a4 a6 a7 a8 μ = some ρ) : WA p l e (rmD 3) s m args below meth c 9 D cy ad (AD ad) 0 0 (ZZ below args s D cy ad (AD ad) 0 0 (some (.int ρ.1)) ρ.2) μ [(0, .ref 0), (2, .int a2), (3, .int a3), (4, .int a4), (5, .ref 29), (6, .int a6), (7, .int a7), (8, .int a8)] 115 [] := by
  unfold f_X9_read_0_J115e1 at h
  refine wa_iinc (v := (a8 + 1)) C dX9_read_115 rfl rfl (by decide) ?_
  refine wa_goto (tgt := 45) C dX9_read_118 (by decide) ?_
  exact WA.sub (lsub_c rfl (lsub_c rfl (lsub_c rfl (lsub_c rfl (lsub_c rfl (lsub_c rfl (lsub_c rfl (lsub_c rfl lsub_n)))))))) (hk45 _ _ _ _ h)
set_option maxRecDepth 100000 in
set_option maxHeartbeats 4000000 in
theorem r_X9_read_0_L45e1 {p : Program} {l : Launch} {e : Env} {s : State} {m : MethodId} {args : Array Value} {below : List Frame} {meth : Method} {c : Code} {D : va_G} {cy : Nat → ClassId} {ad : Nat → Nat} (C : CX p s m args meth c cX9_read 9 RX9 (some .int) D cy ad (AD ad)) (a2 : Int32) (a3 : Int32) (a4 : Int32) {ρ : (Int32 × Mem)} : ∀ (n : Nat) (a6 : Int32) (a7 : Int32) (a8 : Int32) (μ : Mem), it4 (f_X9_read_0_L45e1 a2 a3 a4) n a6 a7 a8 μ = some ρ → WA p l e (rmD 3) s m args below meth c 9 D cy ad (AD ad) 0 0 (ZZ below args s D cy ad (AD ad) 0 0 (some (.int ρ.1)) ρ.2) μ [(0, .ref 0), (2, .int a2), (3, .int a3), (4, .int a4), (5, .ref 29), (6, .int a6), (7, .int a7), (8, .int a8)] 45 [] := by
  intro n
  induction n with
  | zero =>
    intro a6 a7 a8 μ h
    exact absurd h (fun h => by cases h)
  | succ n ih =>
    intro a6 a7 a8 μ h
    replace h : f_X9_read_0_L45e1 a2 a3 a4 (it4 (f_X9_read_0_L45e1 a2 a3 a4) n) a6 a7 a8 μ = some ρ := h
    unfold f_X9_read_0_L45e1 at h
    refine wa_iload C dX9_read_45 rfl ?_
    refine wa_iload C dX9_read_47 rfl ?_
    refine wa_icmp_ge (tgt := 121) C dX9_read_49 (by decide) (fun c21 => ?_) (fun c21 => ?_)
    · replace h := (if_pos c21).symm.trans h
      exact WA.sub (lsub_c rfl (lsub_c rfl (lsub_c rfl (lsub_c rfl (lsub_c rfl lsub_n))))) (r_X9_read_0_J121e1 C h)
    · replace h := (if_neg c21).symm.trans h
      refine wa_iload C dX9_read_52 rfl ?_
      refine wa_if_ne (tgt := 121) C dX9_read_54 (by decide) (fun c26 => ?_) (fun c26 => ?_)
      · replace h := (if_neg c26).symm.trans h
        exact WA.sub (lsub_c rfl (lsub_c rfl (lsub_c rfl (lsub_c rfl (lsub_c rfl lsub_n))))) (r_X9_read_0_J121e1 C h)
      · replace h := (if_pos c26).symm.trans h
        refine wa_aload C dX9_read_57 rfl ?_
        refine wa_iload_n C dX9_read_59 rfl ?_
        refine wa_iload_n C dX9_read_60 rfl ?_
        refine wa_iload C dX9_read_61 rfl ?_
        obtain ⟨q27, hq27, h⟩ := bd h
        refine wa_callV C (r_X6_faultOfPair_29 hq27) mk_X6_faultOfPair mv_X6_faultOfPair qw_1112 rfl (by decide) rfl rfl ⟨Nat.le_of_ble_eq_true rfl, Nat.le_of_ble_eq_true rfl⟩ ⟨Nat.zero_le _, Nat.zero_le _⟩ (Nat.le_of_ble_eq_true rfl) dX9_read_63 rfl ?_
        refine wa_istore C dX9_read_66 (by decide) ?_
        refine wa_iload C dX9_read_68 rfl ?_
        refine wa_if_ne (tgt := 115) C dX9_read_70 (by decide) (fun c28 => ?_) (fun c28 => ?_)
        · replace h := (if_neg c28).symm.trans h
          exact WA.sub (lsub_c rfl (lsub_c rfl (lsub_c rfl (lsub_c rfl (lsub_c rfl (lsub_c rfl (lsub_c rfl (lsub_c rfl lsub_n)))))))) (r_X9_read_0_J115e1 C _ (fun _ _ _ _ h => ih _ _ _ _ h) h)
        · replace h := (if_pos c28).symm.trans h
          refine wa_aload_n C dX9_read_73 rfl ?_
          refine wa_aload C dX9_read_74 rfl ?_
          refine wa_getr C fl_RX9_287 rfl rfl (by decide) dX9_read_76 ?_
          refine wa_iload_n C dX9_read_79 rfl ?_
          refine wa_iconst (v := 2) C dX9_read_80 (by decide) ?_
          refine wa_iload C dX9_read_81 rfl ?_
          refine wa_imul C dX9_read_83 ?_
          refine wa_iadd C dX9_read_84 ?_
          obtain ⟨g29, h⟩ := gd h
          refine wa_iald (j := ((a3 + ((2 : Int32) * a8)).toNatClampNeg)) (x := (q27.2.1 30 ((a3 + ((2 : Int32) * a8)).toNatClampNeg))) C rfl (by decide) g29 rfl rfl dX9_read_85 ?_
          refine wa_aload C dX9_read_86 rfl ?_
          refine wa_getr C fl_RX9_287 rfl rfl (by decide) dX9_read_88 ?_
          refine wa_iload_n C dX9_read_91 rfl ?_
          refine wa_iconst (v := 2) C dX9_read_92 (by decide) ?_
          refine wa_iload C dX9_read_93 rfl ?_
          refine wa_imul C dX9_read_95 ?_
          refine wa_iadd C dX9_read_96 ?_
          refine wa_iconst (v := 1) C dX9_read_97 (by decide) ?_
          refine wa_iadd C dX9_read_98 ?_
          obtain ⟨g30, h⟩ := gd h
          refine wa_iald (j := (((a3 + ((2 : Int32) * a8)) + (1 : Int32)).toNatClampNeg)) (x := (q27.2.1 30 (((a3 + ((2 : Int32) * a8)) + (1 : Int32)).toNatClampNeg))) C rfl (by decide) g30 rfl rfl dX9_read_99 ?_
          obtain ⟨q31, hq31, h⟩ := bd h
          refine wa_callV C (r_X9_canTell_0 hq31) mk_X9_canTell mv_X9_canTell qw_579 rfl (by decide) rfl rfl ⟨Nat.le_of_ble_eq_true rfl, Nat.le_of_ble_eq_true rfl⟩ ⟨Nat.zero_le _, Nat.zero_le _⟩ (Nat.le_of_ble_eq_true rfl) dX9_read_100 rfl ?_
          refine wa_if_ne (tgt := 112) C dX9_read_103 (by decide) (fun c32 => ?_) (fun c32 => ?_)
          · replace h := (if_neg c32).symm.trans h
            refine wa_iinc (v := (a7 + 1)) C dX9_read_112 rfl rfl (by decide) ?_
            exact WA.sub (lsub_c rfl (lsub_c rfl (lsub_c rfl (lsub_c rfl (lsub_c rfl (lsub_c rfl (lsub_c rfl (lsub_c rfl lsub_n)))))))) (r_X9_read_0_J115e1 C _ (fun _ _ _ _ h => ih _ _ _ _ h) h)
          · replace h := (if_pos c32).symm.trans h
            refine wa_bipush (v := -20) C dX9_read_106 (by decide) ?_
            refine wa_iload C dX9_read_108 rfl ?_
            refine wa_isub C dX9_read_110 ?_
            obtain rfl := Option.some.inj h
            exact wa_iret C dX9_read_111
set_option maxRecDepth 100000 in
set_option maxHeartbeats 4000000 in
theorem r_X9_read_0_L124e2 {p : Program} {l : Launch} {e : Env} {s : State} {m : MethodId} {args : Array Value} {below : List Frame} {meth : Method} {c : Code} {D : va_G} {cy : Nat → ClassId} {ad : Nat → Nat} (C : CX p s m args meth c cX9_read 9 RX9 (some .int) D cy ad (AD ad)) (a3 : Int32) (a6 : Int32) (a7 : Int32) {ρ : (Int32 × Mem)} : ∀ (n : Nat) (a8 : Int32) (μ : Mem), it2 (f_X9_read_0_L124e2 a3 a6 a7) n a8 μ = some ρ → WA p l e (rmD 3) s m args below meth c 9 D cy ad (AD ad) 0 0 (ZZ below args s D cy ad (AD ad) 0 0 (some (.int ρ.1)) ρ.2) μ [(0, .ref 0), (3, .int a3), (5, .ref 31), (6, .int a6), (7, .int a7), (8, .int a8)] 124 [] := by
  intro n
  induction n with
  | zero =>
    intro a8 μ h
    exact absurd h (fun h => by cases h)
  | succ n ih =>
    intro a8 μ h
    replace h : f_X9_read_0_L124e2 a3 a6 a7 (it2 (f_X9_read_0_L124e2 a3 a6 a7) n) a8 μ = some ρ := h
    unfold f_X9_read_0_L124e2 at h
    refine wa_iload C dX9_read_124 rfl ?_
    refine wa_iload C dX9_read_126 rfl ?_
    refine wa_icmp_ge (tgt := 171) C dX9_read_128 (by decide) (fun c35 => ?_) (fun c35 => ?_)
    · replace h := (if_pos c35).symm.trans h
      refine wa_aload_n C dX9_read_171 rfl ?_
      refine wa_iload C dX9_read_172 rfl ?_
      refine wa_puti C fl_RX9_290 fp_9_5 rfl rfl (by decide) rfl rfl dX9_read_174 ?_
      refine wa_iload C dX9_read_177 rfl ?_
      obtain rfl := Option.some.inj h
      exact wa_iret C dX9_read_179
    · replace h := (if_neg c35).symm.trans h
      refine wa_aload_n C dX9_read_131 rfl ?_
      refine wa_getr C fl_RX9_19 rfl rfl (by decide) dX9_read_132 ?_
      refine wa_getr C fl_RX9_157 rfl rfl (by decide) dX9_read_135 ?_
      refine wa_aload C dX9_read_138 rfl ?_
      refine wa_getr C fl_RX9_287 rfl rfl (by decide) dX9_read_140 ?_
      refine wa_iload_n C dX9_read_143 rfl ?_
      refine wa_iconst (v := 2) C dX9_read_144 (by decide) ?_
      refine wa_iload C dX9_read_145 rfl ?_
      refine wa_imul C dX9_read_147 ?_
      refine wa_iadd C dX9_read_148 ?_
      obtain ⟨g36, h⟩ := gd h
      refine wa_iald (j := ((a3 + ((2 : Int32) * a8)).toNatClampNeg)) (x := (μ.1 32 ((a3 + ((2 : Int32) * a8)).toNatClampNeg))) C rfl (by decide) g36 rfl rfl dX9_read_149 ?_
      refine wa_aload C dX9_read_150 rfl ?_
      refine wa_getr C fl_RX9_287 rfl rfl (by decide) dX9_read_152 ?_
      refine wa_iload_n C dX9_read_155 rfl ?_
      refine wa_iconst (v := 2) C dX9_read_156 (by decide) ?_
      refine wa_iload C dX9_read_157 rfl ?_
      refine wa_imul C dX9_read_159 ?_
      refine wa_iadd C dX9_read_160 ?_
      refine wa_iconst (v := 1) C dX9_read_161 (by decide) ?_
      refine wa_iadd C dX9_read_162 ?_
      obtain ⟨g37, h⟩ := gd h
      refine wa_iald (j := (((a3 + ((2 : Int32) * a8)) + (1 : Int32)).toNatClampNeg)) (x := (μ.1 32 (((a3 + ((2 : Int32) * a8)) + (1 : Int32)).toNatClampNeg))) C rfl (by decide) g37 rfl rfl dX9_read_163 ?_
      obtain ⟨g38, h⟩ := gd h
      refine wa_iast (j := ((μ.1 32 ((a3 + ((2 : Int32) * a8)).toNatClampNeg)).toNatClampNeg)) C rfl (by decide) g38 rfl dX9_read_164 ?_
      refine wa_iinc (v := (a8 + 1)) C dX9_read_165 rfl rfl (by decide) ?_
      refine wa_goto (tgt := 124) C dX9_read_168 (by decide) ?_
      exact WA.sub (lsub_c rfl (lsub_c rfl (lsub_c rfl (lsub_c rfl (lsub_c rfl (lsub_c rfl lsub_n)))))) (ih _ _ h)
set_option maxRecDepth 100000 in
set_option maxHeartbeats 4000000 in
theorem r_X9_read_0_J121e2 {p : Program} {l : Launch} {e : Env} {s : State} {m : MethodId} {args : Array Value} {below : List Frame} {meth : Method} {c : Code} {D : va_G} {cy : Nat → ClassId} {ad : Nat → Nat} (C : CX p s m args meth c cX9_read 9 RX9 (some .int) D cy ad (AD ad)) {a3 : Int32} {a6 : Int32} {a7 : Int32} {μ : Mem} {ρ : (Int32 × Mem)} (h : f_X9_read_0_J121e2 a3 a6 a7 μ = some ρ) : WA p l e (rmD 3) s m args below meth c 9 D cy ad (AD ad) 0 0 (ZZ below args s D cy ad (AD ad) 0 0 (some (.int ρ.1)) ρ.2) μ [(0, .ref 0), (3, .int a3), (5, .ref 31), (6, .int a6), (7, .int a7)] 121 [] := by
  unfold f_X9_read_0_J121e2 at h
  refine wa_iconst (v := 0) C dX9_read_121 (by decide) ?_
  refine wa_istore C dX9_read_122 (by decide) ?_
  exact WA.sub (lsub_c rfl (lsub_c rfl (lsub_c rfl (lsub_c rfl (lsub_c rfl (lsub_c rfl lsub_n)))))) (r_X9_read_0_L124e2 C _ _ _ _ _ _ h)
set_option maxRecDepth 100000 in
set_option maxHeartbeats 4000000 in
theorem r_X9_read_0_J115e2 {p : Program} {l : Launch} {e : Env} {s : State} {m : MethodId} {args : Array Value} {below : List Frame} {meth : Method} {c : Code} {D : va_G} {cy : Nat → ClassId} {ad : Nat → Nat} (C : CX p s m args meth c cX9_read 9 RX9 (some .int) D cy ad (AD ad)) {a2 : Int32} {a3 : Int32} {a4 : Int32} {a6 : Int32} {a7 : Int32} {a8 : Int32} {μ : Mem} {ρ : (Int32 × Mem)} (k45 : Int32 → Int32 → Int32 → Mem → Option (Int32 × Mem)) (hk45 : ∀ (a6 : Int32) (a7 : Int32) (a8 : Int32) (μ : Mem), k45 a6 a7 a8 μ = some ρ → WA p l e (rmD 3) s m args below meth c 9 D cy ad (AD ad) 0 0 (ZZ below args s D cy ad (AD ad) 0 0 (some (.int ρ.1)) ρ.2) μ [(0, .ref 0), (2, .int a2), (3, .int a3), (4, .int a4), (5, .ref 31), (6, .int a6), (7, .int a7), (8, .int a8)] 45 []) (h : f_X9_read_0_J115e2 k45 a2 a3 a4 a6 a7 a8 μ = some ρ) : WA p l e (rmD 3) s m args below meth c 9 D cy ad (AD ad) 0 0 (ZZ below args s D cy ad (AD ad) 0 0 (some (.int ρ.1)) ρ.2) μ [(0, .ref 0), (2, .int a2), (3, .int a3), (4, .int a4), (5, .ref 31), (6, .int a6), (7, .int a7), (8, .int a8)] 115 [] := by
  unfold f_X9_read_0_J115e2 at h
  refine wa_iinc (v := (a8 + 1)) C dX9_read_115 rfl rfl (by decide) ?_
  refine wa_goto (tgt := 45) C dX9_read_118 (by decide) ?_
  exact WA.sub (lsub_c rfl (lsub_c rfl (lsub_c rfl (lsub_c rfl (lsub_c rfl (lsub_c rfl (lsub_c rfl (lsub_c rfl lsub_n)))))))) (hk45 _ _ _ _ h)
set_option maxRecDepth 100000 in
set_option maxHeartbeats 4000000 in
theorem r_X9_read_0_L45e2 {p : Program} {l : Launch} {e : Env} {s : State} {m : MethodId} {args : Array Value} {below : List Frame} {meth : Method} {c : Code} {D : va_G} {cy : Nat → ClassId} {ad : Nat → Nat} (C : CX p s m args meth c cX9_read 9 RX9 (some .int) D cy ad (AD ad)) (a2 : Int32) (a3 : Int32) (a4 : Int32) {ρ : (Int32 × Mem)} : ∀ (n : Nat) (a6 : Int32) (a7 : Int32) (a8 : Int32) (μ : Mem), it4 (f_X9_read_0_L45e2 a2 a3 a4) n a6 a7 a8 μ = some ρ → WA p l e (rmD 3) s m args below meth c 9 D cy ad (AD ad) 0 0 (ZZ below args s D cy ad (AD ad) 0 0 (some (.int ρ.1)) ρ.2) μ [(0, .ref 0), (2, .int a2), (3, .int a3), (4, .int a4), (5, .ref 31), (6, .int a6), (7, .int a7), (8, .int a8)] 45 [] := by
  intro n
  induction n with
  | zero =>
    intro a6 a7 a8 μ h
    exact absurd h (fun h => by cases h)
  | succ n ih =>
    intro a6 a7 a8 μ h
    replace h : f_X9_read_0_L45e2 a2 a3 a4 (it4 (f_X9_read_0_L45e2 a2 a3 a4) n) a6 a7 a8 μ = some ρ := h
    unfold f_X9_read_0_L45e2 at h
    refine wa_iload C dX9_read_45 rfl ?_
    refine wa_iload C dX9_read_47 rfl ?_
    refine wa_icmp_ge (tgt := 121) C dX9_read_49 (by decide) (fun c34 => ?_) (fun c34 => ?_)
    · replace h := (if_pos c34).symm.trans h
      exact WA.sub (lsub_c rfl (lsub_c rfl (lsub_c rfl (lsub_c rfl (lsub_c rfl lsub_n))))) (r_X9_read_0_J121e2 C h)
    · replace h := (if_neg c34).symm.trans h
      refine wa_iload C dX9_read_52 rfl ?_
      refine wa_if_ne (tgt := 121) C dX9_read_54 (by decide) (fun c39 => ?_) (fun c39 => ?_)
      · replace h := (if_neg c39).symm.trans h
        exact WA.sub (lsub_c rfl (lsub_c rfl (lsub_c rfl (lsub_c rfl (lsub_c rfl lsub_n))))) (r_X9_read_0_J121e2 C h)
      · replace h := (if_pos c39).symm.trans h
        refine wa_aload C dX9_read_57 rfl ?_
        refine wa_iload_n C dX9_read_59 rfl ?_
        refine wa_iload_n C dX9_read_60 rfl ?_
        refine wa_iload C dX9_read_61 rfl ?_
        obtain ⟨q40, hq40, h⟩ := bd h
        refine wa_callV C (r_X6_faultOfPair_31 hq40) mk_X6_faultOfPair mv_X6_faultOfPair qw_1112 rfl (by decide) rfl rfl ⟨Nat.le_of_ble_eq_true rfl, Nat.le_of_ble_eq_true rfl⟩ ⟨Nat.zero_le _, Nat.zero_le _⟩ (Nat.le_of_ble_eq_true rfl) dX9_read_63 rfl ?_
        refine wa_istore C dX9_read_66 (by decide) ?_
        refine wa_iload C dX9_read_68 rfl ?_
        refine wa_if_ne (tgt := 115) C dX9_read_70 (by decide) (fun c41 => ?_) (fun c41 => ?_)
        · replace h := (if_neg c41).symm.trans h
          exact WA.sub (lsub_c rfl (lsub_c rfl (lsub_c rfl (lsub_c rfl (lsub_c rfl (lsub_c rfl (lsub_c rfl (lsub_c rfl lsub_n)))))))) (r_X9_read_0_J115e2 C _ (fun _ _ _ _ h => ih _ _ _ _ h) h)
        · replace h := (if_pos c41).symm.trans h
          refine wa_aload_n C dX9_read_73 rfl ?_
          refine wa_aload C dX9_read_74 rfl ?_
          refine wa_getr C fl_RX9_287 rfl rfl (by decide) dX9_read_76 ?_
          refine wa_iload_n C dX9_read_79 rfl ?_
          refine wa_iconst (v := 2) C dX9_read_80 (by decide) ?_
          refine wa_iload C dX9_read_81 rfl ?_
          refine wa_imul C dX9_read_83 ?_
          refine wa_iadd C dX9_read_84 ?_
          obtain ⟨g42, h⟩ := gd h
          refine wa_iald (j := ((a3 + ((2 : Int32) * a8)).toNatClampNeg)) (x := (q40.2.1 32 ((a3 + ((2 : Int32) * a8)).toNatClampNeg))) C rfl (by decide) g42 rfl rfl dX9_read_85 ?_
          refine wa_aload C dX9_read_86 rfl ?_
          refine wa_getr C fl_RX9_287 rfl rfl (by decide) dX9_read_88 ?_
          refine wa_iload_n C dX9_read_91 rfl ?_
          refine wa_iconst (v := 2) C dX9_read_92 (by decide) ?_
          refine wa_iload C dX9_read_93 rfl ?_
          refine wa_imul C dX9_read_95 ?_
          refine wa_iadd C dX9_read_96 ?_
          refine wa_iconst (v := 1) C dX9_read_97 (by decide) ?_
          refine wa_iadd C dX9_read_98 ?_
          obtain ⟨g43, h⟩ := gd h
          refine wa_iald (j := (((a3 + ((2 : Int32) * a8)) + (1 : Int32)).toNatClampNeg)) (x := (q40.2.1 32 (((a3 + ((2 : Int32) * a8)) + (1 : Int32)).toNatClampNeg))) C rfl (by decide) g43 rfl rfl dX9_read_99 ?_
          obtain ⟨q44, hq44, h⟩ := bd h
          refine wa_callV C (r_X9_canTell_0 hq44) mk_X9_canTell mv_X9_canTell qw_579 rfl (by decide) rfl rfl ⟨Nat.le_of_ble_eq_true rfl, Nat.le_of_ble_eq_true rfl⟩ ⟨Nat.zero_le _, Nat.zero_le _⟩ (Nat.le_of_ble_eq_true rfl) dX9_read_100 rfl ?_
          refine wa_if_ne (tgt := 112) C dX9_read_103 (by decide) (fun c45 => ?_) (fun c45 => ?_)
          · replace h := (if_neg c45).symm.trans h
            refine wa_iinc (v := (a7 + 1)) C dX9_read_112 rfl rfl (by decide) ?_
            exact WA.sub (lsub_c rfl (lsub_c rfl (lsub_c rfl (lsub_c rfl (lsub_c rfl (lsub_c rfl (lsub_c rfl (lsub_c rfl lsub_n)))))))) (r_X9_read_0_J115e2 C _ (fun _ _ _ _ h => ih _ _ _ _ h) h)
          · replace h := (if_pos c45).symm.trans h
            refine wa_bipush (v := -20) C dX9_read_106 (by decide) ?_
            refine wa_iload C dX9_read_108 rfl ?_
            refine wa_isub C dX9_read_110 ?_
            obtain rfl := Option.some.inj h
            exact wa_iret C dX9_read_111
set_option maxRecDepth 100000 in
set_option maxHeartbeats 4000000 in
theorem r_X9_read_0_L124e3 {p : Program} {l : Launch} {e : Env} {s : State} {m : MethodId} {args : Array Value} {below : List Frame} {meth : Method} {c : Code} {D : va_G} {cy : Nat → ClassId} {ad : Nat → Nat} (C : CX p s m args meth c cX9_read 9 RX9 (some .int) D cy ad (AD ad)) (a3 : Int32) (a6 : Int32) (a7 : Int32) {ρ : (Int32 × Mem)} : ∀ (n : Nat) (a8 : Int32) (μ : Mem), it2 (f_X9_read_0_L124e3 a3 a6 a7) n a8 μ = some ρ → WA p l e (rmD 3) s m args below meth c 9 D cy ad (AD ad) 0 0 (ZZ below args s D cy ad (AD ad) 0 0 (some (.int ρ.1)) ρ.2) μ [(0, .ref 0), (3, .int a3), (5, .ref 33), (6, .int a6), (7, .int a7), (8, .int a8)] 124 [] := by
  intro n
  induction n with
  | zero =>
    intro a8 μ h
    exact absurd h (fun h => by cases h)
  | succ n ih =>
    intro a8 μ h
    replace h : f_X9_read_0_L124e3 a3 a6 a7 (it2 (f_X9_read_0_L124e3 a3 a6 a7) n) a8 μ = some ρ := h
    unfold f_X9_read_0_L124e3 at h
    refine wa_iload C dX9_read_124 rfl ?_
    refine wa_iload C dX9_read_126 rfl ?_
    refine wa_icmp_ge (tgt := 171) C dX9_read_128 (by decide) (fun c48 => ?_) (fun c48 => ?_)
    · replace h := (if_pos c48).symm.trans h
      refine wa_aload_n C dX9_read_171 rfl ?_
      refine wa_iload C dX9_read_172 rfl ?_
      refine wa_puti C fl_RX9_290 fp_9_5 rfl rfl (by decide) rfl rfl dX9_read_174 ?_
      refine wa_iload C dX9_read_177 rfl ?_
      obtain rfl := Option.some.inj h
      exact wa_iret C dX9_read_179
    · replace h := (if_neg c48).symm.trans h
      refine wa_aload_n C dX9_read_131 rfl ?_
      refine wa_getr C fl_RX9_19 rfl rfl (by decide) dX9_read_132 ?_
      refine wa_getr C fl_RX9_157 rfl rfl (by decide) dX9_read_135 ?_
      refine wa_aload C dX9_read_138 rfl ?_
      refine wa_getr C fl_RX9_287 rfl rfl (by decide) dX9_read_140 ?_
      refine wa_iload_n C dX9_read_143 rfl ?_
      refine wa_iconst (v := 2) C dX9_read_144 (by decide) ?_
      refine wa_iload C dX9_read_145 rfl ?_
      refine wa_imul C dX9_read_147 ?_
      refine wa_iadd C dX9_read_148 ?_
      obtain ⟨g49, h⟩ := gd h
      refine wa_iald (j := ((a3 + ((2 : Int32) * a8)).toNatClampNeg)) (x := (μ.1 34 ((a3 + ((2 : Int32) * a8)).toNatClampNeg))) C rfl (by decide) g49 rfl rfl dX9_read_149 ?_
      refine wa_aload C dX9_read_150 rfl ?_
      refine wa_getr C fl_RX9_287 rfl rfl (by decide) dX9_read_152 ?_
      refine wa_iload_n C dX9_read_155 rfl ?_
      refine wa_iconst (v := 2) C dX9_read_156 (by decide) ?_
      refine wa_iload C dX9_read_157 rfl ?_
      refine wa_imul C dX9_read_159 ?_
      refine wa_iadd C dX9_read_160 ?_
      refine wa_iconst (v := 1) C dX9_read_161 (by decide) ?_
      refine wa_iadd C dX9_read_162 ?_
      obtain ⟨g50, h⟩ := gd h
      refine wa_iald (j := (((a3 + ((2 : Int32) * a8)) + (1 : Int32)).toNatClampNeg)) (x := (μ.1 34 (((a3 + ((2 : Int32) * a8)) + (1 : Int32)).toNatClampNeg))) C rfl (by decide) g50 rfl rfl dX9_read_163 ?_
      obtain ⟨g51, h⟩ := gd h
      refine wa_iast (j := ((μ.1 34 ((a3 + ((2 : Int32) * a8)).toNatClampNeg)).toNatClampNeg)) C rfl (by decide) g51 rfl dX9_read_164 ?_
      refine wa_iinc (v := (a8 + 1)) C dX9_read_165 rfl rfl (by decide) ?_
      refine wa_goto (tgt := 124) C dX9_read_168 (by decide) ?_
      exact WA.sub (lsub_c rfl (lsub_c rfl (lsub_c rfl (lsub_c rfl (lsub_c rfl (lsub_c rfl lsub_n)))))) (ih _ _ h)
set_option maxRecDepth 100000 in
set_option maxHeartbeats 4000000 in
theorem r_X9_read_0_J121e3 {p : Program} {l : Launch} {e : Env} {s : State} {m : MethodId} {args : Array Value} {below : List Frame} {meth : Method} {c : Code} {D : va_G} {cy : Nat → ClassId} {ad : Nat → Nat} (C : CX p s m args meth c cX9_read 9 RX9 (some .int) D cy ad (AD ad)) {a3 : Int32} {a6 : Int32} {a7 : Int32} {μ : Mem} {ρ : (Int32 × Mem)} (h : f_X9_read_0_J121e3 a3 a6 a7 μ = some ρ) : WA p l e (rmD 3) s m args below meth c 9 D cy ad (AD ad) 0 0 (ZZ below args s D cy ad (AD ad) 0 0 (some (.int ρ.1)) ρ.2) μ [(0, .ref 0), (3, .int a3), (5, .ref 33), (6, .int a6), (7, .int a7)] 121 [] := by
  unfold f_X9_read_0_J121e3 at h
  refine wa_iconst (v := 0) C dX9_read_121 (by decide) ?_
  refine wa_istore C dX9_read_122 (by decide) ?_
  exact WA.sub (lsub_c rfl (lsub_c rfl (lsub_c rfl (lsub_c rfl (lsub_c rfl (lsub_c rfl lsub_n)))))) (r_X9_read_0_L124e3 C _ _ _ _ _ _ h)
set_option maxRecDepth 100000 in
set_option maxHeartbeats 4000000 in
theorem r_X9_read_0_J115e3 {p : Program} {l : Launch} {e : Env} {s : State} {m : MethodId} {args : Array Value} {below : List Frame} {meth : Method} {c : Code} {D : va_G} {cy : Nat → ClassId} {ad : Nat → Nat} (C : CX p s m args meth c cX9_read 9 RX9 (some .int) D cy ad (AD ad)) {a2 : Int32} {a3 : Int32} {a4 : Int32} {a6 : Int32} {a7 : Int32} {a8 : Int32} {μ : Mem} {ρ : (Int32 × Mem)} (k45 : Int32 → Int32 → Int32 → Mem → Option (Int32 × Mem)) (hk45 : ∀ (a6 : Int32) (a7 : Int32) (a8 : Int32) (μ : Mem), k45 a6 a7 a8 μ = some ρ → WA p l e (rmD 3) s m args below meth c 9 D cy ad (AD ad) 0 0 (ZZ below args s D cy ad (AD ad) 0 0 (some (.int ρ.1)) ρ.2) μ [(0, .ref 0), (2, .int a2), (3, .int a3), (4, .int a4), (5, .ref 33), (6, .int a6), (7, .int a7), (8, .int a8)] 45 []) (h : f_X9_read_0_J115e3 k45 a2 a3 a4 a6 a7 a8 μ = some ρ) : WA p l e (rmD 3) s m args below meth c 9 D cy ad (AD ad) 0 0 (ZZ below args s D cy ad (AD ad) 0 0 (some (.int ρ.1)) ρ.2) μ [(0, .ref 0), (2, .int a2), (3, .int a3), (4, .int a4), (5, .ref 33), (6, .int a6), (7, .int a7), (8, .int a8)] 115 [] := by
  unfold f_X9_read_0_J115e3 at h
  refine wa_iinc (v := (a8 + 1)) C dX9_read_115 rfl rfl (by decide) ?_
  refine wa_goto (tgt := 45) C dX9_read_118 (by decide) ?_
  exact WA.sub (lsub_c rfl (lsub_c rfl (lsub_c rfl (lsub_c rfl (lsub_c rfl (lsub_c rfl (lsub_c rfl (lsub_c rfl lsub_n)))))))) (hk45 _ _ _ _ h)
set_option maxRecDepth 100000 in
set_option maxHeartbeats 4000000 in
theorem r_X9_read_0_L45e3 {p : Program} {l : Launch} {e : Env} {s : State} {m : MethodId} {args : Array Value} {below : List Frame} {meth : Method} {c : Code} {D : va_G} {cy : Nat → ClassId} {ad : Nat → Nat} (C : CX p s m args meth c cX9_read 9 RX9 (some .int) D cy ad (AD ad)) (a2 : Int32) (a3 : Int32) (a4 : Int32) {ρ : (Int32 × Mem)} : ∀ (n : Nat) (a6 : Int32) (a7 : Int32) (a8 : Int32) (μ : Mem), it4 (f_X9_read_0_L45e3 a2 a3 a4) n a6 a7 a8 μ = some ρ → WA p l e (rmD 3) s m args below meth c 9 D cy ad (AD ad) 0 0 (ZZ below args s D cy ad (AD ad) 0 0 (some (.int ρ.1)) ρ.2) μ [(0, .ref 0), (2, .int a2), (3, .int a3), (4, .int a4), (5, .ref 33), (6, .int a6), (7, .int a7), (8, .int a8)] 45 [] := by
  intro n
  induction n with
  | zero =>
    intro a6 a7 a8 μ h
    exact absurd h (fun h => by cases h)
  | succ n ih =>
    intro a6 a7 a8 μ h
    replace h : f_X9_read_0_L45e3 a2 a3 a4 (it4 (f_X9_read_0_L45e3 a2 a3 a4) n) a6 a7 a8 μ = some ρ := h
    unfold f_X9_read_0_L45e3 at h
    refine wa_iload C dX9_read_45 rfl ?_
    refine wa_iload C dX9_read_47 rfl ?_
    refine wa_icmp_ge (tgt := 121) C dX9_read_49 (by decide) (fun c47 => ?_) (fun c47 => ?_)
    · replace h := (if_pos c47).symm.trans h
      exact WA.sub (lsub_c rfl (lsub_c rfl (lsub_c rfl (lsub_c rfl (lsub_c rfl lsub_n))))) (r_X9_read_0_J121e3 C h)
    · replace h := (if_neg c47).symm.trans h
      refine wa_iload C dX9_read_52 rfl ?_
      refine wa_if_ne (tgt := 121) C dX9_read_54 (by decide) (fun c52 => ?_) (fun c52 => ?_)
      · replace h := (if_neg c52).symm.trans h
        exact WA.sub (lsub_c rfl (lsub_c rfl (lsub_c rfl (lsub_c rfl (lsub_c rfl lsub_n))))) (r_X9_read_0_J121e3 C h)
      · replace h := (if_pos c52).symm.trans h
        refine wa_aload C dX9_read_57 rfl ?_
        refine wa_iload_n C dX9_read_59 rfl ?_
        refine wa_iload_n C dX9_read_60 rfl ?_
        refine wa_iload C dX9_read_61 rfl ?_
        obtain ⟨q53, hq53, h⟩ := bd h
        refine wa_callV C (r_X6_faultOfPair_33 hq53) mk_X6_faultOfPair mv_X6_faultOfPair qw_1112 rfl (by decide) rfl rfl ⟨Nat.le_of_ble_eq_true rfl, Nat.le_of_ble_eq_true rfl⟩ ⟨Nat.zero_le _, Nat.zero_le _⟩ (Nat.le_of_ble_eq_true rfl) dX9_read_63 rfl ?_
        refine wa_istore C dX9_read_66 (by decide) ?_
        refine wa_iload C dX9_read_68 rfl ?_
        refine wa_if_ne (tgt := 115) C dX9_read_70 (by decide) (fun c54 => ?_) (fun c54 => ?_)
        · replace h := (if_neg c54).symm.trans h
          exact WA.sub (lsub_c rfl (lsub_c rfl (lsub_c rfl (lsub_c rfl (lsub_c rfl (lsub_c rfl (lsub_c rfl (lsub_c rfl lsub_n)))))))) (r_X9_read_0_J115e3 C _ (fun _ _ _ _ h => ih _ _ _ _ h) h)
        · replace h := (if_pos c54).symm.trans h
          refine wa_aload_n C dX9_read_73 rfl ?_
          refine wa_aload C dX9_read_74 rfl ?_
          refine wa_getr C fl_RX9_287 rfl rfl (by decide) dX9_read_76 ?_
          refine wa_iload_n C dX9_read_79 rfl ?_
          refine wa_iconst (v := 2) C dX9_read_80 (by decide) ?_
          refine wa_iload C dX9_read_81 rfl ?_
          refine wa_imul C dX9_read_83 ?_
          refine wa_iadd C dX9_read_84 ?_
          obtain ⟨g55, h⟩ := gd h
          refine wa_iald (j := ((a3 + ((2 : Int32) * a8)).toNatClampNeg)) (x := (q53.2.1 34 ((a3 + ((2 : Int32) * a8)).toNatClampNeg))) C rfl (by decide) g55 rfl rfl dX9_read_85 ?_
          refine wa_aload C dX9_read_86 rfl ?_
          refine wa_getr C fl_RX9_287 rfl rfl (by decide) dX9_read_88 ?_
          refine wa_iload_n C dX9_read_91 rfl ?_
          refine wa_iconst (v := 2) C dX9_read_92 (by decide) ?_
          refine wa_iload C dX9_read_93 rfl ?_
          refine wa_imul C dX9_read_95 ?_
          refine wa_iadd C dX9_read_96 ?_
          refine wa_iconst (v := 1) C dX9_read_97 (by decide) ?_
          refine wa_iadd C dX9_read_98 ?_
          obtain ⟨g56, h⟩ := gd h
          refine wa_iald (j := (((a3 + ((2 : Int32) * a8)) + (1 : Int32)).toNatClampNeg)) (x := (q53.2.1 34 (((a3 + ((2 : Int32) * a8)) + (1 : Int32)).toNatClampNeg))) C rfl (by decide) g56 rfl rfl dX9_read_99 ?_
          obtain ⟨q57, hq57, h⟩ := bd h
          refine wa_callV C (r_X9_canTell_0 hq57) mk_X9_canTell mv_X9_canTell qw_579 rfl (by decide) rfl rfl ⟨Nat.le_of_ble_eq_true rfl, Nat.le_of_ble_eq_true rfl⟩ ⟨Nat.zero_le _, Nat.zero_le _⟩ (Nat.le_of_ble_eq_true rfl) dX9_read_100 rfl ?_
          refine wa_if_ne (tgt := 112) C dX9_read_103 (by decide) (fun c58 => ?_) (fun c58 => ?_)
          · replace h := (if_neg c58).symm.trans h
            refine wa_iinc (v := (a7 + 1)) C dX9_read_112 rfl rfl (by decide) ?_
            exact WA.sub (lsub_c rfl (lsub_c rfl (lsub_c rfl (lsub_c rfl (lsub_c rfl (lsub_c rfl (lsub_c rfl (lsub_c rfl lsub_n)))))))) (r_X9_read_0_J115e3 C _ (fun _ _ _ _ h => ih _ _ _ _ h) h)
          · replace h := (if_pos c58).symm.trans h
            refine wa_bipush (v := -20) C dX9_read_106 (by decide) ?_
            refine wa_iload C dX9_read_108 rfl ?_
            refine wa_isub C dX9_read_110 ?_
            obtain rfl := Option.some.inj h
            exact wa_iret C dX9_read_111
set_option maxRecDepth 100000 in
set_option maxHeartbeats 4000000 in
theorem r_X9_read_0 {a1 : Int32} {a2 : Int32} {a3 : Int32} {a4 : Int32} {μ : Mem} {ρ : (Int32 × Mem)} (h : f_X9_read_0 a1 a2 a3 a4 μ = some ρ) : HT 3 yX9_read cX9_read 9 (some .int) [.ref 0, .int a1, .int a2, .int a3, .int a4] μ (some (.int ρ.1)) ρ.2 := by
  refine HT.of (by decide +kernel) (Nat.le_of_ble_eq_true rfl) (fun C => ?_)
  unfold f_X9_read_0 at h
  refine wa_iload_n C dX9_read_0 rfl ?_
  obtain ⟨q1, hq1, h⟩ := bd h
  refine wa_callS C (r_X9_isSheet hq1) mk_X9_isSheet ms_X9_isSheet qw_1067 rfl ⟨Nat.le_of_ble_eq_true rfl, Nat.le_of_ble_eq_true rfl⟩ ⟨Nat.zero_le _, Nat.zero_le _⟩ (Nat.le_of_ble_eq_true rfl) dX9_read_1 rfl ?_
  refine wa_if_eq (tgt := 26) C dX9_read_4 (by decide) (fun c2 => ?_) (fun c2 => ?_)
  · replace h := (if_pos c2).symm.trans h
    refine wa_iconst (v := -1) C dX9_read_26 (by decide) ?_
    obtain rfl := Option.some.inj h
    exact wa_iret C dX9_read_27
  · replace h := (if_neg c2).symm.trans h
    refine wa_iload_n C dX9_read_7 rfl ?_
    obtain ⟨q3, hq3, h⟩ := bd h
    refine wa_callS C (r_X9_isLane hq3) mk_X9_isLane ms_X9_isLane qw_1070 rfl ⟨Nat.le_of_ble_eq_true rfl, Nat.le_of_ble_eq_true rfl⟩ ⟨Nat.zero_le _, Nat.zero_le _⟩ (Nat.le_of_ble_eq_true rfl) dX9_read_8 rfl ?_
    refine wa_if_eq (tgt := 26) C dX9_read_11 (by decide) (fun c4 => ?_) (fun c4 => ?_)
    · replace h := (if_pos c4).symm.trans h
      refine wa_iconst (v := -1) C dX9_read_26 (by decide) ?_
      obtain rfl := Option.some.inj h
      exact wa_iret C dX9_read_27
    · replace h := (if_neg c4).symm.trans h
      refine wa_iload C dX9_read_14 rfl ?_
      refine wa_if_lt (tgt := 26) C dX9_read_16 (by decide) (fun c5 => ?_) (fun c5 => ?_)
      · replace h := (if_pos c5).symm.trans h
        refine wa_iconst (v := -1) C dX9_read_26 (by decide) ?_
        obtain rfl := Option.some.inj h
        exact wa_iret C dX9_read_27
      · replace h := (if_neg c5).symm.trans h
        refine wa_iload C dX9_read_19 rfl ?_
        refine wa_bipush (v := 13) C dX9_read_21 (by decide) ?_
        refine wa_icmp_le (tgt := 28) C dX9_read_23 (by decide) (fun c6 => ?_) (fun c6 => ?_)
        · replace h := (if_pos c6).symm.trans h
          refine wa_aload_n C dX9_read_28 rfl ?_
          refine wa_getr C fl_RX9_30 rfl rfl (by decide) dX9_read_29 ?_
          refine wa_iload_n C dX9_read_32 rfl ?_
          by_cases c7 : a1 = 0
          · replace h := (if_pos c7).symm.trans h
            refine wa_aald5 (j := 0) (q := 27) C (by rw [c7]; rfl) (by rw [c7]; rfl) rfl dX9_read_33 ?_
            refine wa_astore C dX9_read_34 (by decide) ?_
            refine wa_iconst (v := 0) C dX9_read_36 (by decide) ?_
            refine wa_istore C dX9_read_37 (by decide) ?_
            refine wa_iconst (v := 0) C dX9_read_39 (by decide) ?_
            refine wa_istore C dX9_read_40 (by decide) ?_
            refine wa_iconst (v := 0) C dX9_read_42 (by decide) ?_
            refine wa_istore C dX9_read_43 (by decide) ?_
            exact WA.sub (lsub_c rfl (lsub_c rfl (lsub_c rfl (lsub_c rfl (lsub_c rfl (lsub_c rfl (lsub_c rfl (lsub_c rfl lsub_n)))))))) (r_X9_read_0_L45 C _ _ _ _ _ _ _ _ h)
          replace h := (if_neg c7).symm.trans h
          by_cases c20 : a1 = 1
          · replace h := (if_pos c20).symm.trans h
            refine wa_aald5 (j := 1) (q := 29) C (by rw [c20]; rfl) (by rw [c20]; rfl) rfl dX9_read_33 ?_
            refine wa_astore C dX9_read_34 (by decide) ?_
            refine wa_iconst (v := 0) C dX9_read_36 (by decide) ?_
            refine wa_istore C dX9_read_37 (by decide) ?_
            refine wa_iconst (v := 0) C dX9_read_39 (by decide) ?_
            refine wa_istore C dX9_read_40 (by decide) ?_
            refine wa_iconst (v := 0) C dX9_read_42 (by decide) ?_
            refine wa_istore C dX9_read_43 (by decide) ?_
            exact WA.sub (lsub_c rfl (lsub_c rfl (lsub_c rfl (lsub_c rfl (lsub_c rfl (lsub_c rfl (lsub_c rfl (lsub_c rfl lsub_n)))))))) (r_X9_read_0_L45e1 C _ _ _ _ _ _ _ _ h)
          replace h := (if_neg c20).symm.trans h
          by_cases c33 : a1 = 2
          · replace h := (if_pos c33).symm.trans h
            refine wa_aald5 (j := 2) (q := 31) C (by rw [c33]; rfl) (by rw [c33]; rfl) rfl dX9_read_33 ?_
            refine wa_astore C dX9_read_34 (by decide) ?_
            refine wa_iconst (v := 0) C dX9_read_36 (by decide) ?_
            refine wa_istore C dX9_read_37 (by decide) ?_
            refine wa_iconst (v := 0) C dX9_read_39 (by decide) ?_
            refine wa_istore C dX9_read_40 (by decide) ?_
            refine wa_iconst (v := 0) C dX9_read_42 (by decide) ?_
            refine wa_istore C dX9_read_43 (by decide) ?_
            exact WA.sub (lsub_c rfl (lsub_c rfl (lsub_c rfl (lsub_c rfl (lsub_c rfl (lsub_c rfl (lsub_c rfl (lsub_c rfl lsub_n)))))))) (r_X9_read_0_L45e2 C _ _ _ _ _ _ _ _ h)
          replace h := (if_neg c33).symm.trans h
          by_cases c46 : a1 = 3
          · replace h := (if_pos c46).symm.trans h
            refine wa_aald5 (j := 3) (q := 33) C (by rw [c46]; rfl) (by rw [c46]; rfl) rfl dX9_read_33 ?_
            refine wa_astore C dX9_read_34 (by decide) ?_
            refine wa_iconst (v := 0) C dX9_read_36 (by decide) ?_
            refine wa_istore C dX9_read_37 (by decide) ?_
            refine wa_iconst (v := 0) C dX9_read_39 (by decide) ?_
            refine wa_istore C dX9_read_40 (by decide) ?_
            refine wa_iconst (v := 0) C dX9_read_42 (by decide) ?_
            refine wa_istore C dX9_read_43 (by decide) ?_
            exact WA.sub (lsub_c rfl (lsub_c rfl (lsub_c rfl (lsub_c rfl (lsub_c rfl (lsub_c rfl (lsub_c rfl (lsub_c rfl lsub_n)))))))) (r_X9_read_0_L45e3 C _ _ _ _ _ _ _ _ h)
          replace h := (if_neg c46).symm.trans h
          cases h
        · replace h := (if_neg c6).symm.trans h
          refine wa_iconst (v := -1) C dX9_read_26 (by decide) ?_
          obtain rfl := Option.some.inj h
          exact wa_iret C dX9_read_27
def f_X10_read_62_J256 (a5 : Int32) (a6 : Int32) (μ : Mem) : Option (Int32 × Mem) :=
  some (a6, (pI μ 62 38 a5))
def f_X10_read_62_J250 (k65 : Int32 → Int32 → Int32 → Mem → Option (Int32 × Mem)) (a1 : Int32) (a2 : Int32) (a3 : Int32) (a4 : Int32) (a5 : Int32) (a6 : Int32) (a7 : Int32) (μ : Mem) : Option (Int32 × Mem) :=
  k65 a5 a6 (a7 + 1) μ
def f_X10_read_62_L211 (a7 : Int32) (k211 : Int32 → Mem → Option (Int32 × Mem)) (a9 : Int32) (μ : Mem) : Option (Int32 × Mem) :=
    if (6 : Int32) ≤ a9 then
      some (((-20 : Int32) - a7), μ)
    else
      if inb a9 8 = false then none else
      if inb ((21 : Int32) + a9) 162 = false then none else
      k211 (a9 + 1) (pI μ 63 (((21 : Int32) + a9).toNatClampNeg) (μ.1 79 (a9.toNatClampNeg)))
def f_X10_read_62_J167 (k65 : Int32 → Int32 → Int32 → Mem → Option (Int32 × Mem)) (a1 : Int32) (a2 : Int32) (a3 : Int32) (a4 : Int32) (a5 : Int32) (a6 : Int32) (a7 : Int32) (μ : Mem) : Option (Int32 × Mem) :=
  if a5 = 0 then
    if inb ((((40 : Int32) * a1) + a3) + ((2 : Int32) * a7)) 160 = false then none else
    if inb (((((40 : Int32) * a1) + a3) + ((2 : Int32) * a7)) + (1 : Int32)) 160 = false then none else
    (f_X10_tell_62 (μ.1 78 (((((40 : Int32) * a1) + a3) + ((2 : Int32) * a7)).toNatClampNeg)) (μ.1 78 ((((((40 : Int32) * a1) + a3) + ((2 : Int32) * a7)) + (1 : Int32)).toNatClampNeg)) μ).bind fun q12 =>
    if 0 ≤ q12.1 then
      f_X10_read_62_J250 k65 a1 a2 a3 a4 a5 (a6 + 1) a7 q12.2
    else
      it2 (f_X10_read_62_L211 a7) FU (0 : Int32) q12.2
  else
    f_X10_read_62_J250 k65 a1 a2 a3 a4 a5 a6 a7 μ
def f_X10_read_62_J159 (k65 : Int32 → Int32 → Int32 → Mem → Option (Int32 × Mem)) (k80 : Int32 → Int32 → Option (Int32 × Mem)) (a1 : Int32) (a2 : Int32) (a3 : Int32) (a4 : Int32) (a6 : Int32) (a7 : Int32) (a8 : Int32) (t0 : Int32) (μ : Mem) : Option (Int32 × Mem) :=
  k80 t0 (a8 + 1)
def f_X10_read_62_J154 (k65 : Int32 → Int32 → Int32 → Mem → Option (Int32 × Mem)) (k80 : Int32 → Int32 → Option (Int32 × Mem)) (a1 : Int32) (a2 : Int32) (a3 : Int32) (a4 : Int32) (a6 : Int32) (a7 : Int32) (a8 : Int32) (μ : Mem) : Option (Int32 × Mem) :=
  f_X10_read_62_J159 k65 k80 a1 a2 a3 a4 a6 a7 a8 (2 : Int32) μ
def f_X10_read_62_L80 (a1 : Int32) (a2 : Int32) (a3 : Int32) (a4 : Int32) (a6 : Int32) (a7 : Int32) (μ : Mem) (k65 : Int32 → Int32 → Int32 → Mem → Option (Int32 × Mem)) (k80 : Int32 → Int32 → Option (Int32 × Mem)) (a5 : Int32) (a8 : Int32) : Option (Int32 × Mem) :=
    if (2 : Int32) ≤ a8 then
      f_X10_read_62_J167 k65 a1 a2 a3 a4 a5 a6 a7 μ
    else
      if a5 = 0 then
        if inb a1 4 = false then none else
        if (μ.1 76 (a1.toNatClampNeg)) = (-4 : Int32) then
          f_X10_read_62_J159 k65 k80 a1 a2 a3 a4 a6 a7 a8 (1 : Int32) μ
        else
          if inb a1 4 = false then none else
          if (μ.1 76 (a1.toNatClampNeg)) = a2 then
            if (lg_cmp (((a3.toInt64) + (((2 : Int32) * a7).toInt64)) + (a8.toInt64)) (0 : Int64)) < 0 then
              f_X10_read_62_J154 k65 k80 a1 a2 a3 a4 a6 a7 a8 μ
            else
              if inb a1 4 = false then none else
              if (lg_cmp (((a3.toInt64) + (((2 : Int32) * a7).toInt64)) + (a8.toInt64)) ((μ.1 77 (a1.toNatClampNeg)).toInt64)) < 0 then
                f_X10_read_62_J159 k65 k80 a1 a2 a3 a4 a6 a7 a8 (0 : Int32) μ
              else
                f_X10_read_62_J154 k65 k80 a1 a2 a3 a4 a6 a7 a8 μ
          else
            f_X10_read_62_J159 k65 k80 a1 a2 a3 a4 a6 a7 a8 (3 : Int32) μ
      else
        f_X10_read_62_J167 k65 a1 a2 a3 a4 a5 a6 a7 μ
def f_X10_read_62_L65 (a1 : Int32) (a2 : Int32) (a3 : Int32) (a4 : Int32) (k65 : Int32 → Int32 → Int32 → Mem → Option (Int32 × Mem)) (a5 : Int32) (a6 : Int32) (a7 : Int32) (μ : Mem) : Option (Int32 × Mem) :=
    if a4 ≤ a7 then
      f_X10_read_62_J256 a5 a6 μ
    else
      if a5 = 0 then
        it2 (f_X10_read_62_L80 a1 a2 a3 a4 a6 a7 μ k65) FU a5 (0 : Int32)
      else
        f_X10_read_62_J256 a5 a6 μ
def f_X10_read_62_L26 (a1 : Int32) (a2 : Int32) (a3 : Int32) (a4 : Int32) (k26 : Int32 → Mem → Option (Int32 × Mem)) (a5 : Int32) (μ : Mem) : Option (Int32 × Mem) :=
    if (6 : Int32) ≤ a5 then
      it4 (f_X10_read_62_L65 a1 a2 a3 a4) FU (0 : Int32) (0 : Int32) (0 : Int32) μ
    else
      if inb ((21 : Int32) + a5) 162 = false then none else
      if inb a5 8 = false then none else
      k26 (a5 + 1) (pI μ 79 (a5.toNatClampNeg) (μ.1 63 (((21 : Int32) + a5).toNatClampNeg)))
def f_X10_read_62 (a1 : Int32) (a2 : Int32) (a3 : Int32) (a4 : Int32) (μ : Mem) : Option (Int32 × Mem) :=
  (f_X10_isSheet a1 a2 μ).bind fun q1 =>
  if q1.1 = 0 then
    some ((-1 : Int32), q1.2)
  else
    (f_X10_in (a4.toInt64) (0 : Int64) (13 : Int64) q1.2).bind fun q3 =>
    if q3.1 = 0 then
      some ((-1 : Int32), q3.2)
    else
      it2 (f_X10_read_62_L26 a1 a2 a3 a4) FU (0 : Int32) q3.2
set_option maxRecDepth 100000 in
set_option maxHeartbeats 4000000 in
theorem r_X10_read_62_J256 {p : Program} {l : Launch} {e : Env} {s : State} {m : MethodId} {args : Array Value} {below : List Frame} {meth : Method} {c : Code} {D : va_G} {cy : Nat → ClassId} {ad : Nat → Nat} (C : CX p s m args meth c cX10_read 11 RX10 (some .int) D cy ad (AD ad)) {a5 : Int32} {a6 : Int32} {μ : Mem} {ρ : (Int32 × Mem)} (h : f_X10_read_62_J256 a5 a6 μ = some ρ) : WA p l e (rmD 3) s m args below meth c 11 D cy ad (AD ad) 0 0 (ZZ below args s D cy ad (AD ad) 0 0 (some (.int ρ.1)) ρ.2) μ [(0, .ref 62), (5, .int a5), (6, .int a6)] 256 [] := by
  unfold f_X10_read_62_J256 at h
  refine wa_aload_n C dX10_read_256 rfl ?_
  refine wa_iload C dX10_read_257 rfl ?_
  refine wa_puti C fl_RX10_346 fp_10_38 rfl rfl (by decide) rfl rfl dX10_read_259 ?_
  refine wa_iload C dX10_read_262 rfl ?_
  obtain rfl := Option.some.inj h
  exact wa_iret C dX10_read_264
set_option maxRecDepth 100000 in
set_option maxHeartbeats 4000000 in
theorem r_X10_read_62_J250 {p : Program} {l : Launch} {e : Env} {s : State} {m : MethodId} {args : Array Value} {below : List Frame} {meth : Method} {c : Code} {D : va_G} {cy : Nat → ClassId} {ad : Nat → Nat} (C : CX p s m args meth c cX10_read 11 RX10 (some .int) D cy ad (AD ad)) {a1 : Int32} {a2 : Int32} {a3 : Int32} {a4 : Int32} {a5 : Int32} {a6 : Int32} {a7 : Int32} {μ : Mem} {ρ : (Int32 × Mem)} (k65 : Int32 → Int32 → Int32 → Mem → Option (Int32 × Mem)) (hk65 : ∀ (a5 : Int32) (a6 : Int32) (a7 : Int32) (μ : Mem), k65 a5 a6 a7 μ = some ρ → WA p l e (rmD 3) s m args below meth c 11 D cy ad (AD ad) 0 0 (ZZ below args s D cy ad (AD ad) 0 0 (some (.int ρ.1)) ρ.2) μ [(0, .ref 62), (1, .int a1), (2, .int a2), (3, .int a3), (4, .int a4), (5, .int a5), (6, .int a6), (7, .int a7)] 65 []) (h : f_X10_read_62_J250 k65 a1 a2 a3 a4 a5 a6 a7 μ = some ρ) : WA p l e (rmD 3) s m args below meth c 11 D cy ad (AD ad) 0 0 (ZZ below args s D cy ad (AD ad) 0 0 (some (.int ρ.1)) ρ.2) μ [(0, .ref 62), (1, .int a1), (2, .int a2), (3, .int a3), (4, .int a4), (5, .int a5), (6, .int a6), (7, .int a7)] 250 [] := by
  unfold f_X10_read_62_J250 at h
  refine wa_iinc (v := (a7 + 1)) C dX10_read_250 rfl rfl (by decide) ?_
  refine wa_goto (tgt := 65) C dX10_read_253 (by decide) ?_
  exact WA.sub (lsub_c rfl (lsub_c rfl (lsub_c rfl (lsub_c rfl (lsub_c rfl (lsub_c rfl (lsub_c rfl (lsub_c rfl lsub_n)))))))) (hk65 _ _ _ _ h)
set_option maxRecDepth 100000 in
set_option maxHeartbeats 4000000 in
theorem r_X10_read_62_L211 {p : Program} {l : Launch} {e : Env} {s : State} {m : MethodId} {args : Array Value} {below : List Frame} {meth : Method} {c : Code} {D : va_G} {cy : Nat → ClassId} {ad : Nat → Nat} (C : CX p s m args meth c cX10_read 11 RX10 (some .int) D cy ad (AD ad)) (a7 : Int32) {ρ : (Int32 × Mem)} : ∀ (n : Nat) (a9 : Int32) (μ : Mem), it2 (f_X10_read_62_L211 a7) n a9 μ = some ρ → WA p l e (rmD 3) s m args below meth c 11 D cy ad (AD ad) 0 0 (ZZ below args s D cy ad (AD ad) 0 0 (some (.int ρ.1)) ρ.2) μ [(0, .ref 62), (7, .int a7), (9, .int a9)] 211 [] := by
  intro n
  induction n with
  | zero =>
    intro a9 μ h
    exact absurd h (fun h => by cases h)
  | succ n ih =>
    intro a9 μ h
    replace h : f_X10_read_62_L211 a7 (it2 (f_X10_read_62_L211 a7) n) a9 μ = some ρ := h
    unfold f_X10_read_62_L211 at h
    refine wa_iload C dX10_read_211 rfl ?_
    refine wa_bipush (v := 6) C dX10_read_213 (by decide) ?_
    refine wa_icmp_ge (tgt := 241) C dX10_read_215 (by decide) (fun c14 => ?_) (fun c14 => ?_)
    · replace h := (if_pos c14).symm.trans h
      refine wa_bipush (v := -20) C dX10_read_241 (by decide) ?_
      refine wa_iload C dX10_read_243 rfl ?_
      refine wa_isub C dX10_read_245 ?_
      obtain rfl := Option.some.inj h
      exact wa_iret C dX10_read_246
    · replace h := (if_neg c14).symm.trans h
      refine wa_aload_n C dX10_read_218 rfl ?_
      refine wa_getr C fl_RX10_7 rfl rfl (by decide) dX10_read_219 ?_
      refine wa_bipush (v := 21) C dX10_read_222 (by decide) ?_
      refine wa_iload C dX10_read_224 rfl ?_
      refine wa_iadd C dX10_read_226 ?_
      refine wa_aload_n C dX10_read_227 rfl ?_
      refine wa_getr C fl_RX10_59 rfl rfl (by decide) dX10_read_228 ?_
      refine wa_iload C dX10_read_231 rfl ?_
      obtain ⟨g15, h⟩ := gd h
      refine wa_iald (j := (a9.toNatClampNeg)) (x := (μ.1 79 (a9.toNatClampNeg))) C rfl (by decide) g15 rfl rfl dX10_read_233 ?_
      obtain ⟨g16, h⟩ := gd h
      refine wa_iast (j := (((21 : Int32) + a9).toNatClampNeg)) C rfl (by decide) g16 rfl dX10_read_234 ?_
      refine wa_iinc (v := (a9 + 1)) C dX10_read_235 rfl rfl (by decide) ?_
      refine wa_goto (tgt := 211) C dX10_read_238 (by decide) ?_
      exact WA.sub (lsub_c rfl (lsub_c rfl (lsub_c rfl lsub_n))) (ih _ _ h)
set_option maxRecDepth 100000 in
set_option maxHeartbeats 4000000 in
theorem r_X10_read_62_J167 {p : Program} {l : Launch} {e : Env} {s : State} {m : MethodId} {args : Array Value} {below : List Frame} {meth : Method} {c : Code} {D : va_G} {cy : Nat → ClassId} {ad : Nat → Nat} (C : CX p s m args meth c cX10_read 11 RX10 (some .int) D cy ad (AD ad)) {a1 : Int32} {a2 : Int32} {a3 : Int32} {a4 : Int32} {a5 : Int32} {a6 : Int32} {a7 : Int32} {μ : Mem} {ρ : (Int32 × Mem)} (k65 : Int32 → Int32 → Int32 → Mem → Option (Int32 × Mem)) (hk65 : ∀ (a5 : Int32) (a6 : Int32) (a7 : Int32) (μ : Mem), k65 a5 a6 a7 μ = some ρ → WA p l e (rmD 3) s m args below meth c 11 D cy ad (AD ad) 0 0 (ZZ below args s D cy ad (AD ad) 0 0 (some (.int ρ.1)) ρ.2) μ [(0, .ref 62), (1, .int a1), (2, .int a2), (3, .int a3), (4, .int a4), (5, .int a5), (6, .int a6), (7, .int a7)] 65 []) (h : f_X10_read_62_J167 k65 a1 a2 a3 a4 a5 a6 a7 μ = some ρ) : WA p l e (rmD 3) s m args below meth c 11 D cy ad (AD ad) 0 0 (ZZ below args s D cy ad (AD ad) 0 0 (some (.int ρ.1)) ρ.2) μ [(0, .ref 62), (1, .int a1), (2, .int a2), (3, .int a3), (4, .int a4), (5, .int a5), (6, .int a6), (7, .int a7)] 167 [] := by
  unfold f_X10_read_62_J167 at h
  refine wa_iload C dX10_read_167 rfl ?_
  refine wa_if_ne (tgt := 250) C dX10_read_169 (by decide) (fun c9 => ?_) (fun c9 => ?_)
  · replace h := (if_neg c9).symm.trans h
    exact WA.sub (lsub_c rfl (lsub_c rfl (lsub_c rfl (lsub_c rfl (lsub_c rfl (lsub_c rfl (lsub_c rfl (lsub_c rfl lsub_n)))))))) (r_X10_read_62_J250 C _ hk65 h)
  · replace h := (if_pos c9).symm.trans h
    refine wa_bipush (v := 40) C dX10_read_172 (by decide) ?_
    refine wa_iload_n C dX10_read_174 rfl ?_
    refine wa_imul C dX10_read_175 ?_
    refine wa_iload_n C dX10_read_176 rfl ?_
    refine wa_iadd C dX10_read_177 ?_
    refine wa_iconst (v := 2) C dX10_read_178 (by decide) ?_
    refine wa_iload C dX10_read_179 rfl ?_
    refine wa_imul C dX10_read_181 ?_
    refine wa_iadd C dX10_read_182 ?_
    refine wa_istore C dX10_read_183 (by decide) ?_
    refine wa_aload_n C dX10_read_185 rfl ?_
    refine wa_aload_n C dX10_read_186 rfl ?_
    refine wa_getr C fl_RX10_56 rfl rfl (by decide) dX10_read_187 ?_
    refine wa_iload C dX10_read_190 rfl ?_
    obtain ⟨g10, h⟩ := gd h
    refine wa_iald (j := (((((40 : Int32) * a1) + a3) + ((2 : Int32) * a7)).toNatClampNeg)) (x := (μ.1 78 (((((40 : Int32) * a1) + a3) + ((2 : Int32) * a7)).toNatClampNeg))) C rfl (by decide) g10 rfl rfl dX10_read_192 ?_
    refine wa_aload_n C dX10_read_193 rfl ?_
    refine wa_getr C fl_RX10_56 rfl rfl (by decide) dX10_read_194 ?_
    refine wa_iload C dX10_read_197 rfl ?_
    refine wa_iconst (v := 1) C dX10_read_199 (by decide) ?_
    refine wa_iadd C dX10_read_200 ?_
    obtain ⟨g11, h⟩ := gd h
    refine wa_iald (j := ((((((40 : Int32) * a1) + a3) + ((2 : Int32) * a7)) + (1 : Int32)).toNatClampNeg)) (x := (μ.1 78 ((((((40 : Int32) * a1) + a3) + ((2 : Int32) * a7)) + (1 : Int32)).toNatClampNeg))) C rfl (by decide) g11 rfl rfl dX10_read_201 ?_
    obtain ⟨q12, hq12, h⟩ := bd h
    refine wa_callV C (r_X10_tell_62 hq12) mk_X10_tell mv_X10_tell qw_1123 rfl (by decide) rfl rfl ⟨Nat.le_of_ble_eq_true rfl, Nat.le_of_ble_eq_true rfl⟩ ⟨Nat.zero_le _, Nat.zero_le _⟩ (Nat.le_of_ble_eq_true rfl) dX10_read_202 rfl ?_
    refine wa_if_ge (tgt := 247) C dX10_read_205 (by decide) (fun c13 => ?_) (fun c13 => ?_)
    · replace h := (if_pos c13).symm.trans h
      refine wa_iinc (v := (a6 + 1)) C dX10_read_247 rfl rfl (by decide) ?_
      exact WA.sub (lsub_c rfl (lsub_c rfl (lsub_c rfl (lsub_c rfl (lsub_c rfl (lsub_c rfl (lsub_c rfl (lsub_c rfl lsub_n)))))))) (r_X10_read_62_J250 C _ hk65 h)
    · replace h := (if_neg c13).symm.trans h
      refine wa_iconst (v := 0) C dX10_read_208 (by decide) ?_
      refine wa_istore C dX10_read_209 (by decide) ?_
      exact WA.sub (lsub_c rfl (lsub_c rfl (lsub_c rfl lsub_n))) (r_X10_read_62_L211 C _ _ _ _ h)
set_option maxRecDepth 100000 in
set_option maxHeartbeats 4000000 in
theorem r_X10_read_62_J159 {p : Program} {l : Launch} {e : Env} {s : State} {m : MethodId} {args : Array Value} {below : List Frame} {meth : Method} {c : Code} {D : va_G} {cy : Nat → ClassId} {ad : Nat → Nat} (C : CX p s m args meth c cX10_read 11 RX10 (some .int) D cy ad (AD ad)) {a1 : Int32} {a2 : Int32} {a3 : Int32} {a4 : Int32} {a6 : Int32} {a7 : Int32} {a8 : Int32} {t0 : Int32} {μ : Mem} {ρ : (Int32 × Mem)} (k65 : Int32 → Int32 → Int32 → Mem → Option (Int32 × Mem)) (hk65 : ∀ (a5 : Int32) (a6 : Int32) (a7 : Int32) (μ : Mem), k65 a5 a6 a7 μ = some ρ → WA p l e (rmD 3) s m args below meth c 11 D cy ad (AD ad) 0 0 (ZZ below args s D cy ad (AD ad) 0 0 (some (.int ρ.1)) ρ.2) μ [(0, .ref 62), (1, .int a1), (2, .int a2), (3, .int a3), (4, .int a4), (5, .int a5), (6, .int a6), (7, .int a7)] 65 []) (k80 : Int32 → Int32 → Option (Int32 × Mem)) (hk80 : ∀ (a5 : Int32) (a8 : Int32), k80 a5 a8 = some ρ → WA p l e (rmD 3) s m args below meth c 11 D cy ad (AD ad) 0 0 (ZZ below args s D cy ad (AD ad) 0 0 (some (.int ρ.1)) ρ.2) μ [(0, .ref 62), (1, .int a1), (2, .int a2), (3, .int a3), (4, .int a4), (5, .int a5), (6, .int a6), (7, .int a7), (8, .int a8)] 80 []) (h : f_X10_read_62_J159 k65 k80 a1 a2 a3 a4 a6 a7 a8 t0 μ = some ρ) : WA p l e (rmD 3) s m args below meth c 11 D cy ad (AD ad) 0 0 (ZZ below args s D cy ad (AD ad) 0 0 (some (.int ρ.1)) ρ.2) μ [(0, .ref 62), (1, .int a1), (2, .int a2), (3, .int a3), (4, .int a4), (6, .int a6), (7, .int a7), (8, .int a8)] 159 [.int t0] := by
  unfold f_X10_read_62_J159 at h
  refine wa_istore C dX10_read_159 (by decide) ?_
  refine wa_iinc (v := (a8 + 1)) C dX10_read_161 rfl rfl (by decide) ?_
  refine wa_goto (tgt := 80) C dX10_read_164 (by decide) ?_
  exact WA.sub (lsub_c rfl (lsub_c rfl (lsub_c rfl (lsub_c rfl (lsub_c rfl (lsub_c rfl (lsub_c rfl (lsub_c rfl (lsub_c rfl lsub_n))))))))) (hk80 _ _ h)
set_option maxRecDepth 100000 in
set_option maxHeartbeats 4000000 in
theorem r_X10_read_62_J154 {p : Program} {l : Launch} {e : Env} {s : State} {m : MethodId} {args : Array Value} {below : List Frame} {meth : Method} {c : Code} {D : va_G} {cy : Nat → ClassId} {ad : Nat → Nat} (C : CX p s m args meth c cX10_read 11 RX10 (some .int) D cy ad (AD ad)) {a1 : Int32} {a2 : Int32} {a3 : Int32} {a4 : Int32} {a6 : Int32} {a7 : Int32} {a8 : Int32} {μ : Mem} {ρ : (Int32 × Mem)} (k65 : Int32 → Int32 → Int32 → Mem → Option (Int32 × Mem)) (hk65 : ∀ (a5 : Int32) (a6 : Int32) (a7 : Int32) (μ : Mem), k65 a5 a6 a7 μ = some ρ → WA p l e (rmD 3) s m args below meth c 11 D cy ad (AD ad) 0 0 (ZZ below args s D cy ad (AD ad) 0 0 (some (.int ρ.1)) ρ.2) μ [(0, .ref 62), (1, .int a1), (2, .int a2), (3, .int a3), (4, .int a4), (5, .int a5), (6, .int a6), (7, .int a7)] 65 []) (k80 : Int32 → Int32 → Option (Int32 × Mem)) (hk80 : ∀ (a5 : Int32) (a8 : Int32), k80 a5 a8 = some ρ → WA p l e (rmD 3) s m args below meth c 11 D cy ad (AD ad) 0 0 (ZZ below args s D cy ad (AD ad) 0 0 (some (.int ρ.1)) ρ.2) μ [(0, .ref 62), (1, .int a1), (2, .int a2), (3, .int a3), (4, .int a4), (5, .int a5), (6, .int a6), (7, .int a7), (8, .int a8)] 80 []) (h : f_X10_read_62_J154 k65 k80 a1 a2 a3 a4 a6 a7 a8 μ = some ρ) : WA p l e (rmD 3) s m args below meth c 11 D cy ad (AD ad) 0 0 (ZZ below args s D cy ad (AD ad) 0 0 (some (.int ρ.1)) ρ.2) μ [(0, .ref 62), (1, .int a1), (2, .int a2), (3, .int a3), (4, .int a4), (6, .int a6), (7, .int a7), (8, .int a8)] 154 [] := by
  unfold f_X10_read_62_J154 at h
  refine wa_iconst (v := 2) C dX10_read_154 (by decide) ?_
  refine wa_goto (tgt := 159) C dX10_read_155 (by decide) ?_
  exact WA.sub (lsub_c rfl (lsub_c rfl (lsub_c rfl (lsub_c rfl (lsub_c rfl (lsub_c rfl (lsub_c rfl (lsub_c rfl lsub_n)))))))) (r_X10_read_62_J159 C _ hk65 _ hk80 h)
set_option maxRecDepth 100000 in
set_option maxHeartbeats 4000000 in
theorem r_X10_read_62_L80 {p : Program} {l : Launch} {e : Env} {s : State} {m : MethodId} {args : Array Value} {below : List Frame} {meth : Method} {c : Code} {D : va_G} {cy : Nat → ClassId} {ad : Nat → Nat} (C : CX p s m args meth c cX10_read 11 RX10 (some .int) D cy ad (AD ad)) (a1 : Int32) (a2 : Int32) (a3 : Int32) (a4 : Int32) (a6 : Int32) (a7 : Int32) (μ : Mem) {ρ : (Int32 × Mem)} (k65 : Int32 → Int32 → Int32 → Mem → Option (Int32 × Mem)) (hk65 : ∀ (a5 : Int32) (a6 : Int32) (a7 : Int32) (μ : Mem), k65 a5 a6 a7 μ = some ρ → WA p l e (rmD 3) s m args below meth c 11 D cy ad (AD ad) 0 0 (ZZ below args s D cy ad (AD ad) 0 0 (some (.int ρ.1)) ρ.2) μ [(0, .ref 62), (1, .int a1), (2, .int a2), (3, .int a3), (4, .int a4), (5, .int a5), (6, .int a6), (7, .int a7)] 65 []) : ∀ (n : Nat) (a5 : Int32) (a8 : Int32), it2 (f_X10_read_62_L80 a1 a2 a3 a4 a6 a7 μ k65) n a5 a8 = some ρ → WA p l e (rmD 3) s m args below meth c 11 D cy ad (AD ad) 0 0 (ZZ below args s D cy ad (AD ad) 0 0 (some (.int ρ.1)) ρ.2) μ [(0, .ref 62), (1, .int a1), (2, .int a2), (3, .int a3), (4, .int a4), (5, .int a5), (6, .int a6), (7, .int a7), (8, .int a8)] 80 [] := by
  intro n
  induction n with
  | zero =>
    intro a5 a8 h
    exact absurd h (fun h => by cases h)
  | succ n ih =>
    intro a5 a8 h
    replace h : f_X10_read_62_L80 a1 a2 a3 a4 a6 a7 μ k65 (it2 (f_X10_read_62_L80 a1 a2 a3 a4 a6 a7 μ k65) n) a5 a8 = some ρ := h
    unfold f_X10_read_62_L80 at h
    refine wa_iload C dX10_read_80 rfl ?_
    refine wa_iconst (v := 2) C dX10_read_82 (by decide) ?_
    refine wa_icmp_ge (tgt := 167) C dX10_read_83 (by decide) (fun c8 => ?_) (fun c8 => ?_)
    · replace h := (if_pos c8).symm.trans h
      exact WA.sub (lsub_c rfl (lsub_c rfl (lsub_c rfl (lsub_c rfl (lsub_c rfl (lsub_c rfl (lsub_c rfl (lsub_c rfl lsub_n)))))))) (r_X10_read_62_J167 C _ hk65 h)
    · replace h := (if_neg c8).symm.trans h
      refine wa_iload C dX10_read_86 rfl ?_
      refine wa_if_ne (tgt := 167) C dX10_read_88 (by decide) (fun c17 => ?_) (fun c17 => ?_)
      · replace h := (if_neg c17).symm.trans h
        exact WA.sub (lsub_c rfl (lsub_c rfl (lsub_c rfl (lsub_c rfl (lsub_c rfl (lsub_c rfl (lsub_c rfl (lsub_c rfl lsub_n)))))))) (r_X10_read_62_J167 C _ hk65 h)
      · replace h := (if_pos c17).symm.trans h
        refine wa_iload_n C dX10_read_91 rfl ?_
        refine wa_i2l (v := (a3.toInt64)) C dX10_read_92 rfl ?_
        refine wa_iconst (v := 2) C dX10_read_93 (by decide) ?_
        refine wa_iload C dX10_read_94 rfl ?_
        refine wa_imul C dX10_read_96 ?_
        refine wa_i2l (v := (((2 : Int32) * a7).toInt64)) C dX10_read_97 rfl ?_
        refine wa_ladd C dX10_read_98 ?_
        refine wa_iload C dX10_read_99 rfl ?_
        refine wa_i2l (v := (a8.toInt64)) C dX10_read_101 rfl ?_
        refine wa_ladd C dX10_read_102 ?_
        refine wa_lstore C dX10_read_103 (by decide) ?_
        refine wa_aload_n C dX10_read_105 rfl ?_
        refine wa_getr C fl_RX10_50 rfl rfl (by decide) dX10_read_106 ?_
        refine wa_iload_n C dX10_read_109 rfl ?_
        obtain ⟨g18, h⟩ := gd h
        refine wa_iald (j := (a1.toNatClampNeg)) (x := (μ.1 76 (a1.toNatClampNeg))) C rfl (by decide) g18 rfl rfl dX10_read_110 ?_
        refine wa_bipush (v := -4) C dX10_read_111 (by decide) ?_
        refine wa_icmp_ne (tgt := 120) C dX10_read_113 (by decide) (fun c19 => ?_) (fun c19 => ?_)
        · replace h := (if_neg c19).symm.trans h
          refine wa_aload_n C dX10_read_120 rfl ?_
          refine wa_getr C fl_RX10_50 rfl rfl (by decide) dX10_read_121 ?_
          refine wa_iload_n C dX10_read_124 rfl ?_
          obtain ⟨g20, h⟩ := gd h
          refine wa_iald (j := (a1.toNatClampNeg)) (x := (μ.1 76 (a1.toNatClampNeg))) C rfl (by decide) g20 rfl rfl dX10_read_125 ?_
          refine wa_iload_n C dX10_read_126 rfl ?_
          refine wa_icmp_eq (tgt := 134) C dX10_read_127 (by decide) (fun c21 => ?_) (fun c21 => ?_)
          · replace h := (if_pos c21).symm.trans h
            refine wa_lload C dX10_read_134 rfl ?_
            refine wa_lconst (v := 0) C dX10_read_136 (by decide) ?_
            refine wa_lcmp C dX10_read_137 ?_
            refine wa_if_lt (tgt := 154) C dX10_read_138 (by decide) (fun c22 => ?_) (fun c22 => ?_)
            · replace h := (if_pos c22).symm.trans h
              exact WA.sub (lsub_c rfl (lsub_c rfl (lsub_c rfl (lsub_c rfl (lsub_c rfl (lsub_c rfl (lsub_c rfl (lsub_c rfl lsub_n)))))))) (r_X10_read_62_J154 C _ hk65 _ (fun _ _ h => ih _ _ h) h)
            · replace h := (if_neg c22).symm.trans h
              refine wa_lload C dX10_read_141 rfl ?_
              refine wa_aload_n C dX10_read_143 rfl ?_
              refine wa_getr C fl_RX10_53 rfl rfl (by decide) dX10_read_144 ?_
              refine wa_iload_n C dX10_read_147 rfl ?_
              obtain ⟨g23, h⟩ := gd h
              refine wa_iald (j := (a1.toNatClampNeg)) (x := (μ.1 77 (a1.toNatClampNeg))) C rfl (by decide) g23 rfl rfl dX10_read_148 ?_
              refine wa_i2l (v := ((μ.1 77 (a1.toNatClampNeg)).toInt64)) C dX10_read_149 rfl ?_
              refine wa_lcmp C dX10_read_150 ?_
              refine wa_if_lt (tgt := 158) C dX10_read_151 (by decide) (fun c24 => ?_) (fun c24 => ?_)
              · replace h := (if_pos c24).symm.trans h
                refine wa_iconst (v := 0) C dX10_read_158 (by decide) ?_
                exact WA.sub (lsub_c rfl (lsub_c rfl (lsub_c rfl (lsub_c rfl (lsub_c rfl (lsub_c rfl (lsub_c rfl (lsub_c rfl lsub_n)))))))) (r_X10_read_62_J159 C _ hk65 _ (fun _ _ h => ih _ _ h) h)
              · replace h := (if_neg c24).symm.trans h
                exact WA.sub (lsub_c rfl (lsub_c rfl (lsub_c rfl (lsub_c rfl (lsub_c rfl (lsub_c rfl (lsub_c rfl (lsub_c rfl lsub_n)))))))) (r_X10_read_62_J154 C _ hk65 _ (fun _ _ h => ih _ _ h) h)
          · replace h := (if_neg c21).symm.trans h
            refine wa_iconst (v := 3) C dX10_read_130 (by decide) ?_
            refine wa_goto (tgt := 159) C dX10_read_131 (by decide) ?_
            exact WA.sub (lsub_c rfl (lsub_c rfl (lsub_c rfl (lsub_c rfl (lsub_c rfl (lsub_c rfl (lsub_c rfl (lsub_c rfl lsub_n)))))))) (r_X10_read_62_J159 C _ hk65 _ (fun _ _ h => ih _ _ h) h)
        · replace h := (if_pos c19).symm.trans h
          refine wa_iconst (v := 1) C dX10_read_116 (by decide) ?_
          refine wa_goto (tgt := 159) C dX10_read_117 (by decide) ?_
          exact WA.sub (lsub_c rfl (lsub_c rfl (lsub_c rfl (lsub_c rfl (lsub_c rfl (lsub_c rfl (lsub_c rfl (lsub_c rfl lsub_n)))))))) (r_X10_read_62_J159 C _ hk65 _ (fun _ _ h => ih _ _ h) h)
set_option maxRecDepth 100000 in
set_option maxHeartbeats 4000000 in
theorem r_X10_read_62_L65 {p : Program} {l : Launch} {e : Env} {s : State} {m : MethodId} {args : Array Value} {below : List Frame} {meth : Method} {c : Code} {D : va_G} {cy : Nat → ClassId} {ad : Nat → Nat} (C : CX p s m args meth c cX10_read 11 RX10 (some .int) D cy ad (AD ad)) (a1 : Int32) (a2 : Int32) (a3 : Int32) (a4 : Int32) {ρ : (Int32 × Mem)} : ∀ (n : Nat) (a5 : Int32) (a6 : Int32) (a7 : Int32) (μ : Mem), it4 (f_X10_read_62_L65 a1 a2 a3 a4) n a5 a6 a7 μ = some ρ → WA p l e (rmD 3) s m args below meth c 11 D cy ad (AD ad) 0 0 (ZZ below args s D cy ad (AD ad) 0 0 (some (.int ρ.1)) ρ.2) μ [(0, .ref 62), (1, .int a1), (2, .int a2), (3, .int a3), (4, .int a4), (5, .int a5), (6, .int a6), (7, .int a7)] 65 [] := by
  intro n
  induction n with
  | zero =>
    intro a5 a6 a7 μ h
    exact absurd h (fun h => by cases h)
  | succ n ih =>
    intro a5 a6 a7 μ h
    replace h : f_X10_read_62_L65 a1 a2 a3 a4 (it4 (f_X10_read_62_L65 a1 a2 a3 a4) n) a5 a6 a7 μ = some ρ := h
    unfold f_X10_read_62_L65 at h
    refine wa_iload C dX10_read_65 rfl ?_
    refine wa_iload C dX10_read_67 rfl ?_
    refine wa_icmp_ge (tgt := 256) C dX10_read_69 (by decide) (fun c6 => ?_) (fun c6 => ?_)
    · replace h := (if_pos c6).symm.trans h
      exact WA.sub (lsub_c rfl (lsub_c rfl (lsub_c rfl lsub_n))) (r_X10_read_62_J256 C h)
    · replace h := (if_neg c6).symm.trans h
      refine wa_iload C dX10_read_72 rfl ?_
      refine wa_if_ne (tgt := 256) C dX10_read_74 (by decide) (fun c7 => ?_) (fun c7 => ?_)
      · replace h := (if_neg c7).symm.trans h
        exact WA.sub (lsub_c rfl (lsub_c rfl (lsub_c rfl lsub_n))) (r_X10_read_62_J256 C h)
      · replace h := (if_pos c7).symm.trans h
        refine wa_iconst (v := 0) C dX10_read_77 (by decide) ?_
        refine wa_istore C dX10_read_78 (by decide) ?_
        exact WA.sub (lsub_c rfl (lsub_c rfl (lsub_c rfl (lsub_c rfl (lsub_c rfl (lsub_c rfl (lsub_c rfl (lsub_c rfl (lsub_c rfl lsub_n))))))))) (r_X10_read_62_L80 C _ _ _ _ _ _ _ _ (fun _ _ _ _ h => ih _ _ _ _ h) _ _ _ h)
set_option maxRecDepth 100000 in
set_option maxHeartbeats 4000000 in
theorem r_X10_read_62_L26 {p : Program} {l : Launch} {e : Env} {s : State} {m : MethodId} {args : Array Value} {below : List Frame} {meth : Method} {c : Code} {D : va_G} {cy : Nat → ClassId} {ad : Nat → Nat} (C : CX p s m args meth c cX10_read 11 RX10 (some .int) D cy ad (AD ad)) (a1 : Int32) (a2 : Int32) (a3 : Int32) (a4 : Int32) {ρ : (Int32 × Mem)} : ∀ (n : Nat) (a5 : Int32) (μ : Mem), it2 (f_X10_read_62_L26 a1 a2 a3 a4) n a5 μ = some ρ → WA p l e (rmD 3) s m args below meth c 11 D cy ad (AD ad) 0 0 (ZZ below args s D cy ad (AD ad) 0 0 (some (.int ρ.1)) ρ.2) μ [(0, .ref 62), (1, .int a1), (2, .int a2), (3, .int a3), (4, .int a4), (5, .int a5)] 26 [] := by
  intro n
  induction n with
  | zero =>
    intro a5 μ h
    exact absurd h (fun h => by cases h)
  | succ n ih =>
    intro a5 μ h
    replace h : f_X10_read_62_L26 a1 a2 a3 a4 (it2 (f_X10_read_62_L26 a1 a2 a3 a4) n) a5 μ = some ρ := h
    unfold f_X10_read_62_L26 at h
    refine wa_iload C dX10_read_26 rfl ?_
    refine wa_bipush (v := 6) C dX10_read_28 (by decide) ?_
    refine wa_icmp_ge (tgt := 56) C dX10_read_30 (by decide) (fun c5 => ?_) (fun c5 => ?_)
    · replace h := (if_pos c5).symm.trans h
      refine wa_iconst (v := 0) C dX10_read_56 (by decide) ?_
      refine wa_istore C dX10_read_57 (by decide) ?_
      refine wa_iconst (v := 0) C dX10_read_59 (by decide) ?_
      refine wa_istore C dX10_read_60 (by decide) ?_
      refine wa_iconst (v := 0) C dX10_read_62 (by decide) ?_
      refine wa_istore C dX10_read_63 (by decide) ?_
      exact WA.sub (lsub_c rfl (lsub_c rfl (lsub_c rfl (lsub_c rfl (lsub_c rfl (lsub_c rfl (lsub_c rfl (lsub_c rfl lsub_n)))))))) (r_X10_read_62_L65 C _ _ _ _ _ _ _ _ _ h)
    · replace h := (if_neg c5).symm.trans h
      refine wa_aload_n C dX10_read_33 rfl ?_
      refine wa_getr C fl_RX10_59 rfl rfl (by decide) dX10_read_34 ?_
      refine wa_iload C dX10_read_37 rfl ?_
      refine wa_aload_n C dX10_read_39 rfl ?_
      refine wa_getr C fl_RX10_7 rfl rfl (by decide) dX10_read_40 ?_
      refine wa_bipush (v := 21) C dX10_read_43 (by decide) ?_
      refine wa_iload C dX10_read_45 rfl ?_
      refine wa_iadd C dX10_read_47 ?_
      obtain ⟨g25, h⟩ := gd h
      refine wa_iald (j := (((21 : Int32) + a5).toNatClampNeg)) (x := (μ.1 63 (((21 : Int32) + a5).toNatClampNeg))) C rfl (by decide) g25 rfl rfl dX10_read_48 ?_
      obtain ⟨g26, h⟩ := gd h
      refine wa_iast (j := (a5.toNatClampNeg)) C rfl (by decide) g26 rfl dX10_read_49 ?_
      refine wa_iinc (v := (a5 + 1)) C dX10_read_50 rfl rfl (by decide) ?_
      refine wa_goto (tgt := 26) C dX10_read_53 (by decide) ?_
      exact WA.sub (lsub_c rfl (lsub_c rfl (lsub_c rfl (lsub_c rfl (lsub_c rfl (lsub_c rfl lsub_n)))))) (ih _ _ h)
set_option maxRecDepth 100000 in
set_option maxHeartbeats 4000000 in
theorem r_X10_read_62 {a1 : Int32} {a2 : Int32} {a3 : Int32} {a4 : Int32} {μ : Mem} {ρ : (Int32 × Mem)} (h : f_X10_read_62 a1 a2 a3 a4 μ = some ρ) : HT 3 yX10_read cX10_read 11 (some .int) [.ref 62, .int a1, .int a2, .int a3, .int a4] μ (some (.int ρ.1)) ρ.2 := by
  refine HT.of (by decide +kernel) (Nat.le_of_ble_eq_true rfl) (fun C => ?_)
  unfold f_X10_read_62 at h
  refine wa_iload_n C dX10_read_0 rfl ?_
  refine wa_iload_n C dX10_read_1 rfl ?_
  obtain ⟨q1, hq1, h⟩ := bd h
  refine wa_callS C (r_X10_isSheet hq1) mk_X10_isSheet ms_X10_isSheet qw_1082 rfl ⟨Nat.le_of_ble_eq_true rfl, Nat.le_of_ble_eq_true rfl⟩ ⟨Nat.zero_le _, Nat.zero_le _⟩ (Nat.le_of_ble_eq_true rfl) dX10_read_2 rfl ?_
  refine wa_if_eq (tgt := 21) C dX10_read_5 (by decide) (fun c2 => ?_) (fun c2 => ?_)
  · replace h := (if_pos c2).symm.trans h
    refine wa_iconst (v := -1) C dX10_read_21 (by decide) ?_
    obtain rfl := Option.some.inj h
    exact wa_iret C dX10_read_22
  · replace h := (if_neg c2).symm.trans h
    refine wa_iload C dX10_read_8 rfl ?_
    refine wa_i2l (v := (a4.toInt64)) C dX10_read_10 rfl ?_
    refine wa_lconst (v := 0) C dX10_read_11 (by decide) ?_
    refine wa_ldc2 (v := 13) C qw_1121 dX10_read_12 ?_
    obtain ⟨q3, hq3, h⟩ := bd h
    refine wa_callS C (r_X10_in hq3) mk_X10_in ms_X10_in qw_198 rfl ⟨Nat.le_of_ble_eq_true rfl, Nat.le_of_ble_eq_true rfl⟩ ⟨Nat.zero_le _, Nat.zero_le _⟩ (Nat.le_of_ble_eq_true rfl) dX10_read_15 rfl ?_
    refine wa_if_ne (tgt := 23) C dX10_read_18 (by decide) (fun c4 => ?_) (fun c4 => ?_)
    · replace h := (if_neg c4).symm.trans h
      refine wa_iconst (v := 0) C dX10_read_23 (by decide) ?_
      refine wa_istore C dX10_read_24 (by decide) ?_
      exact WA.sub (lsub_c rfl (lsub_c rfl (lsub_c rfl (lsub_c rfl (lsub_c rfl (lsub_c rfl lsub_n)))))) (r_X10_read_62_L26 C _ _ _ _ _ _ _ h)
    · replace h := (if_pos c4).symm.trans h
      refine wa_iconst (v := -1) C dX10_read_21 (by decide) ?_
      obtain rfl := Option.some.inj h
      exact wa_iret C dX10_read_22
