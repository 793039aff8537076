def f_X10_power_L4 (a0 : Int32) (a1 : Int32) (μ : Mem) (k4 : Int32 → Int32 → Option (Int32 × Mem)) (a2 : Int32) (a3 : Int32) : Option (Int32 × Mem) :=
    if a1 ≤ a3 then
      some (a2, μ)
    else
      k4 (a2 * a0) (a3 + 1)
def f_X10_power (a0 : Int32) (a1 : Int32) (μ : Mem) : Option (Int32 × Mem) :=
  it2 (f_X10_power_L4 a0 a1 μ) FU (1 : Int32) (0 : Int32)
set_option maxRecDepth 100000 in
set_option maxHeartbeats 4000000 in
theorem r_X10_power_L4 {p : Program} {l : Launch} {e : Env} {s : State} {m : MethodId} {args : Array Value} {below : List Frame} {meth : Method} {c : Code} {D : va_G} {cy : Nat → ClassId} {ad : Nat → Nat} (C : CX p s m args meth c cX10_power 4 RX10 (some .int) D cy ad (AD ad)) (a0 : Int32) (a1 : Int32) (μ : Mem) {ρ : (Int32 × Mem)} : ∀ (n : Nat) (a2 : Int32) (a3 : Int32), it2 (f_X10_power_L4 a0 a1 μ) n a2 a3 = some ρ → WA p l e (rmD 0) s m args below meth c 4 D cy ad (AD ad) 0 0 (ZZ below args s D cy ad (AD ad) 0 0 (some (.int ρ.1)) ρ.2) μ [(0, .int a0), (1, .int a1), (2, .int a2), (3, .int a3)] 4 [] := by
  intro n
  induction n with
  | zero =>
    intro a2 a3 h
    exact absurd h (fun h => by cases h)
  | succ n ih =>
    intro a2 a3 h
    replace h : f_X10_power_L4 a0 a1 μ (it2 (f_X10_power_L4 a0 a1 μ) n) a2 a3 = some ρ := h
    unfold f_X10_power_L4 at h
    refine wa_iload_n C dX10_power_4 rfl ?_
    refine wa_iload_n C dX10_power_5 rfl ?_
    refine wa_icmp_ge (tgt := 19) C dX10_power_6 (by decide) (fun c1 => ?_) (fun c1 => ?_)
    · replace h := (if_pos c1).symm.trans h
      refine wa_iload_n C dX10_power_19 rfl ?_
      obtain rfl := Option.some.inj h
      exact wa_iret C dX10_power_20
    · replace h := (if_neg c1).symm.trans h
      refine wa_iload_n C dX10_power_9 rfl ?_
      refine wa_iload_n C dX10_power_10 rfl ?_
      refine wa_imul C dX10_power_11 ?_
      refine wa_istore_n C dX10_power_12 (by decide) ?_
      refine wa_iinc (v := (a3 + 1)) C dX10_power_13 rfl rfl (by decide) ?_
      refine wa_goto (tgt := 4) C dX10_power_16 (by decide) ?_
      exact WA.sub (lsub_c rfl (lsub_c rfl (lsub_c rfl (lsub_c rfl lsub_n)))) (ih _ _ h)
set_option maxRecDepth 100000 in
set_option maxHeartbeats 4000000 in
theorem r_X10_power {a0 : Int32} {a1 : Int32} {μ : Mem} {ρ : (Int32 × Mem)} (h : f_X10_power a0 a1 μ = some ρ) : HT 0 yX10_power cX10_power 4 (some .int) [.int a0, .int a1] μ (some (.int ρ.1)) ρ.2 := by
  refine HT.of (by decide +kernel) (Nat.le_of_ble_eq_true rfl) (fun C => ?_)
  unfold f_X10_power at h
  refine wa_iconst (v := 1) C dX10_power_0 (by decide) ?_
  refine wa_istore_n C dX10_power_1 (by decide) ?_
  refine wa_iconst (v := 0) C dX10_power_2 (by decide) ?_
  refine wa_istore_n C dX10_power_3 (by decide) ?_
  exact WA.sub (lsub_c rfl (lsub_c rfl (lsub_c rfl (lsub_c rfl lsub_n)))) (r_X10_power_L4 C _ _ _ _ _ _ h)
def f_X10_areWatches_62_J39 (k4 : Int32 → Int32 → Mem → Option (Int32 × Mem)) (a2 : Int32) (t0 : Int32) (μ : Mem) : Option (Int32 × Mem) :=
  k4 t0 (a2 + 1) μ
def f_X10_areWatches_62_J38 (k4 : Int32 → Int32 → Mem → Option (Int32 × Mem)) (a2 : Int32) (μ : Mem) : Option (Int32 × Mem) :=
  f_X10_areWatches_62_J39 k4 a2 (0 : Int32) μ
def f_X10_areWatches_62_L4 (k4 : Int32 → Int32 → Mem → Option (Int32 × Mem)) (a1 : Int32) (a2 : Int32) (μ : Mem) : Option (Int32 × Mem) :=
    if (6 : Int32) ≤ a2 then
      if zb a1 = false then none else
      some (a1, μ)
    else
      if a1 = 0 then
        f_X10_areWatches_62_J38 k4 a2 μ
      else
        if inb ((21 : Int32) + a2) 54 = false then none else
        (f_X10_power (3 : Int32) (μ.1 62 8) μ).bind fun q5 =>
        if q5.1 ≤ (μ.1 67 (((21 : Int32) + a2).toNatClampNeg)) then
          f_X10_areWatches_62_J38 k4 a2 q5.2
        else
          f_X10_areWatches_62_J39 k4 a2 (1 : Int32) q5.2
def f_X10_areWatches_62 (μ : Mem) : Option (Int32 × Mem) :=
  it3 (f_X10_areWatches_62_L4) FU (1 : Int32) (0 : Int32) μ
set_option maxRecDepth 100000 in
set_option maxHeartbeats 4000000 in
theorem r_X10_areWatches_62_J39 {p : Program} {l : Launch} {e : Env} {s : State} {m : MethodId} {args : Array Value} {below : List Frame} {meth : Method} {c : Code} {D : va_G} {cy : Nat → ClassId} {ad : Nat → Nat} (C : CX p s m args meth c cX10_areWatches 3 RX10 (some .boolean) D cy ad (AD ad)) {a2 : Int32} {t0 : Int32} {μ : Mem} {ρ : (Int32 × Mem)} (k4 : Int32 → Int32 → Mem → Option (Int32 × Mem)) (hk4 : ∀ (a1 : Int32) (a2 : Int32) (μ : Mem), k4 a1 a2 μ = some ρ → WA p l e (rmD 1) s m args below meth c 3 D cy ad (AD ad) 0 0 (ZZ below args s D cy ad (AD ad) 0 0 (some (.int ρ.1)) ρ.2) μ [(0, .ref 62), (1, .int a1), (2, .int a2)] 4 []) (h : f_X10_areWatches_62_J39 k4 a2 t0 μ = some ρ) : WA p l e (rmD 1) s m args below meth c 3 D cy ad (AD ad) 0 0 (ZZ below args s D cy ad (AD ad) 0 0 (some (.int ρ.1)) ρ.2) μ [(0, .ref 62), (2, .int a2)] 39 [.int t0] := by
  unfold f_X10_areWatches_62_J39 at h
  refine wa_istore_n C dX10_areWatches_39 (by decide) ?_
  refine wa_iinc (v := (a2 + 1)) C dX10_areWatches_40 rfl rfl (by decide) ?_
  refine wa_goto (tgt := 4) C dX10_areWatches_43 (by decide) ?_
  exact WA.sub (lsub_c rfl (lsub_c rfl (lsub_c rfl lsub_n))) (hk4 _ _ _ h)
set_option maxRecDepth 100000 in
set_option maxHeartbeats 4000000 in
theorem r_X10_areWatches_62_J38 {p : Program} {l : Launch} {e : Env} {s : State} {m : MethodId} {args : Array Value} {below : List Frame} {meth : Method} {c : Code} {D : va_G} {cy : Nat → ClassId} {ad : Nat → Nat} (C : CX p s m args meth c cX10_areWatches 3 RX10 (some .boolean) D cy ad (AD ad)) {a2 : Int32} {μ : Mem} {ρ : (Int32 × Mem)} (k4 : Int32 → Int32 → Mem → Option (Int32 × Mem)) (hk4 : ∀ (a1 : Int32) (a2 : Int32) (μ : Mem), k4 a1 a2 μ = some ρ → WA p l e (rmD 1) s m args below meth c 3 D cy ad (AD ad) 0 0 (ZZ below args s D cy ad (AD ad) 0 0 (some (.int ρ.1)) ρ.2) μ [(0, .ref 62), (1, .int a1), (2, .int a2)] 4 []) (h : f_X10_areWatches_62_J38 k4 a2 μ = some ρ) : WA p l e (rmD 1) s m args below meth c 3 D cy ad (AD ad) 0 0 (ZZ below args s D cy ad (AD ad) 0 0 (some (.int ρ.1)) ρ.2) μ [(0, .ref 62), (2, .int a2)] 38 [] := by
  unfold f_X10_areWatches_62_J38 at h
  refine wa_iconst (v := 0) C dX10_areWatches_38 (by decide) ?_
  exact WA.sub (lsub_c rfl (lsub_c rfl lsub_n)) (r_X10_areWatches_62_J39 C _ hk4 h)
set_option maxRecDepth 100000 in
set_option maxHeartbeats 4000000 in
theorem r_X10_areWatches_62_L4 {p : Program} {l : Launch} {e : Env} {s : State} {m : MethodId} {args : Array Value} {below : List Frame} {meth : Method} {c : Code} {D : va_G} {cy : Nat → ClassId} {ad : Nat → Nat} (C : CX p s m args meth c cX10_areWatches 3 RX10 (some .boolean) D cy ad (AD ad)) {ρ : (Int32 × Mem)} : ∀ (n : Nat) (a1 : Int32) (a2 : Int32) (μ : Mem), it3 (f_X10_areWatches_62_L4) n a1 a2 μ = some ρ → WA p l e (rmD 1) s m args below meth c 3 D cy ad (AD ad) 0 0 (ZZ below args s D cy ad (AD ad) 0 0 (some (.int ρ.1)) ρ.2) μ [(0, .ref 62), (1, .int a1), (2, .int a2)] 4 [] := by
  intro n
  induction n with
  | zero =>
    intro a1 a2 μ h
    exact absurd h (fun h => by cases h)
  | succ n ih =>
    intro a1 a2 μ h
    replace h : f_X10_areWatches_62_L4 (it3 (f_X10_areWatches_62_L4) n) a1 a2 μ = some ρ := h
    unfold f_X10_areWatches_62_L4 at h
    refine wa_iload_n C dX10_areWatches_4 rfl ?_
    refine wa_bipush (v := 6) C dX10_areWatches_5 (by decide) ?_
    refine wa_icmp_ge (tgt := 46) C dX10_areWatches_7 (by decide) (fun c1 => ?_) (fun c1 => ?_)
    · replace h := (if_pos c1).symm.trans h
      refine wa_iload_n C dX10_areWatches_46 rfl ?_
      obtain ⟨g2, h⟩ := gd h
      obtain rfl := Option.some.inj h
      exact wa_zret C g2 dX10_areWatches_47
    · replace h := (if_neg c1).symm.trans h
      refine wa_iload_n C dX10_areWatches_10 rfl ?_
      refine wa_if_eq (tgt := 38) C dX10_areWatches_11 (by decide) (fun c3 => ?_) (fun c3 => ?_)
      · replace h := (if_pos c3).symm.trans h
        exact WA.sub (lsub_c rfl (lsub_c rfl lsub_n)) (r_X10_areWatches_62_J38 C _ (fun _ _ _ h => ih _ _ _ h) h)
      · replace h := (if_neg c3).symm.trans h
        refine wa_aload_n C dX10_areWatches_14 rfl ?_
        refine wa_getr C fl_RX10_23 rfl rfl (by decide) dX10_areWatches_15 ?_
        refine wa_bipush (v := 21) C dX10_areWatches_18 (by decide) ?_
        refine wa_iload_n C dX10_areWatches_20 rfl ?_
        refine wa_iadd C dX10_areWatches_21 ?_
        obtain ⟨g4, h⟩ := gd h
        refine wa_iald (j := (((21 : Int32) + a2).toNatClampNeg)) (x := (μ.1 67 (((21 : Int32) + a2).toNatClampNeg))) C rfl (by decide) g4 rfl rfl dX10_areWatches_22 ?_
        refine wa_iconst (v := 3) C dX10_areWatches_23 (by decide) ?_
        refine wa_aload_n C dX10_areWatches_24 rfl ?_
        refine wa_geti (x := (μ.1 62 8)) C fl_RX10_68 rfl rfl (by decide) rfl dX10_areWatches_25 ?_
        obtain ⟨q5, hq5, h⟩ := bd h
        refine wa_callS C (r_X10_power hq5) mk_X10_power ms_X10_power qw_172 rfl ⟨Nat.le_of_ble_eq_true rfl, Nat.le_of_ble_eq_true rfl⟩ ⟨Nat.zero_le _, Nat.zero_le _⟩ (Nat.le_of_ble_eq_true rfl) dX10_areWatches_28 rfl ?_
        refine wa_icmp_ge (tgt := 38) C dX10_areWatches_31 (by decide) (fun c6 => ?_) (fun c6 => ?_)
        · replace h := (if_pos c6).symm.trans h
          exact WA.sub (lsub_c rfl (lsub_c rfl lsub_n)) (r_X10_areWatches_62_J38 C _ (fun _ _ _ h => ih _ _ _ h) h)
        · replace h := (if_neg c6).symm.trans h
          refine wa_iconst (v := 1) C dX10_areWatches_34 (by decide) ?_
          refine wa_goto (tgt := 39) C dX10_areWatches_35 (by decide) ?_
          exact WA.sub (lsub_c rfl (lsub_c rfl lsub_n)) (r_X10_areWatches_62_J39 C _ (fun _ _ _ h => ih _ _ _ h) h)
set_option maxRecDepth 100000 in
set_option maxHeartbeats 4000000 in
theorem r_X10_areWatches_62 {μ : Mem} {ρ : (Int32 × Mem)} (h : f_X10_areWatches_62 μ = some ρ) : HT 1 yX10_areWatches cX10_areWatches 3 (some .boolean) [.ref 62] μ (some (.int ρ.1)) ρ.2 := by
  refine HT.of (by decide +kernel) (Nat.le_of_ble_eq_true rfl) (fun C => ?_)
  unfold f_X10_areWatches_62 at h
  refine wa_iconst (v := 1) C dX10_areWatches_0 (by decide) ?_
  refine wa_istore_n C dX10_areWatches_1 (by decide) ?_
  refine wa_iconst (v := 0) C dX10_areWatches_2 (by decide) ?_
  refine wa_istore_n C dX10_areWatches_3 (by decide) ?_
  exact WA.sub (lsub_c rfl (lsub_c rfl (lsub_c rfl lsub_n))) (r_X10_areWatches_62_L4 C  _ _ _ _ h)
def f_X10_keepDraft_62_J162 (k56 : Int32 → Mem → Option Mem) (k78 : Int32 → Mem → Option Mem) (a1 : Int32) (a2 : Int32) (t1 : Int32) (t2 : Int32) (μ : Mem) : Option Mem :=
  if inb t1 162 = false then none else
  k78 (a2 + 1) (pI μ 63 (t1.toNatClampNeg) t2)
def f_X10_keepDraft_62_J130 (k56 : Int32 → Mem → Option Mem) (k78 : Int32 → Mem → Option Mem) (a1 : Int32) (a2 : Int32) (a3 : Int32) (t1 : Int32) (t2 : Int32) (μ : Mem) : Option Mem :=
  if inb t1 6 = false then none else
  if a3 = 0 then
    if inb (((3 : Int32) + ((2 : Int32) * a1)) + a2) 162 = false then none else
    f_X10_keepDraft_62_J162 k56 k78 a1 a2 (((3 : Int32) + ((2 : Int32) * a1)) + a2) (μ.1 63 ((((3 : Int32) + ((2 : Int32) * a1)) + a2).toNatClampNeg)) (pI μ 66 (t1.toNatClampNeg) t2)
  else
    f_X10_keepDraft_62_J162 k56 k78 a1 a2 (((3 : Int32) + ((2 : Int32) * a1)) + a2) (0 : Int32) (pI μ 66 (t1.toNatClampNeg) t2)
def f_X10_keepDraft_62_J102 (k56 : Int32 → Mem → Option Mem) (k78 : Int32 → Mem → Option Mem) (a1 : Int32) (a2 : Int32) (t0 : Int32) (μ : Mem) : Option Mem :=
  if t0 = 0 then
    if inb (((2 : Int32) * a1) + a2) 6 = false then none else
    f_X10_keepDraft_62_J130 k56 k78 a1 a2 t0 (((2 : Int32) * a1) + a2) (μ.1 69 ((((2 : Int32) * a1) + a2).toNatClampNeg)) μ
  else
    f_X10_keepDraft_62_J130 k56 k78 a1 a2 t0 (((2 : Int32) * a1) + a2) (0 : Int32) μ
def f_X10_keepDraft_62_J101 (k56 : Int32 → Mem → Option Mem) (k78 : Int32 → Mem → Option Mem) (a1 : Int32) (a2 : Int32) (μ : Mem) : Option Mem :=
  f_X10_keepDraft_62_J102 k56 k78 a1 a2 (0 : Int32) μ
def f_X10_keepDraft_62_L78 (a1 : Int32) (k56 : Int32 → Mem → Option Mem) (k78 : Int32 → Mem → Option Mem) (a2 : Int32) (μ : Mem) : Option Mem :=
    if (2 : Int32) ≤ a2 then
      k56 (a1 + 1) μ
    else
      if a2 = 0 then
        if inb a1 3 = false then none else
        if (μ.1 65 (a1.toNatClampNeg)) = (1 : Int32) then
          f_X10_keepDraft_62_J102 k56 k78 a1 a2 (1 : Int32) μ
        else
          f_X10_keepDraft_62_J101 k56 k78 a1 a2 μ
      else
        f_X10_keepDraft_62_J101 k56 k78 a1 a2 μ
def f_X10_keepDraft_62_L56 (k56 : Int32 → Mem → Option Mem) (a1 : Int32) (μ : Mem) : Option Mem :=
    if (μ.1 62 2) ≤ a1 then
      some (pI (pI μ 64 0 (0 : Int32)) 64 1 (0 : Int32))
    else
      if inb a1 3 = false then none else
      if inb a1 3 = false then none else
      it2 (f_X10_keepDraft_62_L78 a1 k56) FU (0 : Int32) (pI μ 65 (a1.toNatClampNeg) (μ.1 68 (a1.toNatClampNeg)))
def f_X10_keepDraft_62_L2 (k2 : Int32 → Mem → Option Mem) (a1 : Int32) (μ : Mem) : Option Mem :=
    if (54 : Int32) ≤ a1 then
      (f_X10_power (3 : Int32) (μ.1 62 8) (pI (pI μ 62 2 (μ.1 62 8)) 62 3 (μ.1 62 9))).bind fun q2 =>
      it2 (f_X10_keepDraft_62_L56) FU (0 : Int32) (pI q2.2 62 4 q2.1)
    else
      if inb a1 54 = false then none else
      if inb a1 162 = false then none else
      k2 (a1 + 1) (pI μ 63 (a1.toNatClampNeg) (μ.1 67 (a1.toNatClampNeg)))
def f_X10_keepDraft_62 (μ : Mem) : Option Mem :=
  it2 (f_X10_keepDraft_62_L2) FU (0 : Int32) μ
set_option maxRecDepth 100000 in
set_option maxHeartbeats 4000000 in
theorem r_X10_keepDraft_62_J162 {p : Program} {l : Launch} {e : Env} {s : State} {m : MethodId} {args : Array Value} {below : List Frame} {meth : Method} {c : Code} {D : va_G} {cy : Nat → ClassId} {ad : Nat → Nat} (C : CX p s m args meth c cX10_keepDraft 4 RX10 none D cy ad (AD ad)) {a1 : Int32} {a2 : Int32} {t1 : Int32} {t2 : Int32} {μ : Mem} {ρ : Mem} (k56 : Int32 → Mem → Option Mem) (hk56 : ∀ (a1 : Int32) (μ : Mem), k56 a1 μ = some ρ → WA p l e (rmD 1) s m args below meth c 4 D cy ad (AD ad) 0 0 (ZZ below args s D cy ad (AD ad) 0 0 none ρ) μ [(0, .ref 62), (1, .int a1)] 56 []) (k78 : Int32 → Mem → Option Mem) (hk78 : ∀ (a2 : Int32) (μ : Mem), k78 a2 μ = some ρ → WA p l e (rmD 1) s m args below meth c 4 D cy ad (AD ad) 0 0 (ZZ below args s D cy ad (AD ad) 0 0 none ρ) μ [(0, .ref 62), (1, .int a1), (2, .int a2)] 78 []) (h : f_X10_keepDraft_62_J162 k56 k78 a1 a2 t1 t2 μ = some ρ) : WA p l e (rmD 1) s m args below meth c 4 D cy ad (AD ad) 0 0 (ZZ below args s D cy ad (AD ad) 0 0 none ρ) μ [(0, .ref 62), (1, .int a1), (2, .int a2)] 162 [.int t2, .int t1, .ref 63] := by
  unfold f_X10_keepDraft_62_J162 at h
  obtain ⟨g15, h⟩ := gd h
  refine wa_iast (j := (t1.toNatClampNeg)) C rfl (by decide) g15 rfl dX10_keepDraft_162 ?_
  refine wa_iinc (v := (a2 + 1)) C dX10_keepDraft_163 rfl rfl (by decide) ?_
  refine wa_goto (tgt := 78) C dX10_keepDraft_166 (by decide) ?_
  exact WA.sub (lsub_c rfl (lsub_c rfl (lsub_c rfl lsub_n))) (hk78 _ _ h)
set_option maxRecDepth 100000 in
set_option maxHeartbeats 4000000 in
theorem r_X10_keepDraft_62_J130 {p : Program} {l : Launch} {e : Env} {s : State} {m : MethodId} {args : Array Value} {below : List Frame} {meth : Method} {c : Code} {D : va_G} {cy : Nat → ClassId} {ad : Nat → Nat} (C : CX p s m args meth c cX10_keepDraft 4 RX10 none D cy ad (AD ad)) {a1 : Int32} {a2 : Int32} {a3 : Int32} {t1 : Int32} {t2 : Int32} {μ : Mem} {ρ : Mem} (k56 : Int32 → Mem → Option Mem) (hk56 : ∀ (a1 : Int32) (μ : Mem), k56 a1 μ = some ρ → WA p l e (rmD 1) s m args below meth c 4 D cy ad (AD ad) 0 0 (ZZ below args s D cy ad (AD ad) 0 0 none ρ) μ [(0, .ref 62), (1, .int a1)] 56 []) (k78 : Int32 → Mem → Option Mem) (hk78 : ∀ (a2 : Int32) (μ : Mem), k78 a2 μ = some ρ → WA p l e (rmD 1) s m args below meth c 4 D cy ad (AD ad) 0 0 (ZZ below args s D cy ad (AD ad) 0 0 none ρ) μ [(0, .ref 62), (1, .int a1), (2, .int a2)] 78 []) (h : f_X10_keepDraft_62_J130 k56 k78 a1 a2 a3 t1 t2 μ = some ρ) : WA p l e (rmD 1) s m args below meth c 4 D cy ad (AD ad) 0 0 (ZZ below args s D cy ad (AD ad) 0 0 none ρ) μ [(0, .ref 62), (1, .int a1), (2, .int a2), (3, .int a3)] 130 [.int t2, .int t1, .ref 66] := by
  unfold f_X10_keepDraft_62_J130 at h
  obtain ⟨g12, h⟩ := gd h
  refine wa_iast (j := (t1.toNatClampNeg)) C rfl (by decide) g12 rfl dX10_keepDraft_130 ?_
  refine wa_aload_n C dX10_keepDraft_131 rfl ?_
  refine wa_getr C fl_RX10_7 rfl rfl (by decide) dX10_keepDraft_132 ?_
  refine wa_iconst (v := 3) C dX10_keepDraft_135 (by decide) ?_
  refine wa_iconst (v := 2) C dX10_keepDraft_136 (by decide) ?_
  refine wa_iload_n C dX10_keepDraft_137 rfl ?_
  refine wa_imul C dX10_keepDraft_138 ?_
  refine wa_iadd C dX10_keepDraft_139 ?_
  refine wa_iload_n C dX10_keepDraft_140 rfl ?_
  refine wa_iadd C dX10_keepDraft_141 ?_
  refine wa_iload_n C dX10_keepDraft_142 rfl ?_
  refine wa_if_eq (tgt := 150) C dX10_keepDraft_143 (by decide) (fun c13 => ?_) (fun c13 => ?_)
  · replace h := (if_pos c13).symm.trans h
    refine wa_aload_n C dX10_keepDraft_150 rfl ?_
    refine wa_getr C fl_RX10_7 rfl rfl (by decide) dX10_keepDraft_151 ?_
    refine wa_iconst (v := 3) C dX10_keepDraft_154 (by decide) ?_
    refine wa_iconst (v := 2) C dX10_keepDraft_155 (by decide) ?_
    refine wa_iload_n C dX10_keepDraft_156 rfl ?_
    refine wa_imul C dX10_keepDraft_157 ?_
    refine wa_iadd C dX10_keepDraft_158 ?_
    refine wa_iload_n C dX10_keepDraft_159 rfl ?_
    refine wa_iadd C dX10_keepDraft_160 ?_
    obtain ⟨g14, h⟩ := gd h
    refine wa_iald (j := ((((3 : Int32) + ((2 : Int32) * a1)) + a2).toNatClampNeg)) (x := (μ.1 63 ((((3 : Int32) + ((2 : Int32) * a1)) + a2).toNatClampNeg))) C rfl (by decide) g14 rfl rfl dX10_keepDraft_161 ?_
    exact WA.sub (lsub_c rfl (lsub_c rfl (lsub_c rfl lsub_n))) (r_X10_keepDraft_62_J162 C _ hk56 _ hk78 h)
  · replace h := (if_neg c13).symm.trans h
    refine wa_iconst (v := 0) C dX10_keepDraft_146 (by decide) ?_
    refine wa_goto (tgt := 162) C dX10_keepDraft_147 (by decide) ?_
    exact WA.sub (lsub_c rfl (lsub_c rfl (lsub_c rfl lsub_n))) (r_X10_keepDraft_62_J162 C _ hk56 _ hk78 h)
set_option maxRecDepth 100000 in
set_option maxHeartbeats 4000000 in
theorem r_X10_keepDraft_62_J102 {p : Program} {l : Launch} {e : Env} {s : State} {m : MethodId} {args : Array Value} {below : List Frame} {meth : Method} {c : Code} {D : va_G} {cy : Nat → ClassId} {ad : Nat → Nat} (C : CX p s m args meth c cX10_keepDraft 4 RX10 none D cy ad (AD ad)) {a1 : Int32} {a2 : Int32} {t0 : Int32} {μ : Mem} {ρ : Mem} (k56 : Int32 → Mem → Option Mem) (hk56 : ∀ (a1 : Int32) (μ : Mem), k56 a1 μ = some ρ → WA p l e (rmD 1) s m args below meth c 4 D cy ad (AD ad) 0 0 (ZZ below args s D cy ad (AD ad) 0 0 none ρ) μ [(0, .ref 62), (1, .int a1)] 56 []) (k78 : Int32 → Mem → Option Mem) (hk78 : ∀ (a2 : Int32) (μ : Mem), k78 a2 μ = some ρ → WA p l e (rmD 1) s m args below meth c 4 D cy ad (AD ad) 0 0 (ZZ below args s D cy ad (AD ad) 0 0 none ρ) μ [(0, .ref 62), (1, .int a1), (2, .int a2)] 78 []) (h : f_X10_keepDraft_62_J102 k56 k78 a1 a2 t0 μ = some ρ) : WA p l e (rmD 1) s m args below meth c 4 D cy ad (AD ad) 0 0 (ZZ below args s D cy ad (AD ad) 0 0 none ρ) μ [(0, .ref 62), (1, .int a1), (2, .int a2)] 102 [.int t0] := by
  unfold f_X10_keepDraft_62_J102 at h
  refine wa_istore_n C dX10_keepDraft_102 (by decide) ?_
  refine wa_aload_n C dX10_keepDraft_103 rfl ?_
  refine wa_getr C fl_RX10_20 rfl rfl (by decide) dX10_keepDraft_104 ?_
  refine wa_iconst (v := 2) C dX10_keepDraft_107 (by decide) ?_
  refine wa_iload_n C dX10_keepDraft_108 rfl ?_
  refine wa_imul C dX10_keepDraft_109 ?_
  refine wa_iload_n C dX10_keepDraft_110 rfl ?_
  refine wa_iadd C dX10_keepDraft_111 ?_
  refine wa_iload_n C dX10_keepDraft_112 rfl ?_
  refine wa_if_eq (tgt := 120) C dX10_keepDraft_113 (by decide) (fun c10 => ?_) (fun c10 => ?_)
  · replace h := (if_pos c10).symm.trans h
    refine wa_aload_n C dX10_keepDraft_120 rfl ?_
    refine wa_getr C fl_RX10_29 rfl rfl (by decide) dX10_keepDraft_121 ?_
    refine wa_iconst (v := 2) C dX10_keepDraft_124 (by decide) ?_
    refine wa_iload_n C dX10_keepDraft_125 rfl ?_
    refine wa_imul C dX10_keepDraft_126 ?_
    refine wa_iload_n C dX10_keepDraft_127 rfl ?_
    refine wa_iadd C dX10_keepDraft_128 ?_
    obtain ⟨g11, h⟩ := gd h
    refine wa_iald (j := ((((2 : Int32) * a1) + a2).toNatClampNeg)) (x := (μ.1 69 ((((2 : Int32) * a1) + a2).toNatClampNeg))) C rfl (by decide) g11 rfl rfl dX10_keepDraft_129 ?_
    exact WA.sub (lsub_c rfl (lsub_c rfl (lsub_c rfl (lsub_c rfl lsub_n)))) (r_X10_keepDraft_62_J130 C _ hk56 _ hk78 h)
  · replace h := (if_neg c10).symm.trans h
    refine wa_iconst (v := 0) C dX10_keepDraft_116 (by decide) ?_
    refine wa_goto (tgt := 130) C dX10_keepDraft_117 (by decide) ?_
    exact WA.sub (lsub_c rfl (lsub_c rfl (lsub_c rfl (lsub_c rfl lsub_n)))) (r_X10_keepDraft_62_J130 C _ hk56 _ hk78 h)
set_option maxRecDepth 100000 in
set_option maxHeartbeats 4000000 in
theorem r_X10_keepDraft_62_J101 {p : Program} {l : Launch} {e : Env} {s : State} {m : MethodId} {args : Array Value} {below : List Frame} {meth : Method} {c : Code} {D : va_G} {cy : Nat → ClassId} {ad : Nat → Nat} (C : CX p s m args meth c cX10_keepDraft 4 RX10 none D cy ad (AD ad)) {a1 : Int32} {a2 : Int32} {μ : Mem} {ρ : Mem} (k56 : Int32 → Mem → Option Mem) (hk56 : ∀ (a1 : Int32) (μ : Mem), k56 a1 μ = some ρ → WA p l e (rmD 1) s m args below meth c 4 D cy ad (AD ad) 0 0 (ZZ below args s D cy ad (AD ad) 0 0 none ρ) μ [(0, .ref 62), (1, .int a1)] 56 []) (k78 : Int32 → Mem → Option Mem) (hk78 : ∀ (a2 : Int32) (μ : Mem), k78 a2 μ = some ρ → WA p l e (rmD 1) s m args below meth c 4 D cy ad (AD ad) 0 0 (ZZ below args s D cy ad (AD ad) 0 0 none ρ) μ [(0, .ref 62), (1, .int a1), (2, .int a2)] 78 []) (h : f_X10_keepDraft_62_J101 k56 k78 a1 a2 μ = some ρ) : WA p l e (rmD 1) s m args below meth c 4 D cy ad (AD ad) 0 0 (ZZ below args s D cy ad (AD ad) 0 0 none ρ) μ [(0, .ref 62), (1, .int a1), (2, .int a2)] 101 [] := by
  unfold f_X10_keepDraft_62_J101 at h
  refine wa_iconst (v := 0) C dX10_keepDraft_101 (by decide) ?_
  exact WA.sub (lsub_c rfl (lsub_c rfl (lsub_c rfl lsub_n))) (r_X10_keepDraft_62_J102 C _ hk56 _ hk78 h)
set_option maxRecDepth 100000 in
set_option maxHeartbeats 4000000 in
theorem r_X10_keepDraft_62_L78 {p : Program} {l : Launch} {e : Env} {s : State} {m : MethodId} {args : Array Value} {below : List Frame} {meth : Method} {c : Code} {D : va_G} {cy : Nat → ClassId} {ad : Nat → Nat} (C : CX p s m args meth c cX10_keepDraft 4 RX10 none D cy ad (AD ad)) (a1 : Int32) {ρ : Mem} (k56 : Int32 → Mem → Option Mem) (hk56 : ∀ (a1 : Int32) (μ : Mem), k56 a1 μ = some ρ → WA p l e (rmD 1) s m args below meth c 4 D cy ad (AD ad) 0 0 (ZZ below args s D cy ad (AD ad) 0 0 none ρ) μ [(0, .ref 62), (1, .int a1)] 56 []) : ∀ (n : Nat) (a2 : Int32) (μ : Mem), it2 (f_X10_keepDraft_62_L78 a1 k56) n a2 μ = some ρ → WA p l e (rmD 1) s m args below meth c 4 D cy ad (AD ad) 0 0 (ZZ below args s D cy ad (AD ad) 0 0 none ρ) μ [(0, .ref 62), (1, .int a1), (2, .int a2)] 78 [] := by
  intro n
  induction n with
  | zero =>
    intro a2 μ h
    exact absurd h (fun h => by cases h)
  | succ n ih =>
    intro a2 μ h
    replace h : f_X10_keepDraft_62_L78 a1 k56 (it2 (f_X10_keepDraft_62_L78 a1 k56) n) a2 μ = some ρ := h
    unfold f_X10_keepDraft_62_L78 at h
    refine wa_iload_n C dX10_keepDraft_78 rfl ?_
    refine wa_iconst (v := 2) C dX10_keepDraft_79 (by decide) ?_
    refine wa_icmp_ge (tgt := 169) C dX10_keepDraft_80 (by decide) (fun c6 => ?_) (fun c6 => ?_)
    · replace h := (if_pos c6).symm.trans h
      refine wa_iinc (v := (a1 + 1)) C dX10_keepDraft_169 rfl rfl (by decide) ?_
      refine wa_goto (tgt := 56) C dX10_keepDraft_172 (by decide) ?_
      exact WA.sub (lsub_c rfl (lsub_c rfl lsub_n)) (hk56 _ _ h)
    · replace h := (if_neg c6).symm.trans h
      refine wa_iload_n C dX10_keepDraft_83 rfl ?_
      refine wa_if_ne (tgt := 101) C dX10_keepDraft_84 (by decide) (fun c7 => ?_) (fun c7 => ?_)
      · replace h := (if_neg c7).symm.trans h
        exact WA.sub (lsub_c rfl (lsub_c rfl (lsub_c rfl lsub_n))) (r_X10_keepDraft_62_J101 C _ hk56 _ (fun _ _ h => ih _ _ h) h)
      · replace h := (if_pos c7).symm.trans h
        refine wa_aload_n C dX10_keepDraft_87 rfl ?_
        refine wa_getr C fl_RX10_17 rfl rfl (by decide) dX10_keepDraft_88 ?_
        refine wa_iload_n C dX10_keepDraft_91 rfl ?_
        obtain ⟨g8, h⟩ := gd h
        refine wa_iald (j := (a1.toNatClampNeg)) (x := (μ.1 65 (a1.toNatClampNeg))) C rfl (by decide) g8 rfl rfl dX10_keepDraft_92 ?_
        refine wa_iconst (v := 1) C dX10_keepDraft_93 (by decide) ?_
        refine wa_icmp_ne (tgt := 101) C dX10_keepDraft_94 (by decide) (fun c9 => ?_) (fun c9 => ?_)
        · replace h := (if_neg c9).symm.trans h
          exact WA.sub (lsub_c rfl (lsub_c rfl (lsub_c rfl lsub_n))) (r_X10_keepDraft_62_J101 C _ hk56 _ (fun _ _ h => ih _ _ h) h)
        · replace h := (if_pos c9).symm.trans h
          refine wa_iconst (v := 1) C dX10_keepDraft_97 (by decide) ?_
          refine wa_goto (tgt := 102) C dX10_keepDraft_98 (by decide) ?_
          exact WA.sub (lsub_c rfl (lsub_c rfl (lsub_c rfl lsub_n))) (r_X10_keepDraft_62_J102 C _ hk56 _ (fun _ _ h => ih _ _ h) h)
set_option maxRecDepth 100000 in
set_option maxHeartbeats 4000000 in
theorem r_X10_keepDraft_62_L56 {p : Program} {l : Launch} {e : Env} {s : State} {m : MethodId} {args : Array Value} {below : List Frame} {meth : Method} {c : Code} {D : va_G} {cy : Nat → ClassId} {ad : Nat → Nat} (C : CX p s m args meth c cX10_keepDraft 4 RX10 none D cy ad (AD ad)) {ρ : Mem} : ∀ (n : Nat) (a1 : Int32) (μ : Mem), it2 (f_X10_keepDraft_62_L56) n a1 μ = some ρ → WA p l e (rmD 1) s m args below meth c 4 D cy ad (AD ad) 0 0 (ZZ below args s D cy ad (AD ad) 0 0 none ρ) μ [(0, .ref 62), (1, .int a1)] 56 [] := by
  intro n
  induction n with
  | zero =>
    intro a1 μ h
    exact absurd h (fun h => by cases h)
  | succ n ih =>
    intro a1 μ h
    replace h : f_X10_keepDraft_62_L56 (it2 (f_X10_keepDraft_62_L56) n) a1 μ = some ρ := h
    unfold f_X10_keepDraft_62_L56 at h
    refine wa_iload_n C dX10_keepDraft_56 rfl ?_
    refine wa_aload_n C dX10_keepDraft_57 rfl ?_
    refine wa_geti (x := (μ.1 62 2)) C fl_RX10_94 rfl rfl (by decide) rfl dX10_keepDraft_58 ?_
    refine wa_icmp_ge (tgt := 175) C dX10_keepDraft_61 (by decide) (fun c3 => ?_) (fun c3 => ?_)
    · replace h := (if_pos c3).symm.trans h
      refine wa_aload_n C dX10_keepDraft_175 rfl ?_
      refine wa_getr C fl_RX10_13 rfl rfl (by decide) dX10_keepDraft_176 ?_
      refine wa_iconst (v := 0) C dX10_keepDraft_179 (by decide) ?_
      refine wa_iconst (v := 0) C dX10_keepDraft_180 (by decide) ?_
      refine wa_zast (j := 0) C rfl (by decide) (by decide) (by decide) rfl dX10_keepDraft_181 ?_
      refine wa_aload_n C dX10_keepDraft_182 rfl ?_
      refine wa_getr C fl_RX10_13 rfl rfl (by decide) dX10_keepDraft_183 ?_
      refine wa_iconst (v := 1) C dX10_keepDraft_186 (by decide) ?_
      refine wa_iconst (v := 0) C dX10_keepDraft_187 (by decide) ?_
      refine wa_zast (j := 1) C rfl (by decide) (by decide) (by decide) rfl dX10_keepDraft_188 ?_
      obtain rfl := Option.some.inj h
      exact wa_vret C dX10_keepDraft_189
    · replace h := (if_neg c3).symm.trans h
      refine wa_aload_n C dX10_keepDraft_64 rfl ?_
      refine wa_getr C fl_RX10_17 rfl rfl (by decide) dX10_keepDraft_65 ?_
      refine wa_iload_n C dX10_keepDraft_68 rfl ?_
      refine wa_aload_n C dX10_keepDraft_69 rfl ?_
      refine wa_getr C fl_RX10_26 rfl rfl (by decide) dX10_keepDraft_70 ?_
      refine wa_iload_n C dX10_keepDraft_73 rfl ?_
      obtain ⟨g4, h⟩ := gd h
      refine wa_iald (j := (a1.toNatClampNeg)) (x := (μ.1 68 (a1.toNatClampNeg))) C rfl (by decide) g4 rfl rfl dX10_keepDraft_74 ?_
      obtain ⟨g5, h⟩ := gd h
      refine wa_iast (j := (a1.toNatClampNeg)) C rfl (by decide) g5 rfl dX10_keepDraft_75 ?_
      refine wa_iconst (v := 0) C dX10_keepDraft_76 (by decide) ?_
      refine wa_istore_n C dX10_keepDraft_77 (by decide) ?_
      exact WA.sub (lsub_c rfl (lsub_c rfl (lsub_c rfl lsub_n))) (r_X10_keepDraft_62_L78 C _ _ (fun _ _ h => ih _ _ h) _ _ _ h)
set_option maxRecDepth 100000 in
set_option maxHeartbeats 4000000 in
theorem r_X10_keepDraft_62_L2 {p : Program} {l : Launch} {e : Env} {s : State} {m : MethodId} {args : Array Value} {below : List Frame} {meth : Method} {c : Code} {D : va_G} {cy : Nat → ClassId} {ad : Nat → Nat} (C : CX p s m args meth c cX10_keepDraft 4 RX10 none D cy ad (AD ad)) {ρ : Mem} : ∀ (n : Nat) (a1 : Int32) (μ : Mem), it2 (f_X10_keepDraft_62_L2) n a1 μ = some ρ → WA p l e (rmD 1) s m args below meth c 4 D cy ad (AD ad) 0 0 (ZZ below args s D cy ad (AD ad) 0 0 none ρ) μ [(0, .ref 62), (1, .int a1)] 2 [] := by
  intro n
  induction n with
  | zero =>
    intro a1 μ h
    exact absurd h (fun h => by cases h)
  | succ n ih =>
    intro a1 μ h
    replace h : f_X10_keepDraft_62_L2 (it2 (f_X10_keepDraft_62_L2) n) a1 μ = some ρ := h
    unfold f_X10_keepDraft_62_L2 at h
    refine wa_iload_n C dX10_keepDraft_2 rfl ?_
    refine wa_bipush (v := 54) C dX10_keepDraft_3 (by decide) ?_
    refine wa_icmp_ge (tgt := 26) C dX10_keepDraft_5 (by decide) (fun c1 => ?_) (fun c1 => ?_)
    · replace h := (if_pos c1).symm.trans h
      refine wa_aload_n C dX10_keepDraft_26 rfl ?_
      refine wa_aload_n C dX10_keepDraft_27 rfl ?_
      refine wa_geti (x := (μ.1 62 8)) C fl_RX10_68 rfl rfl (by decide) rfl dX10_keepDraft_28 ?_
      refine wa_puti C fl_RX10_94 fp_10_2 rfl rfl (by decide) rfl rfl dX10_keepDraft_31 ?_
      refine wa_aload_n C dX10_keepDraft_34 rfl ?_
      refine wa_aload_n C dX10_keepDraft_35 rfl ?_
      refine wa_geti (x := (μ.1 62 9)) C fl_RX10_72 rfl rfl (by decide) rfl dX10_keepDraft_36 ?_
      refine wa_puti C fl_RX10_97 fp_10_3 rfl rfl (by decide) rfl rfl dX10_keepDraft_39 ?_
      refine wa_aload_n C dX10_keepDraft_42 rfl ?_
      refine wa_iconst (v := 3) C dX10_keepDraft_43 (by decide) ?_
      refine wa_aload_n C dX10_keepDraft_44 rfl ?_
      refine wa_geti (x := (μ.1 62 8)) C fl_RX10_94 rfl rfl (by decide) rfl dX10_keepDraft_45 ?_
      obtain ⟨q2, hq2, h⟩ := bd h
      refine wa_callS C (r_X10_power hq2) mk_X10_power ms_X10_power qw_172 rfl ⟨Nat.le_of_ble_eq_true rfl, Nat.le_of_ble_eq_true rfl⟩ ⟨Nat.zero_le _, Nat.zero_le _⟩ (Nat.le_of_ble_eq_true rfl) dX10_keepDraft_48 rfl ?_
      refine wa_puti C fl_RX10_104 fp_10_4 rfl rfl (by decide) rfl rfl dX10_keepDraft_51 ?_
      refine wa_iconst (v := 0) C dX10_keepDraft_54 (by decide) ?_
      refine wa_istore_n C dX10_keepDraft_55 (by decide) ?_
      exact WA.sub (lsub_c rfl (lsub_c rfl lsub_n)) (r_X10_keepDraft_62_L56 C  _ _ _ h)
    · replace h := (if_neg c1).symm.trans h
      refine wa_aload_n C dX10_keepDraft_8 rfl ?_
      refine wa_getr C fl_RX10_7 rfl rfl (by decide) dX10_keepDraft_9 ?_
      refine wa_iload_n C dX10_keepDraft_12 rfl ?_
      refine wa_aload_n C dX10_keepDraft_13 rfl ?_
      refine wa_getr C fl_RX10_23 rfl rfl (by decide) dX10_keepDraft_14 ?_
      refine wa_iload_n C dX10_keepDraft_17 rfl ?_
      obtain ⟨g16, h⟩ := gd h
      refine wa_iald (j := (a1.toNatClampNeg)) (x := (μ.1 67 (a1.toNatClampNeg))) C rfl (by decide) g16 rfl rfl dX10_keepDraft_18 ?_
      obtain ⟨g17, h⟩ := gd h
      refine wa_iast (j := (a1.toNatClampNeg)) C rfl (by decide) g17 rfl dX10_keepDraft_19 ?_
      refine wa_iinc (v := (a1 + 1)) C dX10_keepDraft_20 rfl rfl (by decide) ?_
      refine wa_goto (tgt := 2) C dX10_keepDraft_23 (by decide) ?_
      exact WA.sub (lsub_c rfl (lsub_c rfl lsub_n)) (ih _ _ h)
set_option maxRecDepth 100000 in
set_option maxHeartbeats 4000000 in
theorem r_X10_keepDraft_62 {μ : Mem} {ρ : Mem} (h : f_X10_keepDraft_62 μ = some ρ) : HT 1 yX10_keepDraft cX10_keepDraft 4 none [.ref 62] μ none ρ := by
  refine HT.of (by decide +kernel) (Nat.le_of_ble_eq_true rfl) (fun C => ?_)
  unfold f_X10_keepDraft_62 at h
  refine wa_iconst (v := 0) C dX10_keepDraft_0 (by decide) ?_
  refine wa_istore_n C dX10_keepDraft_1 (by decide) ?_
  exact WA.sub (lsub_c rfl (lsub_c rfl lsub_n)) (r_X10_keepDraft_62_L2 C  _ _ _ h)
def f_X10_is_62 (a1 : Int32) (a2 : Int32) (a3 : Int32) (a4 : Int32) (μ : Mem) : Option (Int32 × Mem) :=
  if ((μ.1 62 20) - (μ.1 62 21)) = a1 then
    (f_X10_look_62 (μ.1 62 21) μ).bind fun q2 =>
    if q2.1 = a2 then
      (f_X10_look_62 ((q2.2.1 62 21) + (1 : Int32)) q2.2).bind fun q4 =>
      if q4.1 = a3 then
        (f_X10_look_62 ((q4.2.1 62 21) + (2 : Int32)) q4.2).bind fun q6 =>
        if q6.1 = a4 then
          some ((1 : Int32), q6.2)
        else
          some ((0 : Int32), q6.2)
      else
        some ((0 : Int32), q4.2)
    else
      some ((0 : Int32), q2.2)
  else
    some ((0 : Int32), μ)
set_option maxRecDepth 100000 in
set_option maxHeartbeats 4000000 in
theorem r_X10_is_62 {a1 : Int32} {a2 : Int32} {a3 : Int32} {a4 : Int32} {μ : Mem} {ρ : (Int32 × Mem)} (h : f_X10_is_62 a1 a2 a3 a4 μ = some ρ) : HT 1 yX10_is cX10_is 5 (some .boolean) [.ref 62, .int a1, .int a2, .int a3, .int a4] μ (some (.int ρ.1)) ρ.2 := by
  refine HT.of (by decide +kernel) (Nat.le_of_ble_eq_true rfl) (fun C => ?_)
  unfold f_X10_is_62 at h
  refine wa_aload_n C dX10_is_0 rfl ?_
  refine wa_geti (x := (μ.1 62 20)) C fl_RX10_125 rfl rfl (by decide) rfl dX10_is_1 ?_
  refine wa_aload_n C dX10_is_4 rfl ?_
  refine wa_geti (x := (μ.1 62 21)) C fl_RX10_119 rfl rfl (by decide) rfl dX10_is_5 ?_
  refine wa_isub C dX10_is_8 ?_
  refine wa_iload_n C dX10_is_9 rfl ?_
  refine wa_icmp_ne (tgt := 58) C dX10_is_10 (by decide) (fun c1 => ?_) (fun c1 => ?_)
  · replace h := (if_neg c1).symm.trans h
    refine wa_iconst (v := 0) C dX10_is_58 (by decide) ?_
    obtain rfl := Option.some.inj h
    exact wa_zret C rfl dX10_is_59
  · replace h := (if_pos c1).symm.trans h
    refine wa_aload_n C dX10_is_13 rfl ?_
    refine wa_aload_n C dX10_is_14 rfl ?_
    refine wa_geti (x := (μ.1 62 21)) C fl_RX10_119 rfl rfl (by decide) rfl dX10_is_15 ?_
    obtain ⟨q2, hq2, h⟩ := bd h
    refine wa_callV C (r_X10_look_62 hq2) mk_X10_look mv_X10_look qw_402 rfl (by decide) rfl rfl ⟨Nat.le_of_ble_eq_true rfl, Nat.le_of_ble_eq_true rfl⟩ ⟨Nat.zero_le _, Nat.zero_le _⟩ (Nat.le_of_ble_eq_true rfl) dX10_is_18 rfl ?_
    refine wa_iload_n C dX10_is_21 rfl ?_
    refine wa_icmp_ne (tgt := 58) C dX10_is_22 (by decide) (fun c3 => ?_) (fun c3 => ?_)
    · replace h := (if_neg c3).symm.trans h
      refine wa_iconst (v := 0) C dX10_is_58 (by decide) ?_
      obtain rfl := Option.some.inj h
      exact wa_zret C rfl dX10_is_59
    · replace h := (if_pos c3).symm.trans h
      refine wa_aload_n C dX10_is_25 rfl ?_
      refine wa_aload_n C dX10_is_26 rfl ?_
      refine wa_geti (x := (q2.2.1 62 21)) C fl_RX10_119 rfl rfl (by decide) rfl dX10_is_27 ?_
      refine wa_iconst (v := 1) C dX10_is_30 (by decide) ?_
      refine wa_iadd C dX10_is_31 ?_
      obtain ⟨q4, hq4, h⟩ := bd h
      refine wa_callV C (r_X10_look_62 hq4) mk_X10_look mv_X10_look qw_402 rfl (by decide) rfl rfl ⟨Nat.le_of_ble_eq_true rfl, Nat.le_of_ble_eq_true rfl⟩ ⟨Nat.zero_le _, Nat.zero_le _⟩ (Nat.le_of_ble_eq_true rfl) dX10_is_32 rfl ?_
      refine wa_iload_n C dX10_is_35 rfl ?_
      refine wa_icmp_ne (tgt := 58) C dX10_is_36 (by decide) (fun c5 => ?_) (fun c5 => ?_)
      · replace h := (if_neg c5).symm.trans h
        refine wa_iconst (v := 0) C dX10_is_58 (by decide) ?_
        obtain rfl := Option.some.inj h
        exact wa_zret C rfl dX10_is_59
      · replace h := (if_pos c5).symm.trans h
        refine wa_aload_n C dX10_is_39 rfl ?_
        refine wa_aload_n C dX10_is_40 rfl ?_
        refine wa_geti (x := (q4.2.1 62 21)) C fl_RX10_119 rfl rfl (by decide) rfl dX10_is_41 ?_
        refine wa_iconst (v := 2) C dX10_is_44 (by decide) ?_
        refine wa_iadd C dX10_is_45 ?_
        obtain ⟨q6, hq6, h⟩ := bd h
        refine wa_callV C (r_X10_look_62 hq6) mk_X10_look mv_X10_look qw_402 rfl (by decide) rfl rfl ⟨Nat.le_of_ble_eq_true rfl, Nat.le_of_ble_eq_true rfl⟩ ⟨Nat.zero_le _, Nat.zero_le _⟩ (Nat.le_of_ble_eq_true rfl) dX10_is_46 rfl ?_
        refine wa_iload C dX10_is_49 rfl ?_
        refine wa_icmp_ne (tgt := 58) C dX10_is_51 (by decide) (fun c7 => ?_) (fun c7 => ?_)
        · replace h := (if_neg c7).symm.trans h
          refine wa_iconst (v := 0) C dX10_is_58 (by decide) ?_
          obtain rfl := Option.some.inj h
          exact wa_zret C rfl dX10_is_59
        · replace h := (if_pos c7).symm.trans h
          refine wa_iconst (v := 1) C dX10_is_54 (by decide) ?_
          refine wa_goto (tgt := 59) C dX10_is_55 (by decide) ?_
          obtain rfl := Option.some.inj h
          exact wa_zret C rfl dX10_is_59
def f_X10_ends_62_J50 (μ : Mem) : Option (Int32 × Mem) :=
  some ((1 : Int32), μ)
def f_X10_ends_62_J32 (a3 : Int32) (μ : Mem) : Option (Int32 × Mem) :=
  if a3 = 0 then
    f_X10_ends_62_J50 μ
  else
    (f_X10_look_62 ((μ.1 62 21) + (5 : Int32)) μ).bind fun q5 =>
    if q5.1 = a3 then
      f_X10_ends_62_J50 q5.2
    else
      some ((0 : Int32), q5.2)
def f_X10_ends_62 (a1 : Int32) (a2 : Int32) (a3 : Int32) (μ : Mem) : Option (Int32 × Mem) :=
  (f_X10_look_62 ((μ.1 62 21) + (3 : Int32)) μ).bind fun q1 =>
  if q1.1 = a1 then
    if a2 = 0 then
      f_X10_ends_62_J32 a3 q1.2
    else
      (f_X10_look_62 ((q1.2.1 62 21) + (4 : Int32)) q1.2).bind fun q7 =>
      if q7.1 = a2 then
        f_X10_ends_62_J32 a3 q7.2
      else
        some ((0 : Int32), q7.2)
  else
    some ((0 : Int32), q1.2)
set_option maxRecDepth 100000 in
set_option maxHeartbeats 4000000 in
theorem r_X10_ends_62_J50 {p : Program} {l : Launch} {e : Env} {s : State} {m : MethodId} {args : Array Value} {below : List Frame} {meth : Method} {c : Code} {D : va_G} {cy : Nat → ClassId} {ad : Nat → Nat} (C : CX p s m args meth c cX10_ends 4 RX10 (some .boolean) D cy ad (AD ad)) {μ : Mem} {ρ : (Int32 × Mem)} (h : f_X10_ends_62_J50 μ = some ρ) : WA p l e (rmD 1) s m args below meth c 4 D cy ad (AD ad) 0 0 (ZZ below args s D cy ad (AD ad) 0 0 (some (.int ρ.1)) ρ.2) μ [] 50 [] := by
  unfold f_X10_ends_62_J50 at h
  refine wa_iconst (v := 1) C dX10_ends_50 (by decide) ?_
  refine wa_goto (tgt := 55) C dX10_ends_51 (by decide) ?_
  obtain rfl := Option.some.inj h
  exact wa_zret C rfl dX10_ends_55
set_option maxRecDepth 100000 in
set_option maxHeartbeats 4000000 in
theorem r_X10_ends_62_J32 {p : Program} {l : Launch} {e : Env} {s : State} {m : MethodId} {args : Array Value} {below : List Frame} {meth : Method} {c : Code} {D : va_G} {cy : Nat → ClassId} {ad : Nat → Nat} (C : CX p s m args meth c cX10_ends 4 RX10 (some .boolean) D cy ad (AD ad)) {a3 : Int32} {μ : Mem} {ρ : (Int32 × Mem)} (h : f_X10_ends_62_J32 a3 μ = some ρ) : WA p l e (rmD 1) s m args below meth c 4 D cy ad (AD ad) 0 0 (ZZ below args s D cy ad (AD ad) 0 0 (some (.int ρ.1)) ρ.2) μ [(0, .ref 62), (3, .int a3)] 32 [] := by
  unfold f_X10_ends_62_J32 at h
  refine wa_iload_n C dX10_ends_32 rfl ?_
  refine wa_if_eq (tgt := 50) C dX10_ends_33 (by decide) (fun c4 => ?_) (fun c4 => ?_)
  · replace h := (if_pos c4).symm.trans h
    exact WA.sub lsub_n (r_X10_ends_62_J50 C h)
  · replace h := (if_neg c4).symm.trans h
    refine wa_aload_n C dX10_ends_36 rfl ?_
    refine wa_aload_n C dX10_ends_37 rfl ?_
    refine wa_geti (x := (μ.1 62 21)) C fl_RX10_119 rfl rfl (by decide) rfl dX10_ends_38 ?_
    refine wa_iconst (v := 5) C dX10_ends_41 (by decide) ?_
    refine wa_iadd C dX10_ends_42 ?_
    obtain ⟨q5, hq5, h⟩ := bd h
    refine wa_callV C (r_X10_look_62 hq5) mk_X10_look mv_X10_look qw_402 rfl (by decide) rfl rfl ⟨Nat.le_of_ble_eq_true rfl, Nat.le_of_ble_eq_true rfl⟩ ⟨Nat.zero_le _, Nat.zero_le _⟩ (Nat.le_of_ble_eq_true rfl) dX10_ends_43 rfl ?_
    refine wa_iload_n C dX10_ends_46 rfl ?_
    refine wa_icmp_ne (tgt := 54) C dX10_ends_47 (by decide) (fun c6 => ?_) (fun c6 => ?_)
    · replace h := (if_neg c6).symm.trans h
      refine wa_iconst (v := 0) C dX10_ends_54 (by decide) ?_
      obtain rfl := Option.some.inj h
      exact wa_zret C rfl dX10_ends_55
    · replace h := (if_pos c6).symm.trans h
      exact WA.sub lsub_n (r_X10_ends_62_J50 C h)
set_option maxRecDepth 100000 in
set_option maxHeartbeats 4000000 in
theorem r_X10_ends_62 {a1 : Int32} {a2 : Int32} {a3 : Int32} {μ : Mem} {ρ : (Int32 × Mem)} (h : f_X10_ends_62 a1 a2 a3 μ = some ρ) : HT 1 yX10_ends cX10_ends 4 (some .boolean) [.ref 62, .int a1, .int a2, .int a3] μ (some (.int ρ.1)) ρ.2 := by
  refine HT.of (by decide +kernel) (Nat.le_of_ble_eq_true rfl) (fun C => ?_)
  unfold f_X10_ends_62 at h
  refine wa_aload_n C dX10_ends_0 rfl ?_
  refine wa_aload_n C dX10_ends_1 rfl ?_
  refine wa_geti (x := (μ.1 62 21)) C fl_RX10_119 rfl rfl (by decide) rfl dX10_ends_2 ?_
  refine wa_iconst (v := 3) C dX10_ends_5 (by decide) ?_
  refine wa_iadd C dX10_ends_6 ?_
  obtain ⟨q1, hq1, h⟩ := bd h
  refine wa_callV C (r_X10_look_62 hq1) mk_X10_look mv_X10_look qw_402 rfl (by decide) rfl rfl ⟨Nat.le_of_ble_eq_true rfl, Nat.le_of_ble_eq_true rfl⟩ ⟨Nat.zero_le _, Nat.zero_le _⟩ (Nat.le_of_ble_eq_true rfl) dX10_ends_7 rfl ?_
  refine wa_iload_n C dX10_ends_10 rfl ?_
  refine wa_icmp_ne (tgt := 54) C dX10_ends_11 (by decide) (fun c2 => ?_) (fun c2 => ?_)
  · replace h := (if_neg c2).symm.trans h
    refine wa_iconst (v := 0) C dX10_ends_54 (by decide) ?_
    obtain rfl := Option.some.inj h
    exact wa_zret C rfl dX10_ends_55
  · replace h := (if_pos c2).symm.trans h
    refine wa_iload_n C dX10_ends_14 rfl ?_
    refine wa_if_eq (tgt := 32) C dX10_ends_15 (by decide) (fun c3 => ?_) (fun c3 => ?_)
    · replace h := (if_pos c3).symm.trans h
      exact WA.sub (lsub_c rfl (lsub_c rfl lsub_n)) (r_X10_ends_62_J32 C h)
    · replace h := (if_neg c3).symm.trans h
      refine wa_aload_n C dX10_ends_18 rfl ?_
      refine wa_aload_n C dX10_ends_19 rfl ?_
      refine wa_geti (x := (q1.2.1 62 21)) C fl_RX10_119 rfl rfl (by decide) rfl dX10_ends_20 ?_
      refine wa_iconst (v := 4) C dX10_ends_23 (by decide) ?_
      refine wa_iadd C dX10_ends_24 ?_
      obtain ⟨q7, hq7, h⟩ := bd h
      refine wa_callV C (r_X10_look_62 hq7) mk_X10_look mv_X10_look qw_402 rfl (by decide) rfl rfl ⟨Nat.le_of_ble_eq_true rfl, Nat.le_of_ble_eq_true rfl⟩ ⟨Nat.zero_le _, Nat.zero_le _⟩ (Nat.le_of_ble_eq_true rfl) dX10_ends_25 rfl ?_
      refine wa_iload_n C dX10_ends_28 rfl ?_
      refine wa_icmp_ne (tgt := 54) C dX10_ends_29 (by decide) (fun c8 => ?_) (fun c8 => ?_)
      · replace h := (if_neg c8).symm.trans h
        refine wa_iconst (v := 0) C dX10_ends_54 (by decide) ?_
        obtain rfl := Option.some.inj h
        exact wa_zret C rfl dX10_ends_55
      · replace h := (if_pos c8).symm.trans h
        exact WA.sub (lsub_c rfl (lsub_c rfl lsub_n)) (r_X10_ends_62_J32 C h)
def f_X10_lineNow_62_J177 (μ : Mem) : Option (Int32 × Mem) :=
  (f_X10_is_62 (3 : Int32) (98 : Int32) (101 : Int32) (100 : Int32) μ).bind fun q11 =>
  if q11.1 = 0 then
    some ((-4 : Int32), q11.2)
  else
    some ((5 : Int32), q11.2)
def f_X10_lineNow_62_J147 (μ : Mem) : Option (Int32 × Mem) :=
  (f_X10_is_62 (5 : Int32) (119 : Int32) (97 : Int32) (116 : Int32) μ).bind fun q9 =>
  if q9.1 = 0 then
    f_X10_lineNow_62_J177 q9.2
  else
    (f_X10_ends_62 (99 : Int32) (104 : Int32) (0 : Int32) q9.2).bind fun q13 =>
    if q13.1 = 0 then
      f_X10_lineNow_62_J177 q13.2
    else
      some ((4 : Int32), q13.2)
def f_X10_lineNow_62_J119 (μ : Mem) : Option (Int32 × Mem) :=
  (f_X10_is_62 (5 : Int32) (115 : Int32) (116 : Int32) (111 : Int32) μ).bind fun q7 =>
  if q7.1 = 0 then
    f_X10_lineNow_62_J147 q7.2
  else
    (f_X10_ends_62 (114 : Int32) (109 : Int32) (0 : Int32) q7.2).bind fun q15 =>
    if q15.1 = 0 then
      f_X10_lineNow_62_J147 q15.2
    else
      some ((3 : Int32), q15.2)
def f_X10_lineNow_62_J92 (μ : Mem) : Option (Int32 × Mem) :=
  (f_X10_is_62 (4 : Int32) (110 : Int32) (101 : Int32) (101 : Int32) μ).bind fun q5 =>
  if q5.1 = 0 then
    f_X10_lineNow_62_J119 q5.2
  else
    (f_X10_ends_62 (100 : Int32) (0 : Int32) (0 : Int32) q5.2).bind fun q17 =>
    if q17.1 = 0 then
      f_X10_lineNow_62_J119 q17.2
    else
      some ((2 : Int32), q17.2)
def f_X10_lineNow_62_J30 (μ : Mem) : Option (Int32 × Mem) :=
  (f_X10_is_62 (8 : Int32) (113 : Int32) (117 : Int32) (97 : Int32) μ).bind fun q3 =>
  if q3.1 = 0 then
    f_X10_lineNow_62_J92 q3.2
  else
    (f_X10_ends_62 (114 : Int32) (116 : Int32) (101 : Int32) q3.2).bind fun q19 =>
    if q19.1 = 0 then
      f_X10_lineNow_62_J92 q19.2
    else
      (f_X10_look_62 ((q19.2.1 62 21) + (6 : Int32)) q19.2).bind fun q21 =>
      if q21.1 = (114 : Int32) then
        (f_X10_look_62 ((q21.2.1 62 21) + (7 : Int32)) q21.2).bind fun q23 =>
        if q23.1 = (115 : Int32) then
          some ((1 : Int32), q23.2)
        else
          f_X10_lineNow_62_J92 q23.2
      else
        f_X10_lineNow_62_J92 q21.2
def f_X10_lineNow_62 (μ : Mem) : Option (Int32 × Mem) :=
  (f_X10_is_62 (6 : Int32) (115 : Int32) (105 : Int32) (115 : Int32) μ).bind fun q1 =>
  if q1.1 = 0 then
    f_X10_lineNow_62_J30 q1.2
  else
    (f_X10_ends_62 (116 : Int32) (101 : Int32) (114 : Int32) q1.2).bind fun q25 =>
    if q25.1 = 0 then
      f_X10_lineNow_62_J30 q25.2
    else
      some ((0 : Int32), q25.2)
set_option maxRecDepth 100000 in
set_option maxHeartbeats 4000000 in
theorem r_X10_lineNow_62_J177 {p : Program} {l : Launch} {e : Env} {s : State} {m : MethodId} {args : Array Value} {below : List Frame} {meth : Method} {c : Code} {D : va_G} {cy : Nat → ClassId} {ad : Nat → Nat} (C : CX p s m args meth c cX10_lineNow 1 RX10 (some .int) D cy ad (AD ad)) {μ : Mem} {ρ : (Int32 × Mem)} (h : f_X10_lineNow_62_J177 μ = some ρ) : WA p l e (rmD 2) s m args below meth c 1 D cy ad (AD ad) 0 0 (ZZ below args s D cy ad (AD ad) 0 0 (some (.int ρ.1)) ρ.2) μ [(0, .ref 62)] 177 [] := by
  unfold f_X10_lineNow_62_J177 at h
  refine wa_aload_n C dX10_lineNow_177 rfl ?_
  refine wa_iconst (v := 3) C dX10_lineNow_178 (by decide) ?_
  refine wa_bipush (v := 98) C dX10_lineNow_179 (by decide) ?_
  refine wa_bipush (v := 101) C dX10_lineNow_181 (by decide) ?_
  refine wa_bipush (v := 100) C dX10_lineNow_183 (by decide) ?_
  obtain ⟨q11, hq11, h⟩ := bd h
  refine wa_callV C (r_X10_is_62 hq11) mk_X10_is mv_X10_is qw_418 rfl (by decide) rfl rfl ⟨Nat.le_of_ble_eq_true rfl, Nat.le_of_ble_eq_true rfl⟩ ⟨Nat.zero_le _, Nat.zero_le _⟩ (Nat.le_of_ble_eq_true rfl) dX10_lineNow_185 rfl ?_
  refine wa_if_eq (tgt := 195) C dX10_lineNow_188 (by decide) (fun c12 => ?_) (fun c12 => ?_)
  · replace h := (if_pos c12).symm.trans h
    refine wa_bipush (v := -4) C dX10_lineNow_195 (by decide) ?_
    obtain rfl := Option.some.inj h
    exact wa_iret C dX10_lineNow_197
  · replace h := (if_neg c12).symm.trans h
    refine wa_iconst (v := 5) C dX10_lineNow_191 (by decide) ?_
    refine wa_goto (tgt := 197) C dX10_lineNow_192 (by decide) ?_
    obtain rfl := Option.some.inj h
    exact wa_iret C dX10_lineNow_197
set_option maxRecDepth 100000 in
set_option maxHeartbeats 4000000 in
theorem r_X10_lineNow_62_J147 {p : Program} {l : Launch} {e : Env} {s : State} {m : MethodId} {args : Array Value} {below : List Frame} {meth : Method} {c : Code} {D : va_G} {cy : Nat → ClassId} {ad : Nat → Nat} (C : CX p s m args meth c cX10_lineNow 1 RX10 (some .int) D cy ad (AD ad)) {μ : Mem} {ρ : (Int32 × Mem)} (h : f_X10_lineNow_62_J147 μ = some ρ) : WA p l e (rmD 2) s m args below meth c 1 D cy ad (AD ad) 0 0 (ZZ below args s D cy ad (AD ad) 0 0 (some (.int ρ.1)) ρ.2) μ [(0, .ref 62)] 147 [] := by
  unfold f_X10_lineNow_62_J147 at h
  refine wa_aload_n C dX10_lineNow_147 rfl ?_
  refine wa_iconst (v := 5) C dX10_lineNow_148 (by decide) ?_
  refine wa_bipush (v := 119) C dX10_lineNow_149 (by decide) ?_
  refine wa_bipush (v := 97) C dX10_lineNow_151 (by decide) ?_
  refine wa_bipush (v := 116) C dX10_lineNow_153 (by decide) ?_
  obtain ⟨q9, hq9, h⟩ := bd h
  refine wa_callV C (r_X10_is_62 hq9) mk_X10_is mv_X10_is qw_418 rfl (by decide) rfl rfl ⟨Nat.le_of_ble_eq_true rfl, Nat.le_of_ble_eq_true rfl⟩ ⟨Nat.zero_le _, Nat.zero_le _⟩ (Nat.le_of_ble_eq_true rfl) dX10_lineNow_155 rfl ?_
  refine wa_if_eq (tgt := 177) C dX10_lineNow_158 (by decide) (fun c10 => ?_) (fun c10 => ?_)
  · replace h := (if_pos c10).symm.trans h
    exact WA.sub (lsub_c rfl lsub_n) (r_X10_lineNow_62_J177 C h)
  · replace h := (if_neg c10).symm.trans h
    refine wa_aload_n C dX10_lineNow_161 rfl ?_
    refine wa_bipush (v := 99) C dX10_lineNow_162 (by decide) ?_
    refine wa_bipush (v := 104) C dX10_lineNow_164 (by decide) ?_
    refine wa_iconst (v := 0) C dX10_lineNow_166 (by decide) ?_
    obtain ⟨q13, hq13, h⟩ := bd h
    refine wa_callV C (r_X10_ends_62 hq13) mk_X10_ends mv_X10_ends qw_422 rfl (by decide) rfl rfl ⟨Nat.le_of_ble_eq_true rfl, Nat.le_of_ble_eq_true rfl⟩ ⟨Nat.zero_le _, Nat.zero_le _⟩ (Nat.le_of_ble_eq_true rfl) dX10_lineNow_167 rfl ?_
    refine wa_if_eq (tgt := 177) C dX10_lineNow_170 (by decide) (fun c14 => ?_) (fun c14 => ?_)
    · replace h := (if_pos c14).symm.trans h
      exact WA.sub (lsub_c rfl lsub_n) (r_X10_lineNow_62_J177 C h)
    · replace h := (if_neg c14).symm.trans h
      refine wa_iconst (v := 4) C dX10_lineNow_173 (by decide) ?_
      refine wa_goto (tgt := 197) C dX10_lineNow_174 (by decide) ?_
      obtain rfl := Option.some.inj h
      exact wa_iret C dX10_lineNow_197
set_option maxRecDepth 100000 in
set_option maxHeartbeats 4000000 in
theorem r_X10_lineNow_62_J119 {p : Program} {l : Launch} {e : Env} {s : State} {m : MethodId} {args : Array Value} {below : List Frame} {meth : Method} {c : Code} {D : va_G} {cy : Nat → ClassId} {ad : Nat → Nat} (C : CX p s m args meth c cX10_lineNow 1 RX10 (some .int) D cy ad (AD ad)) {μ : Mem} {ρ : (Int32 × Mem)} (h : f_X10_lineNow_62_J119 μ = some ρ) : WA p l e (rmD 2) s m args below meth c 1 D cy ad (AD ad) 0 0 (ZZ below args s D cy ad (AD ad) 0 0 (some (.int ρ.1)) ρ.2) μ [(0, .ref 62)] 119 [] := by
  unfold f_X10_lineNow_62_J119 at h
  refine wa_aload_n C dX10_lineNow_119 rfl ?_
  refine wa_iconst (v := 5) C dX10_lineNow_120 (by decide) ?_
  refine wa_bipush (v := 115) C dX10_lineNow_121 (by decide) ?_
  refine wa_bipush (v := 116) C dX10_lineNow_123 (by decide) ?_
  refine wa_bipush (v := 111) C dX10_lineNow_125 (by decide) ?_
  obtain ⟨q7, hq7, h⟩ := bd h
  refine wa_callV C (r_X10_is_62 hq7) mk_X10_is mv_X10_is qw_418 rfl (by decide) rfl rfl ⟨Nat.le_of_ble_eq_true rfl, Nat.le_of_ble_eq_true rfl⟩ ⟨Nat.zero_le _, Nat.zero_le _⟩ (Nat.le_of_ble_eq_true rfl) dX10_lineNow_127 rfl ?_
  refine wa_if_eq (tgt := 147) C dX10_lineNow_130 (by decide) (fun c8 => ?_) (fun c8 => ?_)
  · replace h := (if_pos c8).symm.trans h
    exact WA.sub (lsub_c rfl lsub_n) (r_X10_lineNow_62_J147 C h)
  · replace h := (if_neg c8).symm.trans h
    refine wa_aload_n C dX10_lineNow_133 rfl ?_
    refine wa_bipush (v := 114) C dX10_lineNow_134 (by decide) ?_
    refine wa_bipush (v := 109) C dX10_lineNow_136 (by decide) ?_
    refine wa_iconst (v := 0) C dX10_lineNow_138 (by decide) ?_
    obtain ⟨q15, hq15, h⟩ := bd h
    refine wa_callV C (r_X10_ends_62 hq15) mk_X10_ends mv_X10_ends qw_422 rfl (by decide) rfl rfl ⟨Nat.le_of_ble_eq_true rfl, Nat.le_of_ble_eq_true rfl⟩ ⟨Nat.zero_le _, Nat.zero_le _⟩ (Nat.le_of_ble_eq_true rfl) dX10_lineNow_139 rfl ?_
    refine wa_if_eq (tgt := 147) C dX10_lineNow_142 (by decide) (fun c16 => ?_) (fun c16 => ?_)
    · replace h := (if_pos c16).symm.trans h
      exact WA.sub (lsub_c rfl lsub_n) (r_X10_lineNow_62_J147 C h)
    · replace h := (if_neg c16).symm.trans h
      refine wa_iconst (v := 3) C dX10_lineNow_145 (by decide) ?_
      obtain rfl := Option.some.inj h
      exact wa_iret C dX10_lineNow_146
set_option maxRecDepth 100000 in
set_option maxHeartbeats 4000000 in
theorem r_X10_lineNow_62_J92 {p : Program} {l : Launch} {e : Env} {s : State} {m : MethodId} {args : Array Value} {below : List Frame} {meth : Method} {c : Code} {D : va_G} {cy : Nat → ClassId} {ad : Nat → Nat} (C : CX p s m args meth c cX10_lineNow 1 RX10 (some .int) D cy ad (AD ad)) {μ : Mem} {ρ : (Int32 × Mem)} (h : f_X10_lineNow_62_J92 μ = some ρ) : WA p l e (rmD 2) s m args below meth c 1 D cy ad (AD ad) 0 0 (ZZ below args s D cy ad (AD ad) 0 0 (some (.int ρ.1)) ρ.2) μ [(0, .ref 62)] 92 [] := by
  unfold f_X10_lineNow_62_J92 at h
  refine wa_aload_n C dX10_lineNow_92 rfl ?_
  refine wa_iconst (v := 4) C dX10_lineNow_93 (by decide) ?_
  refine wa_bipush (v := 110) C dX10_lineNow_94 (by decide) ?_
  refine wa_bipush (v := 101) C dX10_lineNow_96 (by decide) ?_
  refine wa_bipush (v := 101) C dX10_lineNow_98 (by decide) ?_
  obtain ⟨q5, hq5, h⟩ := bd h
  refine wa_callV C (r_X10_is_62 hq5) mk_X10_is mv_X10_is qw_418 rfl (by decide) rfl rfl ⟨Nat.le_of_ble_eq_true rfl, Nat.le_of_ble_eq_true rfl⟩ ⟨Nat.zero_le _, Nat.zero_le _⟩ (Nat.le_of_ble_eq_true rfl) dX10_lineNow_100 rfl ?_
  refine wa_if_eq (tgt := 119) C dX10_lineNow_103 (by decide) (fun c6 => ?_) (fun c6 => ?_)
  · replace h := (if_pos c6).symm.trans h
    exact WA.sub (lsub_c rfl lsub_n) (r_X10_lineNow_62_J119 C h)
  · replace h := (if_neg c6).symm.trans h
    refine wa_aload_n C dX10_lineNow_106 rfl ?_
    refine wa_bipush (v := 100) C dX10_lineNow_107 (by decide) ?_
    refine wa_iconst (v := 0) C dX10_lineNow_109 (by decide) ?_
    refine wa_iconst (v := 0) C dX10_lineNow_110 (by decide) ?_
    obtain ⟨q17, hq17, h⟩ := bd h
    refine wa_callV C (r_X10_ends_62 hq17) mk_X10_ends mv_X10_ends qw_422 rfl (by decide) rfl rfl ⟨Nat.le_of_ble_eq_true rfl, Nat.le_of_ble_eq_true rfl⟩ ⟨Nat.zero_le _, Nat.zero_le _⟩ (Nat.le_of_ble_eq_true rfl) dX10_lineNow_111 rfl ?_
    refine wa_if_eq (tgt := 119) C dX10_lineNow_114 (by decide) (fun c18 => ?_) (fun c18 => ?_)
    · replace h := (if_pos c18).symm.trans h
      exact WA.sub (lsub_c rfl lsub_n) (r_X10_lineNow_62_J119 C h)
    · replace h := (if_neg c18).symm.trans h
      refine wa_iconst (v := 2) C dX10_lineNow_117 (by decide) ?_
      obtain rfl := Option.some.inj h
      exact wa_iret C dX10_lineNow_118
set_option maxRecDepth 100000 in
set_option maxHeartbeats 4000000 in
theorem r_X10_lineNow_62_J30 {p : Program} {l : Launch} {e : Env} {s : State} {m : MethodId} {args : Array Value} {below : List Frame} {meth : Method} {c : Code} {D : va_G} {cy : Nat → ClassId} {ad : Nat → Nat} (C : CX p s m args meth c cX10_lineNow 1 RX10 (some .int) D cy ad (AD ad)) {μ : Mem} {ρ : (Int32 × Mem)} (h : f_X10_lineNow_62_J30 μ = some ρ) : WA p l e (rmD 2) s m args below meth c 1 D cy ad (AD ad) 0 0 (ZZ below args s D cy ad (AD ad) 0 0 (some (.int ρ.1)) ρ.2) μ [(0, .ref 62)] 30 [] := by
  unfold f_X10_lineNow_62_J30 at h
  refine wa_aload_n C dX10_lineNow_30 rfl ?_
  refine wa_bipush (v := 8) C dX10_lineNow_31 (by decide) ?_
  refine wa_bipush (v := 113) C dX10_lineNow_33 (by decide) ?_
  refine wa_bipush (v := 117) C dX10_lineNow_35 (by decide) ?_
  refine wa_bipush (v := 97) C dX10_lineNow_37 (by decide) ?_
  obtain ⟨q3, hq3, h⟩ := bd h
  refine wa_callV C (r_X10_is_62 hq3) mk_X10_is mv_X10_is qw_418 rfl (by decide) rfl rfl ⟨Nat.le_of_ble_eq_true rfl, Nat.le_of_ble_eq_true rfl⟩ ⟨Nat.zero_le _, Nat.zero_le _⟩ (Nat.le_of_ble_eq_true rfl) dX10_lineNow_39 rfl ?_
  refine wa_if_eq (tgt := 92) C dX10_lineNow_42 (by decide) (fun c4 => ?_) (fun c4 => ?_)
  · replace h := (if_pos c4).symm.trans h
    exact WA.sub (lsub_c rfl lsub_n) (r_X10_lineNow_62_J92 C h)
  · replace h := (if_neg c4).symm.trans h
    refine wa_aload_n C dX10_lineNow_45 rfl ?_
    refine wa_bipush (v := 114) C dX10_lineNow_46 (by decide) ?_
    refine wa_bipush (v := 116) C dX10_lineNow_48 (by decide) ?_
    refine wa_bipush (v := 101) C dX10_lineNow_50 (by decide) ?_
    obtain ⟨q19, hq19, h⟩ := bd h
    refine wa_callV C (r_X10_ends_62 hq19) mk_X10_ends mv_X10_ends qw_422 rfl (by decide) rfl rfl ⟨Nat.le_of_ble_eq_true rfl, Nat.le_of_ble_eq_true rfl⟩ ⟨Nat.zero_le _, Nat.zero_le _⟩ (Nat.le_of_ble_eq_true rfl) dX10_lineNow_52 rfl ?_
    refine wa_if_eq (tgt := 92) C dX10_lineNow_55 (by decide) (fun c20 => ?_) (fun c20 => ?_)
    · replace h := (if_pos c20).symm.trans h
      exact WA.sub (lsub_c rfl lsub_n) (r_X10_lineNow_62_J92 C h)
    · replace h := (if_neg c20).symm.trans h
      refine wa_aload_n C dX10_lineNow_58 rfl ?_
      refine wa_aload_n C dX10_lineNow_59 rfl ?_
      refine wa_geti (x := (q19.2.1 62 21)) C fl_RX10_119 rfl rfl (by decide) rfl dX10_lineNow_60 ?_
      refine wa_bipush (v := 6) C dX10_lineNow_63 (by decide) ?_
      refine wa_iadd C dX10_lineNow_65 ?_
      obtain ⟨q21, hq21, h⟩ := bd h
      refine wa_callV C (r_X10_look_62 hq21) mk_X10_look mv_X10_look qw_402 rfl (by decide) rfl rfl ⟨Nat.le_of_ble_eq_true rfl, Nat.le_of_ble_eq_true rfl⟩ ⟨Nat.zero_le _, Nat.zero_le _⟩ (Nat.le_of_ble_eq_true rfl) dX10_lineNow_66 rfl ?_
      refine wa_bipush (v := 114) C dX10_lineNow_69 (by decide) ?_
      refine wa_icmp_ne (tgt := 92) C dX10_lineNow_71 (by decide) (fun c22 => ?_) (fun c22 => ?_)
      · replace h := (if_neg c22).symm.trans h
        exact WA.sub (lsub_c rfl lsub_n) (r_X10_lineNow_62_J92 C h)
      · replace h := (if_pos c22).symm.trans h
        refine wa_aload_n C dX10_lineNow_74 rfl ?_
        refine wa_aload_n C dX10_lineNow_75 rfl ?_
        refine wa_geti (x := (q21.2.1 62 21)) C fl_RX10_119 rfl rfl (by decide) rfl dX10_lineNow_76 ?_
        refine wa_bipush (v := 7) C dX10_lineNow_79 (by decide) ?_
        refine wa_iadd C dX10_lineNow_81 ?_
        obtain ⟨q23, hq23, h⟩ := bd h
        refine wa_callV C (r_X10_look_62 hq23) mk_X10_look mv_X10_look qw_402 rfl (by decide) rfl rfl ⟨Nat.le_of_ble_eq_true rfl, Nat.le_of_ble_eq_true rfl⟩ ⟨Nat.zero_le _, Nat.zero_le _⟩ (Nat.le_of_ble_eq_true rfl) dX10_lineNow_82 rfl ?_
        refine wa_bipush (v := 115) C dX10_lineNow_85 (by decide) ?_
        refine wa_icmp_ne (tgt := 92) C dX10_lineNow_87 (by decide) (fun c24 => ?_) (fun c24 => ?_)
        · replace h := (if_neg c24).symm.trans h
          exact WA.sub (lsub_c rfl lsub_n) (r_X10_lineNow_62_J92 C h)
        · replace h := (if_pos c24).symm.trans h
          refine wa_iconst (v := 1) C dX10_lineNow_90 (by decide) ?_
          obtain rfl := Option.some.inj h
          exact wa_iret C dX10_lineNow_91
set_option maxRecDepth 100000 in
set_option maxHeartbeats 4000000 in
theorem r_X10_lineNow_62 {μ : Mem} {ρ : (Int32 × Mem)} (h : f_X10_lineNow_62 μ = some ρ) : HT 2 yX10_lineNow cX10_lineNow 1 (some .int) [.ref 62] μ (some (.int ρ.1)) ρ.2 := by
  refine HT.of (by decide +kernel) (Nat.le_of_ble_eq_true rfl) (fun C => ?_)
  unfold f_X10_lineNow_62 at h
  refine wa_aload_n C dX10_lineNow_0 rfl ?_
  refine wa_bipush (v := 6) C dX10_lineNow_1 (by decide) ?_
  refine wa_bipush (v := 115) C dX10_lineNow_3 (by decide) ?_
  refine wa_bipush (v := 105) C dX10_lineNow_5 (by decide) ?_
  refine wa_bipush (v := 115) C dX10_lineNow_7 (by decide) ?_
  obtain ⟨q1, hq1, h⟩ := bd h
  refine wa_callV C (r_X10_is_62 hq1) mk_X10_is mv_X10_is qw_418 rfl (by decide) rfl rfl ⟨Nat.le_of_ble_eq_true rfl, Nat.le_of_ble_eq_true rfl⟩ ⟨Nat.zero_le _, Nat.zero_le _⟩ (Nat.le_of_ble_eq_true rfl) dX10_lineNow_9 rfl ?_
  refine wa_if_eq (tgt := 30) C dX10_lineNow_12 (by decide) (fun c2 => ?_) (fun c2 => ?_)
  · replace h := (if_pos c2).symm.trans h
    exact WA.sub (lsub_c rfl lsub_n) (r_X10_lineNow_62_J30 C h)
  · replace h := (if_neg c2).symm.trans h
    refine wa_aload_n C dX10_lineNow_15 rfl ?_
    refine wa_bipush (v := 116) C dX10_lineNow_16 (by decide) ?_
    refine wa_bipush (v := 101) C dX10_lineNow_18 (by decide) ?_
    refine wa_bipush (v := 114) C dX10_lineNow_20 (by decide) ?_
    obtain ⟨q25, hq25, h⟩ := bd h
    refine wa_callV C (r_X10_ends_62 hq25) mk_X10_ends mv_X10_ends qw_422 rfl (by decide) rfl rfl ⟨Nat.le_of_ble_eq_true rfl, Nat.le_of_ble_eq_true rfl⟩ ⟨Nat.zero_le _, Nat.zero_le _⟩ (Nat.le_of_ble_eq_true rfl) dX10_lineNow_22 rfl ?_
    refine wa_if_eq (tgt := 30) C dX10_lineNow_25 (by decide) (fun c26 => ?_) (fun c26 => ?_)
    · replace h := (if_pos c26).symm.trans h
      exact WA.sub (lsub_c rfl lsub_n) (r_X10_lineNow_62_J30 C h)
    · replace h := (if_neg c26).symm.trans h
      refine wa_iconst (v := 0) C dX10_lineNow_28 (by decide) ?_
      obtain rfl := Option.some.inj h
      exact wa_iret C dX10_lineNow_29
def f_X10_kindNow_62_J102 (μ : Mem) : Option (Int32 × Mem) :=
  (f_X10_is_62 (7 : Int32) (100 : Int32) (114 : Int32) (101 : Int32) μ).bind fun q7 =>
  if q7.1 = 0 then
    some ((-4 : Int32), q7.2)
  else
    (f_X10_ends_62 (97 : Int32) (109 : Int32) (101 : Int32) q7.2).bind fun q9 =>
    if q9.1 = 0 then
      some ((-4 : Int32), q9.2)
    else
      (f_X10_look_62 ((q9.2.1 62 21) + (6 : Int32)) q9.2).bind fun q11 =>
      if q11.1 = (114 : Int32) then
        some ((3 : Int32), q11.2)
      else
        some ((-4 : Int32), q11.2)
def f_X10_kindNow_62_J56 (μ : Mem) : Option (Int32 × Mem) :=
  (f_X10_is_62 (7 : Int32) (118 : Int32) (105 : Int32) (115 : Int32) μ).bind fun q5 =>
  if q5.1 = 0 then
    f_X10_kindNow_62_J102 q5.2
  else
    (f_X10_ends_62 (105 : Int32) (116 : Int32) (111 : Int32) q5.2).bind fun q13 =>
    if q13.1 = 0 then
      f_X10_kindNow_62_J102 q13.2
    else
      (f_X10_look_62 ((q13.2.1 62 21) + (6 : Int32)) q13.2).bind fun q15 =>
      if q15.1 = (114 : Int32) then
        some ((2 : Int32), q15.2)
      else
        f_X10_kindNow_62_J102 q15.2
def f_X10_kindNow_62_J28 (μ : Mem) : Option (Int32 × Mem) :=
  (f_X10_is_62 (5 : Int32) (103 : Int32) (108 : Int32) (97 : Int32) μ).bind fun q3 =>
  if q3.1 = 0 then
    f_X10_kindNow_62_J56 q3.2
  else
    (f_X10_ends_62 (115 : Int32) (115 : Int32) (0 : Int32) q3.2).bind fun q17 =>
    if q17.1 = 0 then
      f_X10_kindNow_62_J56 q17.2
    else
      some ((1 : Int32), q17.2)
def f_X10_kindNow_62 (μ : Mem) : Option (Int32 × Mem) :=
  (f_X10_is_62 (5 : Int32) (112 : Int32) (108 : Int32) (97 : Int32) μ).bind fun q1 =>
  if q1.1 = 0 then
    f_X10_kindNow_62_J28 q1.2
  else
    (f_X10_ends_62 (105 : Int32) (110 : Int32) (0 : Int32) q1.2).bind fun q19 =>
    if q19.1 = 0 then
      f_X10_kindNow_62_J28 q19.2
    else
      some ((0 : Int32), q19.2)
set_option maxRecDepth 100000 in
set_option maxHeartbeats 4000000 in
theorem r_X10_kindNow_62_J102 {p : Program} {l : Launch} {e : Env} {s : State} {m : MethodId} {args : Array Value} {below : List Frame} {meth : Method} {c : Code} {D : va_G} {cy : Nat → ClassId} {ad : Nat → Nat} (C : CX p s m args meth c cX10_kindNow 1 RX10 (some .int) D cy ad (AD ad)) {μ : Mem} {ρ : (Int32 × Mem)} (h : f_X10_kindNow_62_J102 μ = some ρ) : WA p l e (rmD 2) s m args below meth c 1 D cy ad (AD ad) 0 0 (ZZ below args s D cy ad (AD ad) 0 0 (some (.int ρ.1)) ρ.2) μ [(0, .ref 62)] 102 [] := by
  unfold f_X10_kindNow_62_J102 at h
  refine wa_aload_n C dX10_kindNow_102 rfl ?_
  refine wa_bipush (v := 7) C dX10_kindNow_103 (by decide) ?_
  refine wa_bipush (v := 100) C dX10_kindNow_105 (by decide) ?_
  refine wa_bipush (v := 114) C dX10_kindNow_107 (by decide) ?_
  refine wa_bipush (v := 101) C dX10_kindNow_109 (by decide) ?_
  obtain ⟨q7, hq7, h⟩ := bd h
  refine wa_callV C (r_X10_is_62 hq7) mk_X10_is mv_X10_is qw_418 rfl (by decide) rfl rfl ⟨Nat.le_of_ble_eq_true rfl, Nat.le_of_ble_eq_true rfl⟩ ⟨Nat.zero_le _, Nat.zero_le _⟩ (Nat.le_of_ble_eq_true rfl) dX10_kindNow_111 rfl ?_
  refine wa_if_eq (tgt := 150) C dX10_kindNow_114 (by decide) (fun c8 => ?_) (fun c8 => ?_)
  · replace h := (if_pos c8).symm.trans h
    refine wa_bipush (v := -4) C dX10_kindNow_150 (by decide) ?_
    obtain rfl := Option.some.inj h
    exact wa_iret C dX10_kindNow_152
  · replace h := (if_neg c8).symm.trans h
    refine wa_aload_n C dX10_kindNow_117 rfl ?_
    refine wa_bipush (v := 97) C dX10_kindNow_118 (by decide) ?_
    refine wa_bipush (v := 109) C dX10_kindNow_120 (by decide) ?_
    refine wa_bipush (v := 101) C dX10_kindNow_122 (by decide) ?_
    obtain ⟨q9, hq9, h⟩ := bd h
    refine wa_callV C (r_X10_ends_62 hq9) mk_X10_ends mv_X10_ends qw_422 rfl (by decide) rfl rfl ⟨Nat.le_of_ble_eq_true rfl, Nat.le_of_ble_eq_true rfl⟩ ⟨Nat.zero_le _, Nat.zero_le _⟩ (Nat.le_of_ble_eq_true rfl) dX10_kindNow_124 rfl ?_
    refine wa_if_eq (tgt := 150) C dX10_kindNow_127 (by decide) (fun c10 => ?_) (fun c10 => ?_)
    · replace h := (if_pos c10).symm.trans h
      refine wa_bipush (v := -4) C dX10_kindNow_150 (by decide) ?_
      obtain rfl := Option.some.inj h
      exact wa_iret C dX10_kindNow_152
    · replace h := (if_neg c10).symm.trans h
      refine wa_aload_n C dX10_kindNow_130 rfl ?_
      refine wa_aload_n C dX10_kindNow_131 rfl ?_
      refine wa_geti (x := (q9.2.1 62 21)) C fl_RX10_119 rfl rfl (by decide) rfl dX10_kindNow_132 ?_
      refine wa_bipush (v := 6) C dX10_kindNow_135 (by decide) ?_
      refine wa_iadd C dX10_kindNow_137 ?_
      obtain ⟨q11, hq11, h⟩ := bd h
      refine wa_callV C (r_X10_look_62 hq11) mk_X10_look mv_X10_look qw_402 rfl (by decide) rfl rfl ⟨Nat.le_of_ble_eq_true rfl, Nat.le_of_ble_eq_true rfl⟩ ⟨Nat.zero_le _, Nat.zero_le _⟩ (Nat.le_of_ble_eq_true rfl) dX10_kindNow_138 rfl ?_
      refine wa_bipush (v := 114) C dX10_kindNow_141 (by decide) ?_
      refine wa_icmp_ne (tgt := 150) C dX10_kindNow_143 (by decide) (fun c12 => ?_) (fun c12 => ?_)
      · replace h := (if_neg c12).symm.trans h
        refine wa_bipush (v := -4) C dX10_kindNow_150 (by decide) ?_
        obtain rfl := Option.some.inj h
        exact wa_iret C dX10_kindNow_152
      · replace h := (if_pos c12).symm.trans h
        refine wa_iconst (v := 3) C dX10_kindNow_146 (by decide) ?_
        refine wa_goto (tgt := 152) C dX10_kindNow_147 (by decide) ?_
        obtain rfl := Option.some.inj h
        exact wa_iret C dX10_kindNow_152
set_option maxRecDepth 100000 in
set_option maxHeartbeats 4000000 in
theorem r_X10_kindNow_62_J56 {p : Program} {l : Launch} {e : Env} {s : State} {m : MethodId} {args : Array Value} {below : List Frame} {meth : Method} {c : Code} {D : va_G} {cy : Nat → ClassId} {ad : Nat → Nat} (C : CX p s m args meth c cX10_kindNow 1 RX10 (some .int) D cy ad (AD ad)) {μ : Mem} {ρ : (Int32 × Mem)} (h : f_X10_kindNow_62_J56 μ = some ρ) : WA p l e (rmD 2) s m args below meth c 1 D cy ad (AD ad) 0 0 (ZZ below args s D cy ad (AD ad) 0 0 (some (.int ρ.1)) ρ.2) μ [(0, .ref 62)] 56 [] := by
  unfold f_X10_kindNow_62_J56 at h
  refine wa_aload_n C dX10_kindNow_56 rfl ?_
  refine wa_bipush (v := 7) C dX10_kindNow_57 (by decide) ?_
  refine wa_bipush (v := 118) C dX10_kindNow_59 (by decide) ?_
  refine wa_bipush (v := 105) C dX10_kindNow_61 (by decide) ?_
  refine wa_bipush (v := 115) C dX10_kindNow_63 (by decide) ?_
  obtain ⟨q5, hq5, h⟩ := bd h
  refine wa_callV C (r_X10_is_62 hq5) mk_X10_is mv_X10_is qw_418 rfl (by decide) rfl rfl ⟨Nat.le_of_ble_eq_true rfl, Nat.le_of_ble_eq_true rfl⟩ ⟨Nat.zero_le _, Nat.zero_le _⟩ (Nat.le_of_ble_eq_true rfl) dX10_kindNow_65 rfl ?_
  refine wa_if_eq (tgt := 102) C dX10_kindNow_68 (by decide) (fun c6 => ?_) (fun c6 => ?_)
  · replace h := (if_pos c6).symm.trans h
    exact WA.sub (lsub_c rfl lsub_n) (r_X10_kindNow_62_J102 C h)
  · replace h := (if_neg c6).symm.trans h
    refine wa_aload_n C dX10_kindNow_71 rfl ?_
    refine wa_bipush (v := 105) C dX10_kindNow_72 (by decide) ?_
    refine wa_bipush (v := 116) C dX10_kindNow_74 (by decide) ?_
    refine wa_bipush (v := 111) C dX10_kindNow_76 (by decide) ?_
    obtain ⟨q13, hq13, h⟩ := bd h
    refine wa_callV C (r_X10_ends_62 hq13) mk_X10_ends mv_X10_ends qw_422 rfl (by decide) rfl rfl ⟨Nat.le_of_ble_eq_true rfl, Nat.le_of_ble_eq_true rfl⟩ ⟨Nat.zero_le _, Nat.zero_le _⟩ (Nat.le_of_ble_eq_true rfl) dX10_kindNow_78 rfl ?_
    refine wa_if_eq (tgt := 102) C dX10_kindNow_81 (by decide) (fun c14 => ?_) (fun c14 => ?_)
    · replace h := (if_pos c14).symm.trans h
      exact WA.sub (lsub_c rfl lsub_n) (r_X10_kindNow_62_J102 C h)
    · replace h := (if_neg c14).symm.trans h
      refine wa_aload_n C dX10_kindNow_84 rfl ?_
      refine wa_aload_n C dX10_kindNow_85 rfl ?_
      refine wa_geti (x := (q13.2.1 62 21)) C fl_RX10_119 rfl rfl (by decide) rfl dX10_kindNow_86 ?_
      refine wa_bipush (v := 6) C dX10_kindNow_89 (by decide) ?_
      refine wa_iadd C dX10_kindNow_91 ?_
      obtain ⟨q15, hq15, h⟩ := bd h
      refine wa_callV C (r_X10_look_62 hq15) mk_X10_look mv_X10_look qw_402 rfl (by decide) rfl rfl ⟨Nat.le_of_ble_eq_true rfl, Nat.le_of_ble_eq_true rfl⟩ ⟨Nat.zero_le _, Nat.zero_le _⟩ (Nat.le_of_ble_eq_true rfl) dX10_kindNow_92 rfl ?_
      refine wa_bipush (v := 114) C dX10_kindNow_95 (by decide) ?_
      refine wa_icmp_ne (tgt := 102) C dX10_kindNow_97 (by decide) (fun c16 => ?_) (fun c16 => ?_)
      · replace h := (if_neg c16).symm.trans h
        exact WA.sub (lsub_c rfl lsub_n) (r_X10_kindNow_62_J102 C h)
      · replace h := (if_pos c16).symm.trans h
        refine wa_iconst (v := 2) C dX10_kindNow_100 (by decide) ?_
        obtain rfl := Option.some.inj h
        exact wa_iret C dX10_kindNow_101
set_option maxRecDepth 100000 in
set_option maxHeartbeats 4000000 in
theorem r_X10_kindNow_62_J28 {p : Program} {l : Launch} {e : Env} {s : State} {m : MethodId} {args : Array Value} {below : List Frame} {meth : Method} {c : Code} {D : va_G} {cy : Nat → ClassId} {ad : Nat → Nat} (C : CX p s m args meth c cX10_kindNow 1 RX10 (some .int) D cy ad (AD ad)) {μ : Mem} {ρ : (Int32 × Mem)} (h : f_X10_kindNow_62_J28 μ = some ρ) : WA p l e (rmD 2) s m args below meth c 1 D cy ad (AD ad) 0 0 (ZZ below args s D cy ad (AD ad) 0 0 (some (.int ρ.1)) ρ.2) μ [(0, .ref 62)] 28 [] := by
  unfold f_X10_kindNow_62_J28 at h
  refine wa_aload_n C dX10_kindNow_28 rfl ?_
  refine wa_iconst (v := 5) C dX10_kindNow_29 (by decide) ?_
  refine wa_bipush (v := 103) C dX10_kindNow_30 (by decide) ?_
  refine wa_bipush (v := 108) C dX10_kindNow_32 (by decide) ?_
  refine wa_bipush (v := 97) C dX10_kindNow_34 (by decide) ?_
  obtain ⟨q3, hq3, h⟩ := bd h
  refine wa_callV C (r_X10_is_62 hq3) mk_X10_is mv_X10_is qw_418 rfl (by decide) rfl rfl ⟨Nat.le_of_ble_eq_true rfl, Nat.le_of_ble_eq_true rfl⟩ ⟨Nat.zero_le _, Nat.zero_le _⟩ (Nat.le_of_ble_eq_true rfl) dX10_kindNow_36 rfl ?_
  refine wa_if_eq (tgt := 56) C dX10_kindNow_39 (by decide) (fun c4 => ?_) (fun c4 => ?_)
  · replace h := (if_pos c4).symm.trans h
    exact WA.sub (lsub_c rfl lsub_n) (r_X10_kindNow_62_J56 C h)
  · replace h := (if_neg c4).symm.trans h
    refine wa_aload_n C dX10_kindNow_42 rfl ?_
    refine wa_bipush (v := 115) C dX10_kindNow_43 (by decide) ?_
    refine wa_bipush (v := 115) C dX10_kindNow_45 (by decide) ?_
    refine wa_iconst (v := 0) C dX10_kindNow_47 (by decide) ?_
    obtain ⟨q17, hq17, h⟩ := bd h
    refine wa_callV C (r_X10_ends_62 hq17) mk_X10_ends mv_X10_ends qw_422 rfl (by decide) rfl rfl ⟨Nat.le_of_ble_eq_true rfl, Nat.le_of_ble_eq_true rfl⟩ ⟨Nat.zero_le _, Nat.zero_le _⟩ (Nat.le_of_ble_eq_true rfl) dX10_kindNow_48 rfl ?_
    refine wa_if_eq (tgt := 56) C dX10_kindNow_51 (by decide) (fun c18 => ?_) (fun c18 => ?_)
    · replace h := (if_pos c18).symm.trans h
      exact WA.sub (lsub_c rfl lsub_n) (r_X10_kindNow_62_J56 C h)
    · replace h := (if_neg c18).symm.trans h
      refine wa_iconst (v := 1) C dX10_kindNow_54 (by decide) ?_
      obtain rfl := Option.some.inj h
      exact wa_iret C dX10_kindNow_55
set_option maxRecDepth 100000 in
set_option maxHeartbeats 4000000 in
theorem r_X10_kindNow_62 {μ : Mem} {ρ : (Int32 × Mem)} (h : f_X10_kindNow_62 μ = some ρ) : HT 2 yX10_kindNow cX10_kindNow 1 (some .int) [.ref 62] μ (some (.int ρ.1)) ρ.2 := by
  refine HT.of (by decide +kernel) (Nat.le_of_ble_eq_true rfl) (fun C => ?_)
  unfold f_X10_kindNow_62 at h
  refine wa_aload_n C dX10_kindNow_0 rfl ?_
  refine wa_iconst (v := 5) C dX10_kindNow_1 (by decide) ?_
  refine wa_bipush (v := 112) C dX10_kindNow_2 (by decide) ?_
  refine wa_bipush (v := 108) C dX10_kindNow_4 (by decide) ?_
  refine wa_bipush (v := 97) C dX10_kindNow_6 (by decide) ?_
  obtain ⟨q1, hq1, h⟩ := bd h
  refine wa_callV C (r_X10_is_62 hq1) mk_X10_is mv_X10_is qw_418 rfl (by decide) rfl rfl ⟨Nat.le_of_ble_eq_true rfl, Nat.le_of_ble_eq_true rfl⟩ ⟨Nat.zero_le _, Nat.zero_le _⟩ (Nat.le_of_ble_eq_true rfl) dX10_kindNow_8 rfl ?_
  refine wa_if_eq (tgt := 28) C dX10_kindNow_11 (by decide) (fun c2 => ?_) (fun c2 => ?_)
  · replace h := (if_pos c2).symm.trans h
    exact WA.sub (lsub_c rfl lsub_n) (r_X10_kindNow_62_J28 C h)
  · replace h := (if_neg c2).symm.trans h
    refine wa_aload_n C dX10_kindNow_14 rfl ?_
    refine wa_bipush (v := 105) C dX10_kindNow_15 (by decide) ?_
    refine wa_bipush (v := 110) C dX10_kindNow_17 (by decide) ?_
    refine wa_iconst (v := 0) C dX10_kindNow_19 (by decide) ?_
    obtain ⟨q19, hq19, h⟩ := bd h
    refine wa_callV C (r_X10_ends_62 hq19) mk_X10_ends mv_X10_ends qw_422 rfl (by decide) rfl rfl ⟨Nat.le_of_ble_eq_true rfl, Nat.le_of_ble_eq_true rfl⟩ ⟨Nat.zero_le _, Nat.zero_le _⟩ (Nat.le_of_ble_eq_true rfl) dX10_kindNow_20 rfl ?_
    refine wa_if_eq (tgt := 28) C dX10_kindNow_23 (by decide) (fun c20 => ?_) (fun c20 => ?_)
    · replace h := (if_pos c20).symm.trans h
      exact WA.sub (lsub_c rfl lsub_n) (r_X10_kindNow_62_J28 C h)
    · replace h := (if_neg c20).symm.trans h
      refine wa_iconst (v := 0) C dX10_kindNow_26 (by decide) ?_
      obtain rfl := Option.some.inj h
      exact wa_iret C dX10_kindNow_27
def f_X10_looked_62_J49 (μ : Mem) : Option (Int32 × Mem) :=
  if (μ.1 62 24) = 0 then
    some ((μ.1 62 23), μ)
  else
    some ((0 : Int32), μ)
def f_X10_looked_62_J25 (a1 : Int32) (a2 : Int32) (μ : Mem) : Option (Int32 × Mem) :=
  if (μ.1 62 24) = 0 then
    (f_X10_in ((μ.1 62 23).toInt64) (a1.toInt64) (a2.toInt64) μ).bind fun q5 =>
    (f_X10_needs_62 q5.1 (3 : Int32) q5.2).bind fun q6 =>
    f_X10_looked_62_J49 q6
  else
    f_X10_looked_62_J49 μ
def f_X10_looked_62_J21 (a1 : Int32) (a2 : Int32) (t1 : Int32) (μ : Mem) : Option (Int32 × Mem) :=
  (f_X10_needs_62 t1 (2 : Int32) μ).bind fun q3 =>
  f_X10_looked_62_J25 a1 a2 q3
def f_X10_looked_62 (a1 : Int32) (a2 : Int32) (μ : Mem) : Option (Int32 × Mem) :=
  if (μ.1 62 24) = 0 then
    if (μ.1 62 22) = (2 : Int32) then
      f_X10_looked_62_J21 a1 a2 (1 : Int32) μ
    else
      f_X10_looked_62_J21 a1 a2 (0 : Int32) μ
  else
    f_X10_looked_62_J25 a1 a2 μ
set_option maxRecDepth 100000 in
set_option maxHeartbeats 4000000 in
theorem r_X10_looked_62_J49 {p : Program} {l : Launch} {e : Env} {s : State} {m : MethodId} {args : Array Value} {below : List Frame} {meth : Method} {c : Code} {D : va_G} {cy : Nat → ClassId} {ad : Nat → Nat} (C : CX p s m args meth c cX10_looked 3 RX10 (some .int) D cy ad (AD ad)) {μ : Mem} {ρ : (Int32 × Mem)} (h : f_X10_looked_62_J49 μ = some ρ) : WA p l e (rmD 1) s m args below meth c 3 D cy ad (AD ad) 0 0 (ZZ below args s D cy ad (AD ad) 0 0 (some (.int ρ.1)) ρ.2) μ [(0, .ref 62)] 49 [] := by
  unfold f_X10_looked_62_J49 at h
  refine wa_aload_n C dX10_looked_49 rfl ?_
  refine wa_geti (x := (μ.1 62 24)) C fl_RX10_116 rfl rfl (by decide) rfl dX10_looked_50 ?_
  refine wa_if_ne (tgt := 63) C dX10_looked_53 (by decide) (fun c7 => ?_) (fun c7 => ?_)
  · replace h := (if_neg c7).symm.trans h
    refine wa_iconst (v := 0) C dX10_looked_63 (by decide) ?_
    obtain rfl := Option.some.inj h
    exact wa_iret C dX10_looked_64
  · replace h := (if_pos c7).symm.trans h
    refine wa_aload_n C dX10_looked_56 rfl ?_
    refine wa_geti (x := (μ.1 62 23)) C fl_RX10_151 rfl rfl (by decide) rfl dX10_looked_57 ?_
    refine wa_goto (tgt := 64) C dX10_looked_60 (by decide) ?_
    obtain rfl := Option.some.inj h
    exact wa_iret C dX10_looked_64
set_option maxRecDepth 100000 in
set_option maxHeartbeats 4000000 in
theorem r_X10_looked_62_J25 {p : Program} {l : Launch} {e : Env} {s : State} {m : MethodId} {args : Array Value} {below : List Frame} {meth : Method} {c : Code} {D : va_G} {cy : Nat → ClassId} {ad : Nat → Nat} (C : CX p s m args meth c cX10_looked 3 RX10 (some .int) D cy ad (AD ad)) {a1 : Int32} {a2 : Int32} {μ : Mem} {ρ : (Int32 × Mem)} (h : f_X10_looked_62_J25 a1 a2 μ = some ρ) : WA p l e (rmD 1) s m args below meth c 3 D cy ad (AD ad) 0 0 (ZZ below args s D cy ad (AD ad) 0 0 (some (.int ρ.1)) ρ.2) μ [(0, .ref 62), (1, .int a1), (2, .int a2)] 25 [] := by
  unfold f_X10_looked_62_J25 at h
  refine wa_aload_n C dX10_looked_25 rfl ?_
  refine wa_geti (x := (μ.1 62 24)) C fl_RX10_116 rfl rfl (by decide) rfl dX10_looked_26 ?_
  refine wa_if_ne (tgt := 49) C dX10_looked_29 (by decide) (fun c4 => ?_) (fun c4 => ?_)
  · replace h := (if_neg c4).symm.trans h
    exact WA.sub (lsub_c rfl lsub_n) (r_X10_looked_62_J49 C h)
  · replace h := (if_pos c4).symm.trans h
    refine wa_aload_n C dX10_looked_32 rfl ?_
    refine wa_aload_n C dX10_looked_33 rfl ?_
    refine wa_geti (x := (μ.1 62 23)) C fl_RX10_151 rfl rfl (by decide) rfl dX10_looked_34 ?_
    refine wa_i2l (v := ((μ.1 62 23).toInt64)) C dX10_looked_37 rfl ?_
    refine wa_iload_n C dX10_looked_38 rfl ?_
    refine wa_i2l (v := (a1.toInt64)) C dX10_looked_39 rfl ?_
    refine wa_iload_n C dX10_looked_40 rfl ?_
    refine wa_i2l (v := (a2.toInt64)) C dX10_looked_41 rfl ?_
    obtain ⟨q5, hq5, h⟩ := bd h
    refine wa_callS C (r_X10_in hq5) mk_X10_in ms_X10_in qw_198 rfl ⟨Nat.le_of_ble_eq_true rfl, Nat.le_of_ble_eq_true rfl⟩ ⟨Nat.zero_le _, Nat.zero_le _⟩ (Nat.le_of_ble_eq_true rfl) dX10_looked_42 rfl ?_
    refine wa_iconst (v := 3) C dX10_looked_45 (by decide) ?_
    obtain ⟨q6, hq6, h⟩ := bd h
    refine wa_callV C (r_X10_needs_62 hq6) mk_X10_needs mv_X10_needs qw_406 rfl (by decide) rfl rfl ⟨Nat.le_of_ble_eq_true rfl, Nat.le_of_ble_eq_true rfl⟩ ⟨Nat.zero_le _, Nat.zero_le _⟩ (Nat.le_of_ble_eq_true rfl) dX10_looked_46 rfl ?_
    exact WA.sub (lsub_c rfl lsub_n) (r_X10_looked_62_J49 C h)
set_option maxRecDepth 100000 in
set_option maxHeartbeats 4000000 in
theorem r_X10_looked_62_J21 {p : Program} {l : Launch} {e : Env} {s : State} {m : MethodId} {args : Array Value} {below : List Frame} {meth : Method} {c : Code} {D : va_G} {cy : Nat → ClassId} {ad : Nat → Nat} (C : CX p s m args meth c cX10_looked 3 RX10 (some .int) D cy ad (AD ad)) {a1 : Int32} {a2 : Int32} {t1 : Int32} {μ : Mem} {ρ : (Int32 × Mem)} (h : f_X10_looked_62_J21 a1 a2 t1 μ = some ρ) : WA p l e (rmD 1) s m args below meth c 3 D cy ad (AD ad) 0 0 (ZZ below args s D cy ad (AD ad) 0 0 (some (.int ρ.1)) ρ.2) μ [(0, .ref 62), (1, .int a1), (2, .int a2)] 21 [.int t1, .ref 62] := by
  unfold f_X10_looked_62_J21 at h
  refine wa_iconst (v := 2) C dX10_looked_21 (by decide) ?_
  obtain ⟨q3, hq3, h⟩ := bd h
  refine wa_callV C (r_X10_needs_62 hq3) mk_X10_needs mv_X10_needs qw_406 rfl (by decide) rfl rfl ⟨Nat.le_of_ble_eq_true rfl, Nat.le_of_ble_eq_true rfl⟩ ⟨Nat.zero_le _, Nat.zero_le _⟩ (Nat.le_of_ble_eq_true rfl) dX10_looked_22 rfl ?_
  exact WA.sub (lsub_c rfl (lsub_c rfl (lsub_c rfl lsub_n))) (r_X10_looked_62_J25 C h)
set_option maxRecDepth 100000 in
set_option maxHeartbeats 4000000 in
theorem r_X10_looked_62 {a1 : Int32} {a2 : Int32} {μ : Mem} {ρ : (Int32 × Mem)} (h : f_X10_looked_62 a1 a2 μ = some ρ) : HT 1 yX10_looked cX10_looked 3 (some .int) [.ref 62, .int a1, .int a2] μ (some (.int ρ.1)) ρ.2 := by
  refine HT.of (by decide +kernel) (Nat.le_of_ble_eq_true rfl) (fun C => ?_)
  unfold f_X10_looked_62 at h
  refine wa_aload_n C dX10_looked_0 rfl ?_
  refine wa_geti (x := (μ.1 62 24)) C fl_RX10_116 rfl rfl (by decide) rfl dX10_looked_1 ?_
  refine wa_if_ne (tgt := 25) C dX10_looked_4 (by decide) (fun c1 => ?_) (fun c1 => ?_)
  · replace h := (if_neg c1).symm.trans h
    exact WA.sub (lsub_c rfl (lsub_c rfl (lsub_c rfl lsub_n))) (r_X10_looked_62_J25 C h)
  · replace h := (if_pos c1).symm.trans h
    refine wa_aload_n C dX10_looked_7 rfl ?_
    refine wa_aload_n C dX10_looked_8 rfl ?_
    refine wa_geti (x := (μ.1 62 22)) C fl_RX10_140 rfl rfl (by decide) rfl dX10_looked_9 ?_
    refine wa_iconst (v := 2) C dX10_looked_12 (by decide) ?_
    refine wa_icmp_ne (tgt := 20) C dX10_looked_13 (by decide) (fun c2 => ?_) (fun c2 => ?_)
    · replace h := (if_neg c2).symm.trans h
      refine wa_iconst (v := 0) C dX10_looked_20 (by decide) ?_
      exact WA.sub (lsub_c rfl (lsub_c rfl (lsub_c rfl lsub_n))) (r_X10_looked_62_J21 C h)
    · replace h := (if_pos c2).symm.trans h
      refine wa_iconst (v := 1) C dX10_looked_16 (by decide) ?_
      refine wa_goto (tgt := 21) C dX10_looked_17 (by decide) ?_
      exact WA.sub (lsub_c rfl (lsub_c rfl (lsub_c rfl lsub_n))) (r_X10_looked_62_J21 C h)
def f_X10_readNumber_62 (a1 : Int32) (a2 : Int32) (μ : Mem) : Option (Int32 × Mem) :=
  (f_X10_looked_62 a1 a2 μ).bind fun q1 =>
  (f_X10_next_62 q1.2).bind fun q2 =>
  some (q1.1, q2)
set_option maxRecDepth 100000 in
set_option maxHeartbeats 4000000 in
theorem r_X10_readNumber_62 {a1 : Int32} {a2 : Int32} {μ : Mem} {ρ : (Int32 × Mem)} (h : f_X10_readNumber_62 a1 a2 μ = some ρ) : HT 2 yX10_readNumber cX10_readNumber 4 (some .int) [.ref 62, .int a1, .int a2] μ (some (.int ρ.1)) ρ.2 := by
  refine HT.of (by decide +kernel) (Nat.le_of_ble_eq_true rfl) (fun C => ?_)
  unfold f_X10_readNumber_62 at h
  refine wa_aload_n C dX10_readNumber_0 rfl ?_
  refine wa_iload_n C dX10_readNumber_1 rfl ?_
  refine wa_iload_n C dX10_readNumber_2 rfl ?_
  obtain ⟨q1, hq1, h⟩ := bd h
  refine wa_callV C (r_X10_looked_62 hq1) mk_X10_looked mv_X10_looked qw_442 rfl (by decide) rfl rfl ⟨Nat.le_of_ble_eq_true rfl, Nat.le_of_ble_eq_true rfl⟩ ⟨Nat.zero_le _, Nat.zero_le _⟩ (Nat.le_of_ble_eq_true rfl) dX10_readNumber_3 rfl ?_
  refine wa_istore_n C dX10_readNumber_6 (by decide) ?_
  refine wa_aload_n C dX10_readNumber_7 rfl ?_
  obtain ⟨q2, hq2, h⟩ := bd h
  refine wa_callV C (r_X10_next_62 hq2) mk_X10_next mv_X10_next qw_392 rfl (by decide) rfl rfl ⟨Nat.le_of_ble_eq_true rfl, Nat.le_of_ble_eq_true rfl⟩ ⟨Nat.zero_le _, Nat.zero_le _⟩ (Nat.le_of_ble_eq_true rfl) dX10_readNumber_8 rfl ?_
  refine wa_iload_n C dX10_readNumber_11 rfl ?_
  obtain rfl := Option.some.inj h
  exact wa_iret C dX10_readNumber_12
def f_X10_readSister_62_J37 (a1 : Int32) (t1 : Int32) (μ : Mem) : Option Mem :=
  (f_X10_needs_62 t1 (2 : Int32) μ).bind fun q5 =>
  (f_X10_next_62 q5).bind fun q6 =>
  if inb (q6.1 62 8) 3 = false then none else
  (f_X10_readNumber_62 (0 : Int32) (15 : Int32) (pI q6 68 ((q6.1 62 8).toNatClampNeg) a1)).bind fun q8 =>
  if inb ((2 : Int32) * (q6.1 62 8)) 6 = false then none else
  (f_X10_readNumber_62 (0 : Int32) (15 : Int32) (pI q8.2 69 (((2 : Int32) * (q6.1 62 8)).toNatClampNeg) q8.1)).bind fun q10 =>
  if inb (((2 : Int32) * (q8.2.1 62 8)) + (1 : Int32)) 6 = false then none else
  (f_X10_readNumber_62 (0 : Int32) (9 : Int32) (pI q10.2 69 ((((2 : Int32) * (q8.2.1 62 8)) + (1 : Int32)).toNatClampNeg) q10.1)).bind fun q12 =>
  if inb ((3 : Int32) + ((2 : Int32) * (q10.2.1 62 8))) 54 = false then none else
  (f_X10_readNumber_62 (0 : Int32) (9 : Int32) (pI q12.2 67 (((3 : Int32) + ((2 : Int32) * (q10.2.1 62 8))).toNatClampNeg) q12.1)).bind fun q14 =>
  if inb (((3 : Int32) + ((2 : Int32) * (q12.2.1 62 8))) + (1 : Int32)) 54 = false then none else
  some (pI (pI q14.2 67 ((((3 : Int32) + ((2 : Int32) * (q12.2.1 62 8))) + (1 : Int32)).toNatClampNeg) q14.1) 62 8 ((q14.2.1 62 8) + (1 : Int32)))
def f_X10_readSister_62_J24 (t0 : Int32) (μ : Mem) : Option Mem :=
  if t0 = (-4 : Int32) then
    f_X10_readSister_62_J37 t0 (0 : Int32) μ
  else
    f_X10_readSister_62_J37 t0 (1 : Int32) μ
def f_X10_readSister_62_J22 (μ : Mem) : Option Mem :=
  f_X10_readSister_62_J24 (-4 : Int32) μ
def f_X10_readSister_62 (μ : Mem) : Option Mem :=
  if (μ.1 62 24) = 0 then
    if (μ.1 62 22) = (1 : Int32) then
      (f_X10_kindNow_62 μ).bind fun q3 =>
      f_X10_readSister_62_J24 q3.1 q3.2
    else
      f_X10_readSister_62_J22 μ
  else
    f_X10_readSister_62_J22 μ
set_option maxRecDepth 100000 in
set_option maxHeartbeats 4000000 in
theorem r_X10_readSister_62_J37 {p : Program} {l : Launch} {e : Env} {s : State} {m : MethodId} {args : Array Value} {below : List Frame} {meth : Method} {c : Code} {D : va_G} {cy : Nat → ClassId} {ad : Nat → Nat} (C : CX p s m args meth c cX10_readSister 2 RX10 none D cy ad (AD ad)) {a1 : Int32} {t1 : Int32} {μ : Mem} {ρ : Mem} (h : f_X10_readSister_62_J37 a1 t1 μ = some ρ) : WA p l e (rmD 3) s m args below meth c 2 D cy ad (AD ad) 0 0 (ZZ below args s D cy ad (AD ad) 0 0 none ρ) μ [(0, .ref 62), (1, .int a1)] 37 [.int t1, .ref 62] := by
  unfold f_X10_readSister_62_J37 at h
  refine wa_iconst (v := 2) C dX10_readSister_37 (by decide) ?_
  obtain ⟨q5, hq5, h⟩ := bd h
  refine wa_callV C (r_X10_needs_62 hq5) mk_X10_needs mv_X10_needs qw_406 rfl (by decide) rfl rfl ⟨Nat.le_of_ble_eq_true rfl, Nat.le_of_ble_eq_true rfl⟩ ⟨Nat.zero_le _, Nat.zero_le _⟩ (Nat.le_of_ble_eq_true rfl) dX10_readSister_38 rfl ?_
  refine wa_aload_n C dX10_readSister_41 rfl ?_
  obtain ⟨q6, hq6, h⟩ := bd h
  refine wa_callV C (r_X10_next_62 hq6) mk_X10_next mv_X10_next qw_392 rfl (by decide) rfl rfl ⟨Nat.le_of_ble_eq_true rfl, Nat.le_of_ble_eq_true rfl⟩ ⟨Nat.zero_le _, Nat.zero_le _⟩ (Nat.le_of_ble_eq_true rfl) dX10_readSister_42 rfl ?_
  refine wa_aload_n C dX10_readSister_45 rfl ?_
  refine wa_getr C fl_RX10_26 rfl rfl (by decide) dX10_readSister_46 ?_
  refine wa_aload_n C dX10_readSister_49 rfl ?_
  refine wa_geti (x := (q6.1 62 8)) C fl_RX10_68 rfl rfl (by decide) rfl dX10_readSister_50 ?_
  refine wa_iload_n C dX10_readSister_53 rfl ?_
  obtain ⟨g7, h⟩ := gd h
  refine wa_iast (j := ((q6.1 62 8).toNatClampNeg)) C rfl (by decide) g7 rfl dX10_readSister_54 ?_
  refine wa_aload_n C dX10_readSister_55 rfl ?_
  refine wa_getr C fl_RX10_29 rfl rfl (by decide) dX10_readSister_56 ?_
  refine wa_iconst (v := 2) C dX10_readSister_59 (by decide) ?_
  refine wa_aload_n C dX10_readSister_60 rfl ?_
  refine wa_geti (x := (q6.1 62 8)) C fl_RX10_68 rfl rfl (by decide) rfl dX10_readSister_61 ?_
  refine wa_imul C dX10_readSister_64 ?_
  refine wa_aload_n C dX10_readSister_65 rfl ?_
  refine wa_iconst (v := 0) C dX10_readSister_66 (by decide) ?_
  refine wa_bipush (v := 15) C dX10_readSister_67 (by decide) ?_
  obtain ⟨q8, hq8, h⟩ := bd h
  refine wa_callV C (r_X10_readNumber_62 hq8) mk_X10_readNumber mv_X10_readNumber qw_438 rfl (by decide) rfl rfl ⟨Nat.le_of_ble_eq_true rfl, Nat.le_of_ble_eq_true rfl⟩ ⟨Nat.zero_le _, Nat.zero_le _⟩ (Nat.le_of_ble_eq_true rfl) dX10_readSister_69 rfl ?_
  obtain ⟨g9, h⟩ := gd h
  refine wa_iast (j := (((2 : Int32) * (q6.1 62 8)).toNatClampNeg)) C rfl (by decide) g9 rfl dX10_readSister_72 ?_
  refine wa_aload_n C dX10_readSister_73 rfl ?_
  refine wa_getr C fl_RX10_29 rfl rfl (by decide) dX10_readSister_74 ?_
  refine wa_iconst (v := 2) C dX10_readSister_77 (by decide) ?_
  refine wa_aload_n C dX10_readSister_78 rfl ?_
  refine wa_geti (x := (q8.2.1 62 8)) C fl_RX10_68 rfl rfl (by decide) rfl dX10_readSister_79 ?_
  refine wa_imul C dX10_readSister_82 ?_
  refine wa_iconst (v := 1) C dX10_readSister_83 (by decide) ?_
  refine wa_iadd C dX10_readSister_84 ?_
  refine wa_aload_n C dX10_readSister_85 rfl ?_
  refine wa_iconst (v := 0) C dX10_readSister_86 (by decide) ?_
  refine wa_bipush (v := 15) C dX10_readSister_87 (by decide) ?_
  obtain ⟨q10, hq10, h⟩ := bd h
  refine wa_callV C (r_X10_readNumber_62 hq10) mk_X10_readNumber mv_X10_readNumber qw_438 rfl (by decide) rfl rfl ⟨Nat.le_of_ble_eq_true rfl, Nat.le_of_ble_eq_true rfl⟩ ⟨Nat.zero_le _, Nat.zero_le _⟩ (Nat.le_of_ble_eq_true rfl) dX10_readSister_89 rfl ?_
  obtain ⟨g11, h⟩ := gd h
  refine wa_iast (j := ((((2 : Int32) * (q8.2.1 62 8)) + (1 : Int32)).toNatClampNeg)) C rfl (by decide) g11 rfl dX10_readSister_92 ?_
  refine wa_aload_n C dX10_readSister_93 rfl ?_
  refine wa_getr C fl_RX10_23 rfl rfl (by decide) dX10_readSister_94 ?_
  refine wa_iconst (v := 3) C dX10_readSister_97 (by decide) ?_
  refine wa_iconst (v := 2) C dX10_readSister_98 (by decide) ?_
  refine wa_aload_n C dX10_readSister_99 rfl ?_
  refine wa_geti (x := (q10.2.1 62 8)) C fl_RX10_68 rfl rfl (by decide) rfl dX10_readSister_100 ?_
  refine wa_imul C dX10_readSister_103 ?_
  refine wa_iadd C dX10_readSister_104 ?_
  refine wa_aload_n C dX10_readSister_105 rfl ?_
  refine wa_iconst (v := 0) C dX10_readSister_106 (by decide) ?_
  refine wa_bipush (v := 9) C dX10_readSister_107 (by decide) ?_
  obtain ⟨q12, hq12, h⟩ := bd h
  refine wa_callV C (r_X10_readNumber_62 hq12) mk_X10_readNumber mv_X10_readNumber qw_438 rfl (by decide) rfl rfl ⟨Nat.le_of_ble_eq_true rfl, Nat.le_of_ble_eq_true rfl⟩ ⟨Nat.zero_le _, Nat.zero_le _⟩ (Nat.le_of_ble_eq_true rfl) dX10_readSister_109 rfl ?_
  obtain ⟨g13, h⟩ := gd h
  refine wa_iast (j := (((3 : Int32) + ((2 : Int32) * (q10.2.1 62 8))).toNatClampNeg)) C rfl (by decide) g13 rfl dX10_readSister_112 ?_
  refine wa_aload_n C dX10_readSister_113 rfl ?_
  refine wa_getr C fl_RX10_23 rfl rfl (by decide) dX10_readSister_114 ?_
  refine wa_iconst (v := 3) C dX10_readSister_117 (by decide) ?_
  refine wa_iconst (v := 2) C dX10_readSister_118 (by decide) ?_
  refine wa_aload_n C dX10_readSister_119 rfl ?_
  refine wa_geti (x := (q12.2.1 62 8)) C fl_RX10_68 rfl rfl (by decide) rfl dX10_readSister_120 ?_
  refine wa_imul C dX10_readSister_123 ?_
  refine wa_iadd C dX10_readSister_124 ?_
  refine wa_iconst (v := 1) C dX10_readSister_125 (by decide) ?_
  refine wa_iadd C dX10_readSister_126 ?_
  refine wa_aload_n C dX10_readSister_127 rfl ?_
  refine wa_iconst (v := 0) C dX10_readSister_128 (by decide) ?_
  refine wa_bipush (v := 9) C dX10_readSister_129 (by decide) ?_
  obtain ⟨q14, hq14, h⟩ := bd h
  refine wa_callV C (r_X10_readNumber_62 hq14) mk_X10_readNumber mv_X10_readNumber qw_438 rfl (by decide) rfl rfl ⟨Nat.le_of_ble_eq_true rfl, Nat.le_of_ble_eq_true rfl⟩ ⟨Nat.zero_le _, Nat.zero_le _⟩ (Nat.le_of_ble_eq_true rfl) dX10_readSister_131 rfl ?_
  obtain ⟨g15, h⟩ := gd h
  refine wa_iast (j := ((((3 : Int32) + ((2 : Int32) * (q12.2.1 62 8))) + (1 : Int32)).toNatClampNeg)) C rfl (by decide) g15 rfl dX10_readSister_134 ?_
  refine wa_aload_n C dX10_readSister_135 rfl ?_
  refine wa_dup C dX10_readSister_136 rfl ?_
  refine wa_geti (x := (q14.2.1 62 8)) C fl_RX10_68 rfl rfl (by decide) rfl dX10_readSister_137 ?_
  refine wa_iconst (v := 1) C dX10_readSister_140 (by decide) ?_
  refine wa_iadd C dX10_readSister_141 ?_
  refine wa_puti C fl_RX10_68 fp_10_8 rfl rfl (by decide) rfl rfl dX10_readSister_142 ?_
  obtain rfl := Option.some.inj h
  exact wa_vret C dX10_readSister_145
set_option maxRecDepth 100000 in
set_option maxHeartbeats 4000000 in
theorem r_X10_readSister_62_J24 {p : Program} {l : Launch} {e : Env} {s : State} {m : MethodId} {args : Array Value} {below : List Frame} {meth : Method} {c : Code} {D : va_G} {cy : Nat → ClassId} {ad : Nat → Nat} (C : CX p s m args meth c cX10_readSister 2 RX10 none D cy ad (AD ad)) {t0 : Int32} {μ : Mem} {ρ : Mem} (h : f_X10_readSister_62_J24 t0 μ = some ρ) : WA p l e (rmD 3) s m args below meth c 2 D cy ad (AD ad) 0 0 (ZZ below args s D cy ad (AD ad) 0 0 none ρ) μ [(0, .ref 62)] 24 [.int t0] := by
  unfold f_X10_readSister_62_J24 at h
  refine wa_istore_n C dX10_readSister_24 (by decide) ?_
  refine wa_aload_n C dX10_readSister_25 rfl ?_
  refine wa_iload_n C dX10_readSister_26 rfl ?_
  refine wa_bipush (v := -4) C dX10_readSister_27 (by decide) ?_
  refine wa_icmp_eq (tgt := 36) C dX10_readSister_29 (by decide) (fun c4 => ?_) (fun c4 => ?_)
  · replace h := (if_pos c4).symm.trans h
    refine wa_iconst (v := 0) C dX10_readSister_36 (by decide) ?_
    exact WA.sub (lsub_c rfl (lsub_c rfl lsub_n)) (r_X10_readSister_62_J37 C h)
  · replace h := (if_neg c4).symm.trans h
    refine wa_iconst (v := 1) C dX10_readSister_32 (by decide) ?_
    refine wa_goto (tgt := 37) C dX10_readSister_33 (by decide) ?_
    exact WA.sub (lsub_c rfl (lsub_c rfl lsub_n)) (r_X10_readSister_62_J37 C h)
set_option maxRecDepth 100000 in
set_option maxHeartbeats 4000000 in
theorem r_X10_readSister_62_J22 {p : Program} {l : Launch} {e : Env} {s : State} {m : MethodId} {args : Array Value} {below : List Frame} {meth : Method} {c : Code} {D : va_G} {cy : Nat → ClassId} {ad : Nat → Nat} (C : CX p s m args meth c cX10_readSister 2 RX10 none D cy ad (AD ad)) {μ : Mem} {ρ : Mem} (h : f_X10_readSister_62_J22 μ = some ρ) : WA p l e (rmD 3) s m args below meth c 2 D cy ad (AD ad) 0 0 (ZZ below args s D cy ad (AD ad) 0 0 none ρ) μ [(0, .ref 62)] 22 [] := by
  unfold f_X10_readSister_62_J22 at h
  refine wa_bipush (v := -4) C dX10_readSister_22 (by decide) ?_
  exact WA.sub (lsub_c rfl lsub_n) (r_X10_readSister_62_J24 C h)
set_option maxRecDepth 100000 in
set_option maxHeartbeats 4000000 in
theorem r_X10_readSister_62 {μ : Mem} {ρ : Mem} (h : f_X10_readSister_62 μ = some ρ) : HT 3 yX10_readSister cX10_readSister 2 none [.ref 62] μ none ρ := by
  refine HT.of (by decide +kernel) (Nat.le_of_ble_eq_true rfl) (fun C => ?_)
  unfold f_X10_readSister_62 at h
  refine wa_aload_n C dX10_readSister_0 rfl ?_
  refine wa_geti (x := (μ.1 62 24)) C fl_RX10_116 rfl rfl (by decide) rfl dX10_readSister_1 ?_
  refine wa_if_ne (tgt := 22) C dX10_readSister_4 (by decide) (fun c1 => ?_) (fun c1 => ?_)
  · replace h := (if_neg c1).symm.trans h
    exact WA.sub (lsub_c rfl lsub_n) (r_X10_readSister_62_J22 C h)
  · replace h := (if_pos c1).symm.trans h
    refine wa_aload_n C dX10_readSister_7 rfl ?_
    refine wa_geti (x := (μ.1 62 22)) C fl_RX10_140 rfl rfl (by decide) rfl dX10_readSister_8 ?_
    refine wa_iconst (v := 1) C dX10_readSister_11 (by decide) ?_
    refine wa_icmp_ne (tgt := 22) C dX10_readSister_12 (by decide) (fun c2 => ?_) (fun c2 => ?_)
    · replace h := (if_neg c2).symm.trans h
      exact WA.sub (lsub_c rfl lsub_n) (r_X10_readSister_62_J22 C h)
    · replace h := (if_pos c2).symm.trans h
      refine wa_aload_n C dX10_readSister_15 rfl ?_
      obtain ⟨q3, hq3, h⟩ := bd h
      refine wa_callV C (r_X10_kindNow_62 hq3) mk_X10_kindNow mv_X10_kindNow qw_434 rfl (by decide) rfl rfl ⟨Nat.le_of_ble_eq_true rfl, Nat.le_of_ble_eq_true rfl⟩ ⟨Nat.zero_le _, Nat.zero_le _⟩ (Nat.le_of_ble_eq_true rfl) dX10_readSister_16 rfl ?_
      refine wa_goto (tgt := 24) C dX10_readSister_19 (by decide) ?_
      exact WA.sub (lsub_c rfl lsub_n) (r_X10_readSister_62_J24 C h)
def f_X10_readNew_62_J32 (a3 : Int32) (μ : Mem) : Option (Int32 × Mem) :=
  (f_X10_next_62 μ).bind fun q5 =>
  some (a3, q5)
def f_X10_readNew_62_J28 (a3 : Int32) (t1 : Int32) (μ : Mem) : Option (Int32 × Mem) :=
  (f_X10_needs_62 t1 (4 : Int32) μ).bind fun q4 =>
  f_X10_readNew_62_J32 a3 q4
def f_X10_readNew_62 (a1 : Int32) (a2 : Int32) (μ : Mem) : Option (Int32 × Mem) :=
  (f_X10_looked_62 (0 : Int32) a1 μ).bind fun q1 =>
  if (q1.2.1 62 24) = 0 then
    if ((a2 >>> (q1.1 &&& 31)) &&& (1 : Int32)) = 0 then
      f_X10_readNew_62_J28 q1.1 (1 : Int32) q1.2
    else
      f_X10_readNew_62_J28 q1.1 (0 : Int32) q1.2
  else
    f_X10_readNew_62_J32 q1.1 q1.2
set_option maxRecDepth 100000 in
set_option maxHeartbeats 4000000 in
theorem r_X10_readNew_62_J32 {p : Program} {l : Launch} {e : Env} {s : State} {m : MethodId} {args : Array Value} {below : List Frame} {meth : Method} {c : Code} {D : va_G} {cy : Nat → ClassId} {ad : Nat → Nat} (C : CX p s m args meth c cX10_readNew 4 RX10 (some .int) D cy ad (AD ad)) {a3 : Int32} {μ : Mem} {ρ : (Int32 × Mem)} (h : f_X10_readNew_62_J32 a3 μ = some ρ) : WA p l e (rmD 2) s m args below meth c 4 D cy ad (AD ad) 0 0 (ZZ below args s D cy ad (AD ad) 0 0 (some (.int ρ.1)) ρ.2) μ [(0, .ref 62), (3, .int a3)] 32 [] := by
  unfold f_X10_readNew_62_J32 at h
  refine wa_aload_n C dX10_readNew_32 rfl ?_
  obtain ⟨q5, hq5, h⟩ := bd h
  refine wa_callV C (r_X10_next_62 hq5) mk_X10_next mv_X10_next qw_392 rfl (by decide) rfl rfl ⟨Nat.le_of_ble_eq_true rfl, Nat.le_of_ble_eq_true rfl⟩ ⟨Nat.zero_le _, Nat.zero_le _⟩ (Nat.le_of_ble_eq_true rfl) dX10_readNew_33 rfl ?_
  refine wa_iload_n C dX10_readNew_36 rfl ?_
  obtain rfl := Option.some.inj h
  exact wa_iret C dX10_readNew_37
set_option maxRecDepth 100000 in
set_option maxHeartbeats 4000000 in
theorem r_X10_readNew_62_J28 {p : Program} {l : Launch} {e : Env} {s : State} {m : MethodId} {args : Array Value} {below : List Frame} {meth : Method} {c : Code} {D : va_G} {cy : Nat → ClassId} {ad : Nat → Nat} (C : CX p s m args meth c cX10_readNew 4 RX10 (some .int) D cy ad (AD ad)) {a3 : Int32} {t1 : Int32} {μ : Mem} {ρ : (Int32 × Mem)} (h : f_X10_readNew_62_J28 a3 t1 μ = some ρ) : WA p l e (rmD 2) s m args below meth c 4 D cy ad (AD ad) 0 0 (ZZ below args s D cy ad (AD ad) 0 0 (some (.int ρ.1)) ρ.2) μ [(0, .ref 62), (3, .int a3)] 28 [.int t1, .ref 62] := by
  unfold f_X10_readNew_62_J28 at h
  refine wa_iconst (v := 4) C dX10_readNew_28 (by decide) ?_
  obtain ⟨q4, hq4, h⟩ := bd h
  refine wa_callV C (r_X10_needs_62 hq4) mk_X10_needs mv_X10_needs qw_406 rfl (by decide) rfl rfl ⟨Nat.le_of_ble_eq_true rfl, Nat.le_of_ble_eq_true rfl⟩ ⟨Nat.zero_le _, Nat.zero_le _⟩ (Nat.le_of_ble_eq_true rfl) dX10_readNew_29 rfl ?_
  exact WA.sub (lsub_c rfl (lsub_c rfl lsub_n)) (r_X10_readNew_62_J32 C h)
set_option maxRecDepth 100000 in
set_option maxHeartbeats 4000000 in
theorem r_X10_readNew_62 {a1 : Int32} {a2 : Int32} {μ : Mem} {ρ : (Int32 × Mem)} (h : f_X10_readNew_62 a1 a2 μ = some ρ) : HT 2 yX10_readNew cX10_readNew 4 (some .int) [.ref 62, .int a1, .int a2] μ (some (.int ρ.1)) ρ.2 := by
  refine HT.of (by decide +kernel) (Nat.le_of_ble_eq_true rfl) (fun C => ?_)
  unfold f_X10_readNew_62 at h
  refine wa_aload_n C dX10_readNew_0 rfl ?_
  refine wa_iconst (v := 0) C dX10_readNew_1 (by decide) ?_
  refine wa_iload_n C dX10_readNew_2 rfl ?_
  obtain ⟨q1, hq1, h⟩ := bd h
  refine wa_callV C (r_X10_looked_62 hq1) mk_X10_looked mv_X10_looked qw_442 rfl (by decide) rfl rfl ⟨Nat.le_of_ble_eq_true rfl, Nat.le_of_ble_eq_true rfl⟩ ⟨Nat.zero_le _, Nat.zero_le _⟩ (Nat.le_of_ble_eq_true rfl) dX10_readNew_3 rfl ?_
  refine wa_istore_n C dX10_readNew_6 (by decide) ?_
  refine wa_aload_n C dX10_readNew_7 rfl ?_
  refine wa_geti (x := (q1.2.1 62 24)) C fl_RX10_116 rfl rfl (by decide) rfl dX10_readNew_8 ?_
  refine wa_if_ne (tgt := 32) C dX10_readNew_11 (by decide) (fun c2 => ?_) (fun c2 => ?_)
  · replace h := (if_neg c2).symm.trans h
    exact WA.sub (lsub_c rfl (lsub_c rfl lsub_n)) (r_X10_readNew_62_J32 C h)
  · replace h := (if_pos c2).symm.trans h
    refine wa_aload_n C dX10_readNew_14 rfl ?_
    refine wa_iload_n C dX10_readNew_15 rfl ?_
    refine wa_iload_n C dX10_readNew_16 rfl ?_
    refine wa_ishr C dX10_readNew_17 ?_
    refine wa_iconst (v := 1) C dX10_readNew_18 (by decide) ?_
    refine wa_iand C dX10_readNew_19 ?_
    refine wa_if_ne (tgt := 27) C dX10_readNew_20 (by decide) (fun c3 => ?_) (fun c3 => ?_)
    · replace h := (if_neg c3).symm.trans h
      refine wa_iconst (v := 0) C dX10_readNew_27 (by decide) ?_
      exact WA.sub (lsub_c rfl (lsub_c rfl lsub_n)) (r_X10_readNew_62_J28 C h)
    · replace h := (if_pos c3).symm.trans h
      refine wa_iconst (v := 1) C dX10_readNew_23 (by decide) ?_
      refine wa_goto (tgt := 28) C dX10_readNew_24 (by decide) ?_
      exact WA.sub (lsub_c rfl (lsub_c rfl lsub_n)) (r_X10_readNew_62_J28 C h)
def f_X10_sawQuarter_62_J17 (t1 : Int32) (μ : Mem) : Option Mem :=
  some (pI μ 62 17 t1)
def f_X10_sawQuarter_62 (a1 : Int32) (μ : Mem) : Option Mem :=
  if a1 ≤ (μ.1 62 17) then
    f_X10_sawQuarter_62_J17 (μ.1 62 17) μ
  else
    f_X10_sawQuarter_62_J17 a1 μ
set_option maxRecDepth 100000 in
set_option maxHeartbeats 4000000 in
theorem r_X10_sawQuarter_62_J17 {p : Program} {l : Launch} {e : Env} {s : State} {m : MethodId} {args : Array Value} {below : List Frame} {meth : Method} {c : Code} {D : va_G} {cy : Nat → ClassId} {ad : Nat → Nat} (C : CX p s m args meth c cX10_sawQuarter 2 RX10 none D cy ad (AD ad)) {t1 : Int32} {μ : Mem} {ρ : Mem} (h : f_X10_sawQuarter_62_J17 t1 μ = some ρ) : WA p l e (rmD 0) s m args below meth c 2 D cy ad (AD ad) 0 0 (ZZ below args s D cy ad (AD ad) 0 0 none ρ) μ [] 17 [.int t1, .ref 62] := by
  unfold f_X10_sawQuarter_62_J17 at h
  refine wa_puti C fl_RX10_91 fp_10_17 rfl rfl (by decide) rfl rfl dX10_sawQuarter_17 ?_
  obtain rfl := Option.some.inj h
  exact wa_vret C dX10_sawQuarter_20
set_option maxRecDepth 100000 in
set_option maxHeartbeats 4000000 in
theorem r_X10_sawQuarter_62 {a1 : Int32} {μ : Mem} {ρ : Mem} (h : f_X10_sawQuarter_62 a1 μ = some ρ) : HT 0 yX10_sawQuarter cX10_sawQuarter 2 none [.ref 62, .int a1] μ none ρ := by
  refine HT.of (by decide +kernel) (Nat.le_of_ble_eq_true rfl) (fun C => ?_)
  unfold f_X10_sawQuarter_62 at h
  refine wa_aload_n C dX10_sawQuarter_0 rfl ?_
  refine wa_iload_n C dX10_sawQuarter_1 rfl ?_
  refine wa_aload_n C dX10_sawQuarter_2 rfl ?_
  refine wa_geti (x := (μ.1 62 17)) C fl_RX10_91 rfl rfl (by decide) rfl dX10_sawQuarter_3 ?_
  refine wa_icmp_le (tgt := 13) C dX10_sawQuarter_6 (by decide) (fun c1 => ?_) (fun c1 => ?_)
  · replace h := (if_pos c1).symm.trans h
    refine wa_aload_n C dX10_sawQuarter_13 rfl ?_
    refine wa_geti (x := (μ.1 62 17)) C fl_RX10_91 rfl rfl (by decide) rfl dX10_sawQuarter_14 ?_
    exact WA.sub lsub_n (r_X10_sawQuarter_62_J17 C h)
  · replace h := (if_neg c1).symm.trans h
    refine wa_iload_n C dX10_sawQuarter_9 rfl ?_
    refine wa_goto (tgt := 17) C dX10_sawQuarter_10 (by decide) ?_
    exact WA.sub lsub_n (r_X10_sawQuarter_62_J17 C h)
def f_X10_readLineOf_62_J233 (a2 : Int32) (t1 : Int32) (μ : Mem) : Option Mem :=
  (f_X10_readNumber_62 (0 : Int32) (3 : Int32) (pI μ 62 16 t1)).bind fun q23 =>
  if inb ((0 : Int32) + a2) 54 = false then none else
  some (pI q23.2 67 (((0 : Int32) + a2).toNatClampNeg) q23.1)
def f_X10_readLineOf_62 (a1 : Int32) (μ : Mem) : Option Mem :=
  if a1 = 0 then
    (f_X10_readSister_62 μ).bind fun q2 =>
    some q2
  else
  if a1 = 1 then
    (f_X10_readNumber_62 (1 : Int32) (6 : Int32) (pI μ 62 12 (1 : Int32))).bind fun q4 =>
    some (pI q4.2 62 9 q4.1)
  else
  if a1 = 2 then
    (f_X10_readNew_62 (3 : Int32) (μ.1 62 13) μ).bind fun q6 =>
    (f_X10_readNumber_62 (0 : Int32) (6 : Int32) (pI q6.2 62 13 ((q6.2.1 62 13) ||| ((1 : Int32) <<< (q6.1 &&& 31))))).bind fun q7 =>
    if inb ((9 : Int32) + q6.1) 54 = false then none else
    some (pI q7.2 67 (((9 : Int32) + q6.1).toNatClampNeg) q7.1)
  else
  if a1 = 3 then
    (f_X10_readNumber_62 (0 : Int32) (5 : Int32) μ).bind fun q10 =>
    (f_X10_sawQuarter_62 q10.1 q10.2).bind fun q11 =>
    if inb ((13 : Int32) + q10.1) 54 = false then none else
    (f_X10_readNew_62 (3 : Int32) (q11.1 67 (((13 : Int32) + q10.1).toNatClampNeg)) q11).bind fun q13 =>
    if inb ((13 : Int32) + q10.1) 54 = false then none else
    if inb ((13 : Int32) + q10.1) 54 = false then none else
    some (pI q13.2 67 (((13 : Int32) + q10.1).toNatClampNeg) ((q13.2.1 67 (((13 : Int32) + q10.1).toNatClampNeg)) ||| ((1 : Int32) <<< (q13.1 &&& 31))))
  else
  if a1 = 4 then
    (f_X10_readNew_62 (5 : Int32) (μ.1 62 14) μ).bind fun q17 =>
    (f_X10_sawQuarter_62 q17.1 (pI q17.2 62 14 ((q17.2.1 62 14) ||| ((1 : Int32) <<< (q17.1 &&& 31))))).bind fun q18 =>
    (f_X10_readNumber_62 (0 : Int32) (26 : Int32) q18).bind fun q19 =>
    if inb ((21 : Int32) + q17.1) 54 = false then none else
    some (pI q19.2 67 (((21 : Int32) + q17.1).toNatClampNeg) q19.1)
  else
  (f_X10_readNew_62 (2 : Int32) (μ.1 62 15) μ).bind fun q21 =>
  if q21.1 ≤ (q21.2.1 62 16) then
    f_X10_readLineOf_62_J233 q21.1 (q21.2.1 62 16) (pI q21.2 62 15 ((q21.2.1 62 15) ||| ((1 : Int32) <<< (q21.1 &&& 31))))
  else
    f_X10_readLineOf_62_J233 q21.1 q21.1 (pI q21.2 62 15 ((q21.2.1 62 15) ||| ((1 : Int32) <<< (q21.1 &&& 31))))
set_option maxRecDepth 100000 in
set_option maxHeartbeats 4000000 in
theorem r_X10_readLineOf_62_J233 {p : Program} {l : Launch} {e : Env} {s : State} {m : MethodId} {args : Array Value} {below : List Frame} {meth : Method} {c : Code} {D : va_G} {cy : Nat → ClassId} {ad : Nat → Nat} (C : CX p s m args meth c cX10_readLineOf 4 RX10 none D cy ad (AD ad)) {a2 : Int32} {t1 : Int32} {μ : Mem} {ρ : Mem} (h : f_X10_readLineOf_62_J233 a2 t1 μ = some ρ) : WA p l e (rmD 4) s m args below meth c 4 D cy ad (AD ad) 0 0 (ZZ below args s D cy ad (AD ad) 0 0 none ρ) μ [(0, .ref 62), (2, .int a2)] 233 [.int t1, .ref 62] := by
  unfold f_X10_readLineOf_62_J233 at h
  refine wa_puti C fl_RX10_88 fp_10_16 rfl rfl (by decide) rfl rfl dX10_readLineOf_233 ?_
  refine wa_aload_n C dX10_readLineOf_236 rfl ?_
  refine wa_getr C fl_RX10_23 rfl rfl (by decide) dX10_readLineOf_237 ?_
  refine wa_iconst (v := 0) C dX10_readLineOf_240 (by decide) ?_
  refine wa_iload_n C dX10_readLineOf_241 rfl ?_
  refine wa_iadd C dX10_readLineOf_242 ?_
  refine wa_aload_n C dX10_readLineOf_243 rfl ?_
  refine wa_iconst (v := 0) C dX10_readLineOf_244 (by decide) ?_
  refine wa_iconst (v := 3) C dX10_readLineOf_245 (by decide) ?_
  obtain ⟨q23, hq23, h⟩ := bd h
  refine wa_callV C (r_X10_readNumber_62 hq23) mk_X10_readNumber mv_X10_readNumber qw_438 rfl (by decide) rfl rfl ⟨Nat.le_of_ble_eq_true rfl, Nat.le_of_ble_eq_true rfl⟩ ⟨Nat.zero_le _, Nat.zero_le _⟩ (Nat.le_of_ble_eq_true rfl) dX10_readLineOf_246 rfl ?_
  obtain ⟨g24, h⟩ := gd h
  refine wa_iast (j := (((0 : Int32) + a2).toNatClampNeg)) C rfl (by decide) g24 rfl dX10_readLineOf_249 ?_
  obtain rfl := Option.some.inj h
  exact wa_vret C dX10_readLineOf_250
set_option maxRecDepth 100000 in
set_option maxHeartbeats 4000000 in
theorem r_X10_readLineOf_62 {a1 : Int32} {μ : Mem} {ρ : Mem} (h : f_X10_readLineOf_62 a1 μ = some ρ) : HT 4 yX10_readLineOf cX10_readLineOf 4 none [.ref 62, .int a1] μ none ρ := by
  refine HT.of (by decide +kernel) (Nat.le_of_ble_eq_true rfl) (fun C => ?_)
  unfold f_X10_readLineOf_62 at h
  refine wa_iload_n C dX10_readLineOf_0 rfl ?_
  by_cases c1 : a1 = 0
  · replace h := (if_pos c1).symm.trans h
    rw [c1]
    refine wa_tableIn (tgt := 36) C dX10_readLineOf_1 (by decide) (by decide) rfl (by decide) ?_
    refine wa_aload_n C dX10_readLineOf_36 rfl ?_
    obtain ⟨q2, hq2, h⟩ := bd h
    refine wa_callV C (r_X10_readSister_62 hq2) mk_X10_readSister mv_X10_readSister qw_430 rfl (by decide) rfl rfl ⟨Nat.le_of_ble_eq_true rfl, Nat.le_of_ble_eq_true rfl⟩ ⟨Nat.zero_le _, Nat.zero_le _⟩ (Nat.le_of_ble_eq_true rfl) dX10_readLineOf_37 rfl ?_
    refine wa_goto (tgt := 250) C dX10_readLineOf_40 (by decide) ?_
    obtain rfl := Option.some.inj h
    exact wa_vret C dX10_readLineOf_250
  replace h := (if_neg c1).symm.trans h
  by_cases c3 : a1 = 1
  · replace h := (if_pos c3).symm.trans h
    rw [c3]
    refine wa_tableIn (tgt := 43) C dX10_readLineOf_1 (by decide) (by decide) rfl (by decide) ?_
    refine wa_aload_n C dX10_readLineOf_43 rfl ?_
    refine wa_iconst (v := 1) C dX10_readLineOf_44 (by decide) ?_
    refine wa_puti C fl_RX10_75 fp_10_12 rfl rfl (by decide) rfl rfl dX10_readLineOf_45 ?_
    refine wa_aload_n C dX10_readLineOf_48 rfl ?_
    refine wa_aload_n C dX10_readLineOf_49 rfl ?_
    refine wa_iconst (v := 1) C dX10_readLineOf_50 (by decide) ?_
    refine wa_bipush (v := 6) C dX10_readLineOf_51 (by decide) ?_
    obtain ⟨q4, hq4, h⟩ := bd h
    refine wa_callV C (r_X10_readNumber_62 hq4) mk_X10_readNumber mv_X10_readNumber qw_438 rfl (by decide) rfl rfl ⟨Nat.le_of_ble_eq_true rfl, Nat.le_of_ble_eq_true rfl⟩ ⟨Nat.zero_le _, Nat.zero_le _⟩ (Nat.le_of_ble_eq_true rfl) dX10_readLineOf_53 rfl ?_
    refine wa_puti C fl_RX10_72 fp_10_9 rfl rfl (by decide) rfl rfl dX10_readLineOf_56 ?_
    refine wa_goto (tgt := 250) C dX10_readLineOf_59 (by decide) ?_
    obtain rfl := Option.some.inj h
    exact wa_vret C dX10_readLineOf_250
  replace h := (if_neg c3).symm.trans h
  by_cases c5 : a1 = 2
  · replace h := (if_pos c5).symm.trans h
    rw [c5]
    refine wa_tableIn (tgt := 62) C dX10_readLineOf_1 (by decide) (by decide) rfl (by decide) ?_
    refine wa_aload_n C dX10_readLineOf_62 rfl ?_
    refine wa_iconst (v := 3) C dX10_readLineOf_63 (by decide) ?_
    refine wa_aload_n C dX10_readLineOf_64 rfl ?_
    refine wa_geti (x := (μ.1 62 13)) C fl_RX10_79 rfl rfl (by decide) rfl dX10_readLineOf_65 ?_
    obtain ⟨q6, hq6, h⟩ := bd h
    refine wa_callV C (r_X10_readNew_62 hq6) mk_X10_readNew mv_X10_readNew qw_446 rfl (by decide) rfl rfl ⟨Nat.le_of_ble_eq_true rfl, Nat.le_of_ble_eq_true rfl⟩ ⟨Nat.zero_le _, Nat.zero_le _⟩ (Nat.le_of_ble_eq_true rfl) dX10_readLineOf_68 rfl ?_
    refine wa_istore_n C dX10_readLineOf_71 (by decide) ?_
    refine wa_aload_n C dX10_readLineOf_72 rfl ?_
    refine wa_dup C dX10_readLineOf_73 rfl ?_
    refine wa_geti (x := (q6.2.1 62 13)) C fl_RX10_79 rfl rfl (by decide) rfl dX10_readLineOf_74 ?_
    refine wa_iconst (v := 1) C dX10_readLineOf_77 (by decide) ?_
    refine wa_iload_n C dX10_readLineOf_78 rfl ?_
    refine wa_ishl C dX10_readLineOf_79 ?_
    refine wa_ior C dX10_readLineOf_80 ?_
    refine wa_puti C fl_RX10_79 fp_10_13 rfl rfl (by decide) rfl rfl dX10_readLineOf_81 ?_
    refine wa_aload_n C dX10_readLineOf_84 rfl ?_
    refine wa_getr C fl_RX10_23 rfl rfl (by decide) dX10_readLineOf_85 ?_
    refine wa_bipush (v := 9) C dX10_readLineOf_88 (by decide) ?_
    refine wa_iload_n C dX10_readLineOf_90 rfl ?_
    refine wa_iadd C dX10_readLineOf_91 ?_
    refine wa_aload_n C dX10_readLineOf_92 rfl ?_
    refine wa_iconst (v := 0) C dX10_readLineOf_93 (by decide) ?_
    refine wa_bipush (v := 6) C dX10_readLineOf_94 (by decide) ?_
    obtain ⟨q7, hq7, h⟩ := bd h
    refine wa_callV C (r_X10_readNumber_62 hq7) mk_X10_readNumber mv_X10_readNumber qw_438 rfl (by decide) rfl rfl ⟨Nat.le_of_ble_eq_true rfl, Nat.le_of_ble_eq_true rfl⟩ ⟨Nat.zero_le _, Nat.zero_le _⟩ (Nat.le_of_ble_eq_true rfl) dX10_readLineOf_96 rfl ?_
    obtain ⟨g8, h⟩ := gd h
    refine wa_iast (j := (((9 : Int32) + q6.1).toNatClampNeg)) C rfl (by decide) g8 rfl dX10_readLineOf_99 ?_
    refine wa_goto (tgt := 250) C dX10_readLineOf_100 (by decide) ?_
    obtain rfl := Option.some.inj h
    exact wa_vret C dX10_readLineOf_250
  replace h := (if_neg c5).symm.trans h
  by_cases c9 : a1 = 3
  · replace h := (if_pos c9).symm.trans h
    rw [c9]
    refine wa_tableIn (tgt := 103) C dX10_readLineOf_1 (by decide) (by decide) rfl (by decide) ?_
    refine wa_aload_n C dX10_readLineOf_103 rfl ?_
    refine wa_iconst (v := 0) C dX10_readLineOf_104 (by decide) ?_
    refine wa_iconst (v := 5) C dX10_readLineOf_105 (by decide) ?_
    obtain ⟨q10, hq10, h⟩ := bd h
    refine wa_callV C (r_X10_readNumber_62 hq10) mk_X10_readNumber mv_X10_readNumber qw_438 rfl (by decide) rfl rfl ⟨Nat.le_of_ble_eq_true rfl, Nat.le_of_ble_eq_true rfl⟩ ⟨Nat.zero_le _, Nat.zero_le _⟩ (Nat.le_of_ble_eq_true rfl) dX10_readLineOf_106 rfl ?_
    refine wa_istore_n C dX10_readLineOf_109 (by decide) ?_
    refine wa_aload_n C dX10_readLineOf_110 rfl ?_
    refine wa_iload_n C dX10_readLineOf_111 rfl ?_
    obtain ⟨q11, hq11, h⟩ := bd h
    refine wa_callV C (r_X10_sawQuarter_62 hq11) mk_X10_sawQuarter mv_X10_sawQuarter qw_450 rfl (by decide) rfl rfl ⟨Nat.le_of_ble_eq_true rfl, Nat.le_of_ble_eq_true rfl⟩ ⟨Nat.zero_le _, Nat.zero_le _⟩ (Nat.le_of_ble_eq_true rfl) dX10_readLineOf_112 rfl ?_
    refine wa_aload_n C dX10_readLineOf_115 rfl ?_
    refine wa_iconst (v := 3) C dX10_readLineOf_116 (by decide) ?_
    refine wa_aload_n C dX10_readLineOf_117 rfl ?_
    refine wa_getr C fl_RX10_23 rfl rfl (by decide) dX10_readLineOf_118 ?_
    refine wa_bipush (v := 13) C dX10_readLineOf_121 (by decide) ?_
    refine wa_iload_n C dX10_readLineOf_123 rfl ?_
    refine wa_iadd C dX10_readLineOf_124 ?_
    obtain ⟨g12, h⟩ := gd h
    refine wa_iald (j := (((13 : Int32) + q10.1).toNatClampNeg)) (x := (q11.1 67 (((13 : Int32) + q10.1).toNatClampNeg))) C rfl (by decide) g12 rfl rfl dX10_readLineOf_125 ?_
    obtain ⟨q13, hq13, h⟩ := bd h
    refine wa_callV C (r_X10_readNew_62 hq13) mk_X10_readNew mv_X10_readNew qw_446 rfl (by decide) rfl rfl ⟨Nat.le_of_ble_eq_true rfl, Nat.le_of_ble_eq_true rfl⟩ ⟨Nat.zero_le _, Nat.zero_le _⟩ (Nat.le_of_ble_eq_true rfl) dX10_readLineOf_126 rfl ?_
    refine wa_istore_n C dX10_readLineOf_129 (by decide) ?_
    refine wa_aload_n C dX10_readLineOf_130 rfl ?_
    refine wa_getr C fl_RX10_23 rfl rfl (by decide) dX10_readLineOf_131 ?_
    refine wa_bipush (v := 13) C dX10_readLineOf_134 (by decide) ?_
    refine wa_iload_n C dX10_readLineOf_136 rfl ?_
    refine wa_iadd C dX10_readLineOf_137 ?_
    refine wa_dup2_11 C dX10_readLineOf_138 rfl rfl ?_
    obtain ⟨g14, h⟩ := gd h
    refine wa_iald (j := (((13 : Int32) + q10.1).toNatClampNeg)) (x := (q13.2.1 67 (((13 : Int32) + q10.1).toNatClampNeg))) C rfl (by decide) g14 rfl rfl dX10_readLineOf_139 ?_
    refine wa_iconst (v := 1) C dX10_readLineOf_140 (by decide) ?_
    refine wa_iload_n C dX10_readLineOf_141 rfl ?_
    refine wa_ishl C dX10_readLineOf_142 ?_
    refine wa_ior C dX10_readLineOf_143 ?_
    obtain ⟨g15, h⟩ := gd h
    refine wa_iast (j := (((13 : Int32) + q10.1).toNatClampNeg)) C rfl (by decide) g15 rfl dX10_readLineOf_144 ?_
    refine wa_goto (tgt := 250) C dX10_readLineOf_145 (by decide) ?_
    obtain rfl := Option.some.inj h
    exact wa_vret C dX10_readLineOf_250
  replace h := (if_neg c9).symm.trans h
  by_cases c16 : a1 = 4
  · replace h := (if_pos c16).symm.trans h
    rw [c16]
    refine wa_tableIn (tgt := 148) C dX10_readLineOf_1 (by decide) (by decide) rfl (by decide) ?_
    refine wa_aload_n C dX10_readLineOf_148 rfl ?_
    refine wa_iconst (v := 5) C dX10_readLineOf_149 (by decide) ?_
    refine wa_aload_n C dX10_readLineOf_150 rfl ?_
    refine wa_geti (x := (μ.1 62 14)) C fl_RX10_82 rfl rfl (by decide) rfl dX10_readLineOf_151 ?_
    obtain ⟨q17, hq17, h⟩ := bd h
    refine wa_callV C (r_X10_readNew_62 hq17) mk_X10_readNew mv_X10_readNew qw_446 rfl (by decide) rfl rfl ⟨Nat.le_of_ble_eq_true rfl, Nat.le_of_ble_eq_true rfl⟩ ⟨Nat.zero_le _, Nat.zero_le _⟩ (Nat.le_of_ble_eq_true rfl) dX10_readLineOf_154 rfl ?_
    refine wa_istore_n C dX10_readLineOf_157 (by decide) ?_
    refine wa_aload_n C dX10_readLineOf_158 rfl ?_
    refine wa_dup C dX10_readLineOf_159 rfl ?_
    refine wa_geti (x := (q17.2.1 62 14)) C fl_RX10_82 rfl rfl (by decide) rfl dX10_readLineOf_160 ?_
    refine wa_iconst (v := 1) C dX10_readLineOf_163 (by decide) ?_
    refine wa_iload_n C dX10_readLineOf_164 rfl ?_
    refine wa_ishl C dX10_readLineOf_165 ?_
    refine wa_ior C dX10_readLineOf_166 ?_
    refine wa_puti C fl_RX10_82 fp_10_14 rfl rfl (by decide) rfl rfl dX10_readLineOf_167 ?_
    refine wa_aload_n C dX10_readLineOf_170 rfl ?_
    refine wa_iload_n C dX10_readLineOf_171 rfl ?_
    obtain ⟨q18, hq18, h⟩ := bd h
    refine wa_callV C (r_X10_sawQuarter_62 hq18) mk_X10_sawQuarter mv_X10_sawQuarter qw_450 rfl (by decide) rfl rfl ⟨Nat.le_of_ble_eq_true rfl, Nat.le_of_ble_eq_true rfl⟩ ⟨Nat.zero_le _, Nat.zero_le _⟩ (Nat.le_of_ble_eq_true rfl) dX10_readLineOf_172 rfl ?_
    refine wa_aload_n C dX10_readLineOf_175 rfl ?_
    refine wa_getr C fl_RX10_23 rfl rfl (by decide) dX10_readLineOf_176 ?_
    refine wa_bipush (v := 21) C dX10_readLineOf_179 (by decide) ?_
    refine wa_iload_n C dX10_readLineOf_181 rfl ?_
    refine wa_iadd C dX10_readLineOf_182 ?_
    refine wa_aload_n C dX10_readLineOf_183 rfl ?_
    refine wa_iconst (v := 0) C dX10_readLineOf_184 (by decide) ?_
    refine wa_bipush (v := 26) C dX10_readLineOf_185 (by decide) ?_
    obtain ⟨q19, hq19, h⟩ := bd h
    refine wa_callV C (r_X10_readNumber_62 hq19) mk_X10_readNumber mv_X10_readNumber qw_438 rfl (by decide) rfl rfl ⟨Nat.le_of_ble_eq_true rfl, Nat.le_of_ble_eq_true rfl⟩ ⟨Nat.zero_le _, Nat.zero_le _⟩ (Nat.le_of_ble_eq_true rfl) dX10_readLineOf_187 rfl ?_
    obtain ⟨g20, h⟩ := gd h
    refine wa_iast (j := (((21 : Int32) + q17.1).toNatClampNeg)) C rfl (by decide) g20 rfl dX10_readLineOf_190 ?_
    refine wa_goto (tgt := 250) C dX10_readLineOf_191 (by decide) ?_
    obtain rfl := Option.some.inj h
    exact wa_vret C dX10_readLineOf_250
  replace h := (if_neg c16).symm.trans h
  refine wa_tableOut (tgt := 194) C dX10_readLineOf_1 (tab_out4 c1 c3 c5 c9 c16) (by decide) ?_
  refine wa_aload_n C dX10_readLineOf_194 rfl ?_
  refine wa_iconst (v := 2) C dX10_readLineOf_195 (by decide) ?_
  refine wa_aload_n C dX10_readLineOf_196 rfl ?_
  refine wa_geti (x := (μ.1 62 15)) C fl_RX10_85 rfl rfl (by decide) rfl dX10_readLineOf_197 ?_
  obtain ⟨q21, hq21, h⟩ := bd h
  refine wa_callV C (r_X10_readNew_62 hq21) mk_X10_readNew mv_X10_readNew qw_446 rfl (by decide) rfl rfl ⟨Nat.le_of_ble_eq_true rfl, Nat.le_of_ble_eq_true rfl⟩ ⟨Nat.zero_le _, Nat.zero_le _⟩ (Nat.le_of_ble_eq_true rfl) dX10_readLineOf_200 rfl ?_
  refine wa_istore_n C dX10_readLineOf_203 (by decide) ?_
  refine wa_aload_n C dX10_readLineOf_204 rfl ?_
  refine wa_dup C dX10_readLineOf_205 rfl ?_
  refine wa_geti (x := (q21.2.1 62 15)) C fl_RX10_85 rfl rfl (by decide) rfl dX10_readLineOf_206 ?_
  refine wa_iconst (v := 1) C dX10_readLineOf_209 (by decide) ?_
  refine wa_iload_n C dX10_readLineOf_210 rfl ?_
  refine wa_ishl C dX10_readLineOf_211 ?_
  refine wa_ior C dX10_readLineOf_212 ?_
  refine wa_puti C fl_RX10_85 fp_10_15 rfl rfl (by decide) rfl rfl dX10_readLineOf_213 ?_
  refine wa_aload_n C dX10_readLineOf_216 rfl ?_
  refine wa_iload_n C dX10_readLineOf_217 rfl ?_
  refine wa_aload_n C dX10_readLineOf_218 rfl ?_
  refine wa_geti (x := (q21.2.1 62 16)) C fl_RX10_88 rfl rfl (by decide) rfl dX10_readLineOf_219 ?_
  refine wa_icmp_le (tgt := 229) C dX10_readLineOf_222 (by decide) (fun c22 => ?_) (fun c22 => ?_)
  · replace h := (if_pos c22).symm.trans h
    refine wa_aload_n C dX10_readLineOf_229 rfl ?_
    refine wa_geti (x := (q21.2.1 62 16)) C fl_RX10_88 rfl rfl (by decide) rfl dX10_readLineOf_230 ?_
    exact WA.sub (lsub_c rfl (lsub_c rfl lsub_n)) (r_X10_readLineOf_62_J233 C h)
  · replace h := (if_neg c22).symm.trans h
    refine wa_iload_n C dX10_readLineOf_225 rfl ?_
    refine wa_goto (tgt := 233) C dX10_readLineOf_226 (by decide) ?_
    exact WA.sub (lsub_c rfl (lsub_c rfl lsub_n)) (r_X10_readLineOf_62_J233 C h)
def f_X10_readLine_62_J120 (μ : Mem) : Option Mem :=
  (f_X10_next_62 μ).bind fun q17 =>
  some q17
def f_X10_readLine_62_J116 (t1 : Int32) (μ : Mem) : Option Mem :=
  (f_X10_needs_62 t1 (2 : Int32) μ).bind fun q16 =>
  f_X10_readLine_62_J120 q16
def f_X10_readLine_62_J74 (a1 : Int32) (t1 : Int32) (μ : Mem) : Option Mem :=
  (f_X10_needs_62 t1 (4 : Int32) μ).bind fun q10 =>
  (f_X10_next_62 q10).bind fun q11 =>
  if (q11.1 62 24) ≤ 0 then
    (f_X10_readLineOf_62 a1 q11).bind fun q13 =>
    if (q13.1 62 24) = 0 then
      if (q13.1 62 22) = (3 : Int32) then
        f_X10_readLine_62_J116 (1 : Int32) q13
      else
        f_X10_readLine_62_J116 (0 : Int32) q13
    else
      f_X10_readLine_62_J120 q13
  else
    some q11
def f_X10_readLine_62_J69 (a1 : Int32) (μ : Mem) : Option Mem :=
  f_X10_readLine_62_J74 a1 (1 : Int32) μ
def f_X10_readLine_62_J52 (a1 : Int32) (t1 : Int32) (μ : Mem) : Option Mem :=
  (f_X10_needs_62 t1 (5 : Int32) μ).bind fun q7 =>
  if a1 = (1 : Int32) then
    if (q7.1 62 12) = 0 then
      f_X10_readLine_62_J69 a1 q7
    else
      f_X10_readLine_62_J74 a1 (0 : Int32) q7
  else
    f_X10_readLine_62_J69 a1 q7
def f_X10_readLine_62_J47 (a1 : Int32) (μ : Mem) : Option Mem :=
  f_X10_readLine_62_J52 a1 (1 : Int32) μ
def f_X10_readLine_62_J30 (a1 : Int32) (t1 : Int32) (μ : Mem) : Option Mem :=
  (f_X10_needs_62 t1 (2 : Int32) μ).bind fun q4 =>
  if a1 = 0 then
    if (3 : Int32) ≤ (q4.1 62 8) then
      f_X10_readLine_62_J52 a1 (0 : Int32) q4
    else
      f_X10_readLine_62_J47 a1 q4
  else
    f_X10_readLine_62_J47 a1 q4
def f_X10_readLine_62_J17 (t0 : Int32) (μ : Mem) : Option Mem :=
  if t0 = (-4 : Int32) then
    f_X10_readLine_62_J30 t0 (0 : Int32) μ
  else
    f_X10_readLine_62_J30 t0 (1 : Int32) μ
def f_X10_readLine_62 (μ : Mem) : Option Mem :=
  if (μ.1 62 22) = (1 : Int32) then
    (f_X10_lineNow_62 μ).bind fun q2 =>
    f_X10_readLine_62_J17 q2.1 q2.2
  else
    f_X10_readLine_62_J17 (-4 : Int32) μ
set_option maxRecDepth 100000 in
set_option maxHeartbeats 4000000 in
theorem r_X10_readLine_62_J120 {p : Program} {l : Launch} {e : Env} {s : State} {m : MethodId} {args : Array Value} {below : List Frame} {meth : Method} {c : Code} {D : va_G} {cy : Nat → ClassId} {ad : Nat → Nat} (C : CX p s m args meth c cX10_readLine 2 RX10 none D cy ad (AD ad)) {μ : Mem} {ρ : Mem} (h : f_X10_readLine_62_J120 μ = some ρ) : WA p l e (rmD 5) s m args below meth c 2 D cy ad (AD ad) 0 0 (ZZ below args s D cy ad (AD ad) 0 0 none ρ) μ [(0, .ref 62)] 120 [] := by
  unfold f_X10_readLine_62_J120 at h
  refine wa_aload_n C dX10_readLine_120 rfl ?_
  obtain ⟨q17, hq17, h⟩ := bd h
  refine wa_callV C (r_X10_next_62 hq17) mk_X10_next mv_X10_next qw_392 rfl (by decide) rfl rfl ⟨Nat.le_of_ble_eq_true rfl, Nat.le_of_ble_eq_true rfl⟩ ⟨Nat.zero_le _, Nat.zero_le _⟩ (Nat.le_of_ble_eq_true rfl) dX10_readLine_121 rfl ?_
  obtain rfl := Option.some.inj h
  exact wa_vret C dX10_readLine_124
set_option maxRecDepth 100000 in
set_option maxHeartbeats 4000000 in
theorem r_X10_readLine_62_J116 {p : Program} {l : Launch} {e : Env} {s : State} {m : MethodId} {args : Array Value} {below : List Frame} {meth : Method} {c : Code} {D : va_G} {cy : Nat → ClassId} {ad : Nat → Nat} (C : CX p s m args meth c cX10_readLine 2 RX10 none D cy ad (AD ad)) {t1 : Int32} {μ : Mem} {ρ : Mem} (h : f_X10_readLine_62_J116 t1 μ = some ρ) : WA p l e (rmD 5) s m args below meth c 2 D cy ad (AD ad) 0 0 (ZZ below args s D cy ad (AD ad) 0 0 none ρ) μ [(0, .ref 62)] 116 [.int t1, .ref 62] := by
  unfold f_X10_readLine_62_J116 at h
  refine wa_iconst (v := 2) C dX10_readLine_116 (by decide) ?_
  obtain ⟨q16, hq16, h⟩ := bd h
  refine wa_callV C (r_X10_needs_62 hq16) mk_X10_needs mv_X10_needs qw_406 rfl (by decide) rfl rfl ⟨Nat.le_of_ble_eq_true rfl, Nat.le_of_ble_eq_true rfl⟩ ⟨Nat.zero_le _, Nat.zero_le _⟩ (Nat.le_of_ble_eq_true rfl) dX10_readLine_117 rfl ?_
  exact WA.sub (lsub_c rfl lsub_n) (r_X10_readLine_62_J120 C h)
set_option maxRecDepth 100000 in
set_option maxHeartbeats 4000000 in
theorem r_X10_readLine_62_J74 {p : Program} {l : Launch} {e : Env} {s : State} {m : MethodId} {args : Array Value} {below : List Frame} {meth : Method} {c : Code} {D : va_G} {cy : Nat → ClassId} {ad : Nat → Nat} (C : CX p s m args meth c cX10_readLine 2 RX10 none D cy ad (AD ad)) {a1 : Int32} {t1 : Int32} {μ : Mem} {ρ : Mem} (h : f_X10_readLine_62_J74 a1 t1 μ = some ρ) : WA p l e (rmD 5) s m args below meth c 2 D cy ad (AD ad) 0 0 (ZZ below args s D cy ad (AD ad) 0 0 none ρ) μ [(0, .ref 62), (1, .int a1)] 74 [.int t1, .ref 62] := by
  unfold f_X10_readLine_62_J74 at h
  refine wa_iconst (v := 4) C dX10_readLine_74 (by decide) ?_
  obtain ⟨q10, hq10, h⟩ := bd h
  refine wa_callV C (r_X10_needs_62 hq10) mk_X10_needs mv_X10_needs qw_406 rfl (by decide) rfl rfl ⟨Nat.le_of_ble_eq_true rfl, Nat.le_of_ble_eq_true rfl⟩ ⟨Nat.zero_le _, Nat.zero_le _⟩ (Nat.le_of_ble_eq_true rfl) dX10_readLine_75 rfl ?_
  refine wa_aload_n C dX10_readLine_78 rfl ?_
  obtain ⟨q11, hq11, h⟩ := bd h
  refine wa_callV C (r_X10_next_62 hq11) mk_X10_next mv_X10_next qw_392 rfl (by decide) rfl rfl ⟨Nat.le_of_ble_eq_true rfl, Nat.le_of_ble_eq_true rfl⟩ ⟨Nat.zero_le _, Nat.zero_le _⟩ (Nat.le_of_ble_eq_true rfl) dX10_readLine_79 rfl ?_
  refine wa_aload_n C dX10_readLine_82 rfl ?_
  refine wa_geti (x := (q11.1 62 24)) C fl_RX10_116 rfl rfl (by decide) rfl dX10_readLine_83 ?_
  refine wa_if_le (tgt := 90) C dX10_readLine_86 (by decide) (fun c12 => ?_) (fun c12 => ?_)
  · replace h := (if_pos c12).symm.trans h
    refine wa_aload_n C dX10_readLine_90 rfl ?_
    refine wa_iload_n C dX10_readLine_91 rfl ?_
    obtain ⟨q13, hq13, h⟩ := bd h
    refine wa_callV C (r_X10_readLineOf_62 hq13) mk_X10_readLineOf mv_X10_readLineOf qw_426 rfl (by decide) rfl rfl ⟨Nat.le_of_ble_eq_true rfl, Nat.le_of_ble_eq_true rfl⟩ ⟨Nat.zero_le _, Nat.zero_le _⟩ (Nat.le_of_ble_eq_true rfl) dX10_readLine_92 rfl ?_
    refine wa_aload_n C dX10_readLine_95 rfl ?_
    refine wa_geti (x := (q13.1 62 24)) C fl_RX10_116 rfl rfl (by decide) rfl dX10_readLine_96 ?_
    refine wa_if_ne (tgt := 120) C dX10_readLine_99 (by decide) (fun c14 => ?_) (fun c14 => ?_)
    · replace h := (if_neg c14).symm.trans h
      exact WA.sub (lsub_c rfl lsub_n) (r_X10_readLine_62_J120 C h)
    · replace h := (if_pos c14).symm.trans h
      refine wa_aload_n C dX10_readLine_102 rfl ?_
      refine wa_aload_n C dX10_readLine_103 rfl ?_
      refine wa_geti (x := (q13.1 62 22)) C fl_RX10_140 rfl rfl (by decide) rfl dX10_readLine_104 ?_
      refine wa_iconst (v := 3) C dX10_readLine_107 (by decide) ?_
      refine wa_icmp_ne (tgt := 115) C dX10_readLine_108 (by decide) (fun c15 => ?_) (fun c15 => ?_)
      · replace h := (if_neg c15).symm.trans h
        refine wa_iconst (v := 0) C dX10_readLine_115 (by decide) ?_
        exact WA.sub (lsub_c rfl lsub_n) (r_X10_readLine_62_J116 C h)
      · replace h := (if_pos c15).symm.trans h
        refine wa_iconst (v := 1) C dX10_readLine_111 (by decide) ?_
        refine wa_goto (tgt := 116) C dX10_readLine_112 (by decide) ?_
        exact WA.sub (lsub_c rfl lsub_n) (r_X10_readLine_62_J116 C h)
  · replace h := (if_neg c12).symm.trans h
    obtain rfl := Option.some.inj h
    exact wa_vret C dX10_readLine_89
set_option maxRecDepth 100000 in
set_option maxHeartbeats 4000000 in
theorem r_X10_readLine_62_J69 {p : Program} {l : Launch} {e : Env} {s : State} {m : MethodId} {args : Array Value} {below : List Frame} {meth : Method} {c : Code} {D : va_G} {cy : Nat → ClassId} {ad : Nat → Nat} (C : CX p s m args meth c cX10_readLine 2 RX10 none D cy ad (AD ad)) {a1 : Int32} {μ : Mem} {ρ : Mem} (h : f_X10_readLine_62_J69 a1 μ = some ρ) : WA p l e (rmD 5) s m args below meth c 2 D cy ad (AD ad) 0 0 (ZZ below args s D cy ad (AD ad) 0 0 none ρ) μ [(0, .ref 62), (1, .int a1)] 69 [.ref 62] := by
  unfold f_X10_readLine_62_J69 at h
  refine wa_iconst (v := 1) C dX10_readLine_69 (by decide) ?_
  refine wa_goto (tgt := 74) C dX10_readLine_70 (by decide) ?_
  exact WA.sub (lsub_c rfl (lsub_c rfl lsub_n)) (r_X10_readLine_62_J74 C h)
set_option maxRecDepth 100000 in
set_option maxHeartbeats 4000000 in
theorem r_X10_readLine_62_J52 {p : Program} {l : Launch} {e : Env} {s : State} {m : MethodId} {args : Array Value} {below : List Frame} {meth : Method} {c : Code} {D : va_G} {cy : Nat → ClassId} {ad : Nat → Nat} (C : CX p s m args meth c cX10_readLine 2 RX10 none D cy ad (AD ad)) {a1 : Int32} {t1 : Int32} {μ : Mem} {ρ : Mem} (h : f_X10_readLine_62_J52 a1 t1 μ = some ρ) : WA p l e (rmD 5) s m args below meth c 2 D cy ad (AD ad) 0 0 (ZZ below args s D cy ad (AD ad) 0 0 none ρ) μ [(0, .ref 62), (1, .int a1)] 52 [.int t1, .ref 62] := by
  unfold f_X10_readLine_62_J52 at h
  refine wa_iconst (v := 5) C dX10_readLine_52 (by decide) ?_
  obtain ⟨q7, hq7, h⟩ := bd h
  refine wa_callV C (r_X10_needs_62 hq7) mk_X10_needs mv_X10_needs qw_406 rfl (by decide) rfl rfl ⟨Nat.le_of_ble_eq_true rfl, Nat.le_of_ble_eq_true rfl⟩ ⟨Nat.zero_le _, Nat.zero_le _⟩ (Nat.le_of_ble_eq_true rfl) dX10_readLine_53 rfl ?_
  refine wa_aload_n C dX10_readLine_56 rfl ?_
  refine wa_iload_n C dX10_readLine_57 rfl ?_
  refine wa_iconst (v := 1) C dX10_readLine_58 (by decide) ?_
  refine wa_icmp_ne (tgt := 69) C dX10_readLine_59 (by decide) (fun c8 => ?_) (fun c8 => ?_)
  · replace h := (if_neg c8).symm.trans h
    exact WA.sub (lsub_c rfl (lsub_c rfl lsub_n)) (r_X10_readLine_62_J69 C h)
  · replace h := (if_pos c8).symm.trans h
    refine wa_aload_n C dX10_readLine_62 rfl ?_
    refine wa_geti (x := (q7.1 62 12)) C fl_RX10_75 rfl rfl (by decide) rfl dX10_readLine_63 ?_
    refine wa_if_ne (tgt := 73) C dX10_readLine_66 (by decide) (fun c9 => ?_) (fun c9 => ?_)
    · replace h := (if_neg c9).symm.trans h
      refine wa_iconst (v := 0) C dX10_readLine_73 (by decide) ?_
      exact WA.sub (lsub_c rfl (lsub_c rfl lsub_n)) (r_X10_readLine_62_J74 C h)
    · replace h := (if_pos c9).symm.trans h
      exact WA.sub (lsub_c rfl (lsub_c rfl lsub_n)) (r_X10_readLine_62_J69 C h)
set_option maxRecDepth 100000 in
set_option maxHeartbeats 4000000 in
theorem r_X10_readLine_62_J47 {p : Program} {l : Launch} {e : Env} {s : State} {m : MethodId} {args : Array Value} {below : List Frame} {meth : Method} {c : Code} {D : va_G} {cy : Nat → ClassId} {ad : Nat → Nat} (C : CX p s m args meth c cX10_readLine 2 RX10 none D cy ad (AD ad)) {a1 : Int32} {μ : Mem} {ρ : Mem} (h : f_X10_readLine_62_J47 a1 μ = some ρ) : WA p l e (rmD 5) s m args below meth c 2 D cy ad (AD ad) 0 0 (ZZ below args s D cy ad (AD ad) 0 0 none ρ) μ [(0, .ref 62), (1, .int a1)] 47 [.ref 62] := by
  unfold f_X10_readLine_62_J47 at h
  refine wa_iconst (v := 1) C dX10_readLine_47 (by decide) ?_
  refine wa_goto (tgt := 52) C dX10_readLine_48 (by decide) ?_
  exact WA.sub (lsub_c rfl (lsub_c rfl lsub_n)) (r_X10_readLine_62_J52 C h)
set_option maxRecDepth 100000 in
set_option maxHeartbeats 4000000 in
theorem r_X10_readLine_62_J30 {p : Program} {l : Launch} {e : Env} {s : State} {m : MethodId} {args : Array Value} {below : List Frame} {meth : Method} {c : Code} {D : va_G} {cy : Nat → ClassId} {ad : Nat → Nat} (C : CX p s m args meth c cX10_readLine 2 RX10 none D cy ad (AD ad)) {a1 : Int32} {t1 : Int32} {μ : Mem} {ρ : Mem} (h : f_X10_readLine_62_J30 a1 t1 μ = some ρ) : WA p l e (rmD 5) s m args below meth c 2 D cy ad (AD ad) 0 0 (ZZ below args s D cy ad (AD ad) 0 0 none ρ) μ [(0, .ref 62), (1, .int a1)] 30 [.int t1, .ref 62] := by
  unfold f_X10_readLine_62_J30 at h
  refine wa_iconst (v := 2) C dX10_readLine_30 (by decide) ?_
  obtain ⟨q4, hq4, h⟩ := bd h
  refine wa_callV C (r_X10_needs_62 hq4) mk_X10_needs mv_X10_needs qw_406 rfl (by decide) rfl rfl ⟨Nat.le_of_ble_eq_true rfl, Nat.le_of_ble_eq_true rfl⟩ ⟨Nat.zero_le _, Nat.zero_le _⟩ (Nat.le_of_ble_eq_true rfl) dX10_readLine_31 rfl ?_
  refine wa_aload_n C dX10_readLine_34 rfl ?_
  refine wa_iload_n C dX10_readLine_35 rfl ?_
  refine wa_if_ne (tgt := 47) C dX10_readLine_36 (by decide) (fun c5 => ?_) (fun c5 => ?_)
  · replace h := (if_neg c5).symm.trans h
    exact WA.sub (lsub_c rfl (lsub_c rfl lsub_n)) (r_X10_readLine_62_J47 C h)
  · replace h := (if_pos c5).symm.trans h
    refine wa_aload_n C dX10_readLine_39 rfl ?_
    refine wa_geti (x := (q4.1 62 8)) C fl_RX10_68 rfl rfl (by decide) rfl dX10_readLine_40 ?_
    refine wa_iconst (v := 3) C dX10_readLine_43 (by decide) ?_
    refine wa_icmp_ge (tgt := 51) C dX10_readLine_44 (by decide) (fun c6 => ?_) (fun c6 => ?_)
    · replace h := (if_pos c6).symm.trans h
      refine wa_iconst (v := 0) C dX10_readLine_51 (by decide) ?_
      exact WA.sub (lsub_c rfl (lsub_c rfl lsub_n)) (r_X10_readLine_62_J52 C h)
    · replace h := (if_neg c6).symm.trans h
      exact WA.sub (lsub_c rfl (lsub_c rfl lsub_n)) (r_X10_readLine_62_J47 C h)
set_option maxRecDepth 100000 in
set_option maxHeartbeats 4000000 in
theorem r_X10_readLine_62_J17 {p : Program} {l : Launch} {e : Env} {s : State} {m : MethodId} {args : Array Value} {below : List Frame} {meth : Method} {c : Code} {D : va_G} {cy : Nat → ClassId} {ad : Nat → Nat} (C : CX p s m args meth c cX10_readLine 2 RX10 none D cy ad (AD ad)) {t0 : Int32} {μ : Mem} {ρ : Mem} (h : f_X10_readLine_62_J17 t0 μ = some ρ) : WA p l e (rmD 5) s m args below meth c 2 D cy ad (AD ad) 0 0 (ZZ below args s D cy ad (AD ad) 0 0 none ρ) μ [(0, .ref 62)] 17 [.int t0] := by
  unfold f_X10_readLine_62_J17 at h
  refine wa_istore_n C dX10_readLine_17 (by decide) ?_
  refine wa_aload_n C dX10_readLine_18 rfl ?_
  refine wa_iload_n C dX10_readLine_19 rfl ?_
  refine wa_bipush (v := -4) C dX10_readLine_20 (by decide) ?_
  refine wa_icmp_eq (tgt := 29) C dX10_readLine_22 (by decide) (fun c3 => ?_) (fun c3 => ?_)
  · replace h := (if_pos c3).symm.trans h
    refine wa_iconst (v := 0) C dX10_readLine_29 (by decide) ?_
    exact WA.sub (lsub_c rfl (lsub_c rfl lsub_n)) (r_X10_readLine_62_J30 C h)
  · replace h := (if_neg c3).symm.trans h
    refine wa_iconst (v := 1) C dX10_readLine_25 (by decide) ?_
    refine wa_goto (tgt := 30) C dX10_readLine_26 (by decide) ?_
    exact WA.sub (lsub_c rfl (lsub_c rfl lsub_n)) (r_X10_readLine_62_J30 C h)
set_option maxRecDepth 100000 in
set_option maxHeartbeats 4000000 in
theorem r_X10_readLine_62 {μ : Mem} {ρ : Mem} (h : f_X10_readLine_62 μ = some ρ) : HT 5 yX10_readLine cX10_readLine 2 none [.ref 62] μ none ρ := by
  refine HT.of (by decide +kernel) (Nat.le_of_ble_eq_true rfl) (fun C => ?_)
  unfold f_X10_readLine_62 at h
  refine wa_aload_n C dX10_readLine_0 rfl ?_
  refine wa_geti (x := (μ.1 62 22)) C fl_RX10_140 rfl rfl (by decide) rfl dX10_readLine_1 ?_
  refine wa_iconst (v := 1) C dX10_readLine_4 (by decide) ?_
  refine wa_icmp_ne (tgt := 15) C dX10_readLine_5 (by decide) (fun c1 => ?_) (fun c1 => ?_)
  · replace h := (if_neg c1).symm.trans h
    refine wa_bipush (v := -4) C dX10_readLine_15 (by decide) ?_
    exact WA.sub (lsub_c rfl lsub_n) (r_X10_readLine_62_J17 C h)
  · replace h := (if_pos c1).symm.trans h
    refine wa_aload_n C dX10_readLine_8 rfl ?_
    obtain ⟨q2, hq2, h⟩ := bd h
    refine wa_callV C (r_X10_lineNow_62 hq2) mk_X10_lineNow mv_X10_lineNow qw_414 rfl (by decide) rfl rfl ⟨Nat.le_of_ble_eq_true rfl, Nat.le_of_ble_eq_true rfl⟩ ⟨Nat.zero_le _, Nat.zero_le _⟩ (Nat.le_of_ble_eq_true rfl) dX10_readLine_9 rfl ?_
    refine wa_goto (tgt := 17) C dX10_readLine_12 (by decide) ?_
    exact WA.sub (lsub_c rfl lsub_n) (r_X10_readLine_62_J17 C h)
def f_X10_text_62_J94 (a1 : Int32) (μ : Mem) : Option (Int32 × Mem) :=
  if (μ.1 62 24) ≤ 0 then
    (f_X10_keepDraft_62 (pI μ 62 19 (0 : Int32))).bind fun q11 =>
    some (a1, q11)
  else
    some (((-10 : Int32) - (μ.1 62 25)), (pI μ 62 19 (0 : Int32)))
def f_X10_text_62_J79 (a1 : Int32) (t1 : Int32) (μ : Mem) : Option (Int32 × Mem) :=
  (f_X10_needs_62 t1 (6 : Int32) μ).bind fun q7 =>
  (f_X10_areWatches_62 q7).bind fun q8 =>
  (f_X10_needs_62 q8.1 (7 : Int32) q8.2).bind fun q9 =>
  f_X10_text_62_J94 a1 q9
def f_X10_text_62_J78 (a1 : Int32) (μ : Mem) : Option (Int32 × Mem) :=
  f_X10_text_62_J79 a1 (0 : Int32) μ
def f_X10_text_62_J44 (a1 : Int32) (μ : Mem) : Option (Int32 × Mem) :=
  if (μ.1 62 24) = 0 then
    if (μ.1 62 8) ≤ (μ.1 62 16) then
      f_X10_text_62_J78 a1 μ
    else
      if (μ.1 62 9) ≤ (μ.1 62 17) then
        f_X10_text_62_J78 a1 μ
      else
        f_X10_text_62_J79 a1 (1 : Int32) μ
  else
    f_X10_text_62_J94 a1 μ
def f_X10_text_62_L20 (k20 : Int32 → Mem → Option (Int32 × Mem)) (a1 : Int32) (μ : Mem) : Option (Int32 × Mem) :=
    if (μ.1 62 24) = 0 then
      if (μ.1 62 22) = 0 then
        f_X10_text_62_J44 a1 μ
      else
        (f_X10_readLine_62 μ).bind fun q13 =>
        k20 (a1 + 1) q13
    else
      f_X10_text_62_J44 a1 μ
def f_X10_text_62 (μ : Mem) : Option (Int32 × Mem) :=
  (f_X10_firstDraft_62 (pI (pI μ 62 24 (0 : Int32)) 62 20 (0 : Int32))).bind fun q1 =>
  (f_X10_next_62 q1).bind fun q2 =>
  it2 (f_X10_text_62_L20) FU (0 : Int32) q2
set_option maxRecDepth 100000 in
set_option maxHeartbeats 4000000 in
theorem r_X10_text_62_J94 {p : Program} {l : Launch} {e : Env} {s : State} {m : MethodId} {args : Array Value} {below : List Frame} {meth : Method} {c : Code} {D : va_G} {cy : Nat → ClassId} {ad : Nat → Nat} (C : CX p s m args meth c cX10_text 2 RX10 (some .int) D cy ad (AD ad)) {a1 : Int32} {μ : Mem} {ρ : (Int32 × Mem)} (h : f_X10_text_62_J94 a1 μ = some ρ) : WA p l e (rmD 6) s m args below meth c 2 D cy ad (AD ad) 0 0 (ZZ below args s D cy ad (AD ad) 0 0 (some (.int ρ.1)) ρ.2) μ [(0, .ref 62), (1, .int a1)] 94 [] := by
  unfold f_X10_text_62_J94 at h
  refine wa_aload_n C dX10_text_94 rfl ?_
  refine wa_iconst (v := 0) C dX10_text_95 (by decide) ?_
  refine wa_puti C fl_RX10_107 fp_10_19 rfl rfl (by decide) rfl rfl dX10_text_96 ?_
  refine wa_aload_n C dX10_text_99 rfl ?_
  refine wa_geti (x := (μ.1 62 24)) C fl_RX10_116 rfl rfl (by decide) rfl dX10_text_100 ?_
  refine wa_if_le (tgt := 114) C dX10_text_103 (by decide) (fun c10 => ?_) (fun c10 => ?_)
  · replace h := (if_pos c10).symm.trans h
    refine wa_aload_n C dX10_text_114 rfl ?_
    obtain ⟨q11, hq11, h⟩ := bd h
    refine wa_callV C (r_X10_keepDraft_62 hq11) mk_X10_keepDraft mv_X10_keepDraft qw_165 rfl (by decide) rfl rfl ⟨Nat.le_of_ble_eq_true rfl, Nat.le_of_ble_eq_true rfl⟩ ⟨Nat.zero_le _, Nat.zero_le _⟩ (Nat.le_of_ble_eq_true rfl) dX10_text_115 rfl ?_
    refine wa_iload_n C dX10_text_118 rfl ?_
    obtain rfl := Option.some.inj h
    exact wa_iret C dX10_text_119
  · replace h := (if_neg c10).symm.trans h
    refine wa_bipush (v := -10) C dX10_text_106 (by decide) ?_
    refine wa_aload_n C dX10_text_108 rfl ?_
    refine wa_geti (x := (μ.1 62 25)) C fl_RX10_122 rfl rfl (by decide) rfl dX10_text_109 ?_
    refine wa_isub C dX10_text_112 ?_
    obtain rfl := Option.some.inj h
    exact wa_iret C dX10_text_113
set_option maxRecDepth 100000 in
set_option maxHeartbeats 4000000 in
theorem r_X10_text_62_J79 {p : Program} {l : Launch} {e : Env} {s : State} {m : MethodId} {args : Array Value} {below : List Frame} {meth : Method} {c : Code} {D : va_G} {cy : Nat → ClassId} {ad : Nat → Nat} (C : CX p s m args meth c cX10_text 2 RX10 (some .int) D cy ad (AD ad)) {a1 : Int32} {t1 : Int32} {μ : Mem} {ρ : (Int32 × Mem)} (h : f_X10_text_62_J79 a1 t1 μ = some ρ) : WA p l e (rmD 6) s m args below meth c 2 D cy ad (AD ad) 0 0 (ZZ below args s D cy ad (AD ad) 0 0 (some (.int ρ.1)) ρ.2) μ [(0, .ref 62), (1, .int a1)] 79 [.int t1, .ref 62] := by
  unfold f_X10_text_62_J79 at h
  refine wa_bipush (v := 6) C dX10_text_79 (by decide) ?_
  obtain ⟨q7, hq7, h⟩ := bd h
  refine wa_callV C (r_X10_needs_62 hq7) mk_X10_needs mv_X10_needs qw_406 rfl (by decide) rfl rfl ⟨Nat.le_of_ble_eq_true rfl, Nat.le_of_ble_eq_true rfl⟩ ⟨Nat.zero_le _, Nat.zero_le _⟩ (Nat.le_of_ble_eq_true rfl) dX10_text_81 rfl ?_
  refine wa_aload_n C dX10_text_84 rfl ?_
  refine wa_aload_n C dX10_text_85 rfl ?_
  obtain ⟨q8, hq8, h⟩ := bd h
  refine wa_callV C (r_X10_areWatches_62 hq8) mk_X10_areWatches mv_X10_areWatches qw_454 rfl (by decide) rfl rfl ⟨Nat.le_of_ble_eq_true rfl, Nat.le_of_ble_eq_true rfl⟩ ⟨Nat.zero_le _, Nat.zero_le _⟩ (Nat.le_of_ble_eq_true rfl) dX10_text_86 rfl ?_
  refine wa_bipush (v := 7) C dX10_text_89 (by decide) ?_
  obtain ⟨q9, hq9, h⟩ := bd h
  refine wa_callV C (r_X10_needs_62 hq9) mk_X10_needs mv_X10_needs qw_406 rfl (by decide) rfl rfl ⟨Nat.le_of_ble_eq_true rfl, Nat.le_of_ble_eq_true rfl⟩ ⟨Nat.zero_le _, Nat.zero_le _⟩ (Nat.le_of_ble_eq_true rfl) dX10_text_91 rfl ?_
  exact WA.sub (lsub_c rfl (lsub_c rfl lsub_n)) (r_X10_text_62_J94 C h)
set_option maxRecDepth 100000 in
set_option maxHeartbeats 4000000 in
theorem r_X10_text_62_J78 {p : Program} {l : Launch} {e : Env} {s : State} {m : MethodId} {args : Array Value} {below : List Frame} {meth : Method} {c : Code} {D : va_G} {cy : Nat → ClassId} {ad : Nat → Nat} (C : CX p s m args meth c cX10_text 2 RX10 (some .int) D cy ad (AD ad)) {a1 : Int32} {μ : Mem} {ρ : (Int32 × Mem)} (h : f_X10_text_62_J78 a1 μ = some ρ) : WA p l e (rmD 6) s m args below meth c 2 D cy ad (AD ad) 0 0 (ZZ below args s D cy ad (AD ad) 0 0 (some (.int ρ.1)) ρ.2) μ [(0, .ref 62), (1, .int a1)] 78 [.ref 62] := by
  unfold f_X10_text_62_J78 at h
  refine wa_iconst (v := 0) C dX10_text_78 (by decide) ?_
  exact WA.sub (lsub_c rfl (lsub_c rfl lsub_n)) (r_X10_text_62_J79 C h)
set_option maxRecDepth 100000 in
set_option maxHeartbeats 4000000 in
theorem r_X10_text_62_J44 {p : Program} {l : Launch} {e : Env} {s : State} {m : MethodId} {args : Array Value} {below : List Frame} {meth : Method} {c : Code} {D : va_G} {cy : Nat → ClassId} {ad : Nat → Nat} (C : CX p s m args meth c cX10_text 2 RX10 (some .int) D cy ad (AD ad)) {a1 : Int32} {μ : Mem} {ρ : (Int32 × Mem)} (h : f_X10_text_62_J44 a1 μ = some ρ) : WA p l e (rmD 6) s m args below meth c 2 D cy ad (AD ad) 0 0 (ZZ below args s D cy ad (AD ad) 0 0 (some (.int ρ.1)) ρ.2) μ [(0, .ref 62), (1, .int a1)] 44 [] := by
  unfold f_X10_text_62_J44 at h
  refine wa_aload_n C dX10_text_44 rfl ?_
  refine wa_geti (x := (μ.1 62 24)) C fl_RX10_116 rfl rfl (by decide) rfl dX10_text_45 ?_
  refine wa_if_ne (tgt := 94) C dX10_text_48 (by decide) (fun c5 => ?_) (fun c5 => ?_)
  · replace h := (if_neg c5).symm.trans h
    exact WA.sub (lsub_c rfl (lsub_c rfl lsub_n)) (r_X10_text_62_J94 C h)
  · replace h := (if_pos c5).symm.trans h
    refine wa_aload_n C dX10_text_51 rfl ?_
    refine wa_aload_n C dX10_text_52 rfl ?_
    refine wa_geti (x := (μ.1 62 16)) C fl_RX10_88 rfl rfl (by decide) rfl dX10_text_53 ?_
    refine wa_aload_n C dX10_text_56 rfl ?_
    refine wa_geti (x := (μ.1 62 8)) C fl_RX10_68 rfl rfl (by decide) rfl dX10_text_57 ?_
    refine wa_icmp_ge (tgt := 78) C dX10_text_60 (by decide) (fun c6 => ?_) (fun c6 => ?_)
    · replace h := (if_pos c6).symm.trans h
      exact WA.sub (lsub_c rfl (lsub_c rfl lsub_n)) (r_X10_text_62_J78 C h)
    · replace h := (if_neg c6).symm.trans h
      refine wa_aload_n C dX10_text_63 rfl ?_
      refine wa_geti (x := (μ.1 62 17)) C fl_RX10_91 rfl rfl (by decide) rfl dX10_text_64 ?_
      refine wa_aload_n C dX10_text_67 rfl ?_
      refine wa_geti (x := (μ.1 62 9)) C fl_RX10_72 rfl rfl (by decide) rfl dX10_text_68 ?_
      refine wa_icmp_ge (tgt := 78) C dX10_text_71 (by decide) (fun c12 => ?_) (fun c12 => ?_)
      · replace h := (if_pos c12).symm.trans h
        exact WA.sub (lsub_c rfl (lsub_c rfl lsub_n)) (r_X10_text_62_J78 C h)
      · replace h := (if_neg c12).symm.trans h
        refine wa_iconst (v := 1) C dX10_text_74 (by decide) ?_
        refine wa_goto (tgt := 79) C dX10_text_75 (by decide) ?_
        exact WA.sub (lsub_c rfl (lsub_c rfl lsub_n)) (r_X10_text_62_J79 C h)
set_option maxRecDepth 100000 in
set_option maxHeartbeats 4000000 in
theorem r_X10_text_62_L20 {p : Program} {l : Launch} {e : Env} {s : State} {m : MethodId} {args : Array Value} {below : List Frame} {meth : Method} {c : Code} {D : va_G} {cy : Nat → ClassId} {ad : Nat → Nat} (C : CX p s m args meth c cX10_text 2 RX10 (some .int) D cy ad (AD ad)) {ρ : (Int32 × Mem)} : ∀ (n : Nat) (a1 : Int32) (μ : Mem), it2 (f_X10_text_62_L20) n a1 μ = some ρ → WA p l e (rmD 6) s m args below meth c 2 D cy ad (AD ad) 0 0 (ZZ below args s D cy ad (AD ad) 0 0 (some (.int ρ.1)) ρ.2) μ [(0, .ref 62), (1, .int a1)] 20 [] := by
  intro n
  induction n with
  | zero =>
    intro a1 μ h
    exact absurd h (fun h => by cases h)
  | succ n ih =>
    intro a1 μ h
    replace h : f_X10_text_62_L20 (it2 (f_X10_text_62_L20) n) a1 μ = some ρ := h
    unfold f_X10_text_62_L20 at h
    refine wa_aload_n C dX10_text_20 rfl ?_
    refine wa_geti (x := (μ.1 62 24)) C fl_RX10_116 rfl rfl (by decide) rfl dX10_text_21 ?_
    refine wa_if_ne (tgt := 44) C dX10_text_24 (by decide) (fun c3 => ?_) (fun c3 => ?_)
    · replace h := (if_neg c3).symm.trans h
      exact WA.sub (lsub_c rfl (lsub_c rfl lsub_n)) (r_X10_text_62_J44 C h)
    · replace h := (if_pos c3).symm.trans h
      refine wa_aload_n C dX10_text_27 rfl ?_
      refine wa_geti (x := (μ.1 62 22)) C fl_RX10_140 rfl rfl (by decide) rfl dX10_text_28 ?_
      refine wa_if_eq (tgt := 44) C dX10_text_31 (by decide) (fun c4 => ?_) (fun c4 => ?_)
      · replace h := (if_pos c4).symm.trans h
        exact WA.sub (lsub_c rfl (lsub_c rfl lsub_n)) (r_X10_text_62_J44 C h)
      · replace h := (if_neg c4).symm.trans h
        refine wa_aload_n C dX10_text_34 rfl ?_
        obtain ⟨q13, hq13, h⟩ := bd h
        refine wa_callV C (r_X10_readLine_62 hq13) mk_X10_readLine mv_X10_readLine qw_410 rfl (by decide) rfl rfl ⟨Nat.le_of_ble_eq_true rfl, Nat.le_of_ble_eq_true rfl⟩ ⟨Nat.zero_le _, Nat.zero_le _⟩ (Nat.le_of_ble_eq_true rfl) dX10_text_35 rfl ?_
        refine wa_iinc (v := (a1 + 1)) C dX10_text_38 rfl rfl (by decide) ?_
        refine wa_goto (tgt := 20) C dX10_text_41 (by decide) ?_
        exact WA.sub (lsub_c rfl (lsub_c rfl lsub_n)) (ih _ _ h)
set_option maxRecDepth 100000 in
set_option maxHeartbeats 4000000 in
theorem r_X10_text_62 {μ : Mem} {ρ : (Int32 × Mem)} (h : f_X10_text_62 μ = some ρ) : HT 6 yX10_text cX10_text 2 (some .int) [.ref 62] μ (some (.int ρ.1)) ρ.2 := by
  refine HT.of (by decide +kernel) (Nat.le_of_ble_eq_true rfl) (fun C => ?_)
  unfold f_X10_text_62 at h
  refine wa_iconst (v := 0) C dX10_text_0 (by decide) ?_
  refine wa_istore_n C dX10_text_1 (by decide) ?_
  refine wa_aload_n C dX10_text_2 rfl ?_
  refine wa_iconst (v := 0) C dX10_text_3 (by decide) ?_
  refine wa_puti C fl_RX10_116 fp_10_24 rfl rfl (by decide) rfl rfl dX10_text_4 ?_
  refine wa_aload_n C dX10_text_7 rfl ?_
  refine wa_iconst (v := 0) C dX10_text_8 (by decide) ?_
  refine wa_puti C fl_RX10_125 fp_10_20 rfl rfl (by decide) rfl rfl dX10_text_9 ?_
  refine wa_aload_n C dX10_text_12 rfl ?_
  obtain ⟨q1, hq1, h⟩ := bd h
  refine wa_callV C (r_X10_firstDraft_62 hq1) mk_X10_firstDraft mv_X10_firstDraft qw_153 rfl (by decide) rfl rfl ⟨Nat.le_of_ble_eq_true rfl, Nat.le_of_ble_eq_true rfl⟩ ⟨Nat.zero_le _, Nat.zero_le _⟩ (Nat.le_of_ble_eq_true rfl) dX10_text_13 rfl ?_
  refine wa_aload_n C dX10_text_16 rfl ?_
  obtain ⟨q2, hq2, h⟩ := bd h
  refine wa_callV C (r_X10_next_62 hq2) mk_X10_next mv_X10_next qw_392 rfl (by decide) rfl rfl ⟨Nat.le_of_ble_eq_true rfl, Nat.le_of_ble_eq_true rfl⟩ ⟨Nat.zero_le _, Nat.zero_le _⟩ (Nat.le_of_ble_eq_true rfl) dX10_text_17 rfl ?_
  exact WA.sub (lsub_c rfl (lsub_c rfl lsub_n)) (r_X10_text_62_L20 C  _ _ _ h)
def f_X9_fault_0 (μ : Mem) : Option (Int32 × Mem) :=
  some ((μ.1 35 2), μ)
set_option maxRecDepth 100000 in
set_option maxHeartbeats 4000000 in
theorem r_X9_fault_0 {μ : Mem} {ρ : (Int32 × Mem)} (h : f_X9_fault_0 μ = some ρ) : HT 0 yX9_fault cX9_fault 1 (some .int) [.ref 0] μ (some (.int ρ.1)) ρ.2 := by
  refine HT.of (by decide +kernel) (Nat.le_of_ble_eq_true rfl) (fun C => ?_)
  unfold f_X9_fault_0 at h
  refine wa_aload_n C dX9_fault_0 rfl ?_
  refine wa_getr C fl_RX9_37 rfl rfl (by decide) dX9_fault_1 ?_
  refine wa_geti (x := (μ.1 35 2)) C fl_RX9_110 rfl rfl (by decide) rfl dX9_fault_4 ?_
  obtain rfl := Option.some.inj h
  exact wa_iret C dX9_fault_7
def f_X10_fault_62 (μ : Mem) : Option (Int32 × Mem) :=
  some ((μ.1 62 24), μ)
set_option maxRecDepth 100000 in
set_option maxHeartbeats 4000000 in
theorem r_X10_fault_62 {μ : Mem} {ρ : (Int32 × Mem)} (h : f_X10_fault_62 μ = some ρ) : HT 0 yX10_fault cX10_fault 1 (some .int) [.ref 62] μ (some (.int ρ.1)) ρ.2 := by
  refine HT.of (by decide +kernel) (Nat.le_of_ble_eq_true rfl) (fun C => ?_)
  unfold f_X10_fault_62 at h
  refine wa_aload_n C dX10_fault_0 rfl ?_
  refine wa_geti (x := (μ.1 62 24)) C fl_RX10_116 rfl rfl (by decide) rfl dX10_fault_1 ?_
  obtain rfl := Option.some.inj h
  exact wa_iret C dX10_fault_4
def f_X9_rule_0 (a1 : Int32) (μ : Mem) : Option (Int32 × Mem) :=
  if a1 = 0 then
    some ((μ.1 1 0), μ)
  else
    if a1 = (1 : Int32) then
      some ((μ.1 1 1), μ)
    else
      some ((-1 : Int32), μ)
set_option maxRecDepth 100000 in
set_option maxHeartbeats 4000000 in
theorem r_X9_rule_0 {a1 : Int32} {μ : Mem} {ρ : (Int32 × Mem)} (h : f_X9_rule_0 a1 μ = some ρ) : HT 0 yX9_rule cX9_rule 2 (some .int) [.ref 0, .int a1] μ (some (.int ρ.1)) ρ.2 := by
  refine HT.of (by decide +kernel) (Nat.le_of_ble_eq_true rfl) (fun C => ?_)
  unfold f_X9_rule_0 at h
  refine wa_iload_n C dX9_rule_0 rfl ?_
  refine wa_if_ne (tgt := 12) C dX9_rule_1 (by decide) (fun c1 => ?_) (fun c1 => ?_)
  · replace h := (if_neg c1).symm.trans h
    refine wa_iload_n C dX9_rule_12 rfl ?_
    refine wa_iconst (v := 1) C dX9_rule_13 (by decide) ?_
    refine wa_icmp_ne (tgt := 27) C dX9_rule_14 (by decide) (fun c2 => ?_) (fun c2 => ?_)
    · replace h := (if_neg c2).symm.trans h
      refine wa_iconst (v := -1) C dX9_rule_27 (by decide) ?_
      obtain rfl := Option.some.inj h
      exact wa_iret C dX9_rule_28
    · replace h := (if_pos c2).symm.trans h
      refine wa_aload_n C dX9_rule_17 rfl ?_
      refine wa_getr C fl_RX9_10 rfl rfl (by decide) dX9_rule_18 ?_
      refine wa_geti (x := (μ.1 1 1)) C fl_RX9_116 rfl rfl (by decide) rfl dX9_rule_21 ?_
      refine wa_goto (tgt := 28) C dX9_rule_24 (by decide) ?_
      obtain rfl := Option.some.inj h
      exact wa_iret C dX9_rule_28
  · replace h := (if_pos c1).symm.trans h
    refine wa_aload_n C dX9_rule_4 rfl ?_
    refine wa_getr C fl_RX9_10 rfl rfl (by decide) dX9_rule_5 ?_
    refine wa_geti (x := (μ.1 1 0)) C fl_RX9_113 rfl rfl (by decide) rfl dX9_rule_8 ?_
    obtain rfl := Option.some.inj h
    exact wa_iret C dX9_rule_11
def f_X10_rule_62 (a1 : Int32) (μ : Mem) : Option (Int32 × Mem) :=
  if a1 = 0 then
    some ((μ.1 62 2), μ)
  else
    if a1 = (1 : Int32) then
      some ((μ.1 62 3), μ)
    else
      some ((-1 : Int32), μ)
set_option maxRecDepth 100000 in
set_option maxHeartbeats 4000000 in
theorem r_X10_rule_62 {a1 : Int32} {μ : Mem} {ρ : (Int32 × Mem)} (h : f_X10_rule_62 a1 μ = some ρ) : HT 0 yX10_rule cX10_rule 2 (some .int) [.ref 62, .int a1] μ (some (.int ρ.1)) ρ.2 := by
  refine HT.of (by decide +kernel) (Nat.le_of_ble_eq_true rfl) (fun C => ?_)
  unfold f_X10_rule_62 at h
  refine wa_iload_n C dX10_rule_0 rfl ?_
  refine wa_if_ne (tgt := 11) C dX10_rule_1 (by decide) (fun c1 => ?_) (fun c1 => ?_)
  · replace h := (if_neg c1).symm.trans h
    refine wa_iload_n C dX10_rule_11 rfl ?_
    refine wa_iconst (v := 1) C dX10_rule_12 (by decide) ?_
    refine wa_icmp_ne (tgt := 23) C dX10_rule_13 (by decide) (fun c2 => ?_) (fun c2 => ?_)
    · replace h := (if_neg c2).symm.trans h
      refine wa_iconst (v := -1) C dX10_rule_23 (by decide) ?_
      obtain rfl := Option.some.inj h
      exact wa_iret C dX10_rule_24
    · replace h := (if_pos c2).symm.trans h
      refine wa_aload_n C dX10_rule_16 rfl ?_
      refine wa_geti (x := (μ.1 62 3)) C fl_RX10_97 rfl rfl (by decide) rfl dX10_rule_17 ?_
      refine wa_goto (tgt := 24) C dX10_rule_20 (by decide) ?_
      obtain rfl := Option.some.inj h
      exact wa_iret C dX10_rule_24
  · replace h := (if_pos c1).symm.trans h
    refine wa_aload_n C dX10_rule_4 rfl ?_
    refine wa_geti (x := (μ.1 62 2)) C fl_RX10_94 rfl rfl (by decide) rfl dX10_rule_5 ?_
    refine wa_goto (tgt := 24) C dX10_rule_8 (by decide) ?_
    obtain rfl := Option.some.inj h
    exact wa_iret C dX10_rule_24
def f_X1_hasSister_1 (a1 : Int32) (μ : Mem) : Option (Int32 × Mem) :=
  if a1 < 0 then
    some ((0 : Int32), μ)
  else
    if (μ.1 1 0) ≤ a1 then
      some ((0 : Int32), μ)
    else
      some ((1 : Int32), μ)
set_option maxRecDepth 100000 in
set_option maxHeartbeats 4000000 in
theorem r_X1_hasSister_1 {a1 : Int32} {μ : Mem} {ρ : (Int32 × Mem)} (h : f_X1_hasSister_1 a1 μ = some ρ) : HT 0 yX1_hasSister cX1_hasSister 2 (some .boolean) [.ref 1, .int a1] μ (some (.int ρ.1)) ρ.2 := by
  refine HT.of (by decide +kernel) (Nat.le_of_ble_eq_true rfl) (fun C => ?_)
  unfold f_X1_hasSister_1 at h
  refine wa_iload_n C dX1_hasSister_0 rfl ?_
  refine wa_if_lt (tgt := 16) C dX1_hasSister_1 (by decide) (fun c1 => ?_) (fun c1 => ?_)
  · replace h := (if_pos c1).symm.trans h
    refine wa_iconst (v := 0) C dX1_hasSister_16 (by decide) ?_
    obtain rfl := Option.some.inj h
    exact wa_zret C rfl dX1_hasSister_17
  · replace h := (if_neg c1).symm.trans h
    refine wa_iload_n C dX1_hasSister_4 rfl ?_
    refine wa_aload_n C dX1_hasSister_5 rfl ?_
    refine wa_geti (x := (μ.1 1 0)) C fl_RX1_9 rfl rfl (by decide) rfl dX1_hasSister_6 ?_
    refine wa_icmp_ge (tgt := 16) C dX1_hasSister_9 (by decide) (fun c2 => ?_) (fun c2 => ?_)
    · replace h := (if_pos c2).symm.trans h
      refine wa_iconst (v := 0) C dX1_hasSister_16 (by decide) ?_
      obtain rfl := Option.some.inj h
      exact wa_zret C rfl dX1_hasSister_17
    · replace h := (if_neg c2).symm.trans h
      refine wa_iconst (v := 1) C dX1_hasSister_12 (by decide) ?_
      refine wa_goto (tgt := 17) C dX1_hasSister_13 (by decide) ?_
      obtain rfl := Option.some.inj h
      exact wa_zret C rfl dX1_hasSister_17
def f_X9_isEither_J9 (μ : Mem) : Option (Int32 × Mem) :=
  some ((1 : Int32), μ)
def f_X9_isEither (a0 : Int32) (μ : Mem) : Option (Int32 × Mem) :=
  if a0 = 0 then
    f_X9_isEither_J9 μ
  else
    if a0 = (1 : Int32) then
      f_X9_isEither_J9 μ
    else
      some ((0 : Int32), μ)
set_option maxRecDepth 100000 in
set_option maxHeartbeats 4000000 in
theorem r_X9_isEither_J9 {p : Program} {l : Launch} {e : Env} {s : State} {m : MethodId} {args : Array Value} {below : List Frame} {meth : Method} {c : Code} {D : va_G} {cy : Nat → ClassId} {ad : Nat → Nat} (C : CX p s m args meth c cX9_isEither 1 RX9 (some .boolean) D cy ad (AD ad)) {μ : Mem} {ρ : (Int32 × Mem)} (h : f_X9_isEither_J9 μ = some ρ) : WA p l e (rmD 0) s m args below meth c 1 D cy ad (AD ad) 0 0 (ZZ below args s D cy ad (AD ad) 0 0 (some (.int ρ.1)) ρ.2) μ [] 9 [] := by
  unfold f_X9_isEither_J9 at h
  refine wa_iconst (v := 1) C dX9_isEither_9 (by decide) ?_
  refine wa_goto (tgt := 14) C dX9_isEither_10 (by decide) ?_
  obtain rfl := Option.some.inj h
  exact wa_zret C rfl dX9_isEither_14
set_option maxRecDepth 100000 in
set_option maxHeartbeats 4000000 in
theorem r_X9_isEither {a0 : Int32} {μ : Mem} {ρ : (Int32 × Mem)} (h : f_X9_isEither a0 μ = some ρ) : HT 0 yX9_isEither cX9_isEither 1 (some .boolean) [.int a0] μ (some (.int ρ.1)) ρ.2 := by
  refine HT.of (by decide +kernel) (Nat.le_of_ble_eq_true rfl) (fun C => ?_)
  unfold f_X9_isEither at h
  refine wa_iload_n C dX9_isEither_0 rfl ?_
  refine wa_if_eq (tgt := 9) C dX9_isEither_1 (by decide) (fun c1 => ?_) (fun c1 => ?_)
  · replace h := (if_pos c1).symm.trans h
    exact WA.sub lsub_n (r_X9_isEither_J9 C h)
  · replace h := (if_neg c1).symm.trans h
    refine wa_iload_n C dX9_isEither_4 rfl ?_
    refine wa_iconst (v := 1) C dX9_isEither_5 (by decide) ?_
    refine wa_icmp_ne (tgt := 13) C dX9_isEither_6 (by decide) (fun c2 => ?_) (fun c2 => ?_)
    · replace h := (if_neg c2).symm.trans h
      refine wa_iconst (v := 0) C dX9_isEither_13 (by decide) ?_
      obtain rfl := Option.some.inj h
      exact wa_zret C rfl dX9_isEither_14
    · replace h := (if_pos c2).symm.trans h
      exact WA.sub lsub_n (r_X9_isEither_J9 C h)
def f_X9_sister_0 (a1 : Int32) (a2 : Int32) (μ : Mem) : Option (Int32 × Mem) :=
  (f_X1_hasSister_1 a1 μ).bind fun q1 =>
  if q1.1 = 0 then
    some ((-1 : Int32), q1.2)
  else
    (f_X9_isEither a2 q1.2).bind fun q3 =>
    if q3.1 = 0 then
      some ((-1 : Int32), q3.2)
    else
      if a2 = 0 then
        if inb a1 3 = false then none else
        some ((q3.2.1 2 (a1.toNatClampNeg)), q3.2)
      else
        if inb a1 3 = false then none else
        some ((q3.2.1 5 (a1.toNatClampNeg)), q3.2)
set_option maxRecDepth 100000 in
set_option maxHeartbeats 4000000 in
theorem r_X9_sister_0 {a1 : Int32} {a2 : Int32} {μ : Mem} {ρ : (Int32 × Mem)} (h : f_X9_sister_0 a1 a2 μ = some ρ) : HT 1 yX9_sister cX9_sister 3 (some .int) [.ref 0, .int a1, .int a2] μ (some (.int ρ.1)) ρ.2 := by
  refine HT.of (by decide +kernel) (Nat.le_of_ble_eq_true rfl) (fun C => ?_)
  unfold f_X9_sister_0 at h
  refine wa_aload_n C dX9_sister_0 rfl ?_
  refine wa_getr C fl_RX9_10 rfl rfl (by decide) dX9_sister_1 ?_
  refine wa_iload_n C dX9_sister_4 rfl ?_
  obtain ⟨q1, hq1, h⟩ := bd h
  refine wa_callV C (r_X1_hasSister_1 hq1) mk_X1_hasSister mv_X1_hasSister qw_483 rfl (by decide) rfl rfl ⟨Nat.le_of_ble_eq_true rfl, Nat.le_of_ble_eq_true rfl⟩ ⟨Nat.zero_le _, Nat.zero_le _⟩ (Nat.le_of_ble_eq_true rfl) dX9_sister_5 rfl ?_
  refine wa_if_eq (tgt := 18) C dX9_sister_8 (by decide) (fun c2 => ?_) (fun c2 => ?_)
  · replace h := (if_pos c2).symm.trans h
    refine wa_iconst (v := -1) C dX9_sister_18 (by decide) ?_
    obtain rfl := Option.some.inj h
    exact wa_iret C dX9_sister_19
  · replace h := (if_neg c2).symm.trans h
    refine wa_iload_n C dX9_sister_11 rfl ?_
    obtain ⟨q3, hq3, h⟩ := bd h
    refine wa_callS C (r_X9_isEither hq3) mk_X9_isEither ms_X9_isEither qw_487 rfl ⟨Nat.le_of_ble_eq_true rfl, Nat.le_of_ble_eq_true rfl⟩ ⟨Nat.zero_le _, Nat.zero_le _⟩ (Nat.le_of_ble_eq_true rfl) dX9_sister_12 rfl ?_
    refine wa_if_ne (tgt := 20) C dX9_sister_15 (by decide) (fun c4 => ?_) (fun c4 => ?_)
    · replace h := (if_neg c4).symm.trans h
      refine wa_iload_n C dX9_sister_20 rfl ?_
      refine wa_if_ne (tgt := 36) C dX9_sister_21 (by decide) (fun c5 => ?_) (fun c5 => ?_)
      · replace h := (if_neg c5).symm.trans h
        refine wa_aload_n C dX9_sister_36 rfl ?_
        refine wa_getr C fl_RX9_19 rfl rfl (by decide) dX9_sister_37 ?_
        refine wa_getr C fl_RX9_129 rfl rfl (by decide) dX9_sister_40 ?_
        refine wa_iload_n C dX9_sister_43 rfl ?_
        obtain ⟨g7, h⟩ := gd h
        refine wa_iald (j := (a1.toNatClampNeg)) (x := (q3.2.1 5 (a1.toNatClampNeg))) C rfl (by decide) g7 rfl rfl dX9_sister_44 ?_
        obtain rfl := Option.some.inj h
        exact wa_iret C dX9_sister_45
      · replace h := (if_pos c5).symm.trans h
        refine wa_aload_n C dX9_sister_24 rfl ?_
        refine wa_getr C fl_RX9_10 rfl rfl (by decide) dX9_sister_25 ?_
        refine wa_getr C fl_RX9_126 rfl rfl (by decide) dX9_sister_28 ?_
        refine wa_iload_n C dX9_sister_31 rfl ?_
        obtain ⟨g6, h⟩ := gd h
        refine wa_iald (j := (a1.toNatClampNeg)) (x := (q3.2.1 2 (a1.toNatClampNeg))) C rfl (by decide) g6 rfl rfl dX9_sister_32 ?_
        refine wa_goto (tgt := 45) C dX9_sister_33 (by decide) ?_
        obtain rfl := Option.some.inj h
        exact wa_iret C dX9_sister_45
    · replace h := (if_pos c4).symm.trans h
      refine wa_iconst (v := -1) C dX9_sister_18 (by decide) ?_
      obtain rfl := Option.some.inj h
      exact wa_iret C dX9_sister_19
def f_X10_isSister_62 (a1 : Int32) (μ : Mem) : Option (Int32 × Mem) :=
  (f_X10_in (a1.toInt64) (0 : Int64) (((μ.1 62 2) - (1 : Int32)).toInt64) μ).bind fun q1 =>
  if zb q1.1 = false then none else
  some (q1.1, q1.2)
set_option maxRecDepth 100000 in
set_option maxHeartbeats 4000000 in
theorem r_X10_isSister_62 {a1 : Int32} {μ : Mem} {ρ : (Int32 × Mem)} (h : f_X10_isSister_62 a1 μ = some ρ) : HT 1 yX10_isSister cX10_isSister 2 (some .boolean) [.ref 62, .int a1] μ (some (.int ρ.1)) ρ.2 := by
  refine HT.of (by decide +kernel) (Nat.le_of_ble_eq_true rfl) (fun C => ?_)
  unfold f_X10_isSister_62 at h
  refine wa_iload_n C dX10_isSister_0 rfl ?_
  refine wa_i2l (v := (a1.toInt64)) C dX10_isSister_1 rfl ?_
  refine wa_lconst (v := 0) C dX10_isSister_2 (by decide) ?_
  refine wa_aload_n C dX10_isSister_3 rfl ?_
  refine wa_geti (x := (μ.1 62 2)) C fl_RX10_94 rfl rfl (by decide) rfl dX10_isSister_4 ?_
  refine wa_iconst (v := 1) C dX10_isSister_7 (by decide) ?_
  refine wa_isub C dX10_isSister_8 ?_
  refine wa_i2l (v := (((μ.1 62 2) - (1 : Int32)).toInt64)) C dX10_isSister_9 rfl ?_
  obtain ⟨q1, hq1, h⟩ := bd h
  refine wa_callS C (r_X10_in hq1) mk_X10_in ms_X10_in qw_198 rfl ⟨Nat.le_of_ble_eq_true rfl, Nat.le_of_ble_eq_true rfl⟩ ⟨Nat.zero_le _, Nat.zero_le _⟩ (Nat.le_of_ble_eq_true rfl) dX10_isSister_10 rfl ?_
  obtain ⟨g2, h⟩ := gd h
  obtain rfl := Option.some.inj h
  exact wa_zret C g2 dX10_isSister_13
def f_X10_sister_62_J18 (μ : Mem) : Option (Int32 × Mem) :=
  some ((-1 : Int32), μ)
def f_X10_sister_62 (a1 : Int32) (a2 : Int32) (μ : Mem) : Option (Int32 × Mem) :=
  (f_X10_isSister_62 a1 μ).bind fun q1 =>
  if q1.1 = 0 then
    f_X10_sister_62_J18 q1.2
  else
    (f_X10_in (a2.toInt64) (0 : Int64) (1 : Int64) q1.2).bind fun q3 =>
    if q3.1 = 0 then
      f_X10_sister_62_J18 q3.2
    else
      if a2 = 0 then
        if inb a1 3 = false then none else
        some ((q3.2.1 65 (a1.toNatClampNeg)), q3.2)
      else
        if inb ((0 : Int32) + a1) 162 = false then none else
        some ((q3.2.1 63 (((0 : Int32) + a1).toNatClampNeg)), q3.2)
set_option maxRecDepth 100000 in
set_option maxHeartbeats 4000000 in
theorem r_X10_sister_62_J18 {p : Program} {l : Launch} {e : Env} {s : State} {m : MethodId} {args : Array Value} {below : List Frame} {meth : Method} {c : Code} {D : va_G} {cy : Nat → ClassId} {ad : Nat → Nat} (C : CX p s m args meth c cX10_sister 3 RX10 (some .int) D cy ad (AD ad)) {μ : Mem} {ρ : (Int32 × Mem)} (h : f_X10_sister_62_J18 μ = some ρ) : WA p l e (rmD 2) s m args below meth c 3 D cy ad (AD ad) 0 0 (ZZ below args s D cy ad (AD ad) 0 0 (some (.int ρ.1)) ρ.2) μ [] 18 [] := by
  unfold f_X10_sister_62_J18 at h
  refine wa_iconst (v := -1) C dX10_sister_18 (by decide) ?_
  refine wa_goto (tgt := 43) C dX10_sister_19 (by decide) ?_
  obtain rfl := Option.some.inj h
  exact wa_iret C dX10_sister_43
set_option maxRecDepth 100000 in
set_option maxHeartbeats 4000000 in
theorem r_X10_sister_62 {a1 : Int32} {a2 : Int32} {μ : Mem} {ρ : (Int32 × Mem)} (h : f_X10_sister_62 a1 a2 μ = some ρ) : HT 2 yX10_sister cX10_sister 3 (some .int) [.ref 62, .int a1, .int a2] μ (some (.int ρ.1)) ρ.2 := by
  refine HT.of (by decide +kernel) (Nat.le_of_ble_eq_true rfl) (fun C => ?_)
  unfold f_X10_sister_62 at h
  refine wa_aload_n C dX10_sister_0 rfl ?_
  refine wa_iload_n C dX10_sister_1 rfl ?_
  obtain ⟨q1, hq1, h⟩ := bd h
  refine wa_callV C (r_X10_isSister_62 hq1) mk_X10_isSister mv_X10_isSister qw_494 rfl (by decide) rfl rfl ⟨Nat.le_of_ble_eq_true rfl, Nat.le_of_ble_eq_true rfl⟩ ⟨Nat.zero_le _, Nat.zero_le _⟩ (Nat.le_of_ble_eq_true rfl) dX10_sister_2 rfl ?_
  refine wa_if_eq (tgt := 18) C dX10_sister_5 (by decide) (fun c2 => ?_) (fun c2 => ?_)
  · replace h := (if_pos c2).symm.trans h
    exact WA.sub lsub_n (r_X10_sister_62_J18 C h)
  · replace h := (if_neg c2).symm.trans h
    refine wa_iload_n C dX10_sister_8 rfl ?_
    refine wa_i2l (v := (a2.toInt64)) C dX10_sister_9 rfl ?_
    refine wa_lconst (v := 0) C dX10_sister_10 (by decide) ?_
    refine wa_lconst (v := 1) C dX10_sister_11 (by decide) ?_
    obtain ⟨q3, hq3, h⟩ := bd h
    refine wa_callS C (r_X10_in hq3) mk_X10_in ms_X10_in qw_198 rfl ⟨Nat.le_of_ble_eq_true rfl, Nat.le_of_ble_eq_true rfl⟩ ⟨Nat.zero_le _, Nat.zero_le _⟩ (Nat.le_of_ble_eq_true rfl) dX10_sister_12 rfl ?_
    refine wa_if_ne (tgt := 22) C dX10_sister_15 (by decide) (fun c4 => ?_) (fun c4 => ?_)
    · replace h := (if_neg c4).symm.trans h
      refine wa_iload_n C dX10_sister_22 rfl ?_
      refine wa_if_ne (tgt := 35) C dX10_sister_23 (by decide) (fun c5 => ?_) (fun c5 => ?_)
      · replace h := (if_neg c5).symm.trans h
        refine wa_aload_n C dX10_sister_35 rfl ?_
        refine wa_getr C fl_RX10_7 rfl rfl (by decide) dX10_sister_36 ?_
        refine wa_iconst (v := 0) C dX10_sister_39 (by decide) ?_
        refine wa_iload_n C dX10_sister_40 rfl ?_
        refine wa_iadd C dX10_sister_41 ?_
        obtain ⟨g7, h⟩ := gd h
        refine wa_iald (j := (((0 : Int32) + a1).toNatClampNeg)) (x := (q3.2.1 63 (((0 : Int32) + a1).toNatClampNeg))) C rfl (by decide) g7 rfl rfl dX10_sister_42 ?_
        obtain rfl := Option.some.inj h
        exact wa_iret C dX10_sister_43
      · replace h := (if_pos c5).symm.trans h
        refine wa_aload_n C dX10_sister_26 rfl ?_
        refine wa_getr C fl_RX10_17 rfl rfl (by decide) dX10_sister_27 ?_
        refine wa_iload_n C dX10_sister_30 rfl ?_
        obtain ⟨g6, h⟩ := gd h
        refine wa_iald (j := (a1.toNatClampNeg)) (x := (q3.2.1 65 (a1.toNatClampNeg))) C rfl (by decide) g6 rfl rfl dX10_sister_31 ?_
        refine wa_goto (tgt := 43) C dX10_sister_32 (by decide) ?_
        obtain rfl := Option.some.inj h
        exact wa_iret C dX10_sister_43
    · replace h := (if_pos c4).symm.trans h
      exact WA.sub lsub_n (r_X10_sister_62_J18 C h)
