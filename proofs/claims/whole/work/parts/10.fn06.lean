def f_X10_lacksThen_62_J50 (k11 : Int32 → Int32 → Int32 → Int32 → Option (Int32 × Mem)) (a2 : Int32) (a3 : Int32) (a4 : Int32) (a5 : Int32) (a6 : Int32) (t0 : Int32) (t1 : Int32) (μ : Mem) : Option (Int32 × Mem) :=
  if (μ.1 62 32) = 0 then none else
  k11 (a3 / (μ.1 62 32)) (a4 + (a5 * (t0 - t1))) (a5 * (μ.1 62 32)) (a6 + 1)
def f_X10_lacksThen_62_L11 (a2 : Int32) (μ : Mem) (k11 : Int32 → Int32 → Int32 → Int32 → Option (Int32 × Mem)) (a3 : Int32) (a4 : Int32) (a5 : Int32) (a6 : Int32) : Option (Int32 × Mem) :=
    if (μ.1 62 28) ≤ a6 then
      some (a4, μ)
    else
      if (μ.1 62 32) = 0 then none else
      if (a3 - a3 / (μ.1 62 32) * (μ.1 62 32)) ≤ 0 then
        f_X10_lacksThen_62_J50 k11 a2 a3 a4 a5 a6 (a3 - a3 / (μ.1 62 32) * (μ.1 62 32)) (0 : Int32) μ
      else
        if inb a6 6 = false then none else
        f_X10_lacksThen_62_J50 k11 a2 a3 a4 a5 a6 (a3 - a3 / (μ.1 62 32) * (μ.1 62 32)) ((a2 >>> ((μ.1 72 (a6.toNatClampNeg)) &&& 31)) &&& (1 : Int32)) μ
def f_X10_lacksThen_62 (a1 : Int32) (a2 : Int32) (μ : Mem) : Option (Int32 × Mem) :=
  it4 (f_X10_lacksThen_62_L11 a2 μ) FU a1 (0 : Int32) (1 : Int32) (0 : Int32)
set_option maxRecDepth 100000 in
set_option maxHeartbeats 4000000 in
theorem r_X10_lacksThen_62_J50 {p : Program} {l : Launch} {e : Env} {s : State} {m : MethodId} {args : Array Value} {below : List Frame} {meth : Method} {c : Code} {D : va_G} {cy : Nat → ClassId} {ad : Nat → Nat} (C : CX p s m args meth c cX10_lacksThen 8 RX10 (some .int) D cy ad (AD ad)) {a2 : Int32} {a3 : Int32} {a4 : Int32} {a5 : Int32} {a6 : Int32} {t0 : Int32} {t1 : Int32} {μ : Mem} {ρ : (Int32 × Mem)} (k11 : Int32 → Int32 → Int32 → Int32 → Option (Int32 × Mem)) (hk11 : ∀ (a3 : Int32) (a4 : Int32) (a5 : Int32) (a6 : Int32), k11 a3 a4 a5 a6 = some ρ → WA p l e (rmD 0) s m args below meth c 8 D cy ad (AD ad) 0 0 (ZZ below args s D cy ad (AD ad) 0 0 (some (.int ρ.1)) ρ.2) μ [(0, .ref 62), (2, .int a2), (3, .int a3), (4, .int a4), (5, .int a5), (6, .int a6)] 11 []) (h : f_X10_lacksThen_62_J50 k11 a2 a3 a4 a5 a6 t0 t1 μ = some ρ) : WA p l e (rmD 0) s m args below meth c 8 D cy ad (AD ad) 0 0 (ZZ below args s D cy ad (AD ad) 0 0 (some (.int ρ.1)) ρ.2) μ [(0, .ref 62), (2, .int a2), (3, .int a3), (4, .int a4), (5, .int a5), (6, .int a6)] 50 [.int t1, .int t0] := by
  unfold f_X10_lacksThen_62_J50 at h
  refine wa_isub C dX10_lacksThen_50 ?_
  refine wa_istore C dX10_lacksThen_51 (by decide) ?_
  refine wa_iload C dX10_lacksThen_53 rfl ?_
  refine wa_iload C dX10_lacksThen_55 rfl ?_
  refine wa_iload C dX10_lacksThen_57 rfl ?_
  refine wa_imul C dX10_lacksThen_59 ?_
  refine wa_iadd C dX10_lacksThen_60 ?_
  refine wa_istore C dX10_lacksThen_61 (by decide) ?_
  refine wa_iload C dX10_lacksThen_63 rfl ?_
  refine wa_aload_n C dX10_lacksThen_65 rfl ?_
  refine wa_geti (x := (μ.1 62 32)) C fl_RX10_276 rfl rfl (by decide) rfl dX10_lacksThen_66 ?_
  refine wa_imul C dX10_lacksThen_69 ?_
  refine wa_istore C dX10_lacksThen_70 (by decide) ?_
  refine wa_iload_n C dX10_lacksThen_72 rfl ?_
  refine wa_aload_n C dX10_lacksThen_73 rfl ?_
  refine wa_geti (x := (μ.1 62 32)) C fl_RX10_276 rfl rfl (by decide) rfl dX10_lacksThen_74 ?_
  obtain ⟨g4, h⟩ := gn h
  refine wa_idiv C dX10_lacksThen_77 g4 ?_
  refine wa_istore_n C dX10_lacksThen_78 (by decide) ?_
  refine wa_iinc (v := (a6 + 1)) C dX10_lacksThen_79 rfl rfl (by decide) ?_
  refine wa_goto (tgt := 11) C dX10_lacksThen_82 (by decide) ?_
  exact WA.sub (lsub_c rfl (lsub_c rfl (lsub_c rfl (lsub_c rfl (lsub_c rfl (lsub_c rfl lsub_n)))))) (hk11 _ _ _ _ h)
set_option maxRecDepth 100000 in
set_option maxHeartbeats 4000000 in
theorem r_X10_lacksThen_62_L11 {p : Program} {l : Launch} {e : Env} {s : State} {m : MethodId} {args : Array Value} {below : List Frame} {meth : Method} {c : Code} {D : va_G} {cy : Nat → ClassId} {ad : Nat → Nat} (C : CX p s m args meth c cX10_lacksThen 8 RX10 (some .int) D cy ad (AD ad)) (a2 : Int32) (μ : Mem) {ρ : (Int32 × Mem)} : ∀ (n : Nat) (a3 : Int32) (a4 : Int32) (a5 : Int32) (a6 : Int32), it4 (f_X10_lacksThen_62_L11 a2 μ) n a3 a4 a5 a6 = some ρ → WA p l e (rmD 0) s m args below meth c 8 D cy ad (AD ad) 0 0 (ZZ below args s D cy ad (AD ad) 0 0 (some (.int ρ.1)) ρ.2) μ [(0, .ref 62), (2, .int a2), (3, .int a3), (4, .int a4), (5, .int a5), (6, .int a6)] 11 [] := by
  intro n
  induction n with
  | zero =>
    intro a3 a4 a5 a6 h
    exact absurd h (fun h => by cases h)
  | succ n ih =>
    intro a3 a4 a5 a6 h
    replace h : f_X10_lacksThen_62_L11 a2 μ (it4 (f_X10_lacksThen_62_L11 a2 μ) n) a3 a4 a5 a6 = some ρ := h
    unfold f_X10_lacksThen_62_L11 at h
    refine wa_iload C dX10_lacksThen_11 rfl ?_
    refine wa_aload_n C dX10_lacksThen_13 rfl ?_
    refine wa_geti (x := (μ.1 62 28)) C fl_RX10_273 rfl rfl (by decide) rfl dX10_lacksThen_14 ?_
    refine wa_icmp_ge (tgt := 85) C dX10_lacksThen_17 (by decide) (fun c1 => ?_) (fun c1 => ?_)
    · replace h := (if_pos c1).symm.trans h
      refine wa_iload C dX10_lacksThen_85 rfl ?_
      obtain rfl := Option.some.inj h
      exact wa_iret C dX10_lacksThen_87
    · replace h := (if_neg c1).symm.trans h
      refine wa_iload_n C dX10_lacksThen_20 rfl ?_
      refine wa_aload_n C dX10_lacksThen_21 rfl ?_
      refine wa_geti (x := (μ.1 62 32)) C fl_RX10_276 rfl rfl (by decide) rfl dX10_lacksThen_22 ?_
      obtain ⟨g2, h⟩ := gn h
      refine wa_irem C dX10_lacksThen_25 g2 ?_
      refine wa_istore C dX10_lacksThen_26 (by decide) ?_
      refine wa_iload C dX10_lacksThen_28 rfl ?_
      refine wa_iload C dX10_lacksThen_30 rfl ?_
      refine wa_if_le (tgt := 49) C dX10_lacksThen_32 (by decide) (fun c3 => ?_) (fun c3 => ?_)
      · replace h := (if_pos c3).symm.trans h
        refine wa_iconst (v := 0) C dX10_lacksThen_49 (by decide) ?_
        exact WA.sub (lsub_c rfl (lsub_c rfl (lsub_c rfl (lsub_c rfl (lsub_c rfl (lsub_c rfl lsub_n)))))) (r_X10_lacksThen_62_J50 C _ (fun _ _ _ _ h => ih _ _ _ _ h) h)
      · replace h := (if_neg c3).symm.trans h
        refine wa_iload_n C dX10_lacksThen_35 rfl ?_
        refine wa_aload_n C dX10_lacksThen_36 rfl ?_
        refine wa_getr C fl_RX10_38 rfl rfl (by decide) dX10_lacksThen_37 ?_
        refine wa_iload C dX10_lacksThen_40 rfl ?_
        obtain ⟨g5, h⟩ := gd h
        refine wa_iald (j := (a6.toNatClampNeg)) (x := (μ.1 72 (a6.toNatClampNeg))) C rfl (by decide) g5 rfl rfl dX10_lacksThen_42 ?_
        refine wa_ishr C dX10_lacksThen_43 ?_
        refine wa_iconst (v := 1) C dX10_lacksThen_44 (by decide) ?_
        refine wa_iand C dX10_lacksThen_45 ?_
        refine wa_goto (tgt := 50) C dX10_lacksThen_46 (by decide) ?_
        exact WA.sub (lsub_c rfl (lsub_c rfl (lsub_c rfl (lsub_c rfl (lsub_c rfl (lsub_c rfl lsub_n)))))) (r_X10_lacksThen_62_J50 C _ (fun _ _ _ _ h => ih _ _ _ _ h) h)
set_option maxRecDepth 100000 in
set_option maxHeartbeats 4000000 in
theorem r_X10_lacksThen_62 {a1 : Int32} {a2 : Int32} {μ : Mem} {ρ : (Int32 × Mem)} (h : f_X10_lacksThen_62 a1 a2 μ = some ρ) : HT 0 yX10_lacksThen cX10_lacksThen 8 (some .int) [.ref 62, .int a1, .int a2] μ (some (.int ρ.1)) ρ.2 := by
  refine HT.of (by decide +kernel) (Nat.le_of_ble_eq_true rfl) (fun C => ?_)
  unfold f_X10_lacksThen_62 at h
  refine wa_iload_n C dX10_lacksThen_0 rfl ?_
  refine wa_istore_n C dX10_lacksThen_1 (by decide) ?_
  refine wa_iconst (v := 0) C dX10_lacksThen_2 (by decide) ?_
  refine wa_istore C dX10_lacksThen_3 (by decide) ?_
  refine wa_iconst (v := 1) C dX10_lacksThen_5 (by decide) ?_
  refine wa_istore C dX10_lacksThen_6 (by decide) ?_
  refine wa_iconst (v := 0) C dX10_lacksThen_8 (by decide) ?_
  refine wa_istore C dX10_lacksThen_9 (by decide) ?_
  exact WA.sub (lsub_c rfl (lsub_c rfl (lsub_c rfl (lsub_c rfl (lsub_c rfl (lsub_c rfl lsub_n)))))) (r_X10_lacksThen_62_L11 C _ _ _ _ _ _ _ h)
def f_X10_canRest_62_J211 (k64 : Int32 → Mem → Option (Int32 × Mem)) (k104 : Int32 → Mem → Option (Int32 × Mem)) (a2 : Int32) (a3 : Int32) (a4 : Int32) (μ : Mem) : Option (Int32 × Mem) :=
  k104 (a4 + 1) μ
def f_X10_canRest_62_J205 (k64 : Int32 → Mem → Option (Int32 × Mem)) (k104 : Int32 → Mem → Option (Int32 × Mem)) (k124 : Int32 → Mem → Option (Int32 × Mem)) (a2 : Int32) (a3 : Int32) (a4 : Int32) (a5 : Int32) (a6 : Int32) (μ : Mem) : Option (Int32 × Mem) :=
  k124 (a6 + 1) μ
def f_X10_canRest_62_L124 (a2 : Int32) (a3 : Int32) (a4 : Int32) (a5 : Int32) (k64 : Int32 → Mem → Option (Int32 × Mem)) (k104 : Int32 → Mem → Option (Int32 × Mem)) (k124 : Int32 → Mem → Option (Int32 × Mem)) (a6 : Int32) (μ : Mem) : Option (Int32 × Mem) :=
    if (μ.1 62 33) ≤ a6 then
      f_X10_canRest_62_J211 k64 k104 a2 a3 a4 μ
    else
      if inb (((27 : Int32) * a3) + a4) 162 = false then none else
      if (μ.1 73 ((((27 : Int32) * a3) + a4).toNatClampNeg)) = 0 then
        f_X10_canRest_62_J211 k64 k104 a2 a3 a4 μ
      else
        if inb ((a3 * (μ.1 62 33)) + a6) 28672 = false then none else
        if (μ.1 74 (((a3 * (μ.1 62 33)) + a6).toNatClampNeg)) = 0 then
          (f_X10_lacksThen_62 a6 a5 μ).bind fun q15 =>
          if inb (((a3 + (1 : Int32)) * (μ.1 62 33)) + q15.1) 28672 = false then none else
          if (q15.2.1 74 ((((a3 + (1 : Int32)) * (μ.1 62 33)) + q15.1).toNatClampNeg)) = 0 then
            f_X10_canRest_62_J205 k64 k104 k124 a2 a3 a4 a5 a6 q15.2
          else
            if inb ((a3 * (q15.2.1 62 33)) + a6) 28672 = false then none else
            f_X10_canRest_62_J205 k64 k104 k124 a2 a3 a4 a5 a6 (pI q15.2 74 (((a3 * (q15.2.1 62 33)) + a6).toNatClampNeg) (1 : Int32))
        else
          f_X10_canRest_62_J205 k64 k104 k124 a2 a3 a4 a5 a6 μ
def f_X10_canRest_62_L104 (a2 : Int32) (a3 : Int32) (k64 : Int32 → Mem → Option (Int32 × Mem)) (k104 : Int32 → Mem → Option (Int32 × Mem)) (a4 : Int32) (μ : Mem) : Option (Int32 × Mem) :=
    if (μ.1 62 4) ≤ a4 then
      k64 (a3 + (-1)) μ
    else
      (f_X10_shutBy_62 a4 μ).bind fun q9 =>
      it2 (f_X10_canRest_62_L124 a2 a3 a4 q9.1 k64 k104) FU (0 : Int32) q9.2
def f_X10_canRest_62_L71 (a2 : Int32) (a3 : Int32) (k64 : Int32 → Mem → Option (Int32 × Mem)) (k71 : Int32 → Mem → Option (Int32 × Mem)) (a4 : Int32) (μ : Mem) : Option (Int32 × Mem) :=
    if (μ.1 62 33) ≤ a4 then
      it2 (f_X10_canRest_62_L104 a2 a3 k64) FU (0 : Int32) μ
    else
      if inb ((a3 * (μ.1 62 33)) + a4) 28672 = false then none else
      k71 (a4 + 1) (pI μ 74 (((a3 * (μ.1 62 33)) + a4).toNatClampNeg) (0 : Int32))
def f_X10_canRest_62_L64 (a2 : Int32) (k64 : Int32 → Mem → Option (Int32 × Mem)) (a3 : Int32) (μ : Mem) : Option (Int32 × Mem) :=
    if a3 < 0 then
      (f_X10_allLack_62 a2 μ).bind fun q4 =>
      if inb q4.1 28672 = false then none else
      if zb (q4.2.1 74 (q4.1.toNatClampNeg)) = false then none else
      some ((q4.2.1 74 (q4.1.toNatClampNeg)), q4.2)
    else
      it2 (f_X10_canRest_62_L71 a2 a3 k64) FU (0 : Int32) μ
def f_X10_canRest_62_J53 (k24 : Int32 → Mem → Option (Int32 × Mem)) (a1 : Int32) (a2 : Int32) (a3 : Int32) (t1 : Int32) (t2 : Int32) (μ : Mem) : Option (Int32 × Mem) :=
  if inb t1 28672 = false then none else
  if zb t2 = false then none else
  k24 (a3 + 1) (pI μ 74 (t1.toNatClampNeg) t2)
def f_X10_canRest_62_L24 (a1 : Int32) (a2 : Int32) (k24 : Int32 → Mem → Option (Int32 × Mem)) (a3 : Int32) (μ : Mem) : Option (Int32 × Mem) :=
    if (μ.1 62 33) ≤ a3 then
      it2 (f_X10_canRest_62_L64 a2) FU (a1 - (1 : Int32)) μ
    else
      if a3 = 0 then
        f_X10_canRest_62_J53 k24 a1 a2 a3 ((a1 * (μ.1 62 33)) + a3) (1 : Int32) μ
      else
        f_X10_canRest_62_J53 k24 a1 a2 a3 ((a1 * (μ.1 62 33)) + a3) (0 : Int32) μ
def f_X10_canRest_62 (a1 : Int32) (a2 : Int32) (μ : Mem) : Option (Int32 × Mem) :=
  (f_X10_power (a2 + (1 : Int32)) (μ.1 62 28) (pI μ 62 32 (a2 + (1 : Int32)))).bind fun q1 =>
  it2 (f_X10_canRest_62_L24 a1 a2) FU (0 : Int32) (pI q1.2 62 33 q1.1)
set_option maxRecDepth 100000 in
set_option maxHeartbeats 4000000 in
theorem r_X10_canRest_62_J211 {p : Program} {l : Launch} {e : Env} {s : State} {m : MethodId} {args : Array Value} {below : List Frame} {meth : Method} {c : Code} {D : va_G} {cy : Nat → ClassId} {ad : Nat → Nat} (C : CX p s m args meth c cX10_canRest 7 RX10 (some .boolean) D cy ad (AD ad)) {a2 : Int32} {a3 : Int32} {a4 : Int32} {μ : Mem} {ρ : (Int32 × Mem)} (k64 : Int32 → Mem → Option (Int32 × Mem)) (hk64 : ∀ (a3 : Int32) (μ : Mem), k64 a3 μ = some ρ → WA p l e (rmD 1) s m args below meth c 7 D cy ad (AD ad) 0 0 (ZZ below args s D cy ad (AD ad) 0 0 (some (.int ρ.1)) ρ.2) μ [(0, .ref 62), (2, .int a2), (3, .int a3)] 64 []) (k104 : Int32 → Mem → Option (Int32 × Mem)) (hk104 : ∀ (a4 : Int32) (μ : Mem), k104 a4 μ = some ρ → WA p l e (rmD 1) s m args below meth c 7 D cy ad (AD ad) 0 0 (ZZ below args s D cy ad (AD ad) 0 0 (some (.int ρ.1)) ρ.2) μ [(0, .ref 62), (2, .int a2), (3, .int a3), (4, .int a4)] 104 []) (h : f_X10_canRest_62_J211 k64 k104 a2 a3 a4 μ = some ρ) : WA p l e (rmD 1) s m args below meth c 7 D cy ad (AD ad) 0 0 (ZZ below args s D cy ad (AD ad) 0 0 (some (.int ρ.1)) ρ.2) μ [(0, .ref 62), (2, .int a2), (3, .int a3), (4, .int a4)] 211 [] := by
  unfold f_X10_canRest_62_J211 at h
  refine wa_iinc (v := (a4 + 1)) C dX10_canRest_211 rfl rfl (by decide) ?_
  refine wa_goto (tgt := 104) C dX10_canRest_214 (by decide) ?_
  exact WA.sub (lsub_c rfl (lsub_c rfl (lsub_c rfl (lsub_c rfl lsub_n)))) (hk104 _ _ h)
set_option maxRecDepth 100000 in
set_option maxHeartbeats 4000000 in
theorem r_X10_canRest_62_J205 {p : Program} {l : Launch} {e : Env} {s : State} {m : MethodId} {args : Array Value} {below : List Frame} {meth : Method} {c : Code} {D : va_G} {cy : Nat → ClassId} {ad : Nat → Nat} (C : CX p s m args meth c cX10_canRest 7 RX10 (some .boolean) D cy ad (AD ad)) {a2 : Int32} {a3 : Int32} {a4 : Int32} {a5 : Int32} {a6 : Int32} {μ : Mem} {ρ : (Int32 × Mem)} (k64 : Int32 → Mem → Option (Int32 × Mem)) (hk64 : ∀ (a3 : Int32) (μ : Mem), k64 a3 μ = some ρ → WA p l e (rmD 1) s m args below meth c 7 D cy ad (AD ad) 0 0 (ZZ below args s D cy ad (AD ad) 0 0 (some (.int ρ.1)) ρ.2) μ [(0, .ref 62), (2, .int a2), (3, .int a3)] 64 []) (k104 : Int32 → Mem → Option (Int32 × Mem)) (hk104 : ∀ (a4 : Int32) (μ : Mem), k104 a4 μ = some ρ → WA p l e (rmD 1) s m args below meth c 7 D cy ad (AD ad) 0 0 (ZZ below args s D cy ad (AD ad) 0 0 (some (.int ρ.1)) ρ.2) μ [(0, .ref 62), (2, .int a2), (3, .int a3), (4, .int a4)] 104 []) (k124 : Int32 → Mem → Option (Int32 × Mem)) (hk124 : ∀ (a6 : Int32) (μ : Mem), k124 a6 μ = some ρ → WA p l e (rmD 1) s m args below meth c 7 D cy ad (AD ad) 0 0 (ZZ below args s D cy ad (AD ad) 0 0 (some (.int ρ.1)) ρ.2) μ [(0, .ref 62), (2, .int a2), (3, .int a3), (4, .int a4), (5, .int a5), (6, .int a6)] 124 []) (h : f_X10_canRest_62_J205 k64 k104 k124 a2 a3 a4 a5 a6 μ = some ρ) : WA p l e (rmD 1) s m args below meth c 7 D cy ad (AD ad) 0 0 (ZZ below args s D cy ad (AD ad) 0 0 (some (.int ρ.1)) ρ.2) μ [(0, .ref 62), (2, .int a2), (3, .int a3), (4, .int a4), (5, .int a5), (6, .int a6)] 205 [] := by
  unfold f_X10_canRest_62_J205 at h
  refine wa_iinc (v := (a6 + 1)) C dX10_canRest_205 rfl rfl (by decide) ?_
  refine wa_goto (tgt := 124) C dX10_canRest_208 (by decide) ?_
  exact WA.sub (lsub_c rfl (lsub_c rfl (lsub_c rfl (lsub_c rfl (lsub_c rfl (lsub_c rfl lsub_n)))))) (hk124 _ _ h)
set_option maxRecDepth 100000 in
set_option maxHeartbeats 4000000 in
theorem r_X10_canRest_62_L124 {p : Program} {l : Launch} {e : Env} {s : State} {m : MethodId} {args : Array Value} {below : List Frame} {meth : Method} {c : Code} {D : va_G} {cy : Nat → ClassId} {ad : Nat → Nat} (C : CX p s m args meth c cX10_canRest 7 RX10 (some .boolean) D cy ad (AD ad)) (a2 : Int32) (a3 : Int32) (a4 : Int32) (a5 : Int32) {ρ : (Int32 × Mem)} (k64 : Int32 → Mem → Option (Int32 × Mem)) (hk64 : ∀ (a3 : Int32) (μ : Mem), k64 a3 μ = some ρ → WA p l e (rmD 1) s m args below meth c 7 D cy ad (AD ad) 0 0 (ZZ below args s D cy ad (AD ad) 0 0 (some (.int ρ.1)) ρ.2) μ [(0, .ref 62), (2, .int a2), (3, .int a3)] 64 []) (k104 : Int32 → Mem → Option (Int32 × Mem)) (hk104 : ∀ (a4 : Int32) (μ : Mem), k104 a4 μ = some ρ → WA p l e (rmD 1) s m args below meth c 7 D cy ad (AD ad) 0 0 (ZZ below args s D cy ad (AD ad) 0 0 (some (.int ρ.1)) ρ.2) μ [(0, .ref 62), (2, .int a2), (3, .int a3), (4, .int a4)] 104 []) : ∀ (n : Nat) (a6 : Int32) (μ : Mem), it2 (f_X10_canRest_62_L124 a2 a3 a4 a5 k64 k104) n a6 μ = some ρ → WA p l e (rmD 1) s m args below meth c 7 D cy ad (AD ad) 0 0 (ZZ below args s D cy ad (AD ad) 0 0 (some (.int ρ.1)) ρ.2) μ [(0, .ref 62), (2, .int a2), (3, .int a3), (4, .int a4), (5, .int a5), (6, .int a6)] 124 [] := by
  intro n
  induction n with
  | zero =>
    intro a6 μ h
    exact absurd h (fun h => by cases h)
  | succ n ih =>
    intro a6 μ h
    replace h : f_X10_canRest_62_L124 a2 a3 a4 a5 k64 k104 (it2 (f_X10_canRest_62_L124 a2 a3 a4 a5 k64 k104) n) a6 μ = some ρ := h
    unfold f_X10_canRest_62_L124 at h
    refine wa_iload C dX10_canRest_124 rfl ?_
    refine wa_aload_n C dX10_canRest_126 rfl ?_
    refine wa_geti (x := (μ.1 62 33)) C fl_RX10_279 rfl rfl (by decide) rfl dX10_canRest_127 ?_
    refine wa_icmp_ge (tgt := 211) C dX10_canRest_130 (by decide) (fun c10 => ?_) (fun c10 => ?_)
    · replace h := (if_pos c10).symm.trans h
      exact WA.sub (lsub_c rfl (lsub_c rfl (lsub_c rfl (lsub_c rfl lsub_n)))) (r_X10_canRest_62_J211 C _ hk64 _ hk104 h)
    · replace h := (if_neg c10).symm.trans h
      refine wa_aload_n C dX10_canRest_133 rfl ?_
      refine wa_getr C fl_RX10_41 rfl rfl (by decide) dX10_canRest_134 ?_
      refine wa_bipush (v := 27) C dX10_canRest_137 (by decide) ?_
      refine wa_iload_n C dX10_canRest_139 rfl ?_
      refine wa_imul C dX10_canRest_140 ?_
      refine wa_iload C dX10_canRest_141 rfl ?_
      refine wa_iadd C dX10_canRest_143 ?_
      obtain ⟨g11, h⟩ := gd h
      refine wa_zald (j := ((((27 : Int32) * a3) + a4).toNatClampNeg)) (x := (μ.1 73 ((((27 : Int32) * a3) + a4).toNatClampNeg))) C rfl (by decide) g11 rfl rfl dX10_canRest_144 ?_
      refine wa_if_eq (tgt := 211) C dX10_canRest_145 (by decide) (fun c12 => ?_) (fun c12 => ?_)
      · replace h := (if_pos c12).symm.trans h
        exact WA.sub (lsub_c rfl (lsub_c rfl (lsub_c rfl (lsub_c rfl lsub_n)))) (r_X10_canRest_62_J211 C _ hk64 _ hk104 h)
      · replace h := (if_neg c12).symm.trans h
        refine wa_aload_n C dX10_canRest_148 rfl ?_
        refine wa_getr C fl_RX10_44 rfl rfl (by decide) dX10_canRest_149 ?_
        refine wa_iload_n C dX10_canRest_152 rfl ?_
        refine wa_aload_n C dX10_canRest_153 rfl ?_
        refine wa_geti (x := (μ.1 62 33)) C fl_RX10_279 rfl rfl (by decide) rfl dX10_canRest_154 ?_
        refine wa_imul C dX10_canRest_157 ?_
        refine wa_iload C dX10_canRest_158 rfl ?_
        refine wa_iadd C dX10_canRest_160 ?_
        obtain ⟨g13, h⟩ := gd h
        refine wa_zald (j := (((a3 * (μ.1 62 33)) + a6).toNatClampNeg)) (x := (μ.1 74 (((a3 * (μ.1 62 33)) + a6).toNatClampNeg))) C rfl (by decide) g13 rfl rfl dX10_canRest_161 ?_
        refine wa_if_ne (tgt := 205) C dX10_canRest_162 (by decide) (fun c14 => ?_) (fun c14 => ?_)
        · replace h := (if_neg c14).symm.trans h
          exact WA.sub (lsub_c rfl (lsub_c rfl (lsub_c rfl (lsub_c rfl (lsub_c rfl (lsub_c rfl lsub_n)))))) (r_X10_canRest_62_J205 C _ hk64 _ hk104 _ (fun _ _ h => ih _ _ h) h)
        · replace h := (if_pos c14).symm.trans h
          refine wa_aload_n C dX10_canRest_165 rfl ?_
          refine wa_getr C fl_RX10_44 rfl rfl (by decide) dX10_canRest_166 ?_
          refine wa_iload_n C dX10_canRest_169 rfl ?_
          refine wa_iconst (v := 1) C dX10_canRest_170 (by decide) ?_
          refine wa_iadd C dX10_canRest_171 ?_
          refine wa_aload_n C dX10_canRest_172 rfl ?_
          refine wa_geti (x := (μ.1 62 33)) C fl_RX10_279 rfl rfl (by decide) rfl dX10_canRest_173 ?_
          refine wa_imul C dX10_canRest_176 ?_
          refine wa_aload_n C dX10_canRest_177 rfl ?_
          refine wa_iload C dX10_canRest_178 rfl ?_
          refine wa_iload C dX10_canRest_180 rfl ?_
          obtain ⟨q15, hq15, h⟩ := bd h
          refine wa_callV C (r_X10_lacksThen_62 hq15) mk_X10_lacksThen mv_X10_lacksThen qw_844 rfl (by decide) rfl rfl ⟨Nat.le_of_ble_eq_true rfl, Nat.le_of_ble_eq_true rfl⟩ ⟨Nat.zero_le _, Nat.zero_le _⟩ (Nat.le_of_ble_eq_true rfl) dX10_canRest_182 rfl ?_
          refine wa_iadd C dX10_canRest_185 ?_
          obtain ⟨g16, h⟩ := gd h
          refine wa_zald (j := ((((a3 + (1 : Int32)) * (μ.1 62 33)) + q15.1).toNatClampNeg)) (x := (q15.2.1 74 ((((a3 + (1 : Int32)) * (μ.1 62 33)) + q15.1).toNatClampNeg))) C rfl (by decide) g16 rfl rfl dX10_canRest_186 ?_
          refine wa_if_eq (tgt := 205) C dX10_canRest_187 (by decide) (fun c17 => ?_) (fun c17 => ?_)
          · replace h := (if_pos c17).symm.trans h
            exact WA.sub (lsub_c rfl (lsub_c rfl (lsub_c rfl (lsub_c rfl (lsub_c rfl (lsub_c rfl lsub_n)))))) (r_X10_canRest_62_J205 C _ hk64 _ hk104 _ (fun _ _ h => ih _ _ h) h)
          · replace h := (if_neg c17).symm.trans h
            refine wa_aload_n C dX10_canRest_190 rfl ?_
            refine wa_getr C fl_RX10_44 rfl rfl (by decide) dX10_canRest_191 ?_
            refine wa_iload_n C dX10_canRest_194 rfl ?_
            refine wa_aload_n C dX10_canRest_195 rfl ?_
            refine wa_geti (x := (q15.2.1 62 33)) C fl_RX10_279 rfl rfl (by decide) rfl dX10_canRest_196 ?_
            refine wa_imul C dX10_canRest_199 ?_
            refine wa_iload C dX10_canRest_200 rfl ?_
            refine wa_iadd C dX10_canRest_202 ?_
            refine wa_iconst (v := 1) C dX10_canRest_203 (by decide) ?_
            obtain ⟨g18, h⟩ := gd h
            refine wa_zast (j := (((a3 * (q15.2.1 62 33)) + a6).toNatClampNeg)) C rfl (by decide) g18 rfl rfl dX10_canRest_204 ?_
            exact WA.sub (lsub_c rfl (lsub_c rfl (lsub_c rfl (lsub_c rfl (lsub_c rfl (lsub_c rfl lsub_n)))))) (r_X10_canRest_62_J205 C _ hk64 _ hk104 _ (fun _ _ h => ih _ _ h) h)
set_option maxRecDepth 100000 in
set_option maxHeartbeats 4000000 in
theorem r_X10_canRest_62_L104 {p : Program} {l : Launch} {e : Env} {s : State} {m : MethodId} {args : Array Value} {below : List Frame} {meth : Method} {c : Code} {D : va_G} {cy : Nat → ClassId} {ad : Nat → Nat} (C : CX p s m args meth c cX10_canRest 7 RX10 (some .boolean) D cy ad (AD ad)) (a2 : Int32) (a3 : Int32) {ρ : (Int32 × Mem)} (k64 : Int32 → Mem → Option (Int32 × Mem)) (hk64 : ∀ (a3 : Int32) (μ : Mem), k64 a3 μ = some ρ → WA p l e (rmD 1) s m args below meth c 7 D cy ad (AD ad) 0 0 (ZZ below args s D cy ad (AD ad) 0 0 (some (.int ρ.1)) ρ.2) μ [(0, .ref 62), (2, .int a2), (3, .int a3)] 64 []) : ∀ (n : Nat) (a4 : Int32) (μ : Mem), it2 (f_X10_canRest_62_L104 a2 a3 k64) n a4 μ = some ρ → WA p l e (rmD 1) s m args below meth c 7 D cy ad (AD ad) 0 0 (ZZ below args s D cy ad (AD ad) 0 0 (some (.int ρ.1)) ρ.2) μ [(0, .ref 62), (2, .int a2), (3, .int a3), (4, .int a4)] 104 [] := by
  intro n
  induction n with
  | zero =>
    intro a4 μ h
    exact absurd h (fun h => by cases h)
  | succ n ih =>
    intro a4 μ h
    replace h : f_X10_canRest_62_L104 a2 a3 k64 (it2 (f_X10_canRest_62_L104 a2 a3 k64) n) a4 μ = some ρ := h
    unfold f_X10_canRest_62_L104 at h
    refine wa_iload C dX10_canRest_104 rfl ?_
    refine wa_aload_n C dX10_canRest_106 rfl ?_
    refine wa_geti (x := (μ.1 62 4)) C fl_RX10_104 rfl rfl (by decide) rfl dX10_canRest_107 ?_
    refine wa_icmp_ge (tgt := 217) C dX10_canRest_110 (by decide) (fun c8 => ?_) (fun c8 => ?_)
    · replace h := (if_pos c8).symm.trans h
      refine wa_iinc (v := (a3 + (-1))) C dX10_canRest_217 rfl rfl (by decide) ?_
      refine wa_goto (tgt := 64) C dX10_canRest_220 (by decide) ?_
      exact WA.sub (lsub_c rfl (lsub_c rfl (lsub_c rfl lsub_n))) (hk64 _ _ h)
    · replace h := (if_neg c8).symm.trans h
      refine wa_aload_n C dX10_canRest_113 rfl ?_
      refine wa_iload C dX10_canRest_114 rfl ?_
      obtain ⟨q9, hq9, h⟩ := bd h
      refine wa_callV C (r_X10_shutBy_62 hq9) mk_X10_shutBy mv_X10_shutBy qw_647 rfl (by decide) rfl rfl ⟨Nat.le_of_ble_eq_true rfl, Nat.le_of_ble_eq_true rfl⟩ ⟨Nat.zero_le _, Nat.zero_le _⟩ (Nat.le_of_ble_eq_true rfl) dX10_canRest_116 rfl ?_
      refine wa_istore C dX10_canRest_119 (by decide) ?_
      refine wa_iconst (v := 0) C dX10_canRest_121 (by decide) ?_
      refine wa_istore C dX10_canRest_122 (by decide) ?_
      exact WA.sub (lsub_c rfl (lsub_c rfl (lsub_c rfl (lsub_c rfl (lsub_c rfl (lsub_c rfl lsub_n)))))) (r_X10_canRest_62_L124 C _ _ _ _ _ hk64 _ (fun _ _ h => ih _ _ h) _ _ _ h)
set_option maxRecDepth 100000 in
set_option maxHeartbeats 4000000 in
theorem r_X10_canRest_62_L71 {p : Program} {l : Launch} {e : Env} {s : State} {m : MethodId} {args : Array Value} {below : List Frame} {meth : Method} {c : Code} {D : va_G} {cy : Nat → ClassId} {ad : Nat → Nat} (C : CX p s m args meth c cX10_canRest 7 RX10 (some .boolean) D cy ad (AD ad)) (a2 : Int32) (a3 : Int32) {ρ : (Int32 × Mem)} (k64 : Int32 → Mem → Option (Int32 × Mem)) (hk64 : ∀ (a3 : Int32) (μ : Mem), k64 a3 μ = some ρ → WA p l e (rmD 1) s m args below meth c 7 D cy ad (AD ad) 0 0 (ZZ below args s D cy ad (AD ad) 0 0 (some (.int ρ.1)) ρ.2) μ [(0, .ref 62), (2, .int a2), (3, .int a3)] 64 []) : ∀ (n : Nat) (a4 : Int32) (μ : Mem), it2 (f_X10_canRest_62_L71 a2 a3 k64) n a4 μ = some ρ → WA p l e (rmD 1) s m args below meth c 7 D cy ad (AD ad) 0 0 (ZZ below args s D cy ad (AD ad) 0 0 (some (.int ρ.1)) ρ.2) μ [(0, .ref 62), (2, .int a2), (3, .int a3), (4, .int a4)] 71 [] := by
  intro n
  induction n with
  | zero =>
    intro a4 μ h
    exact absurd h (fun h => by cases h)
  | succ n ih =>
    intro a4 μ h
    replace h : f_X10_canRest_62_L71 a2 a3 k64 (it2 (f_X10_canRest_62_L71 a2 a3 k64) n) a4 μ = some ρ := h
    unfold f_X10_canRest_62_L71 at h
    refine wa_iload C dX10_canRest_71 rfl ?_
    refine wa_aload_n C dX10_canRest_73 rfl ?_
    refine wa_geti (x := (μ.1 62 33)) C fl_RX10_279 rfl rfl (by decide) rfl dX10_canRest_74 ?_
    refine wa_icmp_ge (tgt := 101) C dX10_canRest_77 (by decide) (fun c7 => ?_) (fun c7 => ?_)
    · replace h := (if_pos c7).symm.trans h
      refine wa_iconst (v := 0) C dX10_canRest_101 (by decide) ?_
      refine wa_istore C dX10_canRest_102 (by decide) ?_
      exact WA.sub (lsub_c rfl (lsub_c rfl (lsub_c rfl (lsub_c rfl lsub_n)))) (r_X10_canRest_62_L104 C _ _ _ hk64 _ _ _ h)
    · replace h := (if_neg c7).symm.trans h
      refine wa_aload_n C dX10_canRest_80 rfl ?_
      refine wa_getr C fl_RX10_44 rfl rfl (by decide) dX10_canRest_81 ?_
      refine wa_iload_n C dX10_canRest_84 rfl ?_
      refine wa_aload_n C dX10_canRest_85 rfl ?_
      refine wa_geti (x := (μ.1 62 33)) C fl_RX10_279 rfl rfl (by decide) rfl dX10_canRest_86 ?_
      refine wa_imul C dX10_canRest_89 ?_
      refine wa_iload C dX10_canRest_90 rfl ?_
      refine wa_iadd C dX10_canRest_92 ?_
      refine wa_iconst (v := 0) C dX10_canRest_93 (by decide) ?_
      obtain ⟨g19, h⟩ := gd h
      refine wa_zast (j := (((a3 * (μ.1 62 33)) + a4).toNatClampNeg)) C rfl (by decide) g19 rfl rfl dX10_canRest_94 ?_
      refine wa_iinc (v := (a4 + 1)) C dX10_canRest_95 rfl rfl (by decide) ?_
      refine wa_goto (tgt := 71) C dX10_canRest_98 (by decide) ?_
      exact WA.sub (lsub_c rfl (lsub_c rfl (lsub_c rfl (lsub_c rfl lsub_n)))) (ih _ _ h)
set_option maxRecDepth 100000 in
set_option maxHeartbeats 4000000 in
theorem r_X10_canRest_62_L64 {p : Program} {l : Launch} {e : Env} {s : State} {m : MethodId} {args : Array Value} {below : List Frame} {meth : Method} {c : Code} {D : va_G} {cy : Nat → ClassId} {ad : Nat → Nat} (C : CX p s m args meth c cX10_canRest 7 RX10 (some .boolean) D cy ad (AD ad)) (a2 : Int32) {ρ : (Int32 × Mem)} : ∀ (n : Nat) (a3 : Int32) (μ : Mem), it2 (f_X10_canRest_62_L64 a2) n a3 μ = some ρ → WA p l e (rmD 1) s m args below meth c 7 D cy ad (AD ad) 0 0 (ZZ below args s D cy ad (AD ad) 0 0 (some (.int ρ.1)) ρ.2) μ [(0, .ref 62), (2, .int a2), (3, .int a3)] 64 [] := by
  intro n
  induction n with
  | zero =>
    intro a3 μ h
    exact absurd h (fun h => by cases h)
  | succ n ih =>
    intro a3 μ h
    replace h : f_X10_canRest_62_L64 a2 (it2 (f_X10_canRest_62_L64 a2) n) a3 μ = some ρ := h
    unfold f_X10_canRest_62_L64 at h
    refine wa_iload_n C dX10_canRest_64 rfl ?_
    refine wa_if_lt (tgt := 223) C dX10_canRest_65 (by decide) (fun c3 => ?_) (fun c3 => ?_)
    · replace h := (if_pos c3).symm.trans h
      refine wa_aload_n C dX10_canRest_223 rfl ?_
      refine wa_getr C fl_RX10_44 rfl rfl (by decide) dX10_canRest_224 ?_
      refine wa_aload_n C dX10_canRest_227 rfl ?_
      refine wa_iload_n C dX10_canRest_228 rfl ?_
      obtain ⟨q4, hq4, h⟩ := bd h
      refine wa_callV C (r_X10_allLack_62 hq4) mk_X10_allLack mv_X10_allLack qw_848 rfl (by decide) rfl rfl ⟨Nat.le_of_ble_eq_true rfl, Nat.le_of_ble_eq_true rfl⟩ ⟨Nat.zero_le _, Nat.zero_le _⟩ (Nat.le_of_ble_eq_true rfl) dX10_canRest_229 rfl ?_
      obtain ⟨g5, h⟩ := gd h
      refine wa_zald (j := (q4.1.toNatClampNeg)) (x := (q4.2.1 74 (q4.1.toNatClampNeg))) C rfl (by decide) g5 rfl rfl dX10_canRest_232 ?_
      obtain ⟨g6, h⟩ := gd h
      obtain rfl := Option.some.inj h
      exact wa_zret C g6 dX10_canRest_233
    · replace h := (if_neg c3).symm.trans h
      refine wa_iconst (v := 0) C dX10_canRest_68 (by decide) ?_
      refine wa_istore C dX10_canRest_69 (by decide) ?_
      exact WA.sub (lsub_c rfl (lsub_c rfl (lsub_c rfl (lsub_c rfl lsub_n)))) (r_X10_canRest_62_L71 C _ _ _ (fun _ _ h => ih _ _ h) _ _ _ h)
set_option maxRecDepth 100000 in
set_option maxHeartbeats 4000000 in
theorem r_X10_canRest_62_J53 {p : Program} {l : Launch} {e : Env} {s : State} {m : MethodId} {args : Array Value} {below : List Frame} {meth : Method} {c : Code} {D : va_G} {cy : Nat → ClassId} {ad : Nat → Nat} (C : CX p s m args meth c cX10_canRest 7 RX10 (some .boolean) D cy ad (AD ad)) {a1 : Int32} {a2 : Int32} {a3 : Int32} {t1 : Int32} {t2 : Int32} {μ : Mem} {ρ : (Int32 × Mem)} (k24 : Int32 → Mem → Option (Int32 × Mem)) (hk24 : ∀ (a3 : Int32) (μ : Mem), k24 a3 μ = some ρ → WA p l e (rmD 1) s m args below meth c 7 D cy ad (AD ad) 0 0 (ZZ below args s D cy ad (AD ad) 0 0 (some (.int ρ.1)) ρ.2) μ [(0, .ref 62), (1, .int a1), (2, .int a2), (3, .int a3)] 24 []) (h : f_X10_canRest_62_J53 k24 a1 a2 a3 t1 t2 μ = some ρ) : WA p l e (rmD 1) s m args below meth c 7 D cy ad (AD ad) 0 0 (ZZ below args s D cy ad (AD ad) 0 0 (some (.int ρ.1)) ρ.2) μ [(0, .ref 62), (1, .int a1), (2, .int a2), (3, .int a3)] 53 [.int t2, .int t1, .ref 74] := by
  unfold f_X10_canRest_62_J53 at h
  obtain ⟨g21, h⟩ := gd h
  obtain ⟨g22, h⟩ := gd h
  refine wa_zast (j := (t1.toNatClampNeg)) C rfl (by decide) g21 rfl g22 dX10_canRest_53 ?_
  refine wa_iinc (v := (a3 + 1)) C dX10_canRest_54 rfl rfl (by decide) ?_
  refine wa_goto (tgt := 24) C dX10_canRest_57 (by decide) ?_
  exact WA.sub (lsub_c rfl (lsub_c rfl (lsub_c rfl (lsub_c rfl lsub_n)))) (hk24 _ _ h)
set_option maxRecDepth 100000 in
set_option maxHeartbeats 4000000 in
theorem r_X10_canRest_62_L24 {p : Program} {l : Launch} {e : Env} {s : State} {m : MethodId} {args : Array Value} {below : List Frame} {meth : Method} {c : Code} {D : va_G} {cy : Nat → ClassId} {ad : Nat → Nat} (C : CX p s m args meth c cX10_canRest 7 RX10 (some .boolean) D cy ad (AD ad)) (a1 : Int32) (a2 : Int32) {ρ : (Int32 × Mem)} : ∀ (n : Nat) (a3 : Int32) (μ : Mem), it2 (f_X10_canRest_62_L24 a1 a2) n a3 μ = some ρ → WA p l e (rmD 1) s m args below meth c 7 D cy ad (AD ad) 0 0 (ZZ below args s D cy ad (AD ad) 0 0 (some (.int ρ.1)) ρ.2) μ [(0, .ref 62), (1, .int a1), (2, .int a2), (3, .int a3)] 24 [] := by
  intro n
  induction n with
  | zero =>
    intro a3 μ h
    exact absurd h (fun h => by cases h)
  | succ n ih =>
    intro a3 μ h
    replace h : f_X10_canRest_62_L24 a1 a2 (it2 (f_X10_canRest_62_L24 a1 a2) n) a3 μ = some ρ := h
    unfold f_X10_canRest_62_L24 at h
    refine wa_iload_n C dX10_canRest_24 rfl ?_
    refine wa_aload_n C dX10_canRest_25 rfl ?_
    refine wa_geti (x := (μ.1 62 33)) C fl_RX10_279 rfl rfl (by decide) rfl dX10_canRest_26 ?_
    refine wa_icmp_ge (tgt := 60) C dX10_canRest_29 (by decide) (fun c2 => ?_) (fun c2 => ?_)
    · replace h := (if_pos c2).symm.trans h
      refine wa_iload_n C dX10_canRest_60 rfl ?_
      refine wa_iconst (v := 1) C dX10_canRest_61 (by decide) ?_
      refine wa_isub C dX10_canRest_62 ?_
      refine wa_istore_n C dX10_canRest_63 (by decide) ?_
      exact WA.sub (lsub_c rfl (lsub_c rfl (lsub_c rfl lsub_n))) (r_X10_canRest_62_L64 C _ _ _ _ h)
    · replace h := (if_neg c2).symm.trans h
      refine wa_aload_n C dX10_canRest_32 rfl ?_
      refine wa_getr C fl_RX10_44 rfl rfl (by decide) dX10_canRest_33 ?_
      refine wa_iload_n C dX10_canRest_36 rfl ?_
      refine wa_aload_n C dX10_canRest_37 rfl ?_
      refine wa_geti (x := (μ.1 62 33)) C fl_RX10_279 rfl rfl (by decide) rfl dX10_canRest_38 ?_
      refine wa_imul C dX10_canRest_41 ?_
      refine wa_iload_n C dX10_canRest_42 rfl ?_
      refine wa_iadd C dX10_canRest_43 ?_
      refine wa_iload_n C dX10_canRest_44 rfl ?_
      refine wa_if_ne (tgt := 52) C dX10_canRest_45 (by decide) (fun c20 => ?_) (fun c20 => ?_)
      · replace h := (if_neg c20).symm.trans h
        refine wa_iconst (v := 0) C dX10_canRest_52 (by decide) ?_
        exact WA.sub (lsub_c rfl (lsub_c rfl (lsub_c rfl (lsub_c rfl lsub_n)))) (r_X10_canRest_62_J53 C _ (fun _ _ h => ih _ _ h) h)
      · replace h := (if_pos c20).symm.trans h
        refine wa_iconst (v := 1) C dX10_canRest_48 (by decide) ?_
        refine wa_goto (tgt := 53) C dX10_canRest_49 (by decide) ?_
        exact WA.sub (lsub_c rfl (lsub_c rfl (lsub_c rfl (lsub_c rfl lsub_n)))) (r_X10_canRest_62_J53 C _ (fun _ _ h => ih _ _ h) h)
set_option maxRecDepth 100000 in
set_option maxHeartbeats 4000000 in
theorem r_X10_canRest_62 {a1 : Int32} {a2 : Int32} {μ : Mem} {ρ : (Int32 × Mem)} (h : f_X10_canRest_62 a1 a2 μ = some ρ) : HT 1 yX10_canRest cX10_canRest 7 (some .boolean) [.ref 62, .int a1, .int a2] μ (some (.int ρ.1)) ρ.2 := by
  refine HT.of (by decide +kernel) (Nat.le_of_ble_eq_true rfl) (fun C => ?_)
  unfold f_X10_canRest_62 at h
  refine wa_aload_n C dX10_canRest_0 rfl ?_
  refine wa_iload_n C dX10_canRest_1 rfl ?_
  refine wa_iconst (v := 1) C dX10_canRest_2 (by decide) ?_
  refine wa_iadd C dX10_canRest_3 ?_
  refine wa_puti C fl_RX10_276 fp_10_32 rfl rfl (by decide) rfl rfl dX10_canRest_4 ?_
  refine wa_aload_n C dX10_canRest_7 rfl ?_
  refine wa_aload_n C dX10_canRest_8 rfl ?_
  refine wa_geti (x := (a2 + (1 : Int32))) C fl_RX10_276 rfl rfl (by decide) rfl dX10_canRest_9 ?_
  refine wa_aload_n C dX10_canRest_12 rfl ?_
  refine wa_geti (x := (μ.1 62 28)) C fl_RX10_273 rfl rfl (by decide) rfl dX10_canRest_13 ?_
  obtain ⟨q1, hq1, h⟩ := bd h
  refine wa_callS C (r_X10_power hq1) mk_X10_power ms_X10_power qw_172 rfl ⟨Nat.le_of_ble_eq_true rfl, Nat.le_of_ble_eq_true rfl⟩ ⟨Nat.zero_le _, Nat.zero_le _⟩ (Nat.le_of_ble_eq_true rfl) dX10_canRest_16 rfl ?_
  refine wa_puti C fl_RX10_279 fp_10_33 rfl rfl (by decide) rfl rfl dX10_canRest_19 ?_
  refine wa_iconst (v := 0) C dX10_canRest_22 (by decide) ?_
  refine wa_istore_n C dX10_canRest_23 (by decide) ?_
  exact WA.sub (lsub_c rfl (lsub_c rfl (lsub_c rfl (lsub_c rfl lsub_n)))) (r_X10_canRest_62_L24 C _ _ _ _ _ h)
def f_X10_rowAt_62_J66 (k12 : Int32 → Int32 → Int32 → Mem → Option (Int32 × Mem)) (k21 : Int32 → Mem → Option (Int32 × Mem)) (a2 : Int32) (a3 : Int32) (a4 : Int32) (a5 : Int32) (μ : Mem) : Option (Int32 × Mem) :=
  k21 (a4 + 1) μ
def f_X10_rowAt_62_L21 (a2 : Int32) (a3 : Int32) (a5 : Int32) (k12 : Int32 → Int32 → Int32 → Mem → Option (Int32 × Mem)) (k21 : Int32 → Mem → Option (Int32 × Mem)) (a4 : Int32) (μ : Mem) : Option (Int32 × Mem) :=
    if inb (((27 : Int32) * a5) + a4) 162 = false then none else
    if (μ.1 73 ((((27 : Int32) * a5) + a4).toNatClampNeg)) = 0 then
      f_X10_rowAt_62_J66 k12 k21 a2 a3 a4 a5 μ
    else
      (f_X10_shutBy_62 a4 μ).bind fun q5 =>
      (f_X10_lacksThen_62 a3 q5.1 q5.2).bind fun q6 =>
      if inb (((a5 + (1 : Int32)) * (μ.1 62 33)) + q6.1) 28672 = false then none else
      if (q6.2.1 74 ((((a5 + (1 : Int32)) * (μ.1 62 33)) + q6.1).toNatClampNeg)) = 0 then
        f_X10_rowAt_62_J66 k12 k21 a2 a3 a4 a5 q6.2
      else
        (f_X10_shutBy_62 a4 q6.2).bind fun q9 =>
        (f_X10_lacksThen_62 a3 q9.1 q9.2).bind fun q10 =>
        k12 q10.1 a4 (a5 + 1) q10.2
def f_X10_rowAt_62_L12 (a2 : Int32) (k12 : Int32 → Int32 → Int32 → Mem → Option (Int32 × Mem)) (a3 : Int32) (a4 : Int32) (a5 : Int32) (μ : Mem) : Option (Int32 × Mem) :=
    if a2 < a5 then
      some (a4, μ)
    else
      it2 (f_X10_rowAt_62_L21 a2 a3 a5 k12) FU (0 : Int32) μ
def f_X10_rowAt_62 (a1 : Int32) (a2 : Int32) (μ : Mem) : Option (Int32 × Mem) :=
  (f_X10_allLack_62 a1 μ).bind fun q1 =>
  it4 (f_X10_rowAt_62_L12 a2) FU q1.1 (0 : Int32) (0 : Int32) q1.2
set_option maxRecDepth 100000 in
set_option maxHeartbeats 4000000 in
theorem r_X10_rowAt_62_J66 {p : Program} {l : Launch} {e : Env} {s : State} {m : MethodId} {args : Array Value} {below : List Frame} {meth : Method} {c : Code} {D : va_G} {cy : Nat → ClassId} {ad : Nat → Nat} (C : CX p s m args meth c cX10_rowAt 6 RX10 (some .int) D cy ad (AD ad)) {a2 : Int32} {a3 : Int32} {a4 : Int32} {a5 : Int32} {μ : Mem} {ρ : (Int32 × Mem)} (k12 : Int32 → Int32 → Int32 → Mem → Option (Int32 × Mem)) (hk12 : ∀ (a3 : Int32) (a4 : Int32) (a5 : Int32) (μ : Mem), k12 a3 a4 a5 μ = some ρ → WA p l e (rmD 1) s m args below meth c 6 D cy ad (AD ad) 0 0 (ZZ below args s D cy ad (AD ad) 0 0 (some (.int ρ.1)) ρ.2) μ [(0, .ref 62), (2, .int a2), (3, .int a3), (4, .int a4), (5, .int a5)] 12 []) (k21 : Int32 → Mem → Option (Int32 × Mem)) (hk21 : ∀ (a4 : Int32) (μ : Mem), k21 a4 μ = some ρ → WA p l e (rmD 1) s m args below meth c 6 D cy ad (AD ad) 0 0 (ZZ below args s D cy ad (AD ad) 0 0 (some (.int ρ.1)) ρ.2) μ [(0, .ref 62), (2, .int a2), (3, .int a3), (4, .int a4), (5, .int a5)] 21 []) (h : f_X10_rowAt_62_J66 k12 k21 a2 a3 a4 a5 μ = some ρ) : WA p l e (rmD 1) s m args below meth c 6 D cy ad (AD ad) 0 0 (ZZ below args s D cy ad (AD ad) 0 0 (some (.int ρ.1)) ρ.2) μ [(0, .ref 62), (2, .int a2), (3, .int a3), (4, .int a4), (5, .int a5)] 66 [] := by
  unfold f_X10_rowAt_62_J66 at h
  refine wa_iinc (v := (a4 + 1)) C dX10_rowAt_66 rfl rfl (by decide) ?_
  refine wa_goto (tgt := 21) C dX10_rowAt_69 (by decide) ?_
  exact WA.sub (lsub_c rfl (lsub_c rfl (lsub_c rfl (lsub_c rfl (lsub_c rfl lsub_n))))) (hk21 _ _ h)
set_option maxRecDepth 100000 in
set_option maxHeartbeats 4000000 in
theorem r_X10_rowAt_62_L21 {p : Program} {l : Launch} {e : Env} {s : State} {m : MethodId} {args : Array Value} {below : List Frame} {meth : Method} {c : Code} {D : va_G} {cy : Nat → ClassId} {ad : Nat → Nat} (C : CX p s m args meth c cX10_rowAt 6 RX10 (some .int) D cy ad (AD ad)) (a2 : Int32) (a3 : Int32) (a5 : Int32) {ρ : (Int32 × Mem)} (k12 : Int32 → Int32 → Int32 → Mem → Option (Int32 × Mem)) (hk12 : ∀ (a3 : Int32) (a4 : Int32) (a5 : Int32) (μ : Mem), k12 a3 a4 a5 μ = some ρ → WA p l e (rmD 1) s m args below meth c 6 D cy ad (AD ad) 0 0 (ZZ below args s D cy ad (AD ad) 0 0 (some (.int ρ.1)) ρ.2) μ [(0, .ref 62), (2, .int a2), (3, .int a3), (4, .int a4), (5, .int a5)] 12 []) : ∀ (n : Nat) (a4 : Int32) (μ : Mem), it2 (f_X10_rowAt_62_L21 a2 a3 a5 k12) n a4 μ = some ρ → WA p l e (rmD 1) s m args below meth c 6 D cy ad (AD ad) 0 0 (ZZ below args s D cy ad (AD ad) 0 0 (some (.int ρ.1)) ρ.2) μ [(0, .ref 62), (2, .int a2), (3, .int a3), (4, .int a4), (5, .int a5)] 21 [] := by
  intro n
  induction n with
  | zero =>
    intro a4 μ h
    exact absurd h (fun h => by cases h)
  | succ n ih =>
    intro a4 μ h
    replace h : f_X10_rowAt_62_L21 a2 a3 a5 k12 (it2 (f_X10_rowAt_62_L21 a2 a3 a5 k12) n) a4 μ = some ρ := h
    unfold f_X10_rowAt_62_L21 at h
    refine wa_aload_n C dX10_rowAt_21 rfl ?_
    refine wa_getr C fl_RX10_41 rfl rfl (by decide) dX10_rowAt_22 ?_
    refine wa_bipush (v := 27) C dX10_rowAt_25 (by decide) ?_
    refine wa_iload C dX10_rowAt_27 rfl ?_
    refine wa_imul C dX10_rowAt_29 ?_
    refine wa_iload C dX10_rowAt_30 rfl ?_
    refine wa_iadd C dX10_rowAt_32 ?_
    obtain ⟨g3, h⟩ := gd h
    refine wa_zald (j := ((((27 : Int32) * a5) + a4).toNatClampNeg)) (x := (μ.1 73 ((((27 : Int32) * a5) + a4).toNatClampNeg))) C rfl (by decide) g3 rfl rfl dX10_rowAt_33 ?_
    refine wa_if_eq (tgt := 66) C dX10_rowAt_34 (by decide) (fun c4 => ?_) (fun c4 => ?_)
    · replace h := (if_pos c4).symm.trans h
      exact WA.sub (lsub_c rfl (lsub_c rfl (lsub_c rfl (lsub_c rfl (lsub_c rfl lsub_n))))) (r_X10_rowAt_62_J66 C _ hk12 _ (fun _ _ h => ih _ _ h) h)
    · replace h := (if_neg c4).symm.trans h
      refine wa_aload_n C dX10_rowAt_37 rfl ?_
      refine wa_getr C fl_RX10_44 rfl rfl (by decide) dX10_rowAt_38 ?_
      refine wa_iload C dX10_rowAt_41 rfl ?_
      refine wa_iconst (v := 1) C dX10_rowAt_43 (by decide) ?_
      refine wa_iadd C dX10_rowAt_44 ?_
      refine wa_aload_n C dX10_rowAt_45 rfl ?_
      refine wa_geti (x := (μ.1 62 33)) C fl_RX10_279 rfl rfl (by decide) rfl dX10_rowAt_46 ?_
      refine wa_imul C dX10_rowAt_49 ?_
      refine wa_aload_n C dX10_rowAt_50 rfl ?_
      refine wa_iload_n C dX10_rowAt_51 rfl ?_
      refine wa_aload_n C dX10_rowAt_52 rfl ?_
      refine wa_iload C dX10_rowAt_53 rfl ?_
      obtain ⟨q5, hq5, h⟩ := bd h
      refine wa_callV C (r_X10_shutBy_62 hq5) mk_X10_shutBy mv_X10_shutBy qw_647 rfl (by decide) rfl rfl ⟨Nat.le_of_ble_eq_true rfl, Nat.le_of_ble_eq_true rfl⟩ ⟨Nat.zero_le _, Nat.zero_le _⟩ (Nat.le_of_ble_eq_true rfl) dX10_rowAt_55 rfl ?_
      obtain ⟨q6, hq6, h⟩ := bd h
      refine wa_callV C (r_X10_lacksThen_62 hq6) mk_X10_lacksThen mv_X10_lacksThen qw_844 rfl (by decide) rfl rfl ⟨Nat.le_of_ble_eq_true rfl, Nat.le_of_ble_eq_true rfl⟩ ⟨Nat.zero_le _, Nat.zero_le _⟩ (Nat.le_of_ble_eq_true rfl) dX10_rowAt_58 rfl ?_
      refine wa_iadd C dX10_rowAt_61 ?_
      obtain ⟨g7, h⟩ := gd h
      refine wa_zald (j := ((((a5 + (1 : Int32)) * (μ.1 62 33)) + q6.1).toNatClampNeg)) (x := (q6.2.1 74 ((((a5 + (1 : Int32)) * (μ.1 62 33)) + q6.1).toNatClampNeg))) C rfl (by decide) g7 rfl rfl dX10_rowAt_62 ?_
      refine wa_if_ne (tgt := 72) C dX10_rowAt_63 (by decide) (fun c8 => ?_) (fun c8 => ?_)
      · replace h := (if_neg c8).symm.trans h
        refine wa_aload_n C dX10_rowAt_72 rfl ?_
        refine wa_iload_n C dX10_rowAt_73 rfl ?_
        refine wa_aload_n C dX10_rowAt_74 rfl ?_
        refine wa_iload C dX10_rowAt_75 rfl ?_
        obtain ⟨q9, hq9, h⟩ := bd h
        refine wa_callV C (r_X10_shutBy_62 hq9) mk_X10_shutBy mv_X10_shutBy qw_647 rfl (by decide) rfl rfl ⟨Nat.le_of_ble_eq_true rfl, Nat.le_of_ble_eq_true rfl⟩ ⟨Nat.zero_le _, Nat.zero_le _⟩ (Nat.le_of_ble_eq_true rfl) dX10_rowAt_77 rfl ?_
        obtain ⟨q10, hq10, h⟩ := bd h
        refine wa_callV C (r_X10_lacksThen_62 hq10) mk_X10_lacksThen mv_X10_lacksThen qw_844 rfl (by decide) rfl rfl ⟨Nat.le_of_ble_eq_true rfl, Nat.le_of_ble_eq_true rfl⟩ ⟨Nat.zero_le _, Nat.zero_le _⟩ (Nat.le_of_ble_eq_true rfl) dX10_rowAt_80 rfl ?_
        refine wa_istore_n C dX10_rowAt_83 (by decide) ?_
        refine wa_iinc (v := (a5 + 1)) C dX10_rowAt_84 rfl rfl (by decide) ?_
        refine wa_goto (tgt := 12) C dX10_rowAt_87 (by decide) ?_
        exact WA.sub (lsub_c rfl (lsub_c rfl (lsub_c rfl (lsub_c rfl (lsub_c rfl lsub_n))))) (hk12 _ _ _ _ h)
      · replace h := (if_pos c8).symm.trans h
        exact WA.sub (lsub_c rfl (lsub_c rfl (lsub_c rfl (lsub_c rfl (lsub_c rfl lsub_n))))) (r_X10_rowAt_62_J66 C _ hk12 _ (fun _ _ h => ih _ _ h) h)
set_option maxRecDepth 100000 in
set_option maxHeartbeats 4000000 in
theorem r_X10_rowAt_62_L12 {p : Program} {l : Launch} {e : Env} {s : State} {m : MethodId} {args : Array Value} {below : List Frame} {meth : Method} {c : Code} {D : va_G} {cy : Nat → ClassId} {ad : Nat → Nat} (C : CX p s m args meth c cX10_rowAt 6 RX10 (some .int) D cy ad (AD ad)) (a2 : Int32) {ρ : (Int32 × Mem)} : ∀ (n : Nat) (a3 : Int32) (a4 : Int32) (a5 : Int32) (μ : Mem), it4 (f_X10_rowAt_62_L12 a2) n a3 a4 a5 μ = some ρ → WA p l e (rmD 1) s m args below meth c 6 D cy ad (AD ad) 0 0 (ZZ below args s D cy ad (AD ad) 0 0 (some (.int ρ.1)) ρ.2) μ [(0, .ref 62), (2, .int a2), (3, .int a3), (4, .int a4), (5, .int a5)] 12 [] := by
  intro n
  induction n with
  | zero =>
    intro a3 a4 a5 μ h
    exact absurd h (fun h => by cases h)
  | succ n ih =>
    intro a3 a4 a5 μ h
    replace h : f_X10_rowAt_62_L12 a2 (it4 (f_X10_rowAt_62_L12 a2) n) a3 a4 a5 μ = some ρ := h
    unfold f_X10_rowAt_62_L12 at h
    refine wa_iload C dX10_rowAt_12 rfl ?_
    refine wa_iload_n C dX10_rowAt_14 rfl ?_
    refine wa_icmp_gt (tgt := 90) C dX10_rowAt_15 (by decide) (fun c2 => ?_) (fun c2 => ?_)
    · replace h := (if_pos c2).symm.trans h
      refine wa_iload C dX10_rowAt_90 rfl ?_
      obtain rfl := Option.some.inj h
      exact wa_iret C dX10_rowAt_92
    · replace h := (if_neg c2).symm.trans h
      refine wa_iconst (v := 0) C dX10_rowAt_18 (by decide) ?_
      refine wa_istore C dX10_rowAt_19 (by decide) ?_
      exact WA.sub (lsub_c rfl (lsub_c rfl (lsub_c rfl (lsub_c rfl (lsub_c rfl lsub_n))))) (r_X10_rowAt_62_L21 C _ _ _ _ (fun _ _ _ _ h => ih _ _ _ _ h) _ _ _ h)
set_option maxRecDepth 100000 in
set_option maxHeartbeats 4000000 in
theorem r_X10_rowAt_62 {a1 : Int32} {a2 : Int32} {μ : Mem} {ρ : (Int32 × Mem)} (h : f_X10_rowAt_62 a1 a2 μ = some ρ) : HT 1 yX10_rowAt cX10_rowAt 6 (some .int) [.ref 62, .int a1, .int a2] μ (some (.int ρ.1)) ρ.2 := by
  refine HT.of (by decide +kernel) (Nat.le_of_ble_eq_true rfl) (fun C => ?_)
  unfold f_X10_rowAt_62 at h
  refine wa_aload_n C dX10_rowAt_0 rfl ?_
  refine wa_iload_n C dX10_rowAt_1 rfl ?_
  obtain ⟨q1, hq1, h⟩ := bd h
  refine wa_callV C (r_X10_allLack_62 hq1) mk_X10_allLack mv_X10_allLack qw_848 rfl (by decide) rfl rfl ⟨Nat.le_of_ble_eq_true rfl, Nat.le_of_ble_eq_true rfl⟩ ⟨Nat.zero_le _, Nat.zero_le _⟩ (Nat.le_of_ble_eq_true rfl) dX10_rowAt_2 rfl ?_
  refine wa_istore_n C dX10_rowAt_5 (by decide) ?_
  refine wa_iconst (v := 0) C dX10_rowAt_6 (by decide) ?_
  refine wa_istore C dX10_rowAt_7 (by decide) ?_
  refine wa_iconst (v := 0) C dX10_rowAt_9 (by decide) ?_
  refine wa_istore C dX10_rowAt_10 (by decide) ?_
  exact WA.sub (lsub_c rfl (lsub_c rfl (lsub_c rfl (lsub_c rfl (lsub_c rfl lsub_n))))) (r_X10_rowAt_62_L12 C _ _ _ _ _ _ h)
def f_X10_isCalm_62_J42 (k4 : Int32 → Int32 → Mem → Option (Int32 × Mem)) (a1 : Int32) (a3 : Int32) (t0 : Int32) (μ : Mem) : Option (Int32 × Mem) :=
  k4 t0 (a3 + 1) μ
def f_X10_isCalm_62_J41 (k4 : Int32 → Int32 → Mem → Option (Int32 × Mem)) (a1 : Int32) (a3 : Int32) (μ : Mem) : Option (Int32 × Mem) :=
  f_X10_isCalm_62_J42 k4 a1 a3 (0 : Int32) μ
def f_X10_isCalm_62_L4 (a1 : Int32) (k4 : Int32 → Int32 → Mem → Option (Int32 × Mem)) (a2 : Int32) (a3 : Int32) (μ : Mem) : Option (Int32 × Mem) :=
    if (4 : Int32) ≤ a3 then
      if zb a2 = false then none else
      some (a2, μ)
    else
      if a2 = 0 then
        f_X10_isCalm_62_J41 k4 a1 a3 μ
      else
        (f_X10_shutBy_62 a1 μ).bind fun q4 =>
        (f_X10_countOf_62 a3 q4.1 q4.2).bind fun q5 =>
        if inb ((9 : Int32) + a3) 162 = false then none else
        if q5.1 < ((2 : Int32) * (q5.2.1 63 (((9 : Int32) + a3).toNatClampNeg))) then
          f_X10_isCalm_62_J41 k4 a1 a3 q5.2
        else
          f_X10_isCalm_62_J42 k4 a1 a3 (1 : Int32) q5.2
def f_X10_isCalm_62 (a1 : Int32) (μ : Mem) : Option (Int32 × Mem) :=
  it3 (f_X10_isCalm_62_L4 a1) FU (1 : Int32) (0 : Int32) μ
set_option maxRecDepth 100000 in
set_option maxHeartbeats 4000000 in
theorem r_X10_isCalm_62_J42 {p : Program} {l : Launch} {e : Env} {s : State} {m : MethodId} {args : Array Value} {below : List Frame} {meth : Method} {c : Code} {D : va_G} {cy : Nat → ClassId} {ad : Nat → Nat} (C : CX p s m args meth c cX10_isCalm 4 RX10 (some .boolean) D cy ad (AD ad)) {a1 : Int32} {a3 : Int32} {t0 : Int32} {μ : Mem} {ρ : (Int32 × Mem)} (k4 : Int32 → Int32 → Mem → Option (Int32 × Mem)) (hk4 : ∀ (a2 : Int32) (a3 : Int32) (μ : Mem), k4 a2 a3 μ = some ρ → WA p l e (rmD 2) s m args below meth c 4 D cy ad (AD ad) 0 0 (ZZ below args s D cy ad (AD ad) 0 0 (some (.int ρ.1)) ρ.2) μ [(0, .ref 62), (1, .int a1), (2, .int a2), (3, .int a3)] 4 []) (h : f_X10_isCalm_62_J42 k4 a1 a3 t0 μ = some ρ) : WA p l e (rmD 2) s m args below meth c 4 D cy ad (AD ad) 0 0 (ZZ below args s D cy ad (AD ad) 0 0 (some (.int ρ.1)) ρ.2) μ [(0, .ref 62), (1, .int a1), (3, .int a3)] 42 [.int t0] := by
  unfold f_X10_isCalm_62_J42 at h
  refine wa_istore_n C dX10_isCalm_42 (by decide) ?_
  refine wa_iinc (v := (a3 + 1)) C dX10_isCalm_43 rfl rfl (by decide) ?_
  refine wa_goto (tgt := 4) C dX10_isCalm_46 (by decide) ?_
  exact WA.sub (lsub_c rfl (lsub_c rfl (lsub_c rfl (lsub_c rfl lsub_n)))) (hk4 _ _ _ h)
set_option maxRecDepth 100000 in
set_option maxHeartbeats 4000000 in
theorem r_X10_isCalm_62_J41 {p : Program} {l : Launch} {e : Env} {s : State} {m : MethodId} {args : Array Value} {below : List Frame} {meth : Method} {c : Code} {D : va_G} {cy : Nat → ClassId} {ad : Nat → Nat} (C : CX p s m args meth c cX10_isCalm 4 RX10 (some .boolean) D cy ad (AD ad)) {a1 : Int32} {a3 : Int32} {μ : Mem} {ρ : (Int32 × Mem)} (k4 : Int32 → Int32 → Mem → Option (Int32 × Mem)) (hk4 : ∀ (a2 : Int32) (a3 : Int32) (μ : Mem), k4 a2 a3 μ = some ρ → WA p l e (rmD 2) s m args below meth c 4 D cy ad (AD ad) 0 0 (ZZ below args s D cy ad (AD ad) 0 0 (some (.int ρ.1)) ρ.2) μ [(0, .ref 62), (1, .int a1), (2, .int a2), (3, .int a3)] 4 []) (h : f_X10_isCalm_62_J41 k4 a1 a3 μ = some ρ) : WA p l e (rmD 2) s m args below meth c 4 D cy ad (AD ad) 0 0 (ZZ below args s D cy ad (AD ad) 0 0 (some (.int ρ.1)) ρ.2) μ [(0, .ref 62), (1, .int a1), (3, .int a3)] 41 [] := by
  unfold f_X10_isCalm_62_J41 at h
  refine wa_iconst (v := 0) C dX10_isCalm_41 (by decide) ?_
  exact WA.sub (lsub_c rfl (lsub_c rfl (lsub_c rfl lsub_n))) (r_X10_isCalm_62_J42 C _ hk4 h)
set_option maxRecDepth 100000 in
set_option maxHeartbeats 4000000 in
theorem r_X10_isCalm_62_L4 {p : Program} {l : Launch} {e : Env} {s : State} {m : MethodId} {args : Array Value} {below : List Frame} {meth : Method} {c : Code} {D : va_G} {cy : Nat → ClassId} {ad : Nat → Nat} (C : CX p s m args meth c cX10_isCalm 4 RX10 (some .boolean) D cy ad (AD ad)) (a1 : Int32) {ρ : (Int32 × Mem)} : ∀ (n : Nat) (a2 : Int32) (a3 : Int32) (μ : Mem), it3 (f_X10_isCalm_62_L4 a1) n a2 a3 μ = some ρ → WA p l e (rmD 2) s m args below meth c 4 D cy ad (AD ad) 0 0 (ZZ below args s D cy ad (AD ad) 0 0 (some (.int ρ.1)) ρ.2) μ [(0, .ref 62), (1, .int a1), (2, .int a2), (3, .int a3)] 4 [] := by
  intro n
  induction n with
  | zero =>
    intro a2 a3 μ h
    exact absurd h (fun h => by cases h)
  | succ n ih =>
    intro a2 a3 μ h
    replace h : f_X10_isCalm_62_L4 a1 (it3 (f_X10_isCalm_62_L4 a1) n) a2 a3 μ = some ρ := h
    unfold f_X10_isCalm_62_L4 at h
    refine wa_iload_n C dX10_isCalm_4 rfl ?_
    refine wa_iconst (v := 4) C dX10_isCalm_5 (by decide) ?_
    refine wa_icmp_ge (tgt := 49) C dX10_isCalm_6 (by decide) (fun c1 => ?_) (fun c1 => ?_)
    · replace h := (if_pos c1).symm.trans h
      refine wa_iload_n C dX10_isCalm_49 rfl ?_
      obtain ⟨g2, h⟩ := gd h
      obtain rfl := Option.some.inj h
      exact wa_zret C g2 dX10_isCalm_50
    · replace h := (if_neg c1).symm.trans h
      refine wa_iload_n C dX10_isCalm_9 rfl ?_
      refine wa_if_eq (tgt := 41) C dX10_isCalm_10 (by decide) (fun c3 => ?_) (fun c3 => ?_)
      · replace h := (if_pos c3).symm.trans h
        exact WA.sub (lsub_c rfl (lsub_c rfl (lsub_c rfl lsub_n))) (r_X10_isCalm_62_J41 C _ (fun _ _ _ h => ih _ _ _ h) h)
      · replace h := (if_neg c3).symm.trans h
        refine wa_aload_n C dX10_isCalm_13 rfl ?_
        refine wa_iload_n C dX10_isCalm_14 rfl ?_
        refine wa_aload_n C dX10_isCalm_15 rfl ?_
        refine wa_iload_n C dX10_isCalm_16 rfl ?_
        obtain ⟨q4, hq4, h⟩ := bd h
        refine wa_callV C (r_X10_shutBy_62 hq4) mk_X10_shutBy mv_X10_shutBy qw_647 rfl (by decide) rfl rfl ⟨Nat.le_of_ble_eq_true rfl, Nat.le_of_ble_eq_true rfl⟩ ⟨Nat.zero_le _, Nat.zero_le _⟩ (Nat.le_of_ble_eq_true rfl) dX10_isCalm_17 rfl ?_
        obtain ⟨q5, hq5, h⟩ := bd h
        refine wa_callV C (r_X10_countOf_62 hq5) mk_X10_countOf mv_X10_countOf qw_651 rfl (by decide) rfl rfl ⟨Nat.le_of_ble_eq_true rfl, Nat.le_of_ble_eq_true rfl⟩ ⟨Nat.zero_le _, Nat.zero_le _⟩ (Nat.le_of_ble_eq_true rfl) dX10_isCalm_20 rfl ?_
        refine wa_iconst (v := 2) C dX10_isCalm_23 (by decide) ?_
        refine wa_aload_n C dX10_isCalm_24 rfl ?_
        refine wa_getr C fl_RX10_7 rfl rfl (by decide) dX10_isCalm_25 ?_
        refine wa_bipush (v := 9) C dX10_isCalm_28 (by decide) ?_
        refine wa_iload_n C dX10_isCalm_30 rfl ?_
        refine wa_iadd C dX10_isCalm_31 ?_
        obtain ⟨g6, h⟩ := gd h
        refine wa_iald (j := (((9 : Int32) + a3).toNatClampNeg)) (x := (q5.2.1 63 (((9 : Int32) + a3).toNatClampNeg))) C rfl (by decide) g6 rfl rfl dX10_isCalm_32 ?_
        refine wa_imul C dX10_isCalm_33 ?_
        refine wa_icmp_lt (tgt := 41) C dX10_isCalm_34 (by decide) (fun c7 => ?_) (fun c7 => ?_)
        · replace h := (if_pos c7).symm.trans h
          exact WA.sub (lsub_c rfl (lsub_c rfl (lsub_c rfl lsub_n))) (r_X10_isCalm_62_J41 C _ (fun _ _ _ h => ih _ _ _ h) h)
        · replace h := (if_neg c7).symm.trans h
          refine wa_iconst (v := 1) C dX10_isCalm_37 (by decide) ?_
          refine wa_goto (tgt := 42) C dX10_isCalm_38 (by decide) ?_
          exact WA.sub (lsub_c rfl (lsub_c rfl (lsub_c rfl lsub_n))) (r_X10_isCalm_62_J42 C _ (fun _ _ _ h => ih _ _ _ h) h)
set_option maxRecDepth 100000 in
set_option maxHeartbeats 4000000 in
theorem r_X10_isCalm_62 {a1 : Int32} {μ : Mem} {ρ : (Int32 × Mem)} (h : f_X10_isCalm_62 a1 μ = some ρ) : HT 2 yX10_isCalm cX10_isCalm 4 (some .boolean) [.ref 62, .int a1] μ (some (.int ρ.1)) ρ.2 := by
  refine HT.of (by decide +kernel) (Nat.le_of_ble_eq_true rfl) (fun C => ?_)
  unfold f_X10_isCalm_62 at h
  refine wa_iconst (v := 1) C dX10_isCalm_0 (by decide) ?_
  refine wa_istore_n C dX10_isCalm_1 (by decide) ?_
  refine wa_iconst (v := 0) C dX10_isCalm_2 (by decide) ?_
  refine wa_istore_n C dX10_isCalm_3 (by decide) ?_
  exact WA.sub (lsub_c rfl (lsub_c rfl (lsub_c rfl (lsub_c rfl lsub_n)))) (r_X10_isCalm_62_L4 C _ _ _ _ _ h)
def f_X10_round_62_L51 (a1 : Int32) (a2 : Int32) (a3 : Int32) (k36 : Int32 → Mem → Option (Int32 × Mem)) (k43 : Int32 → Mem → Option (Int32 × Mem)) (k51 : Int32 → Mem → Option (Int32 × Mem)) (a4 : Int32) (μ : Mem) : Option (Int32 × Mem) :=
    if (μ.1 62 4) ≤ a4 then
      k43 (a3 + 1) μ
    else
      (f_X10_isCalm_62 a4 μ).bind fun q12 =>
      if inb (((27 : Int32) * a3) + a4) 162 = false then none else
      if zb q12.1 = false then none else
      k51 (a4 + 1) (pI q12.2 73 ((((27 : Int32) * a3) + a4).toNatClampNeg) q12.1)
def f_X10_round_62_L43 (a1 : Int32) (a2 : Int32) (k36 : Int32 → Mem → Option (Int32 × Mem)) (k43 : Int32 → Mem → Option (Int32 × Mem)) (a3 : Int32) (μ : Mem) : Option (Int32 × Mem) :=
    if a2 ≤ a3 then
      (f_X10_canRest_62 a2 (1 : Int32) μ).bind fun q6 =>
      if q6.1 = 0 then
        k36 (a2 + 1) q6.2
      else
        if a1 = 0 then
          some (a2, q6.2)
        else
          if a2 ≤ (a1 - (10 : Int32)) then
            some ((-4 : Int32), q6.2)
          else
            (f_X10_rowAt_62 (1 : Int32) (a1 - (10 : Int32)) q6.2).bind fun q10 =>
            some (q10.1, q10.2)
    else
      it2 (f_X10_round_62_L51 a1 a2 a3 k36 k43) FU (0 : Int32) μ
def f_X10_round_62_L36 (a1 : Int32) (k36 : Int32 → Mem → Option (Int32 × Mem)) (a2 : Int32) (μ : Mem) : Option (Int32 × Mem) :=
    if (3 : Int32) < a2 then
      some ((-4 : Int32), μ)
    else
      it2 (f_X10_round_62_L43 a1 a2 k36) FU (0 : Int32) μ
def f_X10_round_62_J20 (a1 : Int32) (μ : Mem) : Option (Int32 × Mem) :=
  if (μ.1 62 2) = 0 then
    some ((-2 : Int32), μ)
  else
    (f_X10_findEyes_62 μ).bind fun q3 =>
    it2 (f_X10_round_62_L36 a1) FU (1 : Int32) q3
def f_X10_round_62 (a1 : Int32) (μ : Mem) : Option (Int32 × Mem) :=
  if a1 = 0 then
    f_X10_round_62_J20 a1 μ
  else
    (f_X10_in (a1.toInt64) (10 : Int64) (12 : Int64) μ).bind fun q15 =>
    if q15.1 = 0 then
      some ((-1 : Int32), q15.2)
    else
      f_X10_round_62_J20 a1 q15.2
set_option maxRecDepth 100000 in
set_option maxHeartbeats 4000000 in
theorem r_X10_round_62_L51 {p : Program} {l : Launch} {e : Env} {s : State} {m : MethodId} {args : Array Value} {below : List Frame} {meth : Method} {c : Code} {D : va_G} {cy : Nat → ClassId} {ad : Nat → Nat} (C : CX p s m args meth c cX10_round 5 RX10 (some .int) D cy ad (AD ad)) (a1 : Int32) (a2 : Int32) (a3 : Int32) {ρ : (Int32 × Mem)} (k36 : Int32 → Mem → Option (Int32 × Mem)) (hk36 : ∀ (a2 : Int32) (μ : Mem), k36 a2 μ = some ρ → WA p l e (rmD 3) s m args below meth c 5 D cy ad (AD ad) 0 0 (ZZ below args s D cy ad (AD ad) 0 0 (some (.int ρ.1)) ρ.2) μ [(0, .ref 62), (1, .int a1), (2, .int a2)] 36 []) (k43 : Int32 → Mem → Option (Int32 × Mem)) (hk43 : ∀ (a3 : Int32) (μ : Mem), k43 a3 μ = some ρ → WA p l e (rmD 3) s m args below meth c 5 D cy ad (AD ad) 0 0 (ZZ below args s D cy ad (AD ad) 0 0 (some (.int ρ.1)) ρ.2) μ [(0, .ref 62), (1, .int a1), (2, .int a2), (3, .int a3)] 43 []) : ∀ (n : Nat) (a4 : Int32) (μ : Mem), it2 (f_X10_round_62_L51 a1 a2 a3 k36 k43) n a4 μ = some ρ → WA p l e (rmD 3) s m args below meth c 5 D cy ad (AD ad) 0 0 (ZZ below args s D cy ad (AD ad) 0 0 (some (.int ρ.1)) ρ.2) μ [(0, .ref 62), (1, .int a1), (2, .int a2), (3, .int a3), (4, .int a4)] 51 [] := by
  intro n
  induction n with
  | zero =>
    intro a4 μ h
    exact absurd h (fun h => by cases h)
  | succ n ih =>
    intro a4 μ h
    replace h : f_X10_round_62_L51 a1 a2 a3 k36 k43 (it2 (f_X10_round_62_L51 a1 a2 a3 k36 k43) n) a4 μ = some ρ := h
    unfold f_X10_round_62_L51 at h
    refine wa_iload C dX10_round_51 rfl ?_
    refine wa_aload_n C dX10_round_53 rfl ?_
    refine wa_geti (x := (μ.1 62 4)) C fl_RX10_104 rfl rfl (by decide) rfl dX10_round_54 ?_
    refine wa_icmp_ge (tgt := 84) C dX10_round_57 (by decide) (fun c11 => ?_) (fun c11 => ?_)
    · replace h := (if_pos c11).symm.trans h
      refine wa_iinc (v := (a3 + 1)) C dX10_round_84 rfl rfl (by decide) ?_
      refine wa_goto (tgt := 43) C dX10_round_87 (by decide) ?_
      exact WA.sub (lsub_c rfl (lsub_c rfl (lsub_c rfl (lsub_c rfl lsub_n)))) (hk43 _ _ h)
    · replace h := (if_neg c11).symm.trans h
      refine wa_aload_n C dX10_round_60 rfl ?_
      refine wa_getr C fl_RX10_41 rfl rfl (by decide) dX10_round_61 ?_
      refine wa_bipush (v := 27) C dX10_round_64 (by decide) ?_
      refine wa_iload_n C dX10_round_66 rfl ?_
      refine wa_imul C dX10_round_67 ?_
      refine wa_iload C dX10_round_68 rfl ?_
      refine wa_iadd C dX10_round_70 ?_
      refine wa_aload_n C dX10_round_71 rfl ?_
      refine wa_iload C dX10_round_72 rfl ?_
      obtain ⟨q12, hq12, h⟩ := bd h
      refine wa_callV C (r_X10_isCalm_62 hq12) mk_X10_isCalm mv_X10_isCalm qw_834 rfl (by decide) rfl rfl ⟨Nat.le_of_ble_eq_true rfl, Nat.le_of_ble_eq_true rfl⟩ ⟨Nat.zero_le _, Nat.zero_le _⟩ (Nat.le_of_ble_eq_true rfl) dX10_round_74 rfl ?_
      obtain ⟨g13, h⟩ := gd h
      obtain ⟨g14, h⟩ := gd h
      refine wa_zast (j := ((((27 : Int32) * a3) + a4).toNatClampNeg)) C rfl (by decide) g13 rfl g14 dX10_round_77 ?_
      refine wa_iinc (v := (a4 + 1)) C dX10_round_78 rfl rfl (by decide) ?_
      refine wa_goto (tgt := 51) C dX10_round_81 (by decide) ?_
      exact WA.sub (lsub_c rfl (lsub_c rfl (lsub_c rfl (lsub_c rfl (lsub_c rfl lsub_n))))) (ih _ _ h)
set_option maxRecDepth 100000 in
set_option maxHeartbeats 4000000 in
theorem r_X10_round_62_L43 {p : Program} {l : Launch} {e : Env} {s : State} {m : MethodId} {args : Array Value} {below : List Frame} {meth : Method} {c : Code} {D : va_G} {cy : Nat → ClassId} {ad : Nat → Nat} (C : CX p s m args meth c cX10_round 5 RX10 (some .int) D cy ad (AD ad)) (a1 : Int32) (a2 : Int32) {ρ : (Int32 × Mem)} (k36 : Int32 → Mem → Option (Int32 × Mem)) (hk36 : ∀ (a2 : Int32) (μ : Mem), k36 a2 μ = some ρ → WA p l e (rmD 3) s m args below meth c 5 D cy ad (AD ad) 0 0 (ZZ below args s D cy ad (AD ad) 0 0 (some (.int ρ.1)) ρ.2) μ [(0, .ref 62), (1, .int a1), (2, .int a2)] 36 []) : ∀ (n : Nat) (a3 : Int32) (μ : Mem), it2 (f_X10_round_62_L43 a1 a2 k36) n a3 μ = some ρ → WA p l e (rmD 3) s m args below meth c 5 D cy ad (AD ad) 0 0 (ZZ below args s D cy ad (AD ad) 0 0 (some (.int ρ.1)) ρ.2) μ [(0, .ref 62), (1, .int a1), (2, .int a2), (3, .int a3)] 43 [] := by
  intro n
  induction n with
  | zero =>
    intro a3 μ h
    exact absurd h (fun h => by cases h)
  | succ n ih =>
    intro a3 μ h
    replace h : f_X10_round_62_L43 a1 a2 k36 (it2 (f_X10_round_62_L43 a1 a2 k36) n) a3 μ = some ρ := h
    unfold f_X10_round_62_L43 at h
    refine wa_iload_n C dX10_round_43 rfl ?_
    refine wa_iload_n C dX10_round_44 rfl ?_
    refine wa_icmp_ge (tgt := 90) C dX10_round_45 (by decide) (fun c5 => ?_) (fun c5 => ?_)
    · replace h := (if_pos c5).symm.trans h
      refine wa_aload_n C dX10_round_90 rfl ?_
      refine wa_iload_n C dX10_round_91 rfl ?_
      refine wa_iconst (v := 1) C dX10_round_92 (by decide) ?_
      obtain ⟨q6, hq6, h⟩ := bd h
      refine wa_callV C (r_X10_canRest_62 hq6) mk_X10_canRest mv_X10_canRest qw_838 rfl (by decide) rfl rfl ⟨Nat.le_of_ble_eq_true rfl, Nat.le_of_ble_eq_true rfl⟩ ⟨Nat.zero_le _, Nat.zero_le _⟩ (Nat.le_of_ble_eq_true rfl) dX10_round_93 rfl ?_
      refine wa_if_eq (tgt := 130) C dX10_round_96 (by decide) (fun c7 => ?_) (fun c7 => ?_)
      · replace h := (if_pos c7).symm.trans h
        refine wa_iinc (v := (a2 + 1)) C dX10_round_130 rfl rfl (by decide) ?_
        refine wa_goto (tgt := 36) C dX10_round_133 (by decide) ?_
        exact WA.sub (lsub_c rfl (lsub_c rfl (lsub_c rfl lsub_n))) (hk36 _ _ h)
      · replace h := (if_neg c7).symm.trans h
        refine wa_iload_n C dX10_round_99 rfl ?_
        refine wa_if_ne (tgt := 107) C dX10_round_100 (by decide) (fun c8 => ?_) (fun c8 => ?_)
        · replace h := (if_neg c8).symm.trans h
          refine wa_iload_n C dX10_round_107 rfl ?_
          refine wa_bipush (v := 10) C dX10_round_108 (by decide) ?_
          refine wa_isub C dX10_round_110 ?_
          refine wa_iload_n C dX10_round_111 rfl ?_
          refine wa_icmp_ge (tgt := 127) C dX10_round_112 (by decide) (fun c9 => ?_) (fun c9 => ?_)
          · replace h := (if_pos c9).symm.trans h
            refine wa_bipush (v := -4) C dX10_round_127 (by decide) ?_
            obtain rfl := Option.some.inj h
            exact wa_iret C dX10_round_129
          · replace h := (if_neg c9).symm.trans h
            refine wa_aload_n C dX10_round_115 rfl ?_
            refine wa_iconst (v := 1) C dX10_round_116 (by decide) ?_
            refine wa_iload_n C dX10_round_117 rfl ?_
            refine wa_bipush (v := 10) C dX10_round_118 (by decide) ?_
            refine wa_isub C dX10_round_120 ?_
            obtain ⟨q10, hq10, h⟩ := bd h
            refine wa_callV C (r_X10_rowAt_62 hq10) mk_X10_rowAt mv_X10_rowAt qw_852 rfl (by decide) rfl rfl ⟨Nat.le_of_ble_eq_true rfl, Nat.le_of_ble_eq_true rfl⟩ ⟨Nat.zero_le _, Nat.zero_le _⟩ (Nat.le_of_ble_eq_true rfl) dX10_round_121 rfl ?_
            refine wa_goto (tgt := 129) C dX10_round_124 (by decide) ?_
            obtain rfl := Option.some.inj h
            exact wa_iret C dX10_round_129
        · replace h := (if_pos c8).symm.trans h
          refine wa_iload_n C dX10_round_103 rfl ?_
          refine wa_goto (tgt := 129) C dX10_round_104 (by decide) ?_
          obtain rfl := Option.some.inj h
          exact wa_iret C dX10_round_129
    · replace h := (if_neg c5).symm.trans h
      refine wa_iconst (v := 0) C dX10_round_48 (by decide) ?_
      refine wa_istore C dX10_round_49 (by decide) ?_
      exact WA.sub (lsub_c rfl (lsub_c rfl (lsub_c rfl (lsub_c rfl (lsub_c rfl lsub_n))))) (r_X10_round_62_L51 C _ _ _ _ hk36 _ (fun _ _ h => ih _ _ h) _ _ _ h)
set_option maxRecDepth 100000 in
set_option maxHeartbeats 4000000 in
theorem r_X10_round_62_L36 {p : Program} {l : Launch} {e : Env} {s : State} {m : MethodId} {args : Array Value} {below : List Frame} {meth : Method} {c : Code} {D : va_G} {cy : Nat → ClassId} {ad : Nat → Nat} (C : CX p s m args meth c cX10_round 5 RX10 (some .int) D cy ad (AD ad)) (a1 : Int32) {ρ : (Int32 × Mem)} : ∀ (n : Nat) (a2 : Int32) (μ : Mem), it2 (f_X10_round_62_L36 a1) n a2 μ = some ρ → WA p l e (rmD 3) s m args below meth c 5 D cy ad (AD ad) 0 0 (ZZ below args s D cy ad (AD ad) 0 0 (some (.int ρ.1)) ρ.2) μ [(0, .ref 62), (1, .int a1), (2, .int a2)] 36 [] := by
  intro n
  induction n with
  | zero =>
    intro a2 μ h
    exact absurd h (fun h => by cases h)
  | succ n ih =>
    intro a2 μ h
    replace h : f_X10_round_62_L36 a1 (it2 (f_X10_round_62_L36 a1) n) a2 μ = some ρ := h
    unfold f_X10_round_62_L36 at h
    refine wa_iload_n C dX10_round_36 rfl ?_
    refine wa_iconst (v := 3) C dX10_round_37 (by decide) ?_
    refine wa_icmp_gt (tgt := 136) C dX10_round_38 (by decide) (fun c4 => ?_) (fun c4 => ?_)
    · replace h := (if_pos c4).symm.trans h
      refine wa_bipush (v := -4) C dX10_round_136 (by decide) ?_
      obtain rfl := Option.some.inj h
      exact wa_iret C dX10_round_138
    · replace h := (if_neg c4).symm.trans h
      refine wa_iconst (v := 0) C dX10_round_41 (by decide) ?_
      refine wa_istore_n C dX10_round_42 (by decide) ?_
      exact WA.sub (lsub_c rfl (lsub_c rfl (lsub_c rfl (lsub_c rfl lsub_n)))) (r_X10_round_62_L43 C _ _ _ (fun _ _ h => ih _ _ h) _ _ _ h)
set_option maxRecDepth 100000 in
set_option maxHeartbeats 4000000 in
theorem r_X10_round_62_J20 {p : Program} {l : Launch} {e : Env} {s : State} {m : MethodId} {args : Array Value} {below : List Frame} {meth : Method} {c : Code} {D : va_G} {cy : Nat → ClassId} {ad : Nat → Nat} (C : CX p s m args meth c cX10_round 5 RX10 (some .int) D cy ad (AD ad)) {a1 : Int32} {μ : Mem} {ρ : (Int32 × Mem)} (h : f_X10_round_62_J20 a1 μ = some ρ) : WA p l e (rmD 3) s m args below meth c 5 D cy ad (AD ad) 0 0 (ZZ below args s D cy ad (AD ad) 0 0 (some (.int ρ.1)) ρ.2) μ [(0, .ref 62), (1, .int a1)] 20 [] := by
  unfold f_X10_round_62_J20 at h
  refine wa_aload_n C dX10_round_20 rfl ?_
  refine wa_geti (x := (μ.1 62 2)) C fl_RX10_94 rfl rfl (by decide) rfl dX10_round_21 ?_
  refine wa_if_ne (tgt := 30) C dX10_round_24 (by decide) (fun c2 => ?_) (fun c2 => ?_)
  · replace h := (if_neg c2).symm.trans h
    refine wa_aload_n C dX10_round_30 rfl ?_
    obtain ⟨q3, hq3, h⟩ := bd h
    refine wa_callV C (r_X10_findEyes_62 hq3) mk_X10_findEyes mv_X10_findEyes qw_829 rfl (by decide) rfl rfl ⟨Nat.le_of_ble_eq_true rfl, Nat.le_of_ble_eq_true rfl⟩ ⟨Nat.zero_le _, Nat.zero_le _⟩ (Nat.le_of_ble_eq_true rfl) dX10_round_31 rfl ?_
    refine wa_iconst (v := 1) C dX10_round_34 (by decide) ?_
    refine wa_istore_n C dX10_round_35 (by decide) ?_
    exact WA.sub (lsub_c rfl (lsub_c rfl (lsub_c rfl lsub_n))) (r_X10_round_62_L36 C _ _ _ _ h)
  · replace h := (if_pos c2).symm.trans h
    refine wa_bipush (v := -2) C dX10_round_27 (by decide) ?_
    obtain rfl := Option.some.inj h
    exact wa_iret C dX10_round_29
set_option maxRecDepth 100000 in
set_option maxHeartbeats 4000000 in
theorem r_X10_round_62 {a1 : Int32} {μ : Mem} {ρ : (Int32 × Mem)} (h : f_X10_round_62 a1 μ = some ρ) : HT 3 yX10_round cX10_round 5 (some .int) [.ref 62, .int a1] μ (some (.int ρ.1)) ρ.2 := by
  refine HT.of (by decide +kernel) (Nat.le_of_ble_eq_true rfl) (fun C => ?_)
  unfold f_X10_round_62 at h
  refine wa_iload_n C dX10_round_0 rfl ?_
  refine wa_if_eq (tgt := 20) C dX10_round_1 (by decide) (fun c1 => ?_) (fun c1 => ?_)
  · replace h := (if_pos c1).symm.trans h
    exact WA.sub (lsub_c rfl (lsub_c rfl lsub_n)) (r_X10_round_62_J20 C h)
  · replace h := (if_neg c1).symm.trans h
    refine wa_iload_n C dX10_round_4 rfl ?_
    refine wa_i2l (v := (a1.toInt64)) C dX10_round_5 rfl ?_
    refine wa_ldc2 (v := 10) C qw_827 dX10_round_6 ?_
    refine wa_ldc2 (v := 12) C qw_828 dX10_round_9 ?_
    obtain ⟨q15, hq15, h⟩ := bd h
    refine wa_callS C (r_X10_in hq15) mk_X10_in ms_X10_in qw_198 rfl ⟨Nat.le_of_ble_eq_true rfl, Nat.le_of_ble_eq_true rfl⟩ ⟨Nat.zero_le _, Nat.zero_le _⟩ (Nat.le_of_ble_eq_true rfl) dX10_round_12 rfl ?_
    refine wa_if_ne (tgt := 20) C dX10_round_15 (by decide) (fun c16 => ?_) (fun c16 => ?_)
    · replace h := (if_neg c16).symm.trans h
      exact WA.sub (lsub_c rfl (lsub_c rfl lsub_n)) (r_X10_round_62_J20 C h)
    · replace h := (if_pos c16).symm.trans h
      refine wa_iconst (v := -1) C dX10_round_18 (by decide) ?_
      obtain rfl := Option.some.inj h
      exact wa_iret C dX10_round_19
def f_X3_judge_51_4_47_J105 (k13 : Int32 → Int32 → Mem → Option Mem) (a3 : Int32) (a4 : Int32) (a5 : Int32) (μ : Mem) : Option Mem :=
  k13 a4 (a5 + 1) μ
def f_X3_judge_51_4_47_J41 (k13 : Int32 → Int32 → Mem → Option Mem) (a3 : Int32) (a4 : Int32) (a5 : Int32) (t0 : Int32) (μ : Mem) : Option Mem :=
  if t0 = 0 then
    f_X3_judge_51_4_47_J105 k13 a3 a4 a5 μ
  else
    if inb a3 6 = false then none else
    (f_X7_openBy_47 a5 μ).bind fun q9 =>
    (f_X7_lacking_47_7 (μ.1 8 (a3.toNatClampNeg)) q9.1 q9.2).bind fun q10 =>
    if q10.1 = 0 then
      if inb a3 6 = false then none else
      if inb a3 6 = false then none else
      if inb a5 27 = false then none else
      (f_J6_bitCount_0f7a4 ((shuF (a5.toNatClampNeg)) &&& (q10.2.1 51 3)) (pI q10.2 53 (a3.toNatClampNeg) ((q10.2.1 53 (a3.toNatClampNeg)) ||| ((1 : Int32) <<< (a5 &&& 31))))).bind fun q15 =>
      f_X3_judge_51_4_47_J105 k13 a3 (if a4 < q15.1 then q15.1 else a4) a5 q15.2
    else
      f_X3_judge_51_4_47_J105 k13 a3 a4 a5 q10.2
def f_X3_judge_51_4_47_L13 (a3 : Int32) (k13 : Int32 → Int32 → Mem → Option Mem) (a4 : Int32) (a5 : Int32) (μ : Mem) : Option Mem :=
    if (27 : Int32) ≤ a5 then
      if inb (a3 + (1 : Int32)) 7 = false then none else
      if inb a3 7 = false then none else
      some (pI μ 54 (a3.toNatClampNeg) ((μ.1 54 ((a3 + (1 : Int32)).toNatClampNeg)) + a4))
    else
      if inb a5 27 = false then none else
      if ((shuF (a5.toNatClampNeg)) &&& ((μ.1 47 1) ^^^ (-1 : Int32))) = 0 then
        f_X3_judge_51_4_47_J41 k13 a3 a4 a5 (1 : Int32) μ
      else
        f_X3_judge_51_4_47_J41 k13 a3 a4 a5 (0 : Int32) μ
def f_X3_judge_51_4_47 (a3 : Int32) (μ : Mem) : Option Mem :=
  if inb a3 6 = false then none else
  it3 (f_X3_judge_51_4_47_L13 a3) FU (0 : Int32) (0 : Int32) (pI μ 53 (a3.toNatClampNeg) (0 : Int32))
set_option maxRecDepth 100000 in
set_option maxHeartbeats 4000000 in
theorem r_X3_judge_51_4_47_J105 {p : Program} {l : Launch} {e : Env} {s : State} {m : MethodId} {args : Array Value} {below : List Frame} {meth : Method} {c : Code} {D : va_G} {cy : Nat → ClassId} {ad : Nat → Nat} (C : CX p s m args meth c cX3_judge 7 RX3 none D cy ad (AD ad)) {a3 : Int32} {a4 : Int32} {a5 : Int32} {μ : Mem} {ρ : Mem} (k13 : Int32 → Int32 → Mem → Option Mem) (hk13 : ∀ (a4 : Int32) (a5 : Int32) (μ : Mem), k13 a4 a5 μ = some ρ → WA p l e (rmD 2) s m args below meth c 7 D cy ad (AD ad) 0 0 (ZZ below args s D cy ad (AD ad) 0 0 none ρ) μ [(0, .ref 51), (1, .ref 4), (2, .ref 47), (3, .int a3), (4, .int a4), (5, .int a5)] 13 []) (h : f_X3_judge_51_4_47_J105 k13 a3 a4 a5 μ = some ρ) : WA p l e (rmD 2) s m args below meth c 7 D cy ad (AD ad) 0 0 (ZZ below args s D cy ad (AD ad) 0 0 none ρ) μ [(0, .ref 51), (1, .ref 4), (2, .ref 47), (3, .int a3), (4, .int a4), (5, .int a5)] 105 [] := by
  unfold f_X3_judge_51_4_47_J105 at h
  refine wa_iinc (v := (a5 + 1)) C dX3_judge_105 rfl rfl (by decide) ?_
  refine wa_goto (tgt := 13) C dX3_judge_108 (by decide) ?_
  exact WA.sub (lsub_c rfl (lsub_c rfl (lsub_c rfl (lsub_c rfl (lsub_c rfl (lsub_c rfl lsub_n)))))) (hk13 _ _ _ h)
set_option maxRecDepth 100000 in
set_option maxHeartbeats 4000000 in
theorem r_X3_judge_51_4_47_J41 {p : Program} {l : Launch} {e : Env} {s : State} {m : MethodId} {args : Array Value} {below : List Frame} {meth : Method} {c : Code} {D : va_G} {cy : Nat → ClassId} {ad : Nat → Nat} (C : CX p s m args meth c cX3_judge 7 RX3 none D cy ad (AD ad)) {a3 : Int32} {a4 : Int32} {a5 : Int32} {t0 : Int32} {μ : Mem} {ρ : Mem} (k13 : Int32 → Int32 → Mem → Option Mem) (hk13 : ∀ (a4 : Int32) (a5 : Int32) (μ : Mem), k13 a4 a5 μ = some ρ → WA p l e (rmD 2) s m args below meth c 7 D cy ad (AD ad) 0 0 (ZZ below args s D cy ad (AD ad) 0 0 none ρ) μ [(0, .ref 51), (1, .ref 4), (2, .ref 47), (3, .int a3), (4, .int a4), (5, .int a5)] 13 []) (h : f_X3_judge_51_4_47_J41 k13 a3 a4 a5 t0 μ = some ρ) : WA p l e (rmD 2) s m args below meth c 7 D cy ad (AD ad) 0 0 (ZZ below args s D cy ad (AD ad) 0 0 none ρ) μ [(0, .ref 51), (1, .ref 4), (2, .ref 47), (3, .int a3), (4, .int a4), (5, .int a5)] 41 [.int t0] := by
  unfold f_X3_judge_51_4_47_J41 at h
  refine wa_istore C dX3_judge_41 (by decide) ?_
  refine wa_iload C dX3_judge_43 rfl ?_
  refine wa_if_eq (tgt := 105) C dX3_judge_45 (by decide) (fun c7 => ?_) (fun c7 => ?_)
  · replace h := (if_pos c7).symm.trans h
    exact WA.sub (lsub_c rfl (lsub_c rfl (lsub_c rfl (lsub_c rfl (lsub_c rfl (lsub_c rfl lsub_n)))))) (r_X3_judge_51_4_47_J105 C _ hk13 h)
  · replace h := (if_neg c7).symm.trans h
    refine wa_aload_n C dX3_judge_48 rfl ?_
    refine wa_aload_n C dX3_judge_49 rfl ?_
    refine wa_getr C fl_RX3_59 rfl rfl (by decide) dX3_judge_50 ?_
    refine wa_aload_n C dX3_judge_53 rfl ?_
    refine wa_getr C fl_RX3_64 rfl rfl (by decide) dX3_judge_54 ?_
    refine wa_iload_n C dX3_judge_57 rfl ?_
    obtain ⟨g8, h⟩ := gd h
    refine wa_iald (j := (a3.toNatClampNeg)) (x := (μ.1 8 (a3.toNatClampNeg))) C rfl (by decide) g8 rfl rfl dX3_judge_58 ?_
    refine wa_aload_n C dX3_judge_59 rfl ?_
    refine wa_iload C dX3_judge_60 rfl ?_
    obtain ⟨q9, hq9, h⟩ := bd h
    refine wa_callV C (r_X7_openBy_47 hq9) mk_X7_openBy mv_X7_openBy qw_875 rfl (by decide) rfl rfl ⟨Nat.le_of_ble_eq_true rfl, Nat.le_of_ble_eq_true rfl⟩ ⟨Nat.zero_le _, Nat.zero_le _⟩ (Nat.le_of_ble_eq_true rfl) dX3_judge_62 rfl ?_
    obtain ⟨q10, hq10, h⟩ := bd h
    refine wa_callV C (r_X7_lacking_47_7 hq10) mk_X7_lacking mv_X7_lacking qw_876 rfl (by decide) rfl rfl ⟨Nat.le_of_ble_eq_true rfl, Nat.le_of_ble_eq_true rfl⟩ ⟨Nat.zero_le _, Nat.zero_le _⟩ (Nat.le_of_ble_eq_true rfl) dX3_judge_65 rfl ?_
    refine wa_if_ne (tgt := 105) C dX3_judge_68 (by decide) (fun c11 => ?_) (fun c11 => ?_)
    · replace h := (if_neg c11).symm.trans h
      exact WA.sub (lsub_c rfl (lsub_c rfl (lsub_c rfl (lsub_c rfl (lsub_c rfl (lsub_c rfl lsub_n)))))) (r_X3_judge_51_4_47_J105 C _ hk13 h)
    · replace h := (if_pos c11).symm.trans h
      refine wa_aload_n C dX3_judge_71 rfl ?_
      refine wa_getr C fl_RX3_28 rfl rfl (by decide) dX3_judge_72 ?_
      refine wa_iload_n C dX3_judge_75 rfl ?_
      refine wa_dup2_11 C dX3_judge_76 rfl rfl ?_
      obtain ⟨g12, h⟩ := gd h
      refine wa_iald (j := (a3.toNatClampNeg)) (x := (q10.2.1 53 (a3.toNatClampNeg))) C rfl (by decide) g12 rfl rfl dX3_judge_77 ?_
      refine wa_iconst (v := 1) C dX3_judge_78 (by decide) ?_
      refine wa_iload C dX3_judge_79 rfl ?_
      refine wa_ishl C dX3_judge_81 ?_
      refine wa_ior C dX3_judge_82 ?_
      obtain ⟨g13, h⟩ := gd h
      refine wa_iast (j := (a3.toNatClampNeg)) C rfl (by decide) g13 rfl dX3_judge_83 ?_
      refine wa_iload C dX3_judge_84 rfl ?_
      refine wa_gshu3 C dX3_judge_86 ?_
      refine wa_iload C dX3_judge_89 rfl ?_
      obtain ⟨g14, h⟩ := gd h
      refine wa_sald (j := (a5.toNatClampNeg)) C g14 rfl dX3_judge_91 ?_
      refine wa_aload_n C dX3_judge_92 rfl ?_
      refine wa_geti (x := (q10.2.1 51 3)) C fl_RX3_22 rfl rfl (by decide) rfl dX3_judge_93 ?_
      refine wa_iand C dX3_judge_96 ?_
      obtain ⟨q15, hq15, h⟩ := bd h
      refine wa_callS C (r_J6_bitCount_0f7a4 hq15) mk_J6_bitCount_0f7a4 ms_J6_bitCount_0f7a4 qw_877 rfl ⟨Nat.le_of_ble_eq_true rfl, Nat.le_of_ble_eq_true rfl⟩ ⟨Nat.zero_le _, Nat.zero_le _⟩ (Nat.le_of_ble_eq_true rfl) dX3_judge_97 rfl ?_
      refine wa_max C qw_874 qw_743 qw_740 qw_744 ⟨Nat.le_of_ble_eq_true rfl, Nat.le_of_ble_eq_true rfl⟩ ⟨Nat.zero_le _, Nat.zero_le _⟩ dX3_judge_100 ?_
      refine wa_istore C dX3_judge_103 (by decide) ?_
      exact WA.sub (lsub_c rfl (lsub_c rfl (lsub_c rfl (lsub_c rfl (lsub_c rfl (lsub_c rfl lsub_n)))))) (r_X3_judge_51_4_47_J105 C _ hk13 h)
set_option maxRecDepth 100000 in
set_option maxHeartbeats 4000000 in
theorem r_X3_judge_51_4_47_L13 {p : Program} {l : Launch} {e : Env} {s : State} {m : MethodId} {args : Array Value} {below : List Frame} {meth : Method} {c : Code} {D : va_G} {cy : Nat → ClassId} {ad : Nat → Nat} (C : CX p s m args meth c cX3_judge 7 RX3 none D cy ad (AD ad)) (a3 : Int32) {ρ : Mem} : ∀ (n : Nat) (a4 : Int32) (a5 : Int32) (μ : Mem), it3 (f_X3_judge_51_4_47_L13 a3) n a4 a5 μ = some ρ → WA p l e (rmD 2) s m args below meth c 7 D cy ad (AD ad) 0 0 (ZZ below args s D cy ad (AD ad) 0 0 none ρ) μ [(0, .ref 51), (1, .ref 4), (2, .ref 47), (3, .int a3), (4, .int a4), (5, .int a5)] 13 [] := by
  intro n
  induction n with
  | zero =>
    intro a4 a5 μ h
    exact absurd h (fun h => by cases h)
  | succ n ih =>
    intro a4 a5 μ h
    replace h : f_X3_judge_51_4_47_L13 a3 (it3 (f_X3_judge_51_4_47_L13 a3) n) a4 a5 μ = some ρ := h
    unfold f_X3_judge_51_4_47_L13 at h
    refine wa_iload C dX3_judge_13 rfl ?_
    refine wa_bipush (v := 27) C dX3_judge_15 (by decide) ?_
    refine wa_icmp_ge (tgt := 111) C dX3_judge_17 (by decide) (fun c2 => ?_) (fun c2 => ?_)
    · replace h := (if_pos c2).symm.trans h
      refine wa_aload_n C dX3_judge_111 rfl ?_
      refine wa_getr C fl_RX3_31 rfl rfl (by decide) dX3_judge_112 ?_
      refine wa_iload_n C dX3_judge_115 rfl ?_
      refine wa_aload_n C dX3_judge_116 rfl ?_
      refine wa_getr C fl_RX3_31 rfl rfl (by decide) dX3_judge_117 ?_
      refine wa_iload_n C dX3_judge_120 rfl ?_
      refine wa_iconst (v := 1) C dX3_judge_121 (by decide) ?_
      refine wa_iadd C dX3_judge_122 ?_
      obtain ⟨g3, h⟩ := gd h
      refine wa_iald (j := ((a3 + (1 : Int32)).toNatClampNeg)) (x := (μ.1 54 ((a3 + (1 : Int32)).toNatClampNeg))) C rfl (by decide) g3 rfl rfl dX3_judge_123 ?_
      refine wa_iload C dX3_judge_124 rfl ?_
      refine wa_iadd C dX3_judge_126 ?_
      obtain ⟨g4, h⟩ := gd h
      refine wa_iast (j := (a3.toNatClampNeg)) C rfl (by decide) g4 rfl dX3_judge_127 ?_
      obtain rfl := Option.some.inj h
      exact wa_vret C dX3_judge_128
    · replace h := (if_neg c2).symm.trans h
      refine wa_gshu3 C dX3_judge_20 ?_
      refine wa_iload C dX3_judge_23 rfl ?_
      obtain ⟨g5, h⟩ := gd h
      refine wa_sald (j := (a5.toNatClampNeg)) C g5 rfl dX3_judge_25 ?_
      refine wa_aload_n C dX3_judge_26 rfl ?_
      refine wa_geti (x := (μ.1 47 1)) C fl_RX3_44 rfl rfl (by decide) rfl dX3_judge_27 ?_
      refine wa_iconst (v := -1) C dX3_judge_30 (by decide) ?_
      refine wa_ixor C dX3_judge_31 ?_
      refine wa_iand C dX3_judge_32 ?_
      refine wa_if_ne (tgt := 40) C dX3_judge_33 (by decide) (fun c6 => ?_) (fun c6 => ?_)
      · replace h := (if_neg c6).symm.trans h
        refine wa_iconst (v := 0) C dX3_judge_40 (by decide) ?_
        exact WA.sub (lsub_c rfl (lsub_c rfl (lsub_c rfl (lsub_c rfl (lsub_c rfl (lsub_c rfl lsub_n)))))) (r_X3_judge_51_4_47_J41 C _ (fun _ _ _ h => ih _ _ _ h) h)
      · replace h := (if_pos c6).symm.trans h
        refine wa_iconst (v := 1) C dX3_judge_36 (by decide) ?_
        refine wa_goto (tgt := 41) C dX3_judge_37 (by decide) ?_
        exact WA.sub (lsub_c rfl (lsub_c rfl (lsub_c rfl (lsub_c rfl (lsub_c rfl (lsub_c rfl lsub_n)))))) (r_X3_judge_51_4_47_J41 C _ (fun _ _ _ h => ih _ _ _ h) h)
set_option maxRecDepth 100000 in
set_option maxHeartbeats 4000000 in
theorem r_X3_judge_51_4_47 {a3 : Int32} {μ : Mem} {ρ : Mem} (h : f_X3_judge_51_4_47 a3 μ = some ρ) : HT 2 yX3_judge cX3_judge 7 none [.ref 51, .ref 4, .ref 47, .int a3] μ none ρ := by
  refine HT.of (by decide +kernel) (Nat.le_of_ble_eq_true rfl) (fun C => ?_)
  unfold f_X3_judge_51_4_47 at h
  refine wa_iconst (v := 0) C dX3_judge_0 (by decide) ?_
  refine wa_istore C dX3_judge_1 (by decide) ?_
  refine wa_aload_n C dX3_judge_3 rfl ?_
  refine wa_getr C fl_RX3_28 rfl rfl (by decide) dX3_judge_4 ?_
  refine wa_iload_n C dX3_judge_7 rfl ?_
  refine wa_iconst (v := 0) C dX3_judge_8 (by decide) ?_
  obtain ⟨g1, h⟩ := gd h
  refine wa_iast (j := (a3.toNatClampNeg)) C rfl (by decide) g1 rfl dX3_judge_9 ?_
  refine wa_iconst (v := 0) C dX3_judge_10 (by decide) ?_
  refine wa_istore C dX3_judge_11 (by decide) ?_
  exact WA.sub (lsub_c rfl (lsub_c rfl (lsub_c rfl (lsub_c rfl (lsub_c rfl (lsub_c rfl lsub_n)))))) (r_X3_judge_51_4_47_L13 C _ _ _ _ _ h)
def f_X3_prepare_51_1_4_47_L87 (k87 : Int32 → Mem → Option Mem) (a5 : Int32) (μ : Mem) : Option Mem :=
    if a5 < 0 then
      some μ
    else
      (f_X3_judge_51_4_47 a5 μ).bind fun q5 =>
      k87 (a5 + (-1)) q5
def f_X3_prepare_51_1_4_47_J66 (t1 : Int32) (μ : Mem) : Option Mem :=
  if inb (μ.1 51 1) 7 = false then none else
  it2 (f_X3_prepare_51_1_4_47_L87) FU ((μ.1 51 1) - (1 : Int32)) (pI (pI μ 51 2 t1) 54 ((μ.1 51 1).toNatClampNeg) (0 : Int32))
def f_X3_prepare_51_1_4_47_J45 (t0 : Int32) (μ : Mem) : Option Mem :=
  if t0 = 0 then
    f_X3_prepare_51_1_4_47_J66 (μ.1 51 1) μ
  else
    f_X3_prepare_51_1_4_47_J66 ((μ.1 51 1) / (2 : Int32)) μ
def f_X3_prepare_51_1_4_47 (μ : Mem) : Option Mem :=
  if ((((μ.1 47 1) &&& ((μ.1 47 2) ^^^ (-1 : Int32))) &&& (((μ.1 47 1) &&& ((μ.1 47 2) ^^^ (-1 : Int32))) >>> ((1 : Int32) &&& 31))) &&& (21 : Int32)) = 0 then
    f_X3_prepare_51_1_4_47_J45 (0 : Int32) (pI (pI μ 51 1 (μ.1 1 1)) 51 3 ((μ.1 47 1) &&& ((μ.1 47 2) ^^^ (-1 : Int32))))
  else
    f_X3_prepare_51_1_4_47_J45 (1 : Int32) (pI (pI μ 51 1 (μ.1 1 1)) 51 3 ((μ.1 47 1) &&& ((μ.1 47 2) ^^^ (-1 : Int32))))
set_option maxRecDepth 100000 in
set_option maxHeartbeats 4000000 in
theorem r_X3_prepare_51_1_4_47_L87 {p : Program} {l : Launch} {e : Env} {s : State} {m : MethodId} {args : Array Value} {below : List Frame} {meth : Method} {c : Code} {D : va_G} {cy : Nat → ClassId} {ad : Nat → Nat} (C : CX p s m args meth c cX3_prepare 6 RX3 none D cy ad (AD ad)) {ρ : Mem} : ∀ (n : Nat) (a5 : Int32) (μ : Mem), it2 (f_X3_prepare_51_1_4_47_L87) n a5 μ = some ρ → WA p l e (rmD 3) s m args below meth c 6 D cy ad (AD ad) 0 0 (ZZ below args s D cy ad (AD ad) 0 0 none ρ) μ [(0, .ref 51), (2, .ref 4), (3, .ref 47), (5, .int a5)] 87 [] := by
  intro n
  induction n with
  | zero =>
    intro a5 μ h
    exact absurd h (fun h => by cases h)
  | succ n ih =>
    intro a5 μ h
    replace h : f_X3_prepare_51_1_4_47_L87 (it2 (f_X3_prepare_51_1_4_47_L87) n) a5 μ = some ρ := h
    unfold f_X3_prepare_51_1_4_47_L87 at h
    refine wa_iload C dX3_prepare_87 rfl ?_
    refine wa_if_lt (tgt := 106) C dX3_prepare_89 (by decide) (fun c4 => ?_) (fun c4 => ?_)
    · replace h := (if_pos c4).symm.trans h
      obtain rfl := Option.some.inj h
      exact wa_vret C dX3_prepare_106
    · replace h := (if_neg c4).symm.trans h
      refine wa_aload_n C dX3_prepare_92 rfl ?_
      refine wa_aload_n C dX3_prepare_93 rfl ?_
      refine wa_aload_n C dX3_prepare_94 rfl ?_
      refine wa_iload C dX3_prepare_95 rfl ?_
      obtain ⟨q5, hq5, h⟩ := bd h
      refine wa_callV C (r_X3_judge_51_4_47 hq5) mk_X3_judge mv_X3_judge qw_868 rfl (by decide) rfl rfl ⟨Nat.le_of_ble_eq_true rfl, Nat.le_of_ble_eq_true rfl⟩ ⟨Nat.zero_le _, Nat.zero_le _⟩ (Nat.le_of_ble_eq_true rfl) dX3_prepare_97 rfl ?_
      refine wa_iinc (v := (a5 + (-1))) C dX3_prepare_100 rfl rfl (by decide) ?_
      refine wa_goto (tgt := 87) C dX3_prepare_103 (by decide) ?_
      exact WA.sub (lsub_c rfl (lsub_c rfl (lsub_c rfl (lsub_c rfl lsub_n)))) (ih _ _ h)
set_option maxRecDepth 100000 in
set_option maxHeartbeats 4000000 in
theorem r_X3_prepare_51_1_4_47_J66 {p : Program} {l : Launch} {e : Env} {s : State} {m : MethodId} {args : Array Value} {below : List Frame} {meth : Method} {c : Code} {D : va_G} {cy : Nat → ClassId} {ad : Nat → Nat} (C : CX p s m args meth c cX3_prepare 6 RX3 none D cy ad (AD ad)) {t1 : Int32} {μ : Mem} {ρ : Mem} (h : f_X3_prepare_51_1_4_47_J66 t1 μ = some ρ) : WA p l e (rmD 3) s m args below meth c 6 D cy ad (AD ad) 0 0 (ZZ below args s D cy ad (AD ad) 0 0 none ρ) μ [(0, .ref 51), (2, .ref 4), (3, .ref 47)] 66 [.int t1, .ref 51] := by
  unfold f_X3_prepare_51_1_4_47_J66 at h
  refine wa_puti C fl_RX3_19 fp_3_2 rfl rfl (by decide) rfl rfl dX3_prepare_66 ?_
  refine wa_aload_n C dX3_prepare_69 rfl ?_
  refine wa_getr C fl_RX3_31 rfl rfl (by decide) dX3_prepare_70 ?_
  refine wa_aload_n C dX3_prepare_73 rfl ?_
  refine wa_geti (x := (μ.1 51 1)) C fl_RX3_15 rfl rfl (by decide) rfl dX3_prepare_74 ?_
  refine wa_iconst (v := 0) C dX3_prepare_77 (by decide) ?_
  obtain ⟨g3, h⟩ := gd h
  refine wa_iast (j := ((μ.1 51 1).toNatClampNeg)) C rfl (by decide) g3 rfl dX3_prepare_78 ?_
  refine wa_aload_n C dX3_prepare_79 rfl ?_
  refine wa_geti (x := (μ.1 51 1)) C fl_RX3_15 rfl rfl (by decide) rfl dX3_prepare_80 ?_
  refine wa_iconst (v := 1) C dX3_prepare_83 (by decide) ?_
  refine wa_isub C dX3_prepare_84 ?_
  refine wa_istore C dX3_prepare_85 (by decide) ?_
  exact WA.sub (lsub_c rfl (lsub_c rfl (lsub_c rfl (lsub_c rfl lsub_n)))) (r_X3_prepare_51_1_4_47_L87 C  _ _ _ h)
set_option maxRecDepth 100000 in
set_option maxHeartbeats 4000000 in
theorem r_X3_prepare_51_1_4_47_J45 {p : Program} {l : Launch} {e : Env} {s : State} {m : MethodId} {args : Array Value} {below : List Frame} {meth : Method} {c : Code} {D : va_G} {cy : Nat → ClassId} {ad : Nat → Nat} (C : CX p s m args meth c cX3_prepare 6 RX3 none D cy ad (AD ad)) {t0 : Int32} {μ : Mem} {ρ : Mem} (h : f_X3_prepare_51_1_4_47_J45 t0 μ = some ρ) : WA p l e (rmD 3) s m args below meth c 6 D cy ad (AD ad) 0 0 (ZZ below args s D cy ad (AD ad) 0 0 none ρ) μ [(0, .ref 51), (2, .ref 4), (3, .ref 47)] 45 [.int t0] := by
  unfold f_X3_prepare_51_1_4_47_J45 at h
  refine wa_istore C dX3_prepare_45 (by decide) ?_
  refine wa_aload_n C dX3_prepare_47 rfl ?_
  refine wa_iload C dX3_prepare_48 rfl ?_
  refine wa_if_eq (tgt := 62) C dX3_prepare_50 (by decide) (fun c2 => ?_) (fun c2 => ?_)
  · replace h := (if_pos c2).symm.trans h
    refine wa_aload_n C dX3_prepare_62 rfl ?_
    refine wa_geti (x := (μ.1 51 1)) C fl_RX3_15 rfl rfl (by decide) rfl dX3_prepare_63 ?_
    exact WA.sub (lsub_c rfl (lsub_c rfl (lsub_c rfl lsub_n))) (r_X3_prepare_51_1_4_47_J66 C h)
  · replace h := (if_neg c2).symm.trans h
    refine wa_aload_n C dX3_prepare_53 rfl ?_
    refine wa_geti (x := (μ.1 51 1)) C fl_RX3_15 rfl rfl (by decide) rfl dX3_prepare_54 ?_
    refine wa_iconst (v := 2) C dX3_prepare_57 (by decide) ?_
    refine wa_idiv C dX3_prepare_58 (by decide) ?_
    refine wa_goto (tgt := 66) C dX3_prepare_59 (by decide) ?_
    exact WA.sub (lsub_c rfl (lsub_c rfl (lsub_c rfl lsub_n))) (r_X3_prepare_51_1_4_47_J66 C h)
set_option maxRecDepth 100000 in
set_option maxHeartbeats 4000000 in
theorem r_X3_prepare_51_1_4_47 {μ : Mem} {ρ : Mem} (h : f_X3_prepare_51_1_4_47 μ = some ρ) : HT 3 yX3_prepare cX3_prepare 6 none [.ref 51, .ref 1, .ref 4, .ref 47] μ none ρ := by
  refine HT.of (by decide +kernel) (Nat.le_of_ble_eq_true rfl) (fun C => ?_)
  unfold f_X3_prepare_51_1_4_47 at h
  refine wa_aload_n C dX3_prepare_0 rfl ?_
  refine wa_aload_n C dX3_prepare_1 rfl ?_
  refine wa_geti (x := (μ.1 1 1)) C fl_RX3_41 rfl rfl (by decide) rfl dX3_prepare_2 ?_
  refine wa_puti C fl_RX3_15 fp_3_1 rfl rfl (by decide) rfl rfl dX3_prepare_5 ?_
  refine wa_aload_n C dX3_prepare_8 rfl ?_
  refine wa_aload_n C dX3_prepare_9 rfl ?_
  refine wa_geti (x := (μ.1 47 1)) C fl_RX3_44 rfl rfl (by decide) rfl dX3_prepare_10 ?_
  refine wa_aload_n C dX3_prepare_13 rfl ?_
  refine wa_geti (x := (μ.1 47 2)) C fl_RX3_49 rfl rfl (by decide) rfl dX3_prepare_14 ?_
  refine wa_iconst (v := -1) C dX3_prepare_17 (by decide) ?_
  refine wa_ixor C dX3_prepare_18 ?_
  refine wa_iand C dX3_prepare_19 ?_
  refine wa_puti C fl_RX3_22 fp_3_3 rfl rfl (by decide) rfl rfl dX3_prepare_20 ?_
  refine wa_aload_n C dX3_prepare_23 rfl ?_
  refine wa_geti (x := ((μ.1 47 1) &&& ((μ.1 47 2) ^^^ (-1 : Int32)))) C fl_RX3_22 rfl rfl (by decide) rfl dX3_prepare_24 ?_
  refine wa_aload_n C dX3_prepare_27 rfl ?_
  refine wa_geti (x := ((μ.1 47 1) &&& ((μ.1 47 2) ^^^ (-1 : Int32)))) C fl_RX3_22 rfl rfl (by decide) rfl dX3_prepare_28 ?_
  refine wa_iconst (v := 1) C dX3_prepare_31 (by decide) ?_
  refine wa_ishr C dX3_prepare_32 ?_
  refine wa_iand C dX3_prepare_33 ?_
  refine wa_bipush (v := 21) C dX3_prepare_34 (by decide) ?_
  refine wa_iand C dX3_prepare_36 ?_
  refine wa_if_eq (tgt := 44) C dX3_prepare_37 (by decide) (fun c1 => ?_) (fun c1 => ?_)
  · replace h := (if_pos c1).symm.trans h
    refine wa_iconst (v := 0) C dX3_prepare_44 (by decide) ?_
    exact WA.sub (lsub_c rfl (lsub_c rfl (lsub_c rfl lsub_n))) (r_X3_prepare_51_1_4_47_J45 C h)
  · replace h := (if_neg c1).symm.trans h
    refine wa_iconst (v := 1) C dX3_prepare_40 (by decide) ?_
    refine wa_goto (tgt := 45) C dX3_prepare_41 (by decide) ?_
    exact WA.sub (lsub_c rfl (lsub_c rfl (lsub_c rfl lsub_n))) (r_X3_prepare_51_1_4_47_J45 C h)
def f_J7_fill_d0a16_56_L6 (a1 : Int64) (a4 : Int32) (k6 : Int32 → Mem → Option Mem) (a3 : Int32) (μ : Mem) : Option Mem :=
    if a4 ≤ a3 then
      some μ
    else
      if inb a3 384 = false then none else
      k6 (a3 + 1) (pL μ 56 (a3.toNatClampNeg) a1)
def f_J7_fill_d0a16_56 (a1 : Int64) (μ : Mem) : Option Mem :=
  it2 (f_J7_fill_d0a16_56_L6 a1 (384 : Int32)) FU (0 : Int32) μ
set_option maxRecDepth 100000 in
set_option maxHeartbeats 4000000 in
theorem r_J7_fill_d0a16_56_L6 {p : Program} {l : Launch} {e : Env} {s : State} {m : MethodId} {args : Array Value} {below : List Frame} {meth : Method} {c : Code} {D : va_G} {cy : Nat → ClassId} {ad : Nat → Nat} (C : CX p s m args meth c cJ7_fill_d0a16 5 RJ7 none D cy ad (AD ad)) (a1 : Int64) (a4 : Int32) {ρ : Mem} : ∀ (n : Nat) (a3 : Int32) (μ : Mem), it2 (f_J7_fill_d0a16_56_L6 a1 a4) n a3 μ = some ρ → WA p l e (rmD 0) s m args below meth c 5 D cy ad (AD ad) 0 0 (ZZ below args s D cy ad (AD ad) 0 0 none ρ) μ [(0, .ref 56), (1, .long a1), (3, .int a3), (4, .int a4)] 6 [] := by
  intro n
  induction n with
  | zero =>
    intro a3 μ h
    exact absurd h (fun h => by cases h)
  | succ n ih =>
    intro a3 μ h
    replace h : f_J7_fill_d0a16_56_L6 a1 a4 (it2 (f_J7_fill_d0a16_56_L6 a1 a4) n) a3 μ = some ρ := h
    unfold f_J7_fill_d0a16_56_L6 at h
    refine wa_iload_n C dJ7_fill_d0a16_6 rfl ?_
    refine wa_iload C dJ7_fill_d0a16_7 rfl ?_
    refine wa_icmp_ge (tgt := 22) C dJ7_fill_d0a16_9 (by decide) (fun c1 => ?_) (fun c1 => ?_)
    · replace h := (if_pos c1).symm.trans h
      obtain rfl := Option.some.inj h
      exact wa_vret C dJ7_fill_d0a16_22
    · replace h := (if_neg c1).symm.trans h
      refine wa_aload_n C dJ7_fill_d0a16_12 rfl ?_
      refine wa_iload_n C dJ7_fill_d0a16_13 rfl ?_
      refine wa_lload_n C dJ7_fill_d0a16_14 rfl ?_
      obtain ⟨g2, h⟩ := gd h
      refine wa_last (j := (a3.toNatClampNeg)) C rfl (by decide) g2 rfl dJ7_fill_d0a16_15 ?_
      refine wa_iinc (v := (a3 + 1)) C dJ7_fill_d0a16_16 rfl rfl (by decide) ?_
      refine wa_goto (tgt := 6) C dJ7_fill_d0a16_19 (by decide) ?_
      exact WA.sub (lsub_c rfl (lsub_c rfl (lsub_c rfl (lsub_c rfl lsub_n)))) (ih _ _ h)
set_option maxRecDepth 100000 in
set_option maxHeartbeats 4000000 in
theorem r_J7_fill_d0a16_56 {a1 : Int64} {μ : Mem} {ρ : Mem} (h : f_J7_fill_d0a16_56 a1 μ = some ρ) : HT 0 yJ7_fill_d0a16 cJ7_fill_d0a16 5 none [.ref 56, .long a1] μ none ρ := by
  refine HT.of (by decide +kernel) (Nat.le_of_ble_eq_true rfl) (fun C => ?_)
  unfold f_J7_fill_d0a16_56 at h
  refine wa_iconst (v := 0) C dJ7_fill_d0a16_0 (by decide) ?_
  refine wa_istore_n C dJ7_fill_d0a16_1 (by decide) ?_
  refine wa_aload_n C dJ7_fill_d0a16_2 rfl ?_
  refine wa_alen (v := 384) C rfl (by decide) (by decide) rfl dJ7_fill_d0a16_3 ?_
  refine wa_istore C dJ7_fill_d0a16_4 (by decide) ?_
  exact WA.sub (lsub_c rfl (lsub_c rfl (lsub_c rfl (lsub_c rfl lsub_n)))) (r_J7_fill_d0a16_56_L6 C _ _ _ _ _ h)
def f_X3_lack_51 (a1 : Int32) (a2 : Int32) (μ : Mem) : Option (Int32 × Mem) :=
  if inb a1 6 = false then none else
  if (μ.1 55 (a1.toNatClampNeg)) ≤ 0 then
    some ((0 : Int32), μ)
  else
    if (μ.1 51 4) ≤ 0 then
      some ((0 : Int32), μ)
    else
      if inb a1 6 = false then none else
      if (μ.1 55 (a1.toNatClampNeg)) = 0 then none else
      if (μ.1 51 4) = 0 then none else
      some (((a2 / (μ.1 55 (a1.toNatClampNeg))) - (a2 / (μ.1 55 (a1.toNatClampNeg))) / (μ.1 51 4) * (μ.1 51 4)), μ)
set_option maxRecDepth 100000 in
set_option maxHeartbeats 4000000 in
theorem r_X3_lack_51 {a1 : Int32} {a2 : Int32} {μ : Mem} {ρ : (Int32 × Mem)} (h : f_X3_lack_51 a1 a2 μ = some ρ) : HT 0 yX3_lack cX3_lack 3 (some .int) [.ref 51, .int a1, .int a2] μ (some (.int ρ.1)) ρ.2 := by
  refine HT.of (by decide +kernel) (Nat.le_of_ble_eq_true rfl) (fun C => ?_)
  unfold f_X3_lack_51 at h
  refine wa_aload_n C dX3_lack_0 rfl ?_
  refine wa_getr C fl_RX3_34 rfl rfl (by decide) dX3_lack_1 ?_
  refine wa_iload_n C dX3_lack_4 rfl ?_
  obtain ⟨g1, h⟩ := gd h
  refine wa_iald (j := (a1.toNatClampNeg)) (x := (μ.1 55 (a1.toNatClampNeg))) C rfl (by decide) g1 rfl rfl dX3_lack_5 ?_
  refine wa_if_le (tgt := 32) C dX3_lack_6 (by decide) (fun c2 => ?_) (fun c2 => ?_)
  · replace h := (if_pos c2).symm.trans h
    refine wa_iconst (v := 0) C dX3_lack_32 (by decide) ?_
    obtain rfl := Option.some.inj h
    exact wa_iret C dX3_lack_33
  · replace h := (if_neg c2).symm.trans h
    refine wa_aload_n C dX3_lack_9 rfl ?_
    refine wa_geti (x := (μ.1 51 4)) C fl_RX3_25 rfl rfl (by decide) rfl dX3_lack_10 ?_
    refine wa_if_le (tgt := 32) C dX3_lack_13 (by decide) (fun c3 => ?_) (fun c3 => ?_)
    · replace h := (if_pos c3).symm.trans h
      refine wa_iconst (v := 0) C dX3_lack_32 (by decide) ?_
      obtain rfl := Option.some.inj h
      exact wa_iret C dX3_lack_33
    · replace h := (if_neg c3).symm.trans h
      refine wa_iload_n C dX3_lack_16 rfl ?_
      refine wa_aload_n C dX3_lack_17 rfl ?_
      refine wa_getr C fl_RX3_34 rfl rfl (by decide) dX3_lack_18 ?_
      refine wa_iload_n C dX3_lack_21 rfl ?_
      obtain ⟨g4, h⟩ := gd h
      refine wa_iald (j := (a1.toNatClampNeg)) (x := (μ.1 55 (a1.toNatClampNeg))) C rfl (by decide) g4 rfl rfl dX3_lack_22 ?_
      obtain ⟨g5, h⟩ := gn h
      refine wa_idiv C dX3_lack_23 g5 ?_
      refine wa_aload_n C dX3_lack_24 rfl ?_
      refine wa_geti (x := (μ.1 51 4)) C fl_RX3_25 rfl rfl (by decide) rfl dX3_lack_25 ?_
      obtain ⟨g6, h⟩ := gn h
      refine wa_irem C dX3_lack_28 g6 ?_
      refine wa_goto (tgt := 33) C dX3_lack_29 (by decide) ?_
      obtain rfl := Option.some.inj h
      exact wa_iret C dX3_lack_33
def f_X3_codeBehind_51_J46 (k5 : Int32 → Int32 → Mem → Option (Int32 × Mem)) (a1 : Int32) (a2 : Int32) (a3 : Int32) (a4 : Int32) (μ : Mem) : Option (Int32 × Mem) :=
  k5 a3 (a4 + 1) μ
def f_X3_codeBehind_51_L5 (a1 : Int32) (a2 : Int32) (k5 : Int32 → Int32 → Mem → Option (Int32 × Mem)) (a3 : Int32) (a4 : Int32) (μ : Mem) : Option (Int32 × Mem) :=
    if (6 : Int32) ≤ a4 then
      some (a3, μ)
    else
      if inb a2 27 = false then none else
      if (((shuF (a2.toNatClampNeg)) >>> (a4 &&& 31)) &&& (1 : Int32)) = (1 : Int32) then
        (f_X3_lack_51 a4 a1 μ).bind fun q4 =>
        if q4.1 ≤ 0 then
          f_X3_codeBehind_51_J46 k5 a1 a2 a3 a4 q4.2
        else
          if inb a4 6 = false then none else
          f_X3_codeBehind_51_J46 k5 a1 a2 (a3 - (q4.2.1 55 (a4.toNatClampNeg))) a4 q4.2
      else
        f_X3_codeBehind_51_J46 k5 a1 a2 a3 a4 μ
def f_X3_codeBehind_51 (a1 : Int32) (a2 : Int32) (μ : Mem) : Option (Int32 × Mem) :=
  it3 (f_X3_codeBehind_51_L5 a1 a2) FU a1 (0 : Int32) μ
set_option maxRecDepth 100000 in
set_option maxHeartbeats 4000000 in
theorem r_X3_codeBehind_51_J46 {p : Program} {l : Launch} {e : Env} {s : State} {m : MethodId} {args : Array Value} {below : List Frame} {meth : Method} {c : Code} {D : va_G} {cy : Nat → ClassId} {ad : Nat → Nat} (C : CX p s m args meth c cX3_codeBehind 5 RX3 (some .int) D cy ad (AD ad)) {a1 : Int32} {a2 : Int32} {a3 : Int32} {a4 : Int32} {μ : Mem} {ρ : (Int32 × Mem)} (k5 : Int32 → Int32 → Mem → Option (Int32 × Mem)) (hk5 : ∀ (a3 : Int32) (a4 : Int32) (μ : Mem), k5 a3 a4 μ = some ρ → WA p l e (rmD 1) s m args below meth c 5 D cy ad (AD ad) 0 0 (ZZ below args s D cy ad (AD ad) 0 0 (some (.int ρ.1)) ρ.2) μ [(0, .ref 51), (1, .int a1), (2, .int a2), (3, .int a3), (4, .int a4)] 5 []) (h : f_X3_codeBehind_51_J46 k5 a1 a2 a3 a4 μ = some ρ) : WA p l e (rmD 1) s m args below meth c 5 D cy ad (AD ad) 0 0 (ZZ below args s D cy ad (AD ad) 0 0 (some (.int ρ.1)) ρ.2) μ [(0, .ref 51), (1, .int a1), (2, .int a2), (3, .int a3), (4, .int a4)] 46 [] := by
  unfold f_X3_codeBehind_51_J46 at h
  refine wa_iinc (v := (a4 + 1)) C dX3_codeBehind_46 rfl rfl (by decide) ?_
  refine wa_goto (tgt := 5) C dX3_codeBehind_49 (by decide) ?_
  exact WA.sub (lsub_c rfl (lsub_c rfl (lsub_c rfl (lsub_c rfl (lsub_c rfl lsub_n))))) (hk5 _ _ _ h)
set_option maxRecDepth 100000 in
set_option maxHeartbeats 4000000 in
theorem r_X3_codeBehind_51_L5 {p : Program} {l : Launch} {e : Env} {s : State} {m : MethodId} {args : Array Value} {below : List Frame} {meth : Method} {c : Code} {D : va_G} {cy : Nat → ClassId} {ad : Nat → Nat} (C : CX p s m args meth c cX3_codeBehind 5 RX3 (some .int) D cy ad (AD ad)) (a1 : Int32) (a2 : Int32) {ρ : (Int32 × Mem)} : ∀ (n : Nat) (a3 : Int32) (a4 : Int32) (μ : Mem), it3 (f_X3_codeBehind_51_L5 a1 a2) n a3 a4 μ = some ρ → WA p l e (rmD 1) s m args below meth c 5 D cy ad (AD ad) 0 0 (ZZ below args s D cy ad (AD ad) 0 0 (some (.int ρ.1)) ρ.2) μ [(0, .ref 51), (1, .int a1), (2, .int a2), (3, .int a3), (4, .int a4)] 5 [] := by
  intro n
  induction n with
  | zero =>
    intro a3 a4 μ h
    exact absurd h (fun h => by cases h)
  | succ n ih =>
    intro a3 a4 μ h
    replace h : f_X3_codeBehind_51_L5 a1 a2 (it3 (f_X3_codeBehind_51_L5 a1 a2) n) a3 a4 μ = some ρ := h
    unfold f_X3_codeBehind_51_L5 at h
    refine wa_iload C dX3_codeBehind_5 rfl ?_
    refine wa_bipush (v := 6) C dX3_codeBehind_7 (by decide) ?_
    refine wa_icmp_ge (tgt := 52) C dX3_codeBehind_9 (by decide) (fun c1 => ?_) (fun c1 => ?_)
    · replace h := (if_pos c1).symm.trans h
      refine wa_iload_n C dX3_codeBehind_52 rfl ?_
      obtain rfl := Option.some.inj h
      exact wa_iret C dX3_codeBehind_53
    · replace h := (if_neg c1).symm.trans h
      refine wa_gshu3 C dX3_codeBehind_12 ?_
      refine wa_iload_n C dX3_codeBehind_15 rfl ?_
      obtain ⟨g2, h⟩ := gd h
      refine wa_sald (j := (a2.toNatClampNeg)) C g2 rfl dX3_codeBehind_16 ?_
      refine wa_iload C dX3_codeBehind_17 rfl ?_
      refine wa_ishr C dX3_codeBehind_19 ?_
      refine wa_iconst (v := 1) C dX3_codeBehind_20 (by decide) ?_
      refine wa_iand C dX3_codeBehind_21 ?_
      refine wa_iconst (v := 1) C dX3_codeBehind_22 (by decide) ?_
      refine wa_icmp_ne (tgt := 46) C dX3_codeBehind_23 (by decide) (fun c3 => ?_) (fun c3 => ?_)
      · replace h := (if_neg c3).symm.trans h
        exact WA.sub (lsub_c rfl (lsub_c rfl (lsub_c rfl (lsub_c rfl (lsub_c rfl lsub_n))))) (r_X3_codeBehind_51_J46 C _ (fun _ _ _ h => ih _ _ _ h) h)
      · replace h := (if_pos c3).symm.trans h
        refine wa_aload_n C dX3_codeBehind_26 rfl ?_
        refine wa_iload C dX3_codeBehind_27 rfl ?_
        refine wa_iload_n C dX3_codeBehind_29 rfl ?_
        obtain ⟨q4, hq4, h⟩ := bd h
        refine wa_callV C (r_X3_lack_51 hq4) mk_X3_lack mv_X3_lack qw_896 rfl (by decide) rfl rfl ⟨Nat.le_of_ble_eq_true rfl, Nat.le_of_ble_eq_true rfl⟩ ⟨Nat.zero_le _, Nat.zero_le _⟩ (Nat.le_of_ble_eq_true rfl) dX3_codeBehind_30 rfl ?_
        refine wa_if_le (tgt := 46) C dX3_codeBehind_33 (by decide) (fun c5 => ?_) (fun c5 => ?_)
        · replace h := (if_pos c5).symm.trans h
          exact WA.sub (lsub_c rfl (lsub_c rfl (lsub_c rfl (lsub_c rfl (lsub_c rfl lsub_n))))) (r_X3_codeBehind_51_J46 C _ (fun _ _ _ h => ih _ _ _ h) h)
        · replace h := (if_neg c5).symm.trans h
          refine wa_iload_n C dX3_codeBehind_36 rfl ?_
          refine wa_aload_n C dX3_codeBehind_37 rfl ?_
          refine wa_getr C fl_RX3_34 rfl rfl (by decide) dX3_codeBehind_38 ?_
          refine wa_iload C dX3_codeBehind_41 rfl ?_
          obtain ⟨g6, h⟩ := gd h
          refine wa_iald (j := (a4.toNatClampNeg)) (x := (q4.2.1 55 (a4.toNatClampNeg))) C rfl (by decide) g6 rfl rfl dX3_codeBehind_43 ?_
          refine wa_isub C dX3_codeBehind_44 ?_
          refine wa_istore_n C dX3_codeBehind_45 (by decide) ?_
          exact WA.sub (lsub_c rfl (lsub_c rfl (lsub_c rfl (lsub_c rfl (lsub_c rfl lsub_n))))) (r_X3_codeBehind_51_J46 C _ (fun _ _ _ h => ih _ _ _ h) h)
set_option maxRecDepth 100000 in
set_option maxHeartbeats 4000000 in
theorem r_X3_codeBehind_51 {a1 : Int32} {a2 : Int32} {μ : Mem} {ρ : (Int32 × Mem)} (h : f_X3_codeBehind_51 a1 a2 μ = some ρ) : HT 1 yX3_codeBehind cX3_codeBehind 5 (some .int) [.ref 51, .int a1, .int a2] μ (some (.int ρ.1)) ρ.2 := by
  refine HT.of (by decide +kernel) (Nat.le_of_ble_eq_true rfl) (fun C => ?_)
  unfold f_X3_codeBehind_51 at h
  refine wa_iload_n C dX3_codeBehind_0 rfl ?_
  refine wa_istore_n C dX3_codeBehind_1 (by decide) ?_
  refine wa_iconst (v := 0) C dX3_codeBehind_2 (by decide) ?_
  refine wa_istore C dX3_codeBehind_3 (by decide) ?_
  exact WA.sub (lsub_c rfl (lsub_c rfl (lsub_c rfl (lsub_c rfl (lsub_c rfl lsub_n))))) (r_X3_codeBehind_51_L5 C _ _ _ _ _ _ h)
def f_X3_hasTime_51_L5 (a1 : Int32) (a2 : Int32) (k5 : Int32 → Int32 → Mem → Option (Int32 × Mem)) (a3 : Int32) (a4 : Int32) (μ : Mem) : Option (Int32 × Mem) :=
    if (3 : Int32) ≤ a4 then
      if inb a1 7 = false then none else
      if (μ.1 54 (a1.toNatClampNeg)) < a3 then
        some ((0 : Int32), μ)
      else
        some ((1 : Int32), μ)
    else
      (f_X3_lack_51 ((2 : Int32) * a4) a2 μ).bind fun q4 =>
      (f_X3_lack_51 (((2 : Int32) * a4) + (1 : Int32)) a2 q4.2).bind fun q5 =>
      if (q4.1 + q5.1) ≤ ((q5.2.1 51 1) - a1) then
        k5 (a3 + (q4.1 + q5.1)) (a4 + 1) q5.2
      else
        some ((0 : Int32), q5.2)
def f_X3_hasTime_51 (a1 : Int32) (a2 : Int32) (μ : Mem) : Option (Int32 × Mem) :=
  it3 (f_X3_hasTime_51_L5 a1 a2) FU (0 : Int32) (0 : Int32) μ
set_option maxRecDepth 100000 in
set_option maxHeartbeats 4000000 in
theorem r_X3_hasTime_51_L5 {p : Program} {l : Launch} {e : Env} {s : State} {m : MethodId} {args : Array Value} {below : List Frame} {meth : Method} {c : Code} {D : va_G} {cy : Nat → ClassId} {ad : Nat → Nat} (C : CX p s m args meth c cX3_hasTime 6 RX3 (some .boolean) D cy ad (AD ad)) (a1 : Int32) (a2 : Int32) {ρ : (Int32 × Mem)} : ∀ (n : Nat) (a3 : Int32) (a4 : Int32) (μ : Mem), it3 (f_X3_hasTime_51_L5 a1 a2) n a3 a4 μ = some ρ → WA p l e (rmD 1) s m args below meth c 6 D cy ad (AD ad) 0 0 (ZZ below args s D cy ad (AD ad) 0 0 (some (.int ρ.1)) ρ.2) μ [(0, .ref 51), (1, .int a1), (2, .int a2), (3, .int a3), (4, .int a4)] 5 [] := by
  intro n
  induction n with
  | zero =>
    intro a3 a4 μ h
    exact absurd h (fun h => by cases h)
  | succ n ih =>
    intro a3 a4 μ h
    replace h : f_X3_hasTime_51_L5 a1 a2 (it3 (f_X3_hasTime_51_L5 a1 a2) n) a3 a4 μ = some ρ := h
    unfold f_X3_hasTime_51_L5 at h
    refine wa_iload C dX3_hasTime_5 rfl ?_
    refine wa_iconst (v := 3) C dX3_hasTime_7 (by decide) ?_
    refine wa_icmp_ge (tgt := 58) C dX3_hasTime_8 (by decide) (fun c1 => ?_) (fun c1 => ?_)
    · replace h := (if_pos c1).symm.trans h
      refine wa_iload_n C dX3_hasTime_58 rfl ?_
      refine wa_aload_n C dX3_hasTime_59 rfl ?_
      refine wa_getr C fl_RX3_31 rfl rfl (by decide) dX3_hasTime_60 ?_
      refine wa_iload_n C dX3_hasTime_63 rfl ?_
      obtain ⟨g2, h⟩ := gd h
      refine wa_iald (j := (a1.toNatClampNeg)) (x := (μ.1 54 (a1.toNatClampNeg))) C rfl (by decide) g2 rfl rfl dX3_hasTime_64 ?_
      refine wa_icmp_gt (tgt := 72) C dX3_hasTime_65 (by decide) (fun c3 => ?_) (fun c3 => ?_)
      · replace h := (if_pos c3).symm.trans h
        refine wa_iconst (v := 0) C dX3_hasTime_72 (by decide) ?_
        obtain rfl := Option.some.inj h
        exact wa_zret C rfl dX3_hasTime_73
      · replace h := (if_neg c3).symm.trans h
        refine wa_iconst (v := 1) C dX3_hasTime_68 (by decide) ?_
        refine wa_goto (tgt := 73) C dX3_hasTime_69 (by decide) ?_
        obtain rfl := Option.some.inj h
        exact wa_zret C rfl dX3_hasTime_73
    · replace h := (if_neg c1).symm.trans h
      refine wa_aload_n C dX3_hasTime_11 rfl ?_
      refine wa_iconst (v := 2) C dX3_hasTime_12 (by decide) ?_
      refine wa_iload C dX3_hasTime_13 rfl ?_
      refine wa_imul C dX3_hasTime_15 ?_
      refine wa_iload_n C dX3_hasTime_16 rfl ?_
      obtain ⟨q4, hq4, h⟩ := bd h
      refine wa_callV C (r_X3_lack_51 hq4) mk_X3_lack mv_X3_lack qw_896 rfl (by decide) rfl rfl ⟨Nat.le_of_ble_eq_true rfl, Nat.le_of_ble_eq_true rfl⟩ ⟨Nat.zero_le _, Nat.zero_le _⟩ (Nat.le_of_ble_eq_true rfl) dX3_hasTime_17 rfl ?_
      refine wa_aload_n C dX3_hasTime_20 rfl ?_
      refine wa_iconst (v := 2) C dX3_hasTime_21 (by decide) ?_
      refine wa_iload C dX3_hasTime_22 rfl ?_
      refine wa_imul C dX3_hasTime_24 ?_
      refine wa_iconst (v := 1) C dX3_hasTime_25 (by decide) ?_
      refine wa_iadd C dX3_hasTime_26 ?_
      refine wa_iload_n C dX3_hasTime_27 rfl ?_
      obtain ⟨q5, hq5, h⟩ := bd h
      refine wa_callV C (r_X3_lack_51 hq5) mk_X3_lack mv_X3_lack qw_896 rfl (by decide) rfl rfl ⟨Nat.le_of_ble_eq_true rfl, Nat.le_of_ble_eq_true rfl⟩ ⟨Nat.zero_le _, Nat.zero_le _⟩ (Nat.le_of_ble_eq_true rfl) dX3_hasTime_28 rfl ?_
      refine wa_iadd C dX3_hasTime_31 ?_
      refine wa_istore C dX3_hasTime_32 (by decide) ?_
      refine wa_iload C dX3_hasTime_34 rfl ?_
      refine wa_aload_n C dX3_hasTime_36 rfl ?_
      refine wa_geti (x := (q5.2.1 51 1)) C fl_RX3_15 rfl rfl (by decide) rfl dX3_hasTime_37 ?_
      refine wa_iload_n C dX3_hasTime_40 rfl ?_
      refine wa_isub C dX3_hasTime_41 ?_
      refine wa_icmp_le (tgt := 47) C dX3_hasTime_42 (by decide) (fun c6 => ?_) (fun c6 => ?_)
      · replace h := (if_pos c6).symm.trans h
        refine wa_iload_n C dX3_hasTime_47 rfl ?_
        refine wa_iload C dX3_hasTime_48 rfl ?_
        refine wa_iadd C dX3_hasTime_50 ?_
        refine wa_istore_n C dX3_hasTime_51 (by decide) ?_
        refine wa_iinc (v := (a4 + 1)) C dX3_hasTime_52 rfl rfl (by decide) ?_
        refine wa_goto (tgt := 5) C dX3_hasTime_55 (by decide) ?_
        exact WA.sub (lsub_c rfl (lsub_c rfl (lsub_c rfl (lsub_c rfl (lsub_c rfl lsub_n))))) (ih _ _ _ h)
      · replace h := (if_neg c6).symm.trans h
        refine wa_iconst (v := 0) C dX3_hasTime_45 (by decide) ?_
        obtain rfl := Option.some.inj h
        exact wa_zret C rfl dX3_hasTime_46
set_option maxRecDepth 100000 in
set_option maxHeartbeats 4000000 in
theorem r_X3_hasTime_51 {a1 : Int32} {a2 : Int32} {μ : Mem} {ρ : (Int32 × Mem)} (h : f_X3_hasTime_51 a1 a2 μ = some ρ) : HT 1 yX3_hasTime cX3_hasTime 6 (some .boolean) [.ref 51, .int a1, .int a2] μ (some (.int ρ.1)) ρ.2 := by
  refine HT.of (by decide +kernel) (Nat.le_of_ble_eq_true rfl) (fun C => ?_)
  unfold f_X3_hasTime_51 at h
  refine wa_iconst (v := 0) C dX3_hasTime_0 (by decide) ?_
  refine wa_istore_n C dX3_hasTime_1 (by decide) ?_
  refine wa_iconst (v := 0) C dX3_hasTime_2 (by decide) ?_
  refine wa_istore C dX3_hasTime_3 (by decide) ?_
  exact WA.sub (lsub_c rfl (lsub_c rfl (lsub_c rfl (lsub_c rfl (lsub_c rfl lsub_n))))) (r_X3_hasTime_51_L5 C _ _ _ _ _ _ h)
def f_X3_reach_51_J14 (self : Int32 → Int32 → Mem → Option (Int32 × Mem)) (a2 : Int32) (μ : Mem) : Option (Int32 × Mem) :=
  if a2 = 0 then
    some ((1 : Int32), μ)
  else
    some ((0 : Int32), μ)
def f_X3_reach_51_J123 (self : Int32 → Int32 → Mem → Option (Int32 × Mem)) (k58 : Int32 → Mem → Option (Int32 × Mem)) (a1 : Int32) (a2 : Int32) (a3 : Int32) (a4 : Int32) (μ : Mem) : Option (Int32 × Mem) :=
  k58 (a4 + 1) μ
def f_X3_reach_51_L58 (self : Int32 → Int32 → Mem → Option (Int32 × Mem)) (a1 : Int32) (a2 : Int32) (a3 : Int32) (k58 : Int32 → Mem → Option (Int32 × Mem)) (a4 : Int32) (μ : Mem) : Option (Int32 × Mem) :=
    if (27 : Int32) ≤ a4 then
      if inb (a3 >>> ((6 : Int32) &&& 31)) 384 = false then none else
      if inb (a3 >>> ((6 : Int32) &&& 31)) 384 = false then none else
      some ((0 : Int32), (pL μ 56 ((a3 >>> ((6 : Int32) &&& 31)).toNatClampNeg) ((μ.2 56 ((a3 >>> ((6 : Int32) &&& 31)).toNatClampNeg)) ||| ((1 : Int64) <<< ((a3 &&& (63 : Int32)).toInt64 &&& 63)))))
    else
      if inb a1 6 = false then none else
      if (((μ.1 53 (a1.toNatClampNeg)) >>> (a4 &&& 31)) &&& (1 : Int32)) = (1 : Int32) then
        (f_X3_codeBehind_51 a2 a4 μ).bind fun q11 =>
        if inb a1 6 = false then none else
        (f_X3_hasTime_51 (a1 + (1 : Int32)) q11.1 (pI q11.2 52 (a1.toNatClampNeg) a4)).bind fun q13 =>
        if q13.1 = 0 then
          f_X3_reach_51_J123 self k58 a1 a2 a3 a4 q13.2
        else
          (self (a1 + (1 : Int32)) q11.1 q13.2).bind fun q15 =>
          if q15.1 = 0 then
            f_X3_reach_51_J123 self k58 a1 a2 a3 a4 q15.2
          else
            some ((1 : Int32), q15.2)
      else
        f_X3_reach_51_J123 self k58 a1 a2 a3 a4 μ
def f_X3_reach_51_B (self : Int32 → Int32 → Mem → Option (Int32 × Mem)) (a1 : Int32) (a2 : Int32) (μ : Mem) : Option (Int32 × Mem) :=
  if (μ.1 51 1) ≤ a1 then
    f_X3_reach_51_J14 self a2 μ
  else
    if a1 < (6 : Int32) then
      if inb (((a1 * (4096 : Int32)) + a2) >>> ((6 : Int32) &&& 31)) 384 = false then none else
      if (lg_cmp (((μ.2 56 ((((a1 * (4096 : Int32)) + a2) >>> ((6 : Int32) &&& 31)).toNatClampNeg)) >>> ((((a1 * (4096 : Int32)) + a2) &&& (63 : Int32)).toInt64 &&& 63)) &&& (1 : Int64)) (1 : Int64)) = 0 then
        some ((0 : Int32), μ)
      else
        it2 (f_X3_reach_51_L58 self a1 a2 ((a1 * (4096 : Int32)) + a2)) FU (0 : Int32) μ
    else
      f_X3_reach_51_J14 self a2 μ
def f_X3_reach_51 (a1 : Int32) (a2 : Int32) (μ : Mem) : Option (Int32 × Mem) := it3 f_X3_reach_51_B 12 a1 a2 μ
set_option maxRecDepth 100000 in
set_option maxHeartbeats 4000000 in
theorem r_X3_reach_51_J14 {p : Program} {l : Launch} {e : Env} {s : State} {m : MethodId} {args : Array Value} {below : List Frame} {meth : Method} {c : Code} {D : va_G} {cy : Nat → ClassId} {ad : Nat → Nat} (C : CX p s m args meth c cX3_reach 6 RX3 (some .boolean) D cy ad (AD ad)) {d0 : Nat} (hd0 : 2 ≤ d0) (self : Int32 → Int32 → Mem → Option (Int32 × Mem)) (hself : ∀ (a1 : Int32) (a2 : Int32) (μ : Mem) (ρ : (Int32 × Mem)), self a1 a2 μ = some ρ → HT d0 yX3_reach cX3_reach 6 (some .boolean) [.ref 51, .int a1, .int a2] μ (some (.int ρ.1)) ρ.2) {a2 : Int32} {μ : Mem} {ρ : (Int32 × Mem)} (h : f_X3_reach_51_J14 self a2 μ = some ρ) : WA p l e (rmD (d0 + 1)) s m args below meth c 6 D cy ad (AD ad) 0 0 (ZZ below args s D cy ad (AD ad) 0 0 (some (.int ρ.1)) ρ.2) μ [(2, .int a2)] 14 [] := by
  unfold f_X3_reach_51_J14 at h
  refine wa_iload_n C dX3_reach_14 rfl ?_
  refine wa_if_ne (tgt := 22) C dX3_reach_15 (by decide) (fun c2 => ?_) (fun c2 => ?_)
  · replace h := (if_neg c2).symm.trans h
    refine wa_iconst (v := 0) C dX3_reach_22 (by decide) ?_
    obtain rfl := Option.some.inj h
    exact wa_zret C rfl dX3_reach_23
  · replace h := (if_pos c2).symm.trans h
    refine wa_iconst (v := 1) C dX3_reach_18 (by decide) ?_
    refine wa_goto (tgt := 23) C dX3_reach_19 (by decide) ?_
    obtain rfl := Option.some.inj h
    exact wa_zret C rfl dX3_reach_23
set_option maxRecDepth 100000 in
set_option maxHeartbeats 4000000 in
theorem r_X3_reach_51_J123 {p : Program} {l : Launch} {e : Env} {s : State} {m : MethodId} {args : Array Value} {below : List Frame} {meth : Method} {c : Code} {D : va_G} {cy : Nat → ClassId} {ad : Nat → Nat} (C : CX p s m args meth c cX3_reach 6 RX3 (some .boolean) D cy ad (AD ad)) {d0 : Nat} (hd0 : 2 ≤ d0) (self : Int32 → Int32 → Mem → Option (Int32 × Mem)) (hself : ∀ (a1 : Int32) (a2 : Int32) (μ : Mem) (ρ : (Int32 × Mem)), self a1 a2 μ = some ρ → HT d0 yX3_reach cX3_reach 6 (some .boolean) [.ref 51, .int a1, .int a2] μ (some (.int ρ.1)) ρ.2) {a1 : Int32} {a2 : Int32} {a3 : Int32} {a4 : Int32} {μ : Mem} {ρ : (Int32 × Mem)} (k58 : Int32 → Mem → Option (Int32 × Mem)) (hk58 : ∀ (a4 : Int32) (μ : Mem), k58 a4 μ = some ρ → WA p l e (rmD (d0 + 1)) s m args below meth c 6 D cy ad (AD ad) 0 0 (ZZ below args s D cy ad (AD ad) 0 0 (some (.int ρ.1)) ρ.2) μ [(0, .ref 51), (1, .int a1), (2, .int a2), (3, .int a3), (4, .int a4)] 58 []) (h : f_X3_reach_51_J123 self k58 a1 a2 a3 a4 μ = some ρ) : WA p l e (rmD (d0 + 1)) s m args below meth c 6 D cy ad (AD ad) 0 0 (ZZ below args s D cy ad (AD ad) 0 0 (some (.int ρ.1)) ρ.2) μ [(0, .ref 51), (1, .int a1), (2, .int a2), (3, .int a3), (4, .int a4)] 123 [] := by
  unfold f_X3_reach_51_J123 at h
  refine wa_iinc (v := (a4 + 1)) C dX3_reach_123 rfl rfl (by decide) ?_
  refine wa_goto (tgt := 58) C dX3_reach_126 (by decide) ?_
  exact WA.sub (lsub_c rfl (lsub_c rfl (lsub_c rfl (lsub_c rfl (lsub_c rfl lsub_n))))) (hk58 _ _ h)
set_option maxRecDepth 100000 in
set_option maxHeartbeats 4000000 in
theorem r_X3_reach_51_L58 {p : Program} {l : Launch} {e : Env} {s : State} {m : MethodId} {args : Array Value} {below : List Frame} {meth : Method} {c : Code} {D : va_G} {cy : Nat → ClassId} {ad : Nat → Nat} (C : CX p s m args meth c cX3_reach 6 RX3 (some .boolean) D cy ad (AD ad)) {d0 : Nat} (hd0 : 2 ≤ d0) (self : Int32 → Int32 → Mem → Option (Int32 × Mem)) (hself : ∀ (a1 : Int32) (a2 : Int32) (μ : Mem) (ρ : (Int32 × Mem)), self a1 a2 μ = some ρ → HT d0 yX3_reach cX3_reach 6 (some .boolean) [.ref 51, .int a1, .int a2] μ (some (.int ρ.1)) ρ.2) (a1 : Int32) (a2 : Int32) (a3 : Int32) {ρ : (Int32 × Mem)} : ∀ (n : Nat) (a4 : Int32) (μ : Mem), it2 (f_X3_reach_51_L58 self a1 a2 a3) n a4 μ = some ρ → WA p l e (rmD (d0 + 1)) s m args below meth c 6 D cy ad (AD ad) 0 0 (ZZ below args s D cy ad (AD ad) 0 0 (some (.int ρ.1)) ρ.2) μ [(0, .ref 51), (1, .int a1), (2, .int a2), (3, .int a3), (4, .int a4)] 58 [] := by
  intro n
  induction n with
  | zero =>
    intro a4 μ h
    exact absurd h (fun h => by cases h)
  | succ n ih =>
    intro a4 μ h
    replace h : f_X3_reach_51_L58 self a1 a2 a3 (it2 (f_X3_reach_51_L58 self a1 a2 a3) n) a4 μ = some ρ := h
    unfold f_X3_reach_51_L58 at h
    refine wa_iload C dX3_reach_58 rfl ?_
    refine wa_bipush (v := 27) C dX3_reach_60 (by decide) ?_
    refine wa_icmp_ge (tgt := 129) C dX3_reach_62 (by decide) (fun c6 => ?_) (fun c6 => ?_)
    · replace h := (if_pos c6).symm.trans h
      refine wa_aload_n C dX3_reach_129 rfl ?_
      refine wa_getr C fl_RX3_37 rfl rfl (by decide) dX3_reach_130 ?_
      refine wa_iload_n C dX3_reach_133 rfl ?_
      refine wa_bipush (v := 6) C dX3_reach_134 (by decide) ?_
      refine wa_ishr C dX3_reach_136 ?_
      refine wa_dup2_11 C dX3_reach_137 rfl rfl ?_
      obtain ⟨g7, h⟩ := gd h
      refine wa_lald (j := ((a3 >>> ((6 : Int32) &&& 31)).toNatClampNeg)) (x := (μ.2 56 ((a3 >>> ((6 : Int32) &&& 31)).toNatClampNeg))) C rfl (by decide) g7 rfl rfl dX3_reach_138 ?_
      refine wa_lconst (v := 1) C dX3_reach_139 (by decide) ?_
      refine wa_iload_n C dX3_reach_140 rfl ?_
      refine wa_bipush (v := 63) C dX3_reach_141 (by decide) ?_
      refine wa_iand C dX3_reach_143 ?_
      refine wa_lshl (v := ((1 : Int64) <<< ((a3 &&& (63 : Int32)).toInt64 &&& 63))) C dX3_reach_144 rfl ?_
      refine wa_lor C dX3_reach_145 ?_
      obtain ⟨g8, h⟩ := gd h
      refine wa_last (j := ((a3 >>> ((6 : Int32) &&& 31)).toNatClampNeg)) C rfl (by decide) g8 rfl dX3_reach_146 ?_
      refine wa_iconst (v := 0) C dX3_reach_147 (by decide) ?_
      obtain rfl := Option.some.inj h
      exact wa_zret C rfl dX3_reach_148
    · replace h := (if_neg c6).symm.trans h
      refine wa_aload_n C dX3_reach_65 rfl ?_
      refine wa_getr C fl_RX3_28 rfl rfl (by decide) dX3_reach_66 ?_
      refine wa_iload_n C dX3_reach_69 rfl ?_
      obtain ⟨g9, h⟩ := gd h
      refine wa_iald (j := (a1.toNatClampNeg)) (x := (μ.1 53 (a1.toNatClampNeg))) C rfl (by decide) g9 rfl rfl dX3_reach_70 ?_
      refine wa_iload C dX3_reach_71 rfl ?_
      refine wa_ishr C dX3_reach_73 ?_
      refine wa_iconst (v := 1) C dX3_reach_74 (by decide) ?_
      refine wa_iand C dX3_reach_75 ?_
      refine wa_iconst (v := 1) C dX3_reach_76 (by decide) ?_
      refine wa_icmp_ne (tgt := 123) C dX3_reach_77 (by decide) (fun c10 => ?_) (fun c10 => ?_)
      · replace h := (if_neg c10).symm.trans h
        exact WA.sub (lsub_c rfl (lsub_c rfl (lsub_c rfl (lsub_c rfl (lsub_c rfl lsub_n))))) (r_X3_reach_51_J123 C hd0 _ hself _ (fun _ _ h => ih _ _ h) h)
      · replace h := (if_pos c10).symm.trans h
        refine wa_aload_n C dX3_reach_80 rfl ?_
        refine wa_iload_n C dX3_reach_81 rfl ?_
        refine wa_iload C dX3_reach_82 rfl ?_
        obtain ⟨q11, hq11, h⟩ := bd h
        refine wa_callV C (r_X3_codeBehind_51 hq11) mk_X3_codeBehind mv_X3_codeBehind qw_892 rfl (by decide) rfl rfl ⟨by simp only [rmD]; omega, by simp only [rmD]; omega⟩ ⟨Nat.zero_le _, Nat.zero_le _⟩ (Nat.le_of_ble_eq_true rfl) dX3_reach_84 rfl ?_
        refine wa_istore C dX3_reach_87 (by decide) ?_
        refine wa_aload_n C dX3_reach_89 rfl ?_
        refine wa_getr C fl_RX3_9 rfl rfl (by decide) dX3_reach_90 ?_
        refine wa_iload_n C dX3_reach_93 rfl ?_
        refine wa_iload C dX3_reach_94 rfl ?_
        obtain ⟨g12, h⟩ := gd h
        refine wa_iast (j := (a1.toNatClampNeg)) C rfl (by decide) g12 rfl dX3_reach_96 ?_
        refine wa_aload_n C dX3_reach_97 rfl ?_
        refine wa_iload_n C dX3_reach_98 rfl ?_
        refine wa_iconst (v := 1) C dX3_reach_99 (by decide) ?_
        refine wa_iadd C dX3_reach_100 ?_
        refine wa_iload C dX3_reach_101 rfl ?_
        obtain ⟨q13, hq13, h⟩ := bd h
        refine wa_callV C (r_X3_hasTime_51 hq13) mk_X3_hasTime mv_X3_hasTime qw_900 rfl (by decide) rfl rfl ⟨by simp only [rmD]; omega, by simp only [rmD]; omega⟩ ⟨Nat.zero_le _, Nat.zero_le _⟩ (Nat.le_of_ble_eq_true rfl) dX3_reach_103 rfl ?_
        refine wa_if_eq (tgt := 123) C dX3_reach_106 (by decide) (fun c14 => ?_) (fun c14 => ?_)
        · replace h := (if_pos c14).symm.trans h
          exact WA.sub (lsub_c rfl (lsub_c rfl (lsub_c rfl (lsub_c rfl (lsub_c rfl lsub_n))))) (r_X3_reach_51_J123 C hd0 _ hself _ (fun _ _ h => ih _ _ h) h)
        · replace h := (if_neg c14).symm.trans h
          refine wa_aload_n C dX3_reach_109 rfl ?_
          refine wa_iload_n C dX3_reach_110 rfl ?_
          refine wa_iconst (v := 1) C dX3_reach_111 (by decide) ?_
          refine wa_iadd C dX3_reach_112 ?_
          refine wa_iload C dX3_reach_113 rfl ?_
          obtain ⟨q15, hq15, h⟩ := bd h
          refine wa_callS C (hself _ _ _ _ hq15) mk_X3_reach ms_X3_reach qw_889 rfl ⟨by simp only [rmD]; omega, by simp only [rmD]; omega⟩ ⟨Nat.zero_le _, Nat.zero_le _⟩ (Nat.le_of_ble_eq_true rfl) dX3_reach_115 rfl ?_
          refine wa_if_eq (tgt := 123) C dX3_reach_118 (by decide) (fun c16 => ?_) (fun c16 => ?_)
          · replace h := (if_pos c16).symm.trans h
            exact WA.sub (lsub_c rfl (lsub_c rfl (lsub_c rfl (lsub_c rfl (lsub_c rfl lsub_n))))) (r_X3_reach_51_J123 C hd0 _ hself _ (fun _ _ h => ih _ _ h) h)
          · replace h := (if_neg c16).symm.trans h
            refine wa_iconst (v := 1) C dX3_reach_121 (by decide) ?_
            obtain rfl := Option.some.inj h
            exact wa_zret C rfl dX3_reach_122
set_option maxRecDepth 100000 in
set_option maxHeartbeats 4000000 in
theorem r_X3_reach_51_B : ∀ (n : Nat) (a1 : Int32) (a2 : Int32) (μ : Mem) (ρ : (Int32 × Mem)), it3 f_X3_reach_51_B n a1 a2 μ = some ρ → HT (2 + n) yX3_reach cX3_reach 6 (some .boolean) [.ref 51, .int a1, .int a2] μ (some (.int ρ.1)) ρ.2 := by
  intro n
  induction n with
  | zero =>
    intro a1 a2 μ ρ h
    exact absurd h (fun h => by cases h)
  | succ n hself =>
    intro a1 a2 μ ρ h
    have hd0 : 2 ≤ 2 + n := Nat.le_add_right _ _
    replace h : f_X3_reach_51_B (it3 f_X3_reach_51_B n) a1 a2 μ = some ρ := h
    refine HT.of (by decide +kernel) (Nat.le_of_ble_eq_true rfl) (fun C => ?_)
    unfold f_X3_reach_51_B at h
    refine wa_iload_n C dX3_reach_0 rfl ?_
    refine wa_aload_n C dX3_reach_1 rfl ?_
    refine wa_geti (x := (μ.1 51 1)) C fl_RX3_15 rfl rfl (by decide) rfl dX3_reach_2 ?_
    refine wa_icmp_ge (tgt := 14) C dX3_reach_5 (by decide) (fun c1 => ?_) (fun c1 => ?_)
    · replace h := (if_pos c1).symm.trans h
      exact WA.sub (lsub_c rfl lsub_n) (r_X3_reach_51_J14 C hd0 _ hself h)
    · replace h := (if_neg c1).symm.trans h
      refine wa_iload_n C dX3_reach_8 rfl ?_
      refine wa_bipush (v := 6) C dX3_reach_9 (by decide) ?_
      refine wa_icmp_lt (tgt := 24) C dX3_reach_11 (by decide) (fun c3 => ?_) (fun c3 => ?_)
      · replace h := (if_pos c3).symm.trans h
        refine wa_iload_n C dX3_reach_24 rfl ?_
        refine wa_sipush (v := 4096) C dX3_reach_25 (by decide) ?_
        refine wa_imul C dX3_reach_28 ?_
        refine wa_iload_n C dX3_reach_29 rfl ?_
        refine wa_iadd C dX3_reach_30 ?_
        refine wa_istore_n C dX3_reach_31 (by decide) ?_
        refine wa_aload_n C dX3_reach_32 rfl ?_
        refine wa_getr C fl_RX3_37 rfl rfl (by decide) dX3_reach_33 ?_
        refine wa_iload_n C dX3_reach_36 rfl ?_
        refine wa_bipush (v := 6) C dX3_reach_37 (by decide) ?_
        refine wa_ishr C dX3_reach_39 ?_
        obtain ⟨g4, h⟩ := gd h
        refine wa_lald (j := ((((a1 * (4096 : Int32)) + a2) >>> ((6 : Int32) &&& 31)).toNatClampNeg)) (x := (μ.2 56 ((((a1 * (4096 : Int32)) + a2) >>> ((6 : Int32) &&& 31)).toNatClampNeg))) C rfl (by decide) g4 rfl rfl dX3_reach_40 ?_
        refine wa_iload_n C dX3_reach_41 rfl ?_
        refine wa_bipush (v := 63) C dX3_reach_42 (by decide) ?_
        refine wa_iand C dX3_reach_44 ?_
        refine wa_lshr (v := ((μ.2 56 ((((a1 * (4096 : Int32)) + a2) >>> ((6 : Int32) &&& 31)).toNatClampNeg)) >>> ((((a1 * (4096 : Int32)) + a2) &&& (63 : Int32)).toInt64 &&& 63))) C dX3_reach_45 rfl ?_
        refine wa_lconst (v := 1) C dX3_reach_46 (by decide) ?_
        refine wa_land C dX3_reach_47 ?_
        refine wa_lconst (v := 1) C dX3_reach_48 (by decide) ?_
        refine wa_lcmp C dX3_reach_49 ?_
        refine wa_if_ne (tgt := 55) C dX3_reach_50 (by decide) (fun c5 => ?_) (fun c5 => ?_)
        · replace h := (if_neg c5).symm.trans h
          refine wa_iconst (v := 0) C dX3_reach_55 (by decide) ?_
          refine wa_istore C dX3_reach_56 (by decide) ?_
          exact WA.sub (lsub_c rfl (lsub_c rfl (lsub_c rfl (lsub_c rfl (lsub_c rfl lsub_n))))) (r_X3_reach_51_L58 C hd0 _ hself _ _ _ _ _ _ h)
        · replace h := (if_pos c5).symm.trans h
          refine wa_iconst (v := 0) C dX3_reach_53 (by decide) ?_
          obtain rfl := Option.some.inj h
          exact wa_zret C rfl dX3_reach_54
      · replace h := (if_neg c3).symm.trans h
        exact WA.sub (lsub_c rfl lsub_n) (r_X3_reach_51_J14 C hd0 _ hself h)
set_option maxRecDepth 100000 in
set_option maxHeartbeats 4000000 in
theorem r_X3_reach_51 {a1 : Int32} {a2 : Int32} {μ : Mem} {ρ : (Int32 × Mem)} (h : f_X3_reach_51 a1 a2 μ = some ρ) : HT (2 + 12) yX3_reach cX3_reach 6 (some .boolean) [.ref 51, .int a1, .int a2] μ (some (.int ρ.1)) ρ.2 := r_X3_reach_51_B 12 _ _ _ ρ h
def f_X3_find_51_J66 (k11 : Int32 → Int32 → Mem → Option (Int32 × Mem)) (a3 : Int32) (t0 : Int32) (t1 : Int32) (μ : Mem) : Option (Int32 × Mem) :=
  k11 (t0 * t1) (a3 + 1) μ
def f_X3_find_51_J51 (k11 : Int32 → Int32 → Mem → Option (Int32 × Mem)) (a2 : Int32) (a3 : Int32) (a4 : Int32) (t1 : Int32) (t2 : Int32) (μ : Mem) : Option (Int32 × Mem) :=
  if inb t1 6 = false then none else
  if a4 = 0 then
    f_X3_find_51_J66 k11 a3 a2 (1 : Int32) (pI μ 55 (t1.toNatClampNeg) t2)
  else
    f_X3_find_51_J66 k11 a3 a2 (μ.1 51 4) (pI μ 55 (t1.toNatClampNeg) t2)
def f_X3_find_51_J34 (k11 : Int32 → Int32 → Mem → Option (Int32 × Mem)) (a2 : Int32) (a3 : Int32) (t0 : Int32) (μ : Mem) : Option (Int32 × Mem) :=
  if t0 = 0 then
    f_X3_find_51_J51 k11 a2 a3 t0 a3 (0 : Int32) μ
  else
    f_X3_find_51_J51 k11 a2 a3 t0 a3 a2 μ
def f_X3_find_51_L11 (k11 : Int32 → Int32 → Mem → Option (Int32 × Mem)) (a2 : Int32) (a3 : Int32) (μ : Mem) : Option (Int32 × Mem) :=
    if (6 : Int32) ≤ a3 then
      if a2 ≤ (4096 : Int32) then
        (f_J7_fill_d0a16_56 (0 : Int64) μ).bind fun q3 =>
        (f_X3_reach_51 (0 : Int32) (a2 - (1 : Int32)) q3).bind fun q4 =>
        if zb q4.1 = false then none else
        some (q4.1, q4.2)
      else
        some ((0 : Int32), μ)
    else
      if (((μ.1 51 3) >>> (a3 &&& 31)) &&& (1 : Int32)) = (1 : Int32) then
        f_X3_find_51_J34 k11 a2 a3 (1 : Int32) μ
      else
        f_X3_find_51_J34 k11 a2 a3 (0 : Int32) μ
def f_X3_find_51 (a1 : Int32) (μ : Mem) : Option (Int32 × Mem) :=
  it3 (f_X3_find_51_L11) FU (1 : Int32) (0 : Int32) (pI μ 51 4 (a1 + (1 : Int32)))
set_option maxRecDepth 100000 in
set_option maxHeartbeats 4000000 in
theorem r_X3_find_51_J66 {p : Program} {l : Launch} {e : Env} {s : State} {m : MethodId} {args : Array Value} {below : List Frame} {meth : Method} {c : Code} {D : va_G} {cy : Nat → ClassId} {ad : Nat → Nat} (C : CX p s m args meth c cX3_find 5 RX3 (some .boolean) D cy ad (AD ad)) {a3 : Int32} {t0 : Int32} {t1 : Int32} {μ : Mem} {ρ : (Int32 × Mem)} (k11 : Int32 → Int32 → Mem → Option (Int32 × Mem)) (hk11 : ∀ (a2 : Int32) (a3 : Int32) (μ : Mem), k11 a2 a3 μ = some ρ → WA p l e (rmD 15) s m args below meth c 5 D cy ad (AD ad) 0 0 (ZZ below args s D cy ad (AD ad) 0 0 (some (.int ρ.1)) ρ.2) μ [(0, .ref 51), (2, .int a2), (3, .int a3)] 11 []) (h : f_X3_find_51_J66 k11 a3 t0 t1 μ = some ρ) : WA p l e (rmD 15) s m args below meth c 5 D cy ad (AD ad) 0 0 (ZZ below args s D cy ad (AD ad) 0 0 (some (.int ρ.1)) ρ.2) μ [(0, .ref 51), (3, .int a3)] 66 [.int t1, .int t0] := by
  unfold f_X3_find_51_J66 at h
  refine wa_imul C dX3_find_66 ?_
  refine wa_istore_n C dX3_find_67 (by decide) ?_
  refine wa_iinc (v := (a3 + 1)) C dX3_find_68 rfl rfl (by decide) ?_
  refine wa_goto (tgt := 11) C dX3_find_71 (by decide) ?_
  exact WA.sub (lsub_c rfl (lsub_c rfl (lsub_c rfl lsub_n))) (hk11 _ _ _ h)
set_option maxRecDepth 100000 in
set_option maxHeartbeats 4000000 in
theorem r_X3_find_51_J51 {p : Program} {l : Launch} {e : Env} {s : State} {m : MethodId} {args : Array Value} {below : List Frame} {meth : Method} {c : Code} {D : va_G} {cy : Nat → ClassId} {ad : Nat → Nat} (C : CX p s m args meth c cX3_find 5 RX3 (some .boolean) D cy ad (AD ad)) {a2 : Int32} {a3 : Int32} {a4 : Int32} {t1 : Int32} {t2 : Int32} {μ : Mem} {ρ : (Int32 × Mem)} (k11 : Int32 → Int32 → Mem → Option (Int32 × Mem)) (hk11 : ∀ (a2 : Int32) (a3 : Int32) (μ : Mem), k11 a2 a3 μ = some ρ → WA p l e (rmD 15) s m args below meth c 5 D cy ad (AD ad) 0 0 (ZZ below args s D cy ad (AD ad) 0 0 (some (.int ρ.1)) ρ.2) μ [(0, .ref 51), (2, .int a2), (3, .int a3)] 11 []) (h : f_X3_find_51_J51 k11 a2 a3 a4 t1 t2 μ = some ρ) : WA p l e (rmD 15) s m args below meth c 5 D cy ad (AD ad) 0 0 (ZZ below args s D cy ad (AD ad) 0 0 (some (.int ρ.1)) ρ.2) μ [(0, .ref 51), (2, .int a2), (3, .int a3), (4, .int a4)] 51 [.int t2, .int t1, .ref 55] := by
  unfold f_X3_find_51_J51 at h
  obtain ⟨g8, h⟩ := gd h
  refine wa_iast (j := (t1.toNatClampNeg)) C rfl (by decide) g8 rfl dX3_find_51 ?_
  refine wa_iload_n C dX3_find_52 rfl ?_
  refine wa_iload C dX3_find_53 rfl ?_
  refine wa_if_eq (tgt := 65) C dX3_find_55 (by decide) (fun c9 => ?_) (fun c9 => ?_)
  · replace h := (if_pos c9).symm.trans h
    refine wa_iconst (v := 1) C dX3_find_65 (by decide) ?_
    exact WA.sub (lsub_c rfl (lsub_c rfl lsub_n)) (r_X3_find_51_J66 C _ hk11 h)
  · replace h := (if_neg c9).symm.trans h
    refine wa_aload_n C dX3_find_58 rfl ?_
    refine wa_geti (x := (μ.1 51 4)) C fl_RX3_25 rfl rfl (by decide) rfl dX3_find_59 ?_
    refine wa_goto (tgt := 66) C dX3_find_62 (by decide) ?_
    exact WA.sub (lsub_c rfl (lsub_c rfl lsub_n)) (r_X3_find_51_J66 C _ hk11 h)
set_option maxRecDepth 100000 in
set_option maxHeartbeats 4000000 in
theorem r_X3_find_51_J34 {p : Program} {l : Launch} {e : Env} {s : State} {m : MethodId} {args : Array Value} {below : List Frame} {meth : Method} {c : Code} {D : va_G} {cy : Nat → ClassId} {ad : Nat → Nat} (C : CX p s m args meth c cX3_find 5 RX3 (some .boolean) D cy ad (AD ad)) {a2 : Int32} {a3 : Int32} {t0 : Int32} {μ : Mem} {ρ : (Int32 × Mem)} (k11 : Int32 → Int32 → Mem → Option (Int32 × Mem)) (hk11 : ∀ (a2 : Int32) (a3 : Int32) (μ : Mem), k11 a2 a3 μ = some ρ → WA p l e (rmD 15) s m args below meth c 5 D cy ad (AD ad) 0 0 (ZZ below args s D cy ad (AD ad) 0 0 (some (.int ρ.1)) ρ.2) μ [(0, .ref 51), (2, .int a2), (3, .int a3)] 11 []) (h : f_X3_find_51_J34 k11 a2 a3 t0 μ = some ρ) : WA p l e (rmD 15) s m args below meth c 5 D cy ad (AD ad) 0 0 (ZZ below args s D cy ad (AD ad) 0 0 (some (.int ρ.1)) ρ.2) μ [(0, .ref 51), (2, .int a2), (3, .int a3)] 34 [.int t0] := by
  unfold f_X3_find_51_J34 at h
  refine wa_istore C dX3_find_34 (by decide) ?_
  refine wa_aload_n C dX3_find_36 rfl ?_
  refine wa_getr C fl_RX3_34 rfl rfl (by decide) dX3_find_37 ?_
  refine wa_iload_n C dX3_find_40 rfl ?_
  refine wa_iload C dX3_find_41 rfl ?_
  refine wa_if_eq (tgt := 50) C dX3_find_43 (by decide) (fun c7 => ?_) (fun c7 => ?_)
  · replace h := (if_pos c7).symm.trans h
    refine wa_iconst (v := 0) C dX3_find_50 (by decide) ?_
    exact WA.sub (lsub_c rfl (lsub_c rfl (lsub_c rfl (lsub_c rfl lsub_n)))) (r_X3_find_51_J51 C _ hk11 h)
  · replace h := (if_neg c7).symm.trans h
    refine wa_iload_n C dX3_find_46 rfl ?_
    refine wa_goto (tgt := 51) C dX3_find_47 (by decide) ?_
    exact WA.sub (lsub_c rfl (lsub_c rfl (lsub_c rfl (lsub_c rfl lsub_n)))) (r_X3_find_51_J51 C _ hk11 h)
set_option maxRecDepth 100000 in
set_option maxHeartbeats 4000000 in
theorem r_X3_find_51_L11 {p : Program} {l : Launch} {e : Env} {s : State} {m : MethodId} {args : Array Value} {below : List Frame} {meth : Method} {c : Code} {D : va_G} {cy : Nat → ClassId} {ad : Nat → Nat} (C : CX p s m args meth c cX3_find 5 RX3 (some .boolean) D cy ad (AD ad)) {ρ : (Int32 × Mem)} : ∀ (n : Nat) (a2 : Int32) (a3 : Int32) (μ : Mem), it3 (f_X3_find_51_L11) n a2 a3 μ = some ρ → WA p l e (rmD 15) s m args below meth c 5 D cy ad (AD ad) 0 0 (ZZ below args s D cy ad (AD ad) 0 0 (some (.int ρ.1)) ρ.2) μ [(0, .ref 51), (2, .int a2), (3, .int a3)] 11 [] := by
  intro n
  induction n with
  | zero =>
    intro a2 a3 μ h
    exact absurd h (fun h => by cases h)
  | succ n ih =>
    intro a2 a3 μ h
    replace h : f_X3_find_51_L11 (it3 (f_X3_find_51_L11) n) a2 a3 μ = some ρ := h
    unfold f_X3_find_51_L11 at h
    refine wa_iload_n C dX3_find_11 rfl ?_
    refine wa_bipush (v := 6) C dX3_find_12 (by decide) ?_
    refine wa_icmp_ge (tgt := 74) C dX3_find_14 (by decide) (fun c1 => ?_) (fun c1 => ?_)
    · replace h := (if_pos c1).symm.trans h
      refine wa_iload_n C dX3_find_74 rfl ?_
      refine wa_sipush (v := 4096) C dX3_find_75 (by decide) ?_
      refine wa_icmp_le (tgt := 83) C dX3_find_78 (by decide) (fun c2 => ?_) (fun c2 => ?_)
      · replace h := (if_pos c2).symm.trans h
        refine wa_aload_n C dX3_find_83 rfl ?_
        refine wa_getr C fl_RX3_37 rfl rfl (by decide) dX3_find_84 ?_
        refine wa_lconst (v := 0) C dX3_find_87 (by decide) ?_
        obtain ⟨q3, hq3, h⟩ := bd h
        refine wa_callS C (r_J7_fill_d0a16_56 hq3) mk_J7_fill_d0a16 ms_J7_fill_d0a16 qw_886 rfl ⟨Nat.le_of_ble_eq_true rfl, Nat.le_of_ble_eq_true rfl⟩ ⟨Nat.zero_le _, Nat.zero_le _⟩ (Nat.le_of_ble_eq_true rfl) dX3_find_88 rfl ?_
        refine wa_aload_n C dX3_find_91 rfl ?_
        refine wa_iconst (v := 0) C dX3_find_92 (by decide) ?_
        refine wa_iload_n C dX3_find_93 rfl ?_
        refine wa_iconst (v := 1) C dX3_find_94 (by decide) ?_
        refine wa_isub C dX3_find_95 ?_
        obtain ⟨q4, hq4, h⟩ := bd h
        refine wa_callS C (r_X3_reach_51 hq4) mk_X3_reach ms_X3_reach qw_889 rfl ⟨Nat.le_of_ble_eq_true rfl, Nat.le_of_ble_eq_true rfl⟩ ⟨Nat.zero_le _, Nat.zero_le _⟩ (Nat.le_of_ble_eq_true rfl) dX3_find_96 rfl ?_
        obtain ⟨g5, h⟩ := gd h
        obtain rfl := Option.some.inj h
        exact wa_zret C g5 dX3_find_99
      · replace h := (if_neg c2).symm.trans h
        refine wa_iconst (v := 0) C dX3_find_81 (by decide) ?_
        obtain rfl := Option.some.inj h
        exact wa_zret C rfl dX3_find_82
    · replace h := (if_neg c1).symm.trans h
      refine wa_aload_n C dX3_find_17 rfl ?_
      refine wa_geti (x := (μ.1 51 3)) C fl_RX3_22 rfl rfl (by decide) rfl dX3_find_18 ?_
      refine wa_iload_n C dX3_find_21 rfl ?_
      refine wa_ishr C dX3_find_22 ?_
      refine wa_iconst (v := 1) C dX3_find_23 (by decide) ?_
      refine wa_iand C dX3_find_24 ?_
      refine wa_iconst (v := 1) C dX3_find_25 (by decide) ?_
      refine wa_icmp_ne (tgt := 33) C dX3_find_26 (by decide) (fun c6 => ?_) (fun c6 => ?_)
      · replace h := (if_neg c6).symm.trans h
        refine wa_iconst (v := 0) C dX3_find_33 (by decide) ?_
        exact WA.sub (lsub_c rfl (lsub_c rfl (lsub_c rfl lsub_n))) (r_X3_find_51_J34 C _ (fun _ _ _ h => ih _ _ _ h) h)
      · replace h := (if_pos c6).symm.trans h
        refine wa_iconst (v := 1) C dX3_find_29 (by decide) ?_
        refine wa_goto (tgt := 34) C dX3_find_30 (by decide) ?_
        exact WA.sub (lsub_c rfl (lsub_c rfl (lsub_c rfl lsub_n))) (r_X3_find_51_J34 C _ (fun _ _ _ h => ih _ _ _ h) h)
set_option maxRecDepth 100000 in
set_option maxHeartbeats 4000000 in
theorem r_X3_find_51 {a1 : Int32} {μ : Mem} {ρ : (Int32 × Mem)} (h : f_X3_find_51 a1 μ = some ρ) : HT 15 yX3_find cX3_find 5 (some .boolean) [.ref 51, .int a1] μ (some (.int ρ.1)) ρ.2 := by
  refine HT.of (by decide +kernel) (Nat.le_of_ble_eq_true rfl) (fun C => ?_)
  unfold f_X3_find_51 at h
  refine wa_aload_n C dX3_find_0 rfl ?_
  refine wa_iload_n C dX3_find_1 rfl ?_
  refine wa_iconst (v := 1) C dX3_find_2 (by decide) ?_
  refine wa_iadd C dX3_find_3 ?_
  refine wa_puti C fl_RX3_25 fp_3_4 rfl rfl (by decide) rfl rfl dX3_find_4 ?_
  refine wa_iconst (v := 1) C dX3_find_7 (by decide) ?_
  refine wa_istore_n C dX3_find_8 (by decide) ?_
  refine wa_iconst (v := 0) C dX3_find_9 (by decide) ?_
  refine wa_istore_n C dX3_find_10 (by decide) ?_
  exact WA.sub (lsub_c rfl (lsub_c rfl (lsub_c rfl lsub_n))) (r_X3_find_51_L11 C  _ _ _ _ h)
def f_X3_greatest_51_L2 (k2 : Int32 → Mem → Option (Int32 × Mem)) (a2 : Int32) (μ : Mem) : Option (Int32 × Mem) :=
    if (μ.1 51 2) ≤ a2 then
      some (a2, μ)
    else
      (f_X3_find_51 (a2 + (1 : Int32)) μ).bind fun q2 =>
      if q2.1 = 0 then
        some (a2, q2.2)
      else
        k2 (a2 + 1) q2.2
def f_X3_greatest_51 (a1 : Int32) (μ : Mem) : Option (Int32 × Mem) :=
  it2 (f_X3_greatest_51_L2) FU a1 μ
set_option maxRecDepth 100000 in
set_option maxHeartbeats 4000000 in
theorem r_X3_greatest_51_L2 {p : Program} {l : Launch} {e : Env} {s : State} {m : MethodId} {args : Array Value} {below : List Frame} {meth : Method} {c : Code} {D : va_G} {cy : Nat → ClassId} {ad : Nat → Nat} (C : CX p s m args meth c cX3_greatest 3 RX3 (some .int) D cy ad (AD ad)) {ρ : (Int32 × Mem)} : ∀ (n : Nat) (a2 : Int32) (μ : Mem), it2 (f_X3_greatest_51_L2) n a2 μ = some ρ → WA p l e (rmD 16) s m args below meth c 3 D cy ad (AD ad) 0 0 (ZZ below args s D cy ad (AD ad) 0 0 (some (.int ρ.1)) ρ.2) μ [(0, .ref 51), (2, .int a2)] 2 [] := by
  intro n
  induction n with
  | zero =>
    intro a2 μ h
    exact absurd h (fun h => by cases h)
  | succ n ih =>
    intro a2 μ h
    replace h : f_X3_greatest_51_L2 (it2 (f_X3_greatest_51_L2) n) a2 μ = some ρ := h
    unfold f_X3_greatest_51_L2 at h
    refine wa_iload_n C dX3_greatest_2 rfl ?_
    refine wa_aload_n C dX3_greatest_3 rfl ?_
    refine wa_geti (x := (μ.1 51 2)) C fl_RX3_19 rfl rfl (by decide) rfl dX3_greatest_4 ?_
    refine wa_icmp_ge (tgt := 26) C dX3_greatest_7 (by decide) (fun c1 => ?_) (fun c1 => ?_)
    · replace h := (if_pos c1).symm.trans h
      refine wa_iload_n C dX3_greatest_26 rfl ?_
      obtain rfl := Option.some.inj h
      exact wa_iret C dX3_greatest_27
    · replace h := (if_neg c1).symm.trans h
      refine wa_aload_n C dX3_greatest_10 rfl ?_
      refine wa_iload_n C dX3_greatest_11 rfl ?_
      refine wa_iconst (v := 1) C dX3_greatest_12 (by decide) ?_
      refine wa_iadd C dX3_greatest_13 ?_
      obtain ⟨q2, hq2, h⟩ := bd h
      refine wa_callV C (r_X3_find_51 hq2) mk_X3_find mv_X3_find qw_882 rfl (by decide) rfl rfl ⟨Nat.le_of_ble_eq_true rfl, Nat.le_of_ble_eq_true rfl⟩ ⟨Nat.zero_le _, Nat.zero_le _⟩ (Nat.le_of_ble_eq_true rfl) dX3_greatest_14 rfl ?_
      refine wa_if_eq (tgt := 26) C dX3_greatest_17 (by decide) (fun c3 => ?_) (fun c3 => ?_)
      · replace h := (if_pos c3).symm.trans h
        refine wa_iload_n C dX3_greatest_26 rfl ?_
        obtain rfl := Option.some.inj h
        exact wa_iret C dX3_greatest_27
      · replace h := (if_neg c3).symm.trans h
        refine wa_iinc (v := (a2 + 1)) C dX3_greatest_20 rfl rfl (by decide) ?_
        refine wa_goto (tgt := 2) C dX3_greatest_23 (by decide) ?_
        exact WA.sub (lsub_c rfl (lsub_c rfl lsub_n)) (ih _ _ h)
set_option maxRecDepth 100000 in
set_option maxHeartbeats 4000000 in
theorem r_X3_greatest_51 {a1 : Int32} {μ : Mem} {ρ : (Int32 × Mem)} (h : f_X3_greatest_51 a1 μ = some ρ) : HT 16 yX3_greatest cX3_greatest 3 (some .int) [.ref 51, .int a1] μ (some (.int ρ.1)) ρ.2 := by
  refine HT.of (by decide +kernel) (Nat.le_of_ble_eq_true rfl) (fun C => ?_)
  unfold f_X3_greatest_51 at h
  refine wa_iload_n C dX3_greatest_0 rfl ?_
  refine wa_istore_n C dX3_greatest_1 (by decide) ?_
  exact WA.sub (lsub_c rfl (lsub_c rfl lsub_n)) (r_X3_greatest_51_L2 C  _ _ _ h)
def f_X9_best_0_J26 (a1 : Int32) (μ : Mem) : Option (Int32 × Mem) :=
  (f_X9_look_0 μ).bind fun q2 =>
  (f_X3_prepare_51_1_4_47 q2).bind fun q3 =>
  (f_X3_greatest_51 (-1 : Int32) q3).bind fun q4 =>
  if 0 ≤ q4.1 then
    if a1 = 0 then
      some (q4.1, q4.2)
    else
      (f_X3_find_51 q4.1 q4.2).bind fun q7 =>
      if inb (a1 - (10 : Int32)) 6 = false then none else
      some ((q7.2.1 52 ((a1 - (10 : Int32)).toNatClampNeg)), q7.2)
  else
    some ((-4 : Int32), q4.2)
def f_X9_best_0 (a1 : Int32) (μ : Mem) : Option (Int32 × Mem) :=
  if a1 = 0 then
    f_X9_best_0_J26 a1 μ
  else
    if a1 < (10 : Int32) then
      some ((-1 : Int32), μ)
    else
      (f_X1_hasQuarter_1 (a1 - (10 : Int32)) μ).bind fun q10 =>
      if q10.1 = 0 then
        some ((-1 : Int32), q10.2)
      else
        f_X9_best_0_J26 a1 q10.2
set_option maxRecDepth 100000 in
set_option maxHeartbeats 4000000 in
theorem r_X9_best_0_J26 {p : Program} {l : Launch} {e : Env} {s : State} {m : MethodId} {args : Array Value} {below : List Frame} {meth : Method} {c : Code} {D : va_G} {cy : Nat → ClassId} {ad : Nat → Nat} (C : CX p s m args meth c cX9_best 3 RX9 (some .int) D cy ad (AD ad)) {a1 : Int32} {μ : Mem} {ρ : (Int32 × Mem)} (h : f_X9_best_0_J26 a1 μ = some ρ) : WA p l e (rmD 17) s m args below meth c 3 D cy ad (AD ad) 0 0 (ZZ below args s D cy ad (AD ad) 0 0 (some (.int ρ.1)) ρ.2) μ [(0, .ref 0), (1, .int a1)] 26 [] := by
  unfold f_X9_best_0_J26 at h
  refine wa_aload_n C dX9_best_26 rfl ?_
  refine wa_getr C fl_RX9_58 rfl rfl (by decide) dX9_best_27 ?_
  refine wa_aload_n C dX9_best_30 rfl ?_
  refine wa_getr C fl_RX9_10 rfl rfl (by decide) dX9_best_31 ?_
  refine wa_aload_n C dX9_best_34 rfl ?_
  refine wa_getr C fl_RX9_19 rfl rfl (by decide) dX9_best_35 ?_
  refine wa_aload_n C dX9_best_38 rfl ?_
  obtain ⟨q2, hq2, h⟩ := bd h
  refine wa_callV C (r_X9_look_0 hq2) mk_X9_look mv_X9_look qw_508 rfl (by decide) rfl rfl ⟨Nat.le_of_ble_eq_true rfl, Nat.le_of_ble_eq_true rfl⟩ ⟨Nat.zero_le _, Nat.zero_le _⟩ (Nat.le_of_ble_eq_true rfl) dX9_best_39 rfl ?_
  obtain ⟨q3, hq3, h⟩ := bd h
  refine wa_callV C (r_X3_prepare_51_1_4_47 hq3) mk_X3_prepare mv_X3_prepare qw_861 rfl (by decide) rfl rfl ⟨Nat.le_of_ble_eq_true rfl, Nat.le_of_ble_eq_true rfl⟩ ⟨Nat.zero_le _, Nat.zero_le _⟩ (Nat.le_of_ble_eq_true rfl) dX9_best_42 rfl ?_
  refine wa_aload_n C dX9_best_45 rfl ?_
  refine wa_getr C fl_RX9_58 rfl rfl (by decide) dX9_best_46 ?_
  refine wa_iconst (v := -1) C dX9_best_49 (by decide) ?_
  obtain ⟨q4, hq4, h⟩ := bd h
  refine wa_callV C (r_X3_greatest_51 hq4) mk_X3_greatest mv_X3_greatest qw_878 rfl (by decide) rfl rfl ⟨Nat.le_of_ble_eq_true rfl, Nat.le_of_ble_eq_true rfl⟩ ⟨Nat.zero_le _, Nat.zero_le _⟩ (Nat.le_of_ble_eq_true rfl) dX9_best_50 rfl ?_
  refine wa_istore_n C dX9_best_53 (by decide) ?_
  refine wa_iload_n C dX9_best_54 rfl ?_
  refine wa_if_ge (tgt := 61) C dX9_best_55 (by decide) (fun c5 => ?_) (fun c5 => ?_)
  · replace h := (if_pos c5).symm.trans h
    refine wa_iload_n C dX9_best_61 rfl ?_
    refine wa_if_ne (tgt := 67) C dX9_best_62 (by decide) (fun c6 => ?_) (fun c6 => ?_)
    · replace h := (if_neg c6).symm.trans h
      refine wa_aload_n C dX9_best_67 rfl ?_
      refine wa_getr C fl_RX9_58 rfl rfl (by decide) dX9_best_68 ?_
      refine wa_iload_n C dX9_best_71 rfl ?_
      obtain ⟨q7, hq7, h⟩ := bd h
      refine wa_callV C (r_X3_find_51 hq7) mk_X3_find mv_X3_find qw_904 rfl (by decide) rfl rfl ⟨Nat.le_of_ble_eq_true rfl, Nat.le_of_ble_eq_true rfl⟩ ⟨Nat.zero_le _, Nat.zero_le _⟩ (Nat.le_of_ble_eq_true rfl) dX9_best_72 rfl ?_
      refine wa_pop C dX9_best_75 rfl ?_
      refine wa_aload_n C dX9_best_76 rfl ?_
      refine wa_getr C fl_RX9_58 rfl rfl (by decide) dX9_best_77 ?_
      refine wa_getr C fl_RX9_225 rfl rfl (by decide) dX9_best_80 ?_
      refine wa_iload_n C dX9_best_83 rfl ?_
      refine wa_bipush (v := 10) C dX9_best_84 (by decide) ?_
      refine wa_isub C dX9_best_86 ?_
      obtain ⟨g8, h⟩ := gd h
      refine wa_iald (j := ((a1 - (10 : Int32)).toNatClampNeg)) (x := (q7.2.1 52 ((a1 - (10 : Int32)).toNatClampNeg))) C rfl (by decide) g8 rfl rfl dX9_best_87 ?_
      obtain rfl := Option.some.inj h
      exact wa_iret C dX9_best_88
    · replace h := (if_pos c6).symm.trans h
      refine wa_iload_n C dX9_best_65 rfl ?_
      obtain rfl := Option.some.inj h
      exact wa_iret C dX9_best_66
  · replace h := (if_neg c5).symm.trans h
    refine wa_bipush (v := -4) C dX9_best_58 (by decide) ?_
    obtain rfl := Option.some.inj h
    exact wa_iret C dX9_best_60
set_option maxRecDepth 100000 in
set_option maxHeartbeats 4000000 in
theorem r_X9_best_0 {a1 : Int32} {μ : Mem} {ρ : (Int32 × Mem)} (h : f_X9_best_0 a1 μ = some ρ) : HT 17 yX9_best cX9_best 3 (some .int) [.ref 0, .int a1] μ (some (.int ρ.1)) ρ.2 := by
  refine HT.of (by decide +kernel) (Nat.le_of_ble_eq_true rfl) (fun C => ?_)
  unfold f_X9_best_0 at h
  refine wa_iload_n C dX9_best_0 rfl ?_
  refine wa_if_eq (tgt := 26) C dX9_best_1 (by decide) (fun c1 => ?_) (fun c1 => ?_)
  · replace h := (if_pos c1).symm.trans h
    exact WA.sub (lsub_c rfl (lsub_c rfl lsub_n)) (r_X9_best_0_J26 C h)
  · replace h := (if_neg c1).symm.trans h
    refine wa_iload_n C dX9_best_4 rfl ?_
    refine wa_bipush (v := 10) C dX9_best_5 (by decide) ?_
    refine wa_icmp_lt (tgt := 24) C dX9_best_7 (by decide) (fun c9 => ?_) (fun c9 => ?_)
    · replace h := (if_pos c9).symm.trans h
      refine wa_iconst (v := -1) C dX9_best_24 (by decide) ?_
      obtain rfl := Option.some.inj h
      exact wa_iret C dX9_best_25
    · replace h := (if_neg c9).symm.trans h
      refine wa_aload_n C dX9_best_10 rfl ?_
      refine wa_getr C fl_RX9_10 rfl rfl (by decide) dX9_best_11 ?_
      refine wa_iload_n C dX9_best_14 rfl ?_
      refine wa_bipush (v := 10) C dX9_best_15 (by decide) ?_
      refine wa_isub C dX9_best_17 ?_
      obtain ⟨q10, hq10, h⟩ := bd h
      refine wa_callV C (r_X1_hasQuarter_1 hq10) mk_X1_hasQuarter mv_X1_hasQuarter qw_546 rfl (by decide) rfl rfl ⟨Nat.le_of_ble_eq_true rfl, Nat.le_of_ble_eq_true rfl⟩ ⟨Nat.zero_le _, Nat.zero_le _⟩ (Nat.le_of_ble_eq_true rfl) dX9_best_18 rfl ?_
      refine wa_if_ne (tgt := 26) C dX9_best_21 (by decide) (fun c11 => ?_) (fun c11 => ?_)
      · replace h := (if_neg c11).symm.trans h
        exact WA.sub (lsub_c rfl (lsub_c rfl lsub_n)) (r_X9_best_0_J26 C h)
      · replace h := (if_pos c11).symm.trans h
        refine wa_iconst (v := -1) C dX9_best_24 (by decide) ?_
        obtain rfl := Option.some.inj h
        exact wa_iret C dX9_best_25
def f_X10_mostTwo_62_J42 (k4 : Int32 → Int32 → Option (Int32 × Mem)) (a2 : Int32) (t0 : Int32) (μ : Mem) : Option (Int32 × Mem) :=
  k4 t0 (a2 + 1)
def f_X10_mostTwo_62_J37 (k4 : Int32 → Int32 → Option (Int32 × Mem)) (a2 : Int32) (μ : Mem) : Option (Int32 × Mem) :=
  f_X10_mostTwo_62_J42 k4 a2 (1 : Int32) μ
def f_X10_mostTwo_62_L4 (μ : Mem) (k4 : Int32 → Int32 → Option (Int32 × Mem)) (a1 : Int32) (a2 : Int32) : Option (Int32 × Mem) :=
    if (μ.1 62 28) ≤ a2 then
      if a1 = 0 then
        some ((μ.1 62 3), μ)
      else
        some (((μ.1 62 3) / (2 : Int32)), μ)
    else
      if a1 = 0 then
        if inb a2 6 = false then none else
        if inb (a2 - (1 : Int32)) 6 = false then none else
        if ((μ.1 72 (a2.toNatClampNeg)) / (2 : Int32)) = ((μ.1 72 ((a2 - (1 : Int32)).toNatClampNeg)) / (2 : Int32)) then
          f_X10_mostTwo_62_J37 k4 a2 μ
        else
          f_X10_mostTwo_62_J42 k4 a2 (0 : Int32) μ
      else
        f_X10_mostTwo_62_J37 k4 a2 μ
def f_X10_mostTwo_62 (μ : Mem) : Option (Int32 × Mem) :=
  it2 (f_X10_mostTwo_62_L4 μ) FU (0 : Int32) (1 : Int32)
set_option maxRecDepth 100000 in
set_option maxHeartbeats 4000000 in
theorem r_X10_mostTwo_62_J42 {p : Program} {l : Launch} {e : Env} {s : State} {m : MethodId} {args : Array Value} {below : List Frame} {meth : Method} {c : Code} {D : va_G} {cy : Nat → ClassId} {ad : Nat → Nat} (C : CX p s m args meth c cX10_mostTwo 3 RX10 (some .int) D cy ad (AD ad)) {a2 : Int32} {t0 : Int32} {μ : Mem} {ρ : (Int32 × Mem)} (k4 : Int32 → Int32 → Option (Int32 × Mem)) (hk4 : ∀ (a1 : Int32) (a2 : Int32), k4 a1 a2 = some ρ → WA p l e (rmD 0) s m args below meth c 3 D cy ad (AD ad) 0 0 (ZZ below args s D cy ad (AD ad) 0 0 (some (.int ρ.1)) ρ.2) μ [(0, .ref 62), (1, .int a1), (2, .int a2)] 4 []) (h : f_X10_mostTwo_62_J42 k4 a2 t0 μ = some ρ) : WA p l e (rmD 0) s m args below meth c 3 D cy ad (AD ad) 0 0 (ZZ below args s D cy ad (AD ad) 0 0 (some (.int ρ.1)) ρ.2) μ [(0, .ref 62), (2, .int a2)] 42 [.int t0] := by
  unfold f_X10_mostTwo_62_J42 at h
  refine wa_istore_n C dX10_mostTwo_42 (by decide) ?_
  refine wa_iinc (v := (a2 + 1)) C dX10_mostTwo_43 rfl rfl (by decide) ?_
  refine wa_goto (tgt := 4) C dX10_mostTwo_46 (by decide) ?_
  exact WA.sub (lsub_c rfl (lsub_c rfl (lsub_c rfl lsub_n))) (hk4 _ _ h)
set_option maxRecDepth 100000 in
set_option maxHeartbeats 4000000 in
theorem r_X10_mostTwo_62_J37 {p : Program} {l : Launch} {e : Env} {s : State} {m : MethodId} {args : Array Value} {below : List Frame} {meth : Method} {c : Code} {D : va_G} {cy : Nat → ClassId} {ad : Nat → Nat} (C : CX p s m args meth c cX10_mostTwo 3 RX10 (some .int) D cy ad (AD ad)) {a2 : Int32} {μ : Mem} {ρ : (Int32 × Mem)} (k4 : Int32 → Int32 → Option (Int32 × Mem)) (hk4 : ∀ (a1 : Int32) (a2 : Int32), k4 a1 a2 = some ρ → WA p l e (rmD 0) s m args below meth c 3 D cy ad (AD ad) 0 0 (ZZ below args s D cy ad (AD ad) 0 0 (some (.int ρ.1)) ρ.2) μ [(0, .ref 62), (1, .int a1), (2, .int a2)] 4 []) (h : f_X10_mostTwo_62_J37 k4 a2 μ = some ρ) : WA p l e (rmD 0) s m args below meth c 3 D cy ad (AD ad) 0 0 (ZZ below args s D cy ad (AD ad) 0 0 (some (.int ρ.1)) ρ.2) μ [(0, .ref 62), (2, .int a2)] 37 [] := by
  unfold f_X10_mostTwo_62_J37 at h
  refine wa_iconst (v := 1) C dX10_mostTwo_37 (by decide) ?_
  refine wa_goto (tgt := 42) C dX10_mostTwo_38 (by decide) ?_
  exact WA.sub (lsub_c rfl (lsub_c rfl lsub_n)) (r_X10_mostTwo_62_J42 C _ hk4 h)
set_option maxRecDepth 100000 in
set_option maxHeartbeats 4000000 in
theorem r_X10_mostTwo_62_L4 {p : Program} {l : Launch} {e : Env} {s : State} {m : MethodId} {args : Array Value} {below : List Frame} {meth : Method} {c : Code} {D : va_G} {cy : Nat → ClassId} {ad : Nat → Nat} (C : CX p s m args meth c cX10_mostTwo 3 RX10 (some .int) D cy ad (AD ad)) (μ : Mem) {ρ : (Int32 × Mem)} : ∀ (n : Nat) (a1 : Int32) (a2 : Int32), it2 (f_X10_mostTwo_62_L4 μ) n a1 a2 = some ρ → WA p l e (rmD 0) s m args below meth c 3 D cy ad (AD ad) 0 0 (ZZ below args s D cy ad (AD ad) 0 0 (some (.int ρ.1)) ρ.2) μ [(0, .ref 62), (1, .int a1), (2, .int a2)] 4 [] := by
  intro n
  induction n with
  | zero =>
    intro a1 a2 h
    exact absurd h (fun h => by cases h)
  | succ n ih =>
    intro a1 a2 h
    replace h : f_X10_mostTwo_62_L4 μ (it2 (f_X10_mostTwo_62_L4 μ) n) a1 a2 = some ρ := h
    unfold f_X10_mostTwo_62_L4 at h
    refine wa_iload_n C dX10_mostTwo_4 rfl ?_
    refine wa_aload_n C dX10_mostTwo_5 rfl ?_
    refine wa_geti (x := (μ.1 62 28)) C fl_RX10_273 rfl rfl (by decide) rfl dX10_mostTwo_6 ?_
    refine wa_icmp_ge (tgt := 49) C dX10_mostTwo_9 (by decide) (fun c1 => ?_) (fun c1 => ?_)
    · replace h := (if_pos c1).symm.trans h
      refine wa_iload_n C dX10_mostTwo_49 rfl ?_
      refine wa_if_eq (tgt := 62) C dX10_mostTwo_50 (by decide) (fun c2 => ?_) (fun c2 => ?_)
      · replace h := (if_pos c2).symm.trans h
        refine wa_aload_n C dX10_mostTwo_62 rfl ?_
        refine wa_geti (x := (μ.1 62 3)) C fl_RX10_97 rfl rfl (by decide) rfl dX10_mostTwo_63 ?_
        obtain rfl := Option.some.inj h
        exact wa_iret C dX10_mostTwo_66
      · replace h := (if_neg c2).symm.trans h
        refine wa_aload_n C dX10_mostTwo_53 rfl ?_
        refine wa_geti (x := (μ.1 62 3)) C fl_RX10_97 rfl rfl (by decide) rfl dX10_mostTwo_54 ?_
        refine wa_iconst (v := 2) C dX10_mostTwo_57 (by decide) ?_
        refine wa_idiv C dX10_mostTwo_58 (by decide) ?_
        refine wa_goto (tgt := 66) C dX10_mostTwo_59 (by decide) ?_
        obtain rfl := Option.some.inj h
        exact wa_iret C dX10_mostTwo_66
    · replace h := (if_neg c1).symm.trans h
      refine wa_iload_n C dX10_mostTwo_12 rfl ?_
      refine wa_if_ne (tgt := 37) C dX10_mostTwo_13 (by decide) (fun c3 => ?_) (fun c3 => ?_)
      · replace h := (if_neg c3).symm.trans h
        exact WA.sub (lsub_c rfl (lsub_c rfl lsub_n)) (r_X10_mostTwo_62_J37 C _ (fun _ _ h => ih _ _ h) h)
      · replace h := (if_pos c3).symm.trans h
        refine wa_aload_n C dX10_mostTwo_16 rfl ?_
        refine wa_getr C fl_RX10_38 rfl rfl (by decide) dX10_mostTwo_17 ?_
        refine wa_iload_n C dX10_mostTwo_20 rfl ?_
        obtain ⟨g4, h⟩ := gd h
        refine wa_iald (j := (a2.toNatClampNeg)) (x := (μ.1 72 (a2.toNatClampNeg))) C rfl (by decide) g4 rfl rfl dX10_mostTwo_21 ?_
        refine wa_iconst (v := 2) C dX10_mostTwo_22 (by decide) ?_
        refine wa_idiv C dX10_mostTwo_23 (by decide) ?_
        refine wa_aload_n C dX10_mostTwo_24 rfl ?_
        refine wa_getr C fl_RX10_38 rfl rfl (by decide) dX10_mostTwo_25 ?_
        refine wa_iload_n C dX10_mostTwo_28 rfl ?_
        refine wa_iconst (v := 1) C dX10_mostTwo_29 (by decide) ?_
        refine wa_isub C dX10_mostTwo_30 ?_
        obtain ⟨g5, h⟩ := gd h
        refine wa_iald (j := ((a2 - (1 : Int32)).toNatClampNeg)) (x := (μ.1 72 ((a2 - (1 : Int32)).toNatClampNeg))) C rfl (by decide) g5 rfl rfl dX10_mostTwo_31 ?_
        refine wa_iconst (v := 2) C dX10_mostTwo_32 (by decide) ?_
        refine wa_idiv C dX10_mostTwo_33 (by decide) ?_
        refine wa_icmp_ne (tgt := 41) C dX10_mostTwo_34 (by decide) (fun c6 => ?_) (fun c6 => ?_)
        · replace h := (if_neg c6).symm.trans h
          refine wa_iconst (v := 0) C dX10_mostTwo_41 (by decide) ?_
          exact WA.sub (lsub_c rfl (lsub_c rfl lsub_n)) (r_X10_mostTwo_62_J42 C _ (fun _ _ h => ih _ _ h) h)
        · replace h := (if_pos c6).symm.trans h
          exact WA.sub (lsub_c rfl (lsub_c rfl lsub_n)) (r_X10_mostTwo_62_J37 C _ (fun _ _ h => ih _ _ h) h)
set_option maxRecDepth 100000 in
set_option maxHeartbeats 4000000 in
theorem r_X10_mostTwo_62 {μ : Mem} {ρ : (Int32 × Mem)} (h : f_X10_mostTwo_62 μ = some ρ) : HT 0 yX10_mostTwo cX10_mostTwo 3 (some .int) [.ref 62] μ (some (.int ρ.1)) ρ.2 := by
  refine HT.of (by decide +kernel) (Nat.le_of_ble_eq_true rfl) (fun C => ?_)
  unfold f_X10_mostTwo_62 at h
  refine wa_iconst (v := 0) C dX10_mostTwo_0 (by decide) ?_
  refine wa_istore_n C dX10_mostTwo_1 (by decide) ?_
  refine wa_iconst (v := 1) C dX10_mostTwo_2 (by decide) ?_
  refine wa_istore_n C dX10_mostTwo_3 (by decide) ?_
  exact WA.sub (lsub_c rfl (lsub_c rfl (lsub_c rfl lsub_n))) (r_X10_mostTwo_62_L4 C _ _ _ _ h)
def f_X10_bestRest_62_J157 (a1 : Int32) (μ : Mem) : Option (Int32 × Mem) :=
  if 0 ≤ a1 then
    some (a1, μ)
  else
    some ((-4 : Int32), μ)
def f_X10_bestRest_62_L135 (k135 : Int32 → Mem → Option (Int32 × Mem)) (a1 : Int32) (μ : Mem) : Option (Int32 × Mem) :=
    if a1 < 0 then
      f_X10_bestRest_62_J157 a1 μ
    else
      (f_X10_canRest_62 (μ.1 62 3) a1 μ).bind fun q9 =>
      if q9.1 = 0 then
        k135 (a1 + (-1)) q9.2
      else
        f_X10_bestRest_62_J157 a1 q9.2
def f_X10_bestRest_62_J88 (k6 : Int32 → Mem → Option (Int32 × Mem)) (k16 : Int32 → Mem → Option (Int32 × Mem)) (a1 : Int32) (a2 : Int32) (t1 : Int32) (t2 : Int32) (μ : Mem) : Option (Int32 × Mem) :=
  if inb t1 162 = false then none else
  if zb t2 = false then none else
  k16 (a2 + 1) (pI μ 73 (t1.toNatClampNeg) t2)
def f_X10_bestRest_62_J87 (k6 : Int32 → Mem → Option (Int32 × Mem)) (k16 : Int32 → Mem → Option (Int32 × Mem)) (a1 : Int32) (a2 : Int32) (t1 : Int32) (μ : Mem) : Option (Int32 × Mem) :=
  f_X10_bestRest_62_J88 k6 k16 a1 a2 t1 (0 : Int32) μ
def f_X10_bestRest_62_J57 (k6 : Int32 → Mem → Option (Int32 × Mem)) (k16 : Int32 → Mem → Option (Int32 × Mem)) (a1 : Int32) (a2 : Int32) (t0 : Int32) (μ : Mem) : Option (Int32 × Mem) :=
  if t0 = 0 then
    (f_X10_isLawful_62 a1 a2 μ).bind fun q15 =>
    if q15.1 = 0 then
      f_X10_bestRest_62_J87 k6 k16 a1 a2 (((27 : Int32) * a1) + a2) q15.2
    else
      f_X10_bestRest_62_J88 k6 k16 a1 a2 (((27 : Int32) * a1) + a2) (1 : Int32) q15.2
  else
    f_X10_bestRest_62_J87 k6 k16 a1 a2 (((27 : Int32) * a1) + a2) μ
def f_X10_bestRest_62_J56 (k6 : Int32 → Mem → Option (Int32 × Mem)) (k16 : Int32 → Mem → Option (Int32 × Mem)) (a1 : Int32) (a2 : Int32) (μ : Mem) : Option (Int32 × Mem) :=
  f_X10_bestRest_62_J57 k6 k16 a1 a2 (0 : Int32) μ
def f_X10_bestRest_62_L16 (a1 : Int32) (k6 : Int32 → Mem → Option (Int32 × Mem)) (k16 : Int32 → Mem → Option (Int32 × Mem)) (a2 : Int32) (μ : Mem) : Option (Int32 × Mem) :=
    if (μ.1 62 4) ≤ a2 then
      k6 (a1 + 1) μ
    else
      (f_X10_shutBy_62 a2 μ).bind fun q12 =>
      if (q12.2.1 62 26) ≤ 0 then
        f_X10_bestRest_62_J56 k6 k16 a1 a2 q12.2
      else
        if ((q12.1 >>> (((2 : Int32) * ((q12.2.1 62 26) - (1 : Int32))) &&& 31)) &&& (3 : Int32)) = 0 then
          f_X10_bestRest_62_J56 k6 k16 a1 a2 q12.2
        else
          f_X10_bestRest_62_J57 k6 k16 a1 a2 (1 : Int32) q12.2
def f_X10_bestRest_62_L6 (k6 : Int32 → Mem → Option (Int32 × Mem)) (a1 : Int32) (μ : Mem) : Option (Int32 × Mem) :=
    if (μ.1 62 3) ≤ a1 then
      if (μ.1 62 28) = 0 then
        (f_X10_canRest_62 (μ.1 62 3) (0 : Int32) μ).bind fun q4 =>
        if q4.1 = 0 then
          some ((-4 : Int32), q4.2)
        else
          some ((q4.2.1 62 3), q4.2)
      else
        (f_X10_mostTwo_62 μ).bind fun q6 =>
        it2 (f_X10_bestRest_62_L135) FU q6.1 q6.2
    else
      it2 (f_X10_bestRest_62_L16 a1 k6) FU (0 : Int32) μ
def f_X10_bestRest_62 (μ : Mem) : Option (Int32 × Mem) :=
  (f_X10_findEyes_62 μ).bind fun q1 =>
  it2 (f_X10_bestRest_62_L6) FU (0 : Int32) q1
set_option maxRecDepth 100000 in
set_option maxHeartbeats 4000000 in
theorem r_X10_bestRest_62_J157 {p : Program} {l : Launch} {e : Env} {s : State} {m : MethodId} {args : Array Value} {below : List Frame} {meth : Method} {c : Code} {D : va_G} {cy : Nat → ClassId} {ad : Nat → Nat} (C : CX p s m args meth c cX10_bestRest 5 RX10 (some .int) D cy ad (AD ad)) {a1 : Int32} {μ : Mem} {ρ : (Int32 × Mem)} (h : f_X10_bestRest_62_J157 a1 μ = some ρ) : WA p l e (rmD 4) s m args below meth c 5 D cy ad (AD ad) 0 0 (ZZ below args s D cy ad (AD ad) 0 0 (some (.int ρ.1)) ρ.2) μ [(1, .int a1)] 157 [] := by
  unfold f_X10_bestRest_62_J157 at h
  refine wa_iload_n C dX10_bestRest_157 rfl ?_
  refine wa_if_ge (tgt := 166) C dX10_bestRest_158 (by decide) (fun c8 => ?_) (fun c8 => ?_)
  · replace h := (if_pos c8).symm.trans h
    refine wa_iload_n C dX10_bestRest_166 rfl ?_
    obtain rfl := Option.some.inj h
    exact wa_iret C dX10_bestRest_167
  · replace h := (if_neg c8).symm.trans h
    refine wa_bipush (v := -4) C dX10_bestRest_161 (by decide) ?_
    refine wa_goto (tgt := 167) C dX10_bestRest_163 (by decide) ?_
    obtain rfl := Option.some.inj h
    exact wa_iret C dX10_bestRest_167
set_option maxRecDepth 100000 in
set_option maxHeartbeats 4000000 in
theorem r_X10_bestRest_62_L135 {p : Program} {l : Launch} {e : Env} {s : State} {m : MethodId} {args : Array Value} {below : List Frame} {meth : Method} {c : Code} {D : va_G} {cy : Nat → ClassId} {ad : Nat → Nat} (C : CX p s m args meth c cX10_bestRest 5 RX10 (some .int) D cy ad (AD ad)) {ρ : (Int32 × Mem)} : ∀ (n : Nat) (a1 : Int32) (μ : Mem), it2 (f_X10_bestRest_62_L135) n a1 μ = some ρ → WA p l e (rmD 4) s m args below meth c 5 D cy ad (AD ad) 0 0 (ZZ below args s D cy ad (AD ad) 0 0 (some (.int ρ.1)) ρ.2) μ [(0, .ref 62), (1, .int a1)] 135 [] := by
  intro n
  induction n with
  | zero =>
    intro a1 μ h
    exact absurd h (fun h => by cases h)
  | succ n ih =>
    intro a1 μ h
    replace h : f_X10_bestRest_62_L135 (it2 (f_X10_bestRest_62_L135) n) a1 μ = some ρ := h
    unfold f_X10_bestRest_62_L135 at h
    refine wa_iload_n C dX10_bestRest_135 rfl ?_
    refine wa_if_lt (tgt := 157) C dX10_bestRest_136 (by decide) (fun c7 => ?_) (fun c7 => ?_)
    · replace h := (if_pos c7).symm.trans h
      exact WA.sub (lsub_c rfl lsub_n) (r_X10_bestRest_62_J157 C h)
    · replace h := (if_neg c7).symm.trans h
      refine wa_aload_n C dX10_bestRest_139 rfl ?_
      refine wa_aload_n C dX10_bestRest_140 rfl ?_
      refine wa_geti (x := (μ.1 62 3)) C fl_RX10_97 rfl rfl (by decide) rfl dX10_bestRest_141 ?_
      refine wa_iload_n C dX10_bestRest_144 rfl ?_
      obtain ⟨q9, hq9, h⟩ := bd h
      refine wa_callV C (r_X10_canRest_62 hq9) mk_X10_canRest mv_X10_canRest qw_838 rfl (by decide) rfl rfl ⟨Nat.le_of_ble_eq_true rfl, Nat.le_of_ble_eq_true rfl⟩ ⟨Nat.zero_le _, Nat.zero_le _⟩ (Nat.le_of_ble_eq_true rfl) dX10_bestRest_145 rfl ?_
      refine wa_if_ne (tgt := 157) C dX10_bestRest_148 (by decide) (fun c10 => ?_) (fun c10 => ?_)
      · replace h := (if_neg c10).symm.trans h
        exact WA.sub (lsub_c rfl lsub_n) (r_X10_bestRest_62_J157 C h)
      · replace h := (if_pos c10).symm.trans h
        refine wa_iinc (v := (a1 + (-1))) C dX10_bestRest_151 rfl rfl (by decide) ?_
        refine wa_goto (tgt := 135) C dX10_bestRest_154 (by decide) ?_
        exact WA.sub (lsub_c rfl (lsub_c rfl lsub_n)) (ih _ _ h)
set_option maxRecDepth 100000 in
set_option maxHeartbeats 4000000 in
theorem r_X10_bestRest_62_J88 {p : Program} {l : Launch} {e : Env} {s : State} {m : MethodId} {args : Array Value} {below : List Frame} {meth : Method} {c : Code} {D : va_G} {cy : Nat → ClassId} {ad : Nat → Nat} (C : CX p s m args meth c cX10_bestRest 5 RX10 (some .int) D cy ad (AD ad)) {a1 : Int32} {a2 : Int32} {t1 : Int32} {t2 : Int32} {μ : Mem} {ρ : (Int32 × Mem)} (k6 : Int32 → Mem → Option (Int32 × Mem)) (hk6 : ∀ (a1 : Int32) (μ : Mem), k6 a1 μ = some ρ → WA p l e (rmD 4) s m args below meth c 5 D cy ad (AD ad) 0 0 (ZZ below args s D cy ad (AD ad) 0 0 (some (.int ρ.1)) ρ.2) μ [(0, .ref 62), (1, .int a1)] 6 []) (k16 : Int32 → Mem → Option (Int32 × Mem)) (hk16 : ∀ (a2 : Int32) (μ : Mem), k16 a2 μ = some ρ → WA p l e (rmD 4) s m args below meth c 5 D cy ad (AD ad) 0 0 (ZZ below args s D cy ad (AD ad) 0 0 (some (.int ρ.1)) ρ.2) μ [(0, .ref 62), (1, .int a1), (2, .int a2)] 16 []) (h : f_X10_bestRest_62_J88 k6 k16 a1 a2 t1 t2 μ = some ρ) : WA p l e (rmD 4) s m args below meth c 5 D cy ad (AD ad) 0 0 (ZZ below args s D cy ad (AD ad) 0 0 (some (.int ρ.1)) ρ.2) μ [(0, .ref 62), (1, .int a1), (2, .int a2)] 88 [.int t2, .int t1, .ref 73] := by
  unfold f_X10_bestRest_62_J88 at h
  obtain ⟨g17, h⟩ := gd h
  obtain ⟨g18, h⟩ := gd h
  refine wa_zast (j := (t1.toNatClampNeg)) C rfl (by decide) g17 rfl g18 dX10_bestRest_88 ?_
  refine wa_iinc (v := (a2 + 1)) C dX10_bestRest_89 rfl rfl (by decide) ?_
  refine wa_goto (tgt := 16) C dX10_bestRest_92 (by decide) ?_
  exact WA.sub (lsub_c rfl (lsub_c rfl (lsub_c rfl lsub_n))) (hk16 _ _ h)
set_option maxRecDepth 100000 in
set_option maxHeartbeats 4000000 in
theorem r_X10_bestRest_62_J87 {p : Program} {l : Launch} {e : Env} {s : State} {m : MethodId} {args : Array Value} {below : List Frame} {meth : Method} {c : Code} {D : va_G} {cy : Nat → ClassId} {ad : Nat → Nat} (C : CX p s m args meth c cX10_bestRest 5 RX10 (some .int) D cy ad (AD ad)) {a1 : Int32} {a2 : Int32} {t1 : Int32} {μ : Mem} {ρ : (Int32 × Mem)} (k6 : Int32 → Mem → Option (Int32 × Mem)) (hk6 : ∀ (a1 : Int32) (μ : Mem), k6 a1 μ = some ρ → WA p l e (rmD 4) s m args below meth c 5 D cy ad (AD ad) 0 0 (ZZ below args s D cy ad (AD ad) 0 0 (some (.int ρ.1)) ρ.2) μ [(0, .ref 62), (1, .int a1)] 6 []) (k16 : Int32 → Mem → Option (Int32 × Mem)) (hk16 : ∀ (a2 : Int32) (μ : Mem), k16 a2 μ = some ρ → WA p l e (rmD 4) s m args below meth c 5 D cy ad (AD ad) 0 0 (ZZ below args s D cy ad (AD ad) 0 0 (some (.int ρ.1)) ρ.2) μ [(0, .ref 62), (1, .int a1), (2, .int a2)] 16 []) (h : f_X10_bestRest_62_J87 k6 k16 a1 a2 t1 μ = some ρ) : WA p l e (rmD 4) s m args below meth c 5 D cy ad (AD ad) 0 0 (ZZ below args s D cy ad (AD ad) 0 0 (some (.int ρ.1)) ρ.2) μ [(0, .ref 62), (1, .int a1), (2, .int a2)] 87 [.int t1, .ref 73] := by
  unfold f_X10_bestRest_62_J87 at h
  refine wa_iconst (v := 0) C dX10_bestRest_87 (by decide) ?_
  exact WA.sub (lsub_c rfl (lsub_c rfl (lsub_c rfl lsub_n))) (r_X10_bestRest_62_J88 C _ hk6 _ hk16 h)
set_option maxRecDepth 100000 in
set_option maxHeartbeats 4000000 in
theorem r_X10_bestRest_62_J57 {p : Program} {l : Launch} {e : Env} {s : State} {m : MethodId} {args : Array Value} {below : List Frame} {meth : Method} {c : Code} {D : va_G} {cy : Nat → ClassId} {ad : Nat → Nat} (C : CX p s m args meth c cX10_bestRest 5 RX10 (some .int) D cy ad (AD ad)) {a1 : Int32} {a2 : Int32} {t0 : Int32} {μ : Mem} {ρ : (Int32 × Mem)} (k6 : Int32 → Mem → Option (Int32 × Mem)) (hk6 : ∀ (a1 : Int32) (μ : Mem), k6 a1 μ = some ρ → WA p l e (rmD 4) s m args below meth c 5 D cy ad (AD ad) 0 0 (ZZ below args s D cy ad (AD ad) 0 0 (some (.int ρ.1)) ρ.2) μ [(0, .ref 62), (1, .int a1)] 6 []) (k16 : Int32 → Mem → Option (Int32 × Mem)) (hk16 : ∀ (a2 : Int32) (μ : Mem), k16 a2 μ = some ρ → WA p l e (rmD 4) s m args below meth c 5 D cy ad (AD ad) 0 0 (ZZ below args s D cy ad (AD ad) 0 0 (some (.int ρ.1)) ρ.2) μ [(0, .ref 62), (1, .int a1), (2, .int a2)] 16 []) (h : f_X10_bestRest_62_J57 k6 k16 a1 a2 t0 μ = some ρ) : WA p l e (rmD 4) s m args below meth c 5 D cy ad (AD ad) 0 0 (ZZ below args s D cy ad (AD ad) 0 0 (some (.int ρ.1)) ρ.2) μ [(0, .ref 62), (1, .int a1), (2, .int a2)] 57 [.int t0] := by
  unfold f_X10_bestRest_62_J57 at h
  refine wa_istore C dX10_bestRest_57 (by decide) ?_
  refine wa_aload_n C dX10_bestRest_59 rfl ?_
  refine wa_getr C fl_RX10_41 rfl rfl (by decide) dX10_bestRest_60 ?_
  refine wa_bipush (v := 27) C dX10_bestRest_63 (by decide) ?_
  refine wa_iload_n C dX10_bestRest_65 rfl ?_
  refine wa_imul C dX10_bestRest_66 ?_
  refine wa_iload_n C dX10_bestRest_67 rfl ?_
  refine wa_iadd C dX10_bestRest_68 ?_
  refine wa_iload C dX10_bestRest_69 rfl ?_
  refine wa_if_ne (tgt := 87) C dX10_bestRest_71 (by decide) (fun c14 => ?_) (fun c14 => ?_)
  · replace h := (if_neg c14).symm.trans h
    exact WA.sub (lsub_c rfl (lsub_c rfl (lsub_c rfl lsub_n))) (r_X10_bestRest_62_J87 C _ hk6 _ hk16 h)
  · replace h := (if_pos c14).symm.trans h
    refine wa_aload_n C dX10_bestRest_74 rfl ?_
    refine wa_iload_n C dX10_bestRest_75 rfl ?_
    refine wa_iload_n C dX10_bestRest_76 rfl ?_
    obtain ⟨q15, hq15, h⟩ := bd h
    refine wa_callV C (r_X10_isLawful_62 hq15) mk_X10_isLawful mv_X10_isLawful qw_680 rfl (by decide) rfl rfl ⟨Nat.le_of_ble_eq_true rfl, Nat.le_of_ble_eq_true rfl⟩ ⟨Nat.zero_le _, Nat.zero_le _⟩ (Nat.le_of_ble_eq_true rfl) dX10_bestRest_77 rfl ?_
    refine wa_if_eq (tgt := 87) C dX10_bestRest_80 (by decide) (fun c16 => ?_) (fun c16 => ?_)
    · replace h := (if_pos c16).symm.trans h
      exact WA.sub (lsub_c rfl (lsub_c rfl (lsub_c rfl lsub_n))) (r_X10_bestRest_62_J87 C _ hk6 _ hk16 h)
    · replace h := (if_neg c16).symm.trans h
      refine wa_iconst (v := 1) C dX10_bestRest_83 (by decide) ?_
      refine wa_goto (tgt := 88) C dX10_bestRest_84 (by decide) ?_
      exact WA.sub (lsub_c rfl (lsub_c rfl (lsub_c rfl lsub_n))) (r_X10_bestRest_62_J88 C _ hk6 _ hk16 h)
set_option maxRecDepth 100000 in
set_option maxHeartbeats 4000000 in
theorem r_X10_bestRest_62_J56 {p : Program} {l : Launch} {e : Env} {s : State} {m : MethodId} {args : Array Value} {below : List Frame} {meth : Method} {c : Code} {D : va_G} {cy : Nat → ClassId} {ad : Nat → Nat} (C : CX p s m args meth c cX10_bestRest 5 RX10 (some .int) D cy ad (AD ad)) {a1 : Int32} {a2 : Int32} {μ : Mem} {ρ : (Int32 × Mem)} (k6 : Int32 → Mem → Option (Int32 × Mem)) (hk6 : ∀ (a1 : Int32) (μ : Mem), k6 a1 μ = some ρ → WA p l e (rmD 4) s m args below meth c 5 D cy ad (AD ad) 0 0 (ZZ below args s D cy ad (AD ad) 0 0 (some (.int ρ.1)) ρ.2) μ [(0, .ref 62), (1, .int a1)] 6 []) (k16 : Int32 → Mem → Option (Int32 × Mem)) (hk16 : ∀ (a2 : Int32) (μ : Mem), k16 a2 μ = some ρ → WA p l e (rmD 4) s m args below meth c 5 D cy ad (AD ad) 0 0 (ZZ below args s D cy ad (AD ad) 0 0 (some (.int ρ.1)) ρ.2) μ [(0, .ref 62), (1, .int a1), (2, .int a2)] 16 []) (h : f_X10_bestRest_62_J56 k6 k16 a1 a2 μ = some ρ) : WA p l e (rmD 4) s m args below meth c 5 D cy ad (AD ad) 0 0 (ZZ below args s D cy ad (AD ad) 0 0 (some (.int ρ.1)) ρ.2) μ [(0, .ref 62), (1, .int a1), (2, .int a2)] 56 [] := by
  unfold f_X10_bestRest_62_J56 at h
  refine wa_iconst (v := 0) C dX10_bestRest_56 (by decide) ?_
  exact WA.sub (lsub_c rfl (lsub_c rfl (lsub_c rfl lsub_n))) (r_X10_bestRest_62_J57 C _ hk6 _ hk16 h)
set_option maxRecDepth 100000 in
set_option maxHeartbeats 4000000 in
theorem r_X10_bestRest_62_L16 {p : Program} {l : Launch} {e : Env} {s : State} {m : MethodId} {args : Array Value} {below : List Frame} {meth : Method} {c : Code} {D : va_G} {cy : Nat → ClassId} {ad : Nat → Nat} (C : CX p s m args meth c cX10_bestRest 5 RX10 (some .int) D cy ad (AD ad)) (a1 : Int32) {ρ : (Int32 × Mem)} (k6 : Int32 → Mem → Option (Int32 × Mem)) (hk6 : ∀ (a1 : Int32) (μ : Mem), k6 a1 μ = some ρ → WA p l e (rmD 4) s m args below meth c 5 D cy ad (AD ad) 0 0 (ZZ below args s D cy ad (AD ad) 0 0 (some (.int ρ.1)) ρ.2) μ [(0, .ref 62), (1, .int a1)] 6 []) : ∀ (n : Nat) (a2 : Int32) (μ : Mem), it2 (f_X10_bestRest_62_L16 a1 k6) n a2 μ = some ρ → WA p l e (rmD 4) s m args below meth c 5 D cy ad (AD ad) 0 0 (ZZ below args s D cy ad (AD ad) 0 0 (some (.int ρ.1)) ρ.2) μ [(0, .ref 62), (1, .int a1), (2, .int a2)] 16 [] := by
  intro n
  induction n with
  | zero =>
    intro a2 μ h
    exact absurd h (fun h => by cases h)
  | succ n ih =>
    intro a2 μ h
    replace h : f_X10_bestRest_62_L16 a1 k6 (it2 (f_X10_bestRest_62_L16 a1 k6) n) a2 μ = some ρ := h
    unfold f_X10_bestRest_62_L16 at h
    refine wa_iload_n C dX10_bestRest_16 rfl ?_
    refine wa_aload_n C dX10_bestRest_17 rfl ?_
    refine wa_geti (x := (μ.1 62 4)) C fl_RX10_104 rfl rfl (by decide) rfl dX10_bestRest_18 ?_
    refine wa_icmp_ge (tgt := 95) C dX10_bestRest_21 (by decide) (fun c11 => ?_) (fun c11 => ?_)
    · replace h := (if_pos c11).symm.trans h
      refine wa_iinc (v := (a1 + 1)) C dX10_bestRest_95 rfl rfl (by decide) ?_
      refine wa_goto (tgt := 6) C dX10_bestRest_98 (by decide) ?_
      exact WA.sub (lsub_c rfl (lsub_c rfl lsub_n)) (hk6 _ _ h)
    · replace h := (if_neg c11).symm.trans h
      refine wa_aload_n C dX10_bestRest_24 rfl ?_
      refine wa_iload_n C dX10_bestRest_25 rfl ?_
      obtain ⟨q12, hq12, h⟩ := bd h
      refine wa_callV C (r_X10_shutBy_62 hq12) mk_X10_shutBy mv_X10_shutBy qw_647 rfl (by decide) rfl rfl ⟨Nat.le_of_ble_eq_true rfl, Nat.le_of_ble_eq_true rfl⟩ ⟨Nat.zero_le _, Nat.zero_le _⟩ (Nat.le_of_ble_eq_true rfl) dX10_bestRest_26 rfl ?_
      refine wa_istore_n C dX10_bestRest_29 (by decide) ?_
      refine wa_aload_n C dX10_bestRest_30 rfl ?_
      refine wa_geti (x := (q12.2.1 62 26)) C fl_RX10_225 rfl rfl (by decide) rfl dX10_bestRest_31 ?_
      refine wa_if_le (tgt := 56) C dX10_bestRest_34 (by decide) (fun c13 => ?_) (fun c13 => ?_)
      · replace h := (if_pos c13).symm.trans h
        exact WA.sub (lsub_c rfl (lsub_c rfl (lsub_c rfl lsub_n))) (r_X10_bestRest_62_J56 C _ hk6 _ (fun _ _ h => ih _ _ h) h)
      · replace h := (if_neg c13).symm.trans h
        refine wa_iload_n C dX10_bestRest_37 rfl ?_
        refine wa_iconst (v := 2) C dX10_bestRest_38 (by decide) ?_
        refine wa_aload_n C dX10_bestRest_39 rfl ?_
        refine wa_geti (x := (q12.2.1 62 26)) C fl_RX10_225 rfl rfl (by decide) rfl dX10_bestRest_40 ?_
        refine wa_iconst (v := 1) C dX10_bestRest_43 (by decide) ?_
        refine wa_isub C dX10_bestRest_44 ?_
        refine wa_imul C dX10_bestRest_45 ?_
        refine wa_ishr C dX10_bestRest_46 ?_
        refine wa_iconst (v := 3) C dX10_bestRest_47 (by decide) ?_
        refine wa_iand C dX10_bestRest_48 ?_
        refine wa_if_eq (tgt := 56) C dX10_bestRest_49 (by decide) (fun c19 => ?_) (fun c19 => ?_)
        · replace h := (if_pos c19).symm.trans h
          exact WA.sub (lsub_c rfl (lsub_c rfl (lsub_c rfl lsub_n))) (r_X10_bestRest_62_J56 C _ hk6 _ (fun _ _ h => ih _ _ h) h)
        · replace h := (if_neg c19).symm.trans h
          refine wa_iconst (v := 1) C dX10_bestRest_52 (by decide) ?_
          refine wa_goto (tgt := 57) C dX10_bestRest_53 (by decide) ?_
          exact WA.sub (lsub_c rfl (lsub_c rfl (lsub_c rfl lsub_n))) (r_X10_bestRest_62_J57 C _ hk6 _ (fun _ _ h => ih _ _ h) h)
set_option maxRecDepth 100000 in
set_option maxHeartbeats 4000000 in
theorem r_X10_bestRest_62_L6 {p : Program} {l : Launch} {e : Env} {s : State} {m : MethodId} {args : Array Value} {below : List Frame} {meth : Method} {c : Code} {D : va_G} {cy : Nat → ClassId} {ad : Nat → Nat} (C : CX p s m args meth c cX10_bestRest 5 RX10 (some .int) D cy ad (AD ad)) {ρ : (Int32 × Mem)} : ∀ (n : Nat) (a1 : Int32) (μ : Mem), it2 (f_X10_bestRest_62_L6) n a1 μ = some ρ → WA p l e (rmD 4) s m args below meth c 5 D cy ad (AD ad) 0 0 (ZZ below args s D cy ad (AD ad) 0 0 (some (.int ρ.1)) ρ.2) μ [(0, .ref 62), (1, .int a1)] 6 [] := by
  intro n
  induction n with
  | zero =>
    intro a1 μ h
    exact absurd h (fun h => by cases h)
  | succ n ih =>
    intro a1 μ h
    replace h : f_X10_bestRest_62_L6 (it2 (f_X10_bestRest_62_L6) n) a1 μ = some ρ := h
    unfold f_X10_bestRest_62_L6 at h
    refine wa_iload_n C dX10_bestRest_6 rfl ?_
    refine wa_aload_n C dX10_bestRest_7 rfl ?_
    refine wa_geti (x := (μ.1 62 3)) C fl_RX10_97 rfl rfl (by decide) rfl dX10_bestRest_8 ?_
    refine wa_icmp_ge (tgt := 101) C dX10_bestRest_11 (by decide) (fun c2 => ?_) (fun c2 => ?_)
    · replace h := (if_pos c2).symm.trans h
      refine wa_aload_n C dX10_bestRest_101 rfl ?_
      refine wa_geti (x := (μ.1 62 28)) C fl_RX10_273 rfl rfl (by decide) rfl dX10_bestRest_102 ?_
      refine wa_if_ne (tgt := 130) C dX10_bestRest_105 (by decide) (fun c3 => ?_) (fun c3 => ?_)
      · replace h := (if_neg c3).symm.trans h
        refine wa_aload_n C dX10_bestRest_130 rfl ?_
        obtain ⟨q6, hq6, h⟩ := bd h
        refine wa_callV C (r_X10_mostTwo_62 hq6) mk_X10_mostTwo mv_X10_mostTwo qw_913 rfl (by decide) rfl rfl ⟨Nat.le_of_ble_eq_true rfl, Nat.le_of_ble_eq_true rfl⟩ ⟨Nat.zero_le _, Nat.zero_le _⟩ (Nat.le_of_ble_eq_true rfl) dX10_bestRest_131 rfl ?_
        refine wa_istore_n C dX10_bestRest_134 (by decide) ?_
        exact WA.sub (lsub_c rfl (lsub_c rfl lsub_n)) (r_X10_bestRest_62_L135 C  _ _ _ h)
      · replace h := (if_pos c3).symm.trans h
        refine wa_aload_n C dX10_bestRest_108 rfl ?_
        refine wa_aload_n C dX10_bestRest_109 rfl ?_
        refine wa_geti (x := (μ.1 62 3)) C fl_RX10_97 rfl rfl (by decide) rfl dX10_bestRest_110 ?_
        refine wa_iconst (v := 0) C dX10_bestRest_113 (by decide) ?_
        obtain ⟨q4, hq4, h⟩ := bd h
        refine wa_callV C (r_X10_canRest_62 hq4) mk_X10_canRest mv_X10_canRest qw_838 rfl (by decide) rfl rfl ⟨Nat.le_of_ble_eq_true rfl, Nat.le_of_ble_eq_true rfl⟩ ⟨Nat.zero_le _, Nat.zero_le _⟩ (Nat.le_of_ble_eq_true rfl) dX10_bestRest_114 rfl ?_
        refine wa_if_eq (tgt := 127) C dX10_bestRest_117 (by decide) (fun c5 => ?_) (fun c5 => ?_)
        · replace h := (if_pos c5).symm.trans h
          refine wa_bipush (v := -4) C dX10_bestRest_127 (by decide) ?_
          obtain rfl := Option.some.inj h
          exact wa_iret C dX10_bestRest_129
        · replace h := (if_neg c5).symm.trans h
          refine wa_aload_n C dX10_bestRest_120 rfl ?_
          refine wa_geti (x := (q4.2.1 62 3)) C fl_RX10_97 rfl rfl (by decide) rfl dX10_bestRest_121 ?_
          refine wa_goto (tgt := 129) C dX10_bestRest_124 (by decide) ?_
          obtain rfl := Option.some.inj h
          exact wa_iret C dX10_bestRest_129
    · replace h := (if_neg c2).symm.trans h
      refine wa_iconst (v := 0) C dX10_bestRest_14 (by decide) ?_
      refine wa_istore_n C dX10_bestRest_15 (by decide) ?_
      exact WA.sub (lsub_c rfl (lsub_c rfl (lsub_c rfl lsub_n))) (r_X10_bestRest_62_L16 C _ _ (fun _ _ h => ih _ _ h) _ _ _ h)
set_option maxRecDepth 100000 in
set_option maxHeartbeats 4000000 in
theorem r_X10_bestRest_62 {μ : Mem} {ρ : (Int32 × Mem)} (h : f_X10_bestRest_62 μ = some ρ) : HT 4 yX10_bestRest cX10_bestRest 5 (some .int) [.ref 62] μ (some (.int ρ.1)) ρ.2 := by
  refine HT.of (by decide +kernel) (Nat.le_of_ble_eq_true rfl) (fun C => ?_)
  unfold f_X10_bestRest_62 at h
  refine wa_aload_n C dX10_bestRest_0 rfl ?_
  obtain ⟨q1, hq1, h⟩ := bd h
  refine wa_callV C (r_X10_findEyes_62 hq1) mk_X10_findEyes mv_X10_findEyes qw_829 rfl (by decide) rfl rfl ⟨Nat.le_of_ble_eq_true rfl, Nat.le_of_ble_eq_true rfl⟩ ⟨Nat.zero_le _, Nat.zero_le _⟩ (Nat.le_of_ble_eq_true rfl) dX10_bestRest_1 rfl ?_
  refine wa_iconst (v := 0) C dX10_bestRest_4 (by decide) ?_
  refine wa_istore_n C dX10_bestRest_5 (by decide) ?_
  exact WA.sub (lsub_c rfl (lsub_c rfl lsub_n)) (r_X10_bestRest_62_L6 C  _ _ _ h)
