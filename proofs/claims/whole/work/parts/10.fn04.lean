def f_X1_hasEye_1 (a1 : Int32) (μ : Mem) : Option (Int32 × Mem) :=
  if a1 < 0 then
    some ((0 : Int32), μ)
  else
    if ((2 : Int32) * (μ.1 1 0)) ≤ a1 then
      some ((0 : Int32), μ)
    else
      some ((1 : Int32), μ)
set_option maxRecDepth 100000 in
set_option maxHeartbeats 4000000 in
theorem r_X1_hasEye_1 {a1 : Int32} {μ : Mem} {ρ : (Int32 × Mem)} (h : f_X1_hasEye_1 a1 μ = some ρ) : HT 0 yX1_hasEye cX1_hasEye 2 (some .boolean) [.ref 1, .int a1] μ (some (.int ρ.1)) ρ.2 := by
  refine HT.of (by decide +kernel) (Nat.le_of_ble_eq_true rfl) (fun C => ?_)
  unfold f_X1_hasEye_1 at h
  refine wa_iload_n C dX1_hasEye_0 rfl ?_
  refine wa_if_lt (tgt := 18) C dX1_hasEye_1 (by decide) (fun c1 => ?_) (fun c1 => ?_)
  · replace h := (if_pos c1).symm.trans h
    refine wa_iconst (v := 0) C dX1_hasEye_18 (by decide) ?_
    obtain rfl := Option.some.inj h
    exact wa_zret C rfl dX1_hasEye_19
  · replace h := (if_neg c1).symm.trans h
    refine wa_iload_n C dX1_hasEye_4 rfl ?_
    refine wa_iconst (v := 2) C dX1_hasEye_5 (by decide) ?_
    refine wa_aload_n C dX1_hasEye_6 rfl ?_
    refine wa_geti (x := (μ.1 1 0)) C fl_RX1_9 rfl rfl (by decide) rfl dX1_hasEye_7 ?_
    refine wa_imul C dX1_hasEye_10 ?_
    refine wa_icmp_ge (tgt := 18) C dX1_hasEye_11 (by decide) (fun c2 => ?_) (fun c2 => ?_)
    · replace h := (if_pos c2).symm.trans h
      refine wa_iconst (v := 0) C dX1_hasEye_18 (by decide) ?_
      obtain rfl := Option.some.inj h
      exact wa_zret C rfl dX1_hasEye_19
    · replace h := (if_neg c2).symm.trans h
      refine wa_iconst (v := 1) C dX1_hasEye_14 (by decide) ?_
      refine wa_goto (tgt := 19) C dX1_hasEye_15 (by decide) ?_
      obtain rfl := Option.some.inj h
      exact wa_zret C rfl dX1_hasEye_19
def f_X1_everybody_1 (μ : Mem) : Option (Int32 × Mem) :=
  some ((((1 : Int32) <<< ((μ.1 1 0) &&& 31)) - (1 : Int32)), μ)
set_option maxRecDepth 100000 in
set_option maxHeartbeats 4000000 in
theorem r_X1_everybody_1 {μ : Mem} {ρ : (Int32 × Mem)} (h : f_X1_everybody_1 μ = some ρ) : HT 0 yX1_everybody cX1_everybody 1 (some .int) [.ref 1] μ (some (.int ρ.1)) ρ.2 := by
  refine HT.of (by decide +kernel) (Nat.le_of_ble_eq_true rfl) (fun C => ?_)
  unfold f_X1_everybody_1 at h
  refine wa_iconst (v := 1) C dX1_everybody_0 (by decide) ?_
  refine wa_aload_n C dX1_everybody_1 rfl ?_
  refine wa_geti (x := (μ.1 1 0)) C fl_RX1_9 rfl rfl (by decide) rfl dX1_everybody_2 ?_
  refine wa_ishl C dX1_everybody_5 ?_
  refine wa_iconst (v := 1) C dX1_everybody_6 (by decide) ?_
  refine wa_isub C dX1_everybody_7 ?_
  obtain rfl := Option.some.inj h
  exact wa_iret C dX1_everybody_8
def f_X7_turned (a0 : Int32) (a1 : Int32) (μ : Mem) : Option (Int32 × Mem) :=
  some ((((a0 <<< (a1 &&& 31)) ||| (a0 >>> (((4 : Int32) - a1) &&& 31))) &&& (15 : Int32)), μ)
set_option maxRecDepth 100000 in
set_option maxHeartbeats 4000000 in
theorem r_X7_turned {a0 : Int32} {a1 : Int32} {μ : Mem} {ρ : (Int32 × Mem)} (h : f_X7_turned a0 a1 μ = some ρ) : HT 0 yX7_turned cX7_turned 2 (some .int) [.int a0, .int a1] μ (some (.int ρ.1)) ρ.2 := by
  refine HT.of (by decide +kernel) (Nat.le_of_ble_eq_true rfl) (fun C => ?_)
  unfold f_X7_turned at h
  refine wa_iload_n C dX7_turned_0 rfl ?_
  refine wa_iload_n C dX7_turned_1 rfl ?_
  refine wa_ishl C dX7_turned_2 ?_
  refine wa_iload_n C dX7_turned_3 rfl ?_
  refine wa_iconst (v := 4) C dX7_turned_4 (by decide) ?_
  refine wa_iload_n C dX7_turned_5 rfl ?_
  refine wa_isub C dX7_turned_6 ?_
  refine wa_ishr C dX7_turned_7 ?_
  refine wa_ior C dX7_turned_8 ?_
  refine wa_bipush (v := 15) C dX7_turned_9 (by decide) ?_
  refine wa_iand C dX7_turned_11 ?_
  obtain rfl := Option.some.inj h
  exact wa_iret C dX7_turned_12
def f_X7_look_47_1_5_J199 (k18 : Int32 → Mem → Option Mem) (a3 : Int32) (a4 : Int32) (μ : Mem) : Option Mem :=
  k18 (a4 + 1) μ
def f_X7_look_47_1_5_J195 (k18 : Int32 → Mem → Option Mem) (a3 : Int32) (a4 : Int32) (t1 : Int32) (t2 : Int32) (μ : Mem) : Option Mem :=
  f_X7_look_47_1_5_J199 k18 a3 a4 (pI μ 47 3 (t1 ||| t2))
def f_X7_look_47_1_5_J173 (k18 : Int32 → Mem → Option Mem) (a3 : Int32) (a4 : Int32) (a5 : Int32) (μ : Mem) : Option Mem :=
  if inb a4 3 = false then none else
  if (μ.1 2 (a4.toNatClampNeg)) = (3 : Int32) then
    f_X7_look_47_1_5_J195 k18 a3 a4 (μ.1 47 3) a5 μ
  else
    f_X7_look_47_1_5_J195 k18 a3 a4 (μ.1 47 3) (0 : Int32) μ
def f_X7_look_47_1_5_J120 (k18 : Int32 → Mem → Option Mem) (a3 : Int32) (a4 : Int32) (a5 : Int32) (a6 : Int32) (t1 : Int32) (t2 : Int32) (μ : Mem) : Option Mem :=
  if inb t1 6 = false then none else
  if a6 = 0 then
    f_X7_look_47_1_5_J199 k18 a3 a4 (pI μ 48 (t1.toNatClampNeg) t2)
  else
    if inb a4 3 = false then none else
    if (μ.1 2 (a4.toNatClampNeg)) = (1 : Int32) then
      if inb ((2 : Int32) * a4) 6 = false then none else
      f_X7_look_47_1_5_J173 k18 a3 a4 a5 (pI (pI (pI (pI μ 48 (t1.toNatClampNeg) t2) 47 1 ((μ.1 47 1) ||| a5)) 47 2 ((μ.1 47 2) ||| ((1 : Int32) <<< (((2 : Int32) * a4) &&& 31)))) 48 (((2 : Int32) * a4).toNatClampNeg) (0 : Int32))
    else
      f_X7_look_47_1_5_J173 k18 a3 a4 a5 (pI (pI μ 48 (t1.toNatClampNeg) t2) 47 1 ((μ.1 47 1) ||| a5))
def f_X7_look_47_1_5_J82 (k18 : Int32 → Mem → Option Mem) (a3 : Int32) (a4 : Int32) (a5 : Int32) (a6 : Int32) (t1 : Int32) (t2 : Int32) (μ : Mem) : Option Mem :=
  if inb t1 6 = false then none else
  if a6 = 0 then
    f_X7_look_47_1_5_J120 k18 a3 a4 a5 a6 (((2 : Int32) * a4) + (1 : Int32)) (0 : Int32) (pI μ 48 (t1.toNatClampNeg) t2)
  else
    if inb (((2 : Int32) * a4) + (1 : Int32)) 6 = false then none else
    if inb a4 3 = false then none else
    (f_X7_turned (μ.1 3 ((((2 : Int32) * a4) + (1 : Int32)).toNatClampNeg)) (μ.1 5 (a4.toNatClampNeg)) (pI μ 48 (t1.toNatClampNeg) t2)).bind fun q15 =>
    f_X7_look_47_1_5_J120 k18 a3 a4 a5 a6 (((2 : Int32) * a4) + (1 : Int32)) q15.1 q15.2
def f_X7_look_47_1_5_J47 (k18 : Int32 → Mem → Option Mem) (a3 : Int32) (a4 : Int32) (a5 : Int32) (t0 : Int32) (μ : Mem) : Option Mem :=
  if t0 = 0 then
    f_X7_look_47_1_5_J82 k18 a3 a4 a5 t0 ((2 : Int32) * a4) (0 : Int32) μ
  else
    if inb ((2 : Int32) * a4) 6 = false then none else
    if inb a4 3 = false then none else
    (f_X7_turned (μ.1 3 (((2 : Int32) * a4).toNatClampNeg)) (μ.1 5 (a4.toNatClampNeg)) μ).bind fun q18 =>
    f_X7_look_47_1_5_J82 k18 a3 a4 a5 t0 ((2 : Int32) * a4) q18.1 q18.2
def f_X7_look_47_1_5_L18 (a3 : Int32) (k18 : Int32 → Mem → Option Mem) (a4 : Int32) (μ : Mem) : Option Mem :=
    if (3 : Int32) ≤ a4 then
      some μ
    else
      if ((a3 >>> (a4 &&& 31)) &&& (1 : Int32)) = (1 : Int32) then
        f_X7_look_47_1_5_J47 k18 a3 a4 ((3 : Int32) <<< (((2 : Int32) * a4) &&& 31)) (1 : Int32) μ
      else
        f_X7_look_47_1_5_J47 k18 a3 a4 ((3 : Int32) <<< (((2 : Int32) * a4) &&& 31)) (0 : Int32) μ
def f_X7_look_47_1_5 (a3 : Int32) (μ : Mem) : Option Mem :=
  it2 (f_X7_look_47_1_5_L18 a3) FU (0 : Int32) (pI (pI (pI μ 47 1 (0 : Int32)) 47 2 (0 : Int32)) 47 3 (0 : Int32))
set_option maxRecDepth 100000 in
set_option maxHeartbeats 4000000 in
theorem r_X7_look_47_1_5_J199 {p : Program} {l : Launch} {e : Env} {s : State} {m : MethodId} {args : Array Value} {below : List Frame} {meth : Method} {c : Code} {D : va_G} {cy : Nat → ClassId} {ad : Nat → Nat} (C : CX p s m args meth c cX7_look 7 RX7 none D cy ad (AD ad)) {a3 : Int32} {a4 : Int32} {μ : Mem} {ρ : Mem} (k18 : Int32 → Mem → Option Mem) (hk18 : ∀ (a4 : Int32) (μ : Mem), k18 a4 μ = some ρ → WA p l e (rmD 1) s m args below meth c 7 D cy ad (AD ad) 0 0 (ZZ below args s D cy ad (AD ad) 0 0 none ρ) μ [(0, .ref 47), (1, .ref 1), (2, .ref 5), (3, .int a3), (4, .int a4)] 18 []) (h : f_X7_look_47_1_5_J199 k18 a3 a4 μ = some ρ) : WA p l e (rmD 1) s m args below meth c 7 D cy ad (AD ad) 0 0 (ZZ below args s D cy ad (AD ad) 0 0 none ρ) μ [(0, .ref 47), (1, .ref 1), (2, .ref 5), (3, .int a3), (4, .int a4)] 199 [] := by
  unfold f_X7_look_47_1_5_J199 at h
  refine wa_iinc (v := (a4 + 1)) C dX7_look_199 rfl rfl (by decide) ?_
  refine wa_goto (tgt := 18) C dX7_look_202 (by decide) ?_
  exact WA.sub (lsub_c rfl (lsub_c rfl (lsub_c rfl (lsub_c rfl (lsub_c rfl lsub_n))))) (hk18 _ _ h)
set_option maxRecDepth 100000 in
set_option maxHeartbeats 4000000 in
theorem r_X7_look_47_1_5_J195 {p : Program} {l : Launch} {e : Env} {s : State} {m : MethodId} {args : Array Value} {below : List Frame} {meth : Method} {c : Code} {D : va_G} {cy : Nat → ClassId} {ad : Nat → Nat} (C : CX p s m args meth c cX7_look 7 RX7 none D cy ad (AD ad)) {a3 : Int32} {a4 : Int32} {t1 : Int32} {t2 : Int32} {μ : Mem} {ρ : Mem} (k18 : Int32 → Mem → Option Mem) (hk18 : ∀ (a4 : Int32) (μ : Mem), k18 a4 μ = some ρ → WA p l e (rmD 1) s m args below meth c 7 D cy ad (AD ad) 0 0 (ZZ below args s D cy ad (AD ad) 0 0 none ρ) μ [(0, .ref 47), (1, .ref 1), (2, .ref 5), (3, .int a3), (4, .int a4)] 18 []) (h : f_X7_look_47_1_5_J195 k18 a3 a4 t1 t2 μ = some ρ) : WA p l e (rmD 1) s m args below meth c 7 D cy ad (AD ad) 0 0 (ZZ below args s D cy ad (AD ad) 0 0 none ρ) μ [(0, .ref 47), (1, .ref 1), (2, .ref 5), (3, .int a3), (4, .int a4)] 195 [.int t2, .int t1, .ref 47] := by
  unfold f_X7_look_47_1_5_J195 at h
  refine wa_ior C dX7_look_195 ?_
  refine wa_puti C fl_RX7_22 fp_7_3 rfl rfl (by decide) rfl rfl dX7_look_196 ?_
  exact WA.sub (lsub_c rfl (lsub_c rfl (lsub_c rfl (lsub_c rfl (lsub_c rfl lsub_n))))) (r_X7_look_47_1_5_J199 C _ hk18 h)
set_option maxRecDepth 100000 in
set_option maxHeartbeats 4000000 in
theorem r_X7_look_47_1_5_J173 {p : Program} {l : Launch} {e : Env} {s : State} {m : MethodId} {args : Array Value} {below : List Frame} {meth : Method} {c : Code} {D : va_G} {cy : Nat → ClassId} {ad : Nat → Nat} (C : CX p s m args meth c cX7_look 7 RX7 none D cy ad (AD ad)) {a3 : Int32} {a4 : Int32} {a5 : Int32} {μ : Mem} {ρ : Mem} (k18 : Int32 → Mem → Option Mem) (hk18 : ∀ (a4 : Int32) (μ : Mem), k18 a4 μ = some ρ → WA p l e (rmD 1) s m args below meth c 7 D cy ad (AD ad) 0 0 (ZZ below args s D cy ad (AD ad) 0 0 none ρ) μ [(0, .ref 47), (1, .ref 1), (2, .ref 5), (3, .int a3), (4, .int a4)] 18 []) (h : f_X7_look_47_1_5_J173 k18 a3 a4 a5 μ = some ρ) : WA p l e (rmD 1) s m args below meth c 7 D cy ad (AD ad) 0 0 (ZZ below args s D cy ad (AD ad) 0 0 none ρ) μ [(0, .ref 47), (1, .ref 1), (2, .ref 5), (3, .int a3), (4, .int a4), (5, .int a5)] 173 [] := by
  unfold f_X7_look_47_1_5_J173 at h
  refine wa_aload_n C dX7_look_173 rfl ?_
  refine wa_dup C dX7_look_174 rfl ?_
  refine wa_geti (x := (μ.1 47 3)) C fl_RX7_22 rfl rfl (by decide) rfl dX7_look_175 ?_
  refine wa_aload_n C dX7_look_178 rfl ?_
  refine wa_getr C fl_RX7_34 rfl rfl (by decide) dX7_look_179 ?_
  refine wa_iload C dX7_look_182 rfl ?_
  obtain ⟨g11, h⟩ := gd h
  refine wa_iald (j := (a4.toNatClampNeg)) (x := (μ.1 2 (a4.toNatClampNeg))) C rfl (by decide) g11 rfl rfl dX7_look_184 ?_
  refine wa_iconst (v := 3) C dX7_look_185 (by decide) ?_
  refine wa_icmp_ne (tgt := 194) C dX7_look_186 (by decide) (fun c12 => ?_) (fun c12 => ?_)
  · replace h := (if_neg c12).symm.trans h
    refine wa_iconst (v := 0) C dX7_look_194 (by decide) ?_
    exact WA.sub (lsub_c rfl (lsub_c rfl (lsub_c rfl (lsub_c rfl (lsub_c rfl lsub_n))))) (r_X7_look_47_1_5_J195 C _ hk18 h)
  · replace h := (if_pos c12).symm.trans h
    refine wa_iload C dX7_look_189 rfl ?_
    refine wa_goto (tgt := 195) C dX7_look_191 (by decide) ?_
    exact WA.sub (lsub_c rfl (lsub_c rfl (lsub_c rfl (lsub_c rfl (lsub_c rfl lsub_n))))) (r_X7_look_47_1_5_J195 C _ hk18 h)
set_option maxRecDepth 100000 in
set_option maxHeartbeats 4000000 in
theorem r_X7_look_47_1_5_J120 {p : Program} {l : Launch} {e : Env} {s : State} {m : MethodId} {args : Array Value} {below : List Frame} {meth : Method} {c : Code} {D : va_G} {cy : Nat → ClassId} {ad : Nat → Nat} (C : CX p s m args meth c cX7_look 7 RX7 none D cy ad (AD ad)) {a3 : Int32} {a4 : Int32} {a5 : Int32} {a6 : Int32} {t1 : Int32} {t2 : Int32} {μ : Mem} {ρ : Mem} (k18 : Int32 → Mem → Option Mem) (hk18 : ∀ (a4 : Int32) (μ : Mem), k18 a4 μ = some ρ → WA p l e (rmD 1) s m args below meth c 7 D cy ad (AD ad) 0 0 (ZZ below args s D cy ad (AD ad) 0 0 none ρ) μ [(0, .ref 47), (1, .ref 1), (2, .ref 5), (3, .int a3), (4, .int a4)] 18 []) (h : f_X7_look_47_1_5_J120 k18 a3 a4 a5 a6 t1 t2 μ = some ρ) : WA p l e (rmD 1) s m args below meth c 7 D cy ad (AD ad) 0 0 (ZZ below args s D cy ad (AD ad) 0 0 none ρ) μ [(0, .ref 47), (1, .ref 1), (2, .ref 5), (3, .int a3), (4, .int a4), (5, .int a5), (6, .int a6)] 120 [.int t2, .int t1, .ref 48] := by
  unfold f_X7_look_47_1_5_J120 at h
  obtain ⟨g6, h⟩ := gd h
  refine wa_iast (j := (t1.toNatClampNeg)) C rfl (by decide) g6 rfl dX7_look_120 ?_
  refine wa_iload C dX7_look_121 rfl ?_
  refine wa_if_eq (tgt := 199) C dX7_look_123 (by decide) (fun c7 => ?_) (fun c7 => ?_)
  · replace h := (if_pos c7).symm.trans h
    exact WA.sub (lsub_c rfl (lsub_c rfl (lsub_c rfl (lsub_c rfl (lsub_c rfl lsub_n))))) (r_X7_look_47_1_5_J199 C _ hk18 h)
  · replace h := (if_neg c7).symm.trans h
    refine wa_aload_n C dX7_look_126 rfl ?_
    refine wa_dup C dX7_look_127 rfl ?_
    refine wa_geti (x := (μ.1 47 1)) C fl_RX7_15 rfl rfl (by decide) rfl dX7_look_128 ?_
    refine wa_iload C dX7_look_131 rfl ?_
    refine wa_ior C dX7_look_133 ?_
    refine wa_puti C fl_RX7_15 fp_7_1 rfl rfl (by decide) rfl rfl dX7_look_134 ?_
    refine wa_aload_n C dX7_look_137 rfl ?_
    refine wa_getr C fl_RX7_34 rfl rfl (by decide) dX7_look_138 ?_
    refine wa_iload C dX7_look_141 rfl ?_
    obtain ⟨g8, h⟩ := gd h
    refine wa_iald (j := (a4.toNatClampNeg)) (x := (μ.1 2 (a4.toNatClampNeg))) C rfl (by decide) g8 rfl rfl dX7_look_143 ?_
    refine wa_iconst (v := 1) C dX7_look_144 (by decide) ?_
    refine wa_icmp_ne (tgt := 173) C dX7_look_145 (by decide) (fun c9 => ?_) (fun c9 => ?_)
    · replace h := (if_neg c9).symm.trans h
      exact WA.sub (lsub_c rfl (lsub_c rfl (lsub_c rfl (lsub_c rfl (lsub_c rfl (lsub_c rfl lsub_n)))))) (r_X7_look_47_1_5_J173 C _ hk18 h)
    · replace h := (if_pos c9).symm.trans h
      refine wa_aload_n C dX7_look_148 rfl ?_
      refine wa_dup C dX7_look_149 rfl ?_
      refine wa_geti (x := (μ.1 47 2)) C fl_RX7_19 rfl rfl (by decide) rfl dX7_look_150 ?_
      refine wa_iconst (v := 1) C dX7_look_153 (by decide) ?_
      refine wa_iconst (v := 2) C dX7_look_154 (by decide) ?_
      refine wa_iload C dX7_look_155 rfl ?_
      refine wa_imul C dX7_look_157 ?_
      refine wa_ishl C dX7_look_158 ?_
      refine wa_ior C dX7_look_159 ?_
      refine wa_puti C fl_RX7_19 fp_7_2 rfl rfl (by decide) rfl rfl dX7_look_160 ?_
      refine wa_aload_n C dX7_look_163 rfl ?_
      refine wa_getr C fl_RX7_9 rfl rfl (by decide) dX7_look_164 ?_
      refine wa_iconst (v := 2) C dX7_look_167 (by decide) ?_
      refine wa_iload C dX7_look_168 rfl ?_
      refine wa_imul C dX7_look_170 ?_
      refine wa_iconst (v := 0) C dX7_look_171 (by decide) ?_
      obtain ⟨g10, h⟩ := gd h
      refine wa_iast (j := (((2 : Int32) * a4).toNatClampNeg)) C rfl (by decide) g10 rfl dX7_look_172 ?_
      exact WA.sub (lsub_c rfl (lsub_c rfl (lsub_c rfl (lsub_c rfl (lsub_c rfl (lsub_c rfl lsub_n)))))) (r_X7_look_47_1_5_J173 C _ hk18 h)
set_option maxRecDepth 100000 in
set_option maxHeartbeats 4000000 in
theorem r_X7_look_47_1_5_J82 {p : Program} {l : Launch} {e : Env} {s : State} {m : MethodId} {args : Array Value} {below : List Frame} {meth : Method} {c : Code} {D : va_G} {cy : Nat → ClassId} {ad : Nat → Nat} (C : CX p s m args meth c cX7_look 7 RX7 none D cy ad (AD ad)) {a3 : Int32} {a4 : Int32} {a5 : Int32} {a6 : Int32} {t1 : Int32} {t2 : Int32} {μ : Mem} {ρ : Mem} (k18 : Int32 → Mem → Option Mem) (hk18 : ∀ (a4 : Int32) (μ : Mem), k18 a4 μ = some ρ → WA p l e (rmD 1) s m args below meth c 7 D cy ad (AD ad) 0 0 (ZZ below args s D cy ad (AD ad) 0 0 none ρ) μ [(0, .ref 47), (1, .ref 1), (2, .ref 5), (3, .int a3), (4, .int a4)] 18 []) (h : f_X7_look_47_1_5_J82 k18 a3 a4 a5 a6 t1 t2 μ = some ρ) : WA p l e (rmD 1) s m args below meth c 7 D cy ad (AD ad) 0 0 (ZZ below args s D cy ad (AD ad) 0 0 none ρ) μ [(0, .ref 47), (1, .ref 1), (2, .ref 5), (3, .int a3), (4, .int a4), (5, .int a5), (6, .int a6)] 82 [.int t2, .int t1, .ref 48] := by
  unfold f_X7_look_47_1_5_J82 at h
  obtain ⟨g4, h⟩ := gd h
  refine wa_iast (j := (t1.toNatClampNeg)) C rfl (by decide) g4 rfl dX7_look_82 ?_
  refine wa_aload_n C dX7_look_83 rfl ?_
  refine wa_getr C fl_RX7_9 rfl rfl (by decide) dX7_look_84 ?_
  refine wa_iconst (v := 2) C dX7_look_87 (by decide) ?_
  refine wa_iload C dX7_look_88 rfl ?_
  refine wa_imul C dX7_look_90 ?_
  refine wa_iconst (v := 1) C dX7_look_91 (by decide) ?_
  refine wa_iadd C dX7_look_92 ?_
  refine wa_iload C dX7_look_93 rfl ?_
  refine wa_if_eq (tgt := 119) C dX7_look_95 (by decide) (fun c5 => ?_) (fun c5 => ?_)
  · replace h := (if_pos c5).symm.trans h
    refine wa_iconst (v := 0) C dX7_look_119 (by decide) ?_
    exact WA.sub (lsub_c rfl (lsub_c rfl (lsub_c rfl (lsub_c rfl (lsub_c rfl (lsub_c rfl (lsub_c rfl lsub_n))))))) (r_X7_look_47_1_5_J120 C _ hk18 h)
  · replace h := (if_neg c5).symm.trans h
    refine wa_aload_n C dX7_look_98 rfl ?_
    refine wa_getr C fl_RX7_25 rfl rfl (by decide) dX7_look_99 ?_
    refine wa_iconst (v := 2) C dX7_look_102 (by decide) ?_
    refine wa_iload C dX7_look_103 rfl ?_
    refine wa_imul C dX7_look_105 ?_
    refine wa_iconst (v := 1) C dX7_look_106 (by decide) ?_
    refine wa_iadd C dX7_look_107 ?_
    obtain ⟨g13, h⟩ := gd h
    refine wa_iald (j := ((((2 : Int32) * a4) + (1 : Int32)).toNatClampNeg)) (x := (μ.1 3 ((((2 : Int32) * a4) + (1 : Int32)).toNatClampNeg))) C rfl (by decide) g13 rfl rfl dX7_look_108 ?_
    refine wa_aload_n C dX7_look_109 rfl ?_
    refine wa_iload C dX7_look_110 rfl ?_
    obtain ⟨g14, h⟩ := gd h
    refine wa_iald (j := (a4.toNatClampNeg)) (x := (μ.1 5 (a4.toNatClampNeg))) C rfl (by decide) g14 rfl rfl dX7_look_112 ?_
    obtain ⟨q15, hq15, h⟩ := bd h
    refine wa_callS C (r_X7_turned hq15) mk_X7_turned ms_X7_turned qw_522 rfl ⟨Nat.le_of_ble_eq_true rfl, Nat.le_of_ble_eq_true rfl⟩ ⟨Nat.zero_le _, Nat.zero_le _⟩ (Nat.le_of_ble_eq_true rfl) dX7_look_113 rfl ?_
    refine wa_goto (tgt := 120) C dX7_look_116 (by decide) ?_
    exact WA.sub (lsub_c rfl (lsub_c rfl (lsub_c rfl (lsub_c rfl (lsub_c rfl (lsub_c rfl (lsub_c rfl lsub_n))))))) (r_X7_look_47_1_5_J120 C _ hk18 h)
set_option maxRecDepth 100000 in
set_option maxHeartbeats 4000000 in
theorem r_X7_look_47_1_5_J47 {p : Program} {l : Launch} {e : Env} {s : State} {m : MethodId} {args : Array Value} {below : List Frame} {meth : Method} {c : Code} {D : va_G} {cy : Nat → ClassId} {ad : Nat → Nat} (C : CX p s m args meth c cX7_look 7 RX7 none D cy ad (AD ad)) {a3 : Int32} {a4 : Int32} {a5 : Int32} {t0 : Int32} {μ : Mem} {ρ : Mem} (k18 : Int32 → Mem → Option Mem) (hk18 : ∀ (a4 : Int32) (μ : Mem), k18 a4 μ = some ρ → WA p l e (rmD 1) s m args below meth c 7 D cy ad (AD ad) 0 0 (ZZ below args s D cy ad (AD ad) 0 0 none ρ) μ [(0, .ref 47), (1, .ref 1), (2, .ref 5), (3, .int a3), (4, .int a4)] 18 []) (h : f_X7_look_47_1_5_J47 k18 a3 a4 a5 t0 μ = some ρ) : WA p l e (rmD 1) s m args below meth c 7 D cy ad (AD ad) 0 0 (ZZ below args s D cy ad (AD ad) 0 0 none ρ) μ [(0, .ref 47), (1, .ref 1), (2, .ref 5), (3, .int a3), (4, .int a4), (5, .int a5)] 47 [.int t0] := by
  unfold f_X7_look_47_1_5_J47 at h
  refine wa_istore C dX7_look_47 (by decide) ?_
  refine wa_aload_n C dX7_look_49 rfl ?_
  refine wa_getr C fl_RX7_9 rfl rfl (by decide) dX7_look_50 ?_
  refine wa_iconst (v := 2) C dX7_look_53 (by decide) ?_
  refine wa_iload C dX7_look_54 rfl ?_
  refine wa_imul C dX7_look_56 ?_
  refine wa_iload C dX7_look_57 rfl ?_
  refine wa_if_eq (tgt := 81) C dX7_look_59 (by decide) (fun c3 => ?_) (fun c3 => ?_)
  · replace h := (if_pos c3).symm.trans h
    refine wa_iconst (v := 0) C dX7_look_81 (by decide) ?_
    exact WA.sub (lsub_c rfl (lsub_c rfl (lsub_c rfl (lsub_c rfl (lsub_c rfl (lsub_c rfl (lsub_c rfl lsub_n))))))) (r_X7_look_47_1_5_J82 C _ hk18 h)
  · replace h := (if_neg c3).symm.trans h
    refine wa_aload_n C dX7_look_62 rfl ?_
    refine wa_getr C fl_RX7_25 rfl rfl (by decide) dX7_look_63 ?_
    refine wa_iconst (v := 2) C dX7_look_66 (by decide) ?_
    refine wa_iload C dX7_look_67 rfl ?_
    refine wa_imul C dX7_look_69 ?_
    obtain ⟨g16, h⟩ := gd h
    refine wa_iald (j := (((2 : Int32) * a4).toNatClampNeg)) (x := (μ.1 3 (((2 : Int32) * a4).toNatClampNeg))) C rfl (by decide) g16 rfl rfl dX7_look_70 ?_
    refine wa_aload_n C dX7_look_71 rfl ?_
    refine wa_iload C dX7_look_72 rfl ?_
    obtain ⟨g17, h⟩ := gd h
    refine wa_iald (j := (a4.toNatClampNeg)) (x := (μ.1 5 (a4.toNatClampNeg))) C rfl (by decide) g17 rfl rfl dX7_look_74 ?_
    obtain ⟨q18, hq18, h⟩ := bd h
    refine wa_callS C (r_X7_turned hq18) mk_X7_turned ms_X7_turned qw_522 rfl ⟨Nat.le_of_ble_eq_true rfl, Nat.le_of_ble_eq_true rfl⟩ ⟨Nat.zero_le _, Nat.zero_le _⟩ (Nat.le_of_ble_eq_true rfl) dX7_look_75 rfl ?_
    refine wa_goto (tgt := 82) C dX7_look_78 (by decide) ?_
    exact WA.sub (lsub_c rfl (lsub_c rfl (lsub_c rfl (lsub_c rfl (lsub_c rfl (lsub_c rfl (lsub_c rfl lsub_n))))))) (r_X7_look_47_1_5_J82 C _ hk18 h)
set_option maxRecDepth 100000 in
set_option maxHeartbeats 4000000 in
theorem r_X7_look_47_1_5_L18 {p : Program} {l : Launch} {e : Env} {s : State} {m : MethodId} {args : Array Value} {below : List Frame} {meth : Method} {c : Code} {D : va_G} {cy : Nat → ClassId} {ad : Nat → Nat} (C : CX p s m args meth c cX7_look 7 RX7 none D cy ad (AD ad)) (a3 : Int32) {ρ : Mem} : ∀ (n : Nat) (a4 : Int32) (μ : Mem), it2 (f_X7_look_47_1_5_L18 a3) n a4 μ = some ρ → WA p l e (rmD 1) s m args below meth c 7 D cy ad (AD ad) 0 0 (ZZ below args s D cy ad (AD ad) 0 0 none ρ) μ [(0, .ref 47), (1, .ref 1), (2, .ref 5), (3, .int a3), (4, .int a4)] 18 [] := by
  intro n
  induction n with
  | zero =>
    intro a4 μ h
    exact absurd h (fun h => by cases h)
  | succ n ih =>
    intro a4 μ h
    replace h : f_X7_look_47_1_5_L18 a3 (it2 (f_X7_look_47_1_5_L18 a3) n) a4 μ = some ρ := h
    unfold f_X7_look_47_1_5_L18 at h
    refine wa_iload C dX7_look_18 rfl ?_
    refine wa_iconst (v := 3) C dX7_look_20 (by decide) ?_
    refine wa_icmp_ge (tgt := 205) C dX7_look_21 (by decide) (fun c1 => ?_) (fun c1 => ?_)
    · replace h := (if_pos c1).symm.trans h
      obtain rfl := Option.some.inj h
      exact wa_vret C dX7_look_205
    · replace h := (if_neg c1).symm.trans h
      refine wa_iconst (v := 3) C dX7_look_24 (by decide) ?_
      refine wa_iconst (v := 2) C dX7_look_25 (by decide) ?_
      refine wa_iload C dX7_look_26 rfl ?_
      refine wa_imul C dX7_look_28 ?_
      refine wa_ishl C dX7_look_29 ?_
      refine wa_istore C dX7_look_30 (by decide) ?_
      refine wa_iload_n C dX7_look_32 rfl ?_
      refine wa_iload C dX7_look_33 rfl ?_
      refine wa_ishr C dX7_look_35 ?_
      refine wa_iconst (v := 1) C dX7_look_36 (by decide) ?_
      refine wa_iand C dX7_look_37 ?_
      refine wa_iconst (v := 1) C dX7_look_38 (by decide) ?_
      refine wa_icmp_ne (tgt := 46) C dX7_look_39 (by decide) (fun c2 => ?_) (fun c2 => ?_)
      · replace h := (if_neg c2).symm.trans h
        refine wa_iconst (v := 0) C dX7_look_46 (by decide) ?_
        exact WA.sub (lsub_c rfl (lsub_c rfl (lsub_c rfl (lsub_c rfl (lsub_c rfl (lsub_c rfl lsub_n)))))) (r_X7_look_47_1_5_J47 C _ (fun _ _ h => ih _ _ h) h)
      · replace h := (if_pos c2).symm.trans h
        refine wa_iconst (v := 1) C dX7_look_42 (by decide) ?_
        refine wa_goto (tgt := 47) C dX7_look_43 (by decide) ?_
        exact WA.sub (lsub_c rfl (lsub_c rfl (lsub_c rfl (lsub_c rfl (lsub_c rfl (lsub_c rfl lsub_n)))))) (r_X7_look_47_1_5_J47 C _ (fun _ _ h => ih _ _ h) h)
set_option maxRecDepth 100000 in
set_option maxHeartbeats 4000000 in
theorem r_X7_look_47_1_5 {a3 : Int32} {μ : Mem} {ρ : Mem} (h : f_X7_look_47_1_5 a3 μ = some ρ) : HT 1 yX7_look cX7_look 7 none [.ref 47, .ref 1, .ref 5, .int a3] μ none ρ := by
  refine HT.of (by decide +kernel) (Nat.le_of_ble_eq_true rfl) (fun C => ?_)
  unfold f_X7_look_47_1_5 at h
  refine wa_aload_n C dX7_look_0 rfl ?_
  refine wa_iconst (v := 0) C dX7_look_1 (by decide) ?_
  refine wa_puti C fl_RX7_15 fp_7_1 rfl rfl (by decide) rfl rfl dX7_look_2 ?_
  refine wa_aload_n C dX7_look_5 rfl ?_
  refine wa_iconst (v := 0) C dX7_look_6 (by decide) ?_
  refine wa_puti C fl_RX7_19 fp_7_2 rfl rfl (by decide) rfl rfl dX7_look_7 ?_
  refine wa_aload_n C dX7_look_10 rfl ?_
  refine wa_iconst (v := 0) C dX7_look_11 (by decide) ?_
  refine wa_puti C fl_RX7_22 fp_7_3 rfl rfl (by decide) rfl rfl dX7_look_12 ?_
  refine wa_iconst (v := 0) C dX7_look_15 (by decide) ?_
  refine wa_istore C dX7_look_16 (by decide) ?_
  exact WA.sub (lsub_c rfl (lsub_c rfl (lsub_c rfl (lsub_c rfl (lsub_c rfl lsub_n))))) (r_X7_look_47_1_5_L18 C _ _ _ _ h)
def f_X9_look_0 (μ : Mem) : Option Mem :=
  (f_X1_everybody_1 μ).bind fun q1 =>
  (f_X7_look_47_1_5 q1.1 q1.2).bind fun q2 =>
  some q2
set_option maxRecDepth 100000 in
set_option maxHeartbeats 4000000 in
theorem r_X9_look_0 {μ : Mem} {ρ : Mem} (h : f_X9_look_0 μ = some ρ) : HT 2 yX9_look cX9_look 1 (some (.object "ThreeAwake$Sight")) [.ref 0] μ (some (.ref 47)) ρ := by
  refine HT.of (by decide +kernel) (Nat.le_of_ble_eq_true rfl) (fun C => ?_)
  unfold f_X9_look_0 at h
  refine wa_aload_n C dX9_look_0 rfl ?_
  refine wa_getr C fl_RX9_44 rfl rfl (by decide) dX9_look_1 ?_
  refine wa_aload_n C dX9_look_4 rfl ?_
  refine wa_getr C fl_RX9_10 rfl rfl (by decide) dX9_look_5 ?_
  refine wa_aload_n C dX9_look_8 rfl ?_
  refine wa_getr C fl_RX9_19 rfl rfl (by decide) dX9_look_9 ?_
  refine wa_getr C fl_RX9_129 rfl rfl (by decide) dX9_look_12 ?_
  refine wa_aload_n C dX9_look_15 rfl ?_
  refine wa_getr C fl_RX9_10 rfl rfl (by decide) dX9_look_16 ?_
  obtain ⟨q1, hq1, h⟩ := bd h
  refine wa_callV C (r_X1_everybody_1 hq1) mk_X1_everybody mv_X1_everybody qw_512 rfl (by decide) rfl rfl ⟨Nat.le_of_ble_eq_true rfl, Nat.le_of_ble_eq_true rfl⟩ ⟨Nat.zero_le _, Nat.zero_le _⟩ (Nat.le_of_ble_eq_true rfl) dX9_look_19 rfl ?_
  obtain ⟨q2, hq2, h⟩ := bd h
  refine wa_callV C (r_X7_look_47_1_5 hq2) mk_X7_look mv_X7_look qw_516 rfl (by decide) rfl rfl ⟨Nat.le_of_ble_eq_true rfl, Nat.le_of_ble_eq_true rfl⟩ ⟨Nat.zero_le _, Nat.zero_le _⟩ (Nat.le_of_ble_eq_true rfl) dX9_look_22 rfl ?_
  refine wa_aload_n C dX9_look_25 rfl ?_
  refine wa_getr C fl_RX9_44 rfl rfl (by decide) dX9_look_26 ?_
  obtain rfl := Option.some.inj h
  exact wa_aret C (Or.inl ⟨_, rfl⟩) dX9_look_29
def f_X9_eye_0 (a1 : Int32) (a2 : Int32) (μ : Mem) : Option (Int32 × Mem) :=
  (f_X1_hasEye_1 a1 μ).bind fun q1 =>
  if q1.1 = 0 then
    some ((-1 : Int32), q1.2)
  else
    (f_X9_isEither a2 q1.2).bind fun q3 =>
    if q3.1 = 0 then
      some ((-1 : Int32), q3.2)
    else
      if a2 = 0 then
        (f_X9_look_0 q3.2).bind fun q6 =>
        if inb a1 6 = false then none else
        some ((q6.1 48 (a1.toNatClampNeg)), q6)
      else
        if inb a1 6 = false then none else
        some ((q3.2.1 6 (a1.toNatClampNeg)), q3.2)
set_option maxRecDepth 100000 in
set_option maxHeartbeats 4000000 in
theorem r_X9_eye_0 {a1 : Int32} {a2 : Int32} {μ : Mem} {ρ : (Int32 × Mem)} (h : f_X9_eye_0 a1 a2 μ = some ρ) : HT 3 yX9_eye cX9_eye 3 (some .int) [.ref 0, .int a1, .int a2] μ (some (.int ρ.1)) ρ.2 := by
  refine HT.of (by decide +kernel) (Nat.le_of_ble_eq_true rfl) (fun C => ?_)
  unfold f_X9_eye_0 at h
  refine wa_aload_n C dX9_eye_0 rfl ?_
  refine wa_getr C fl_RX9_10 rfl rfl (by decide) dX9_eye_1 ?_
  refine wa_iload_n C dX9_eye_4 rfl ?_
  obtain ⟨q1, hq1, h⟩ := bd h
  refine wa_callV C (r_X1_hasEye_1 hq1) mk_X1_hasEye mv_X1_hasEye qw_504 rfl (by decide) rfl rfl ⟨Nat.le_of_ble_eq_true rfl, Nat.le_of_ble_eq_true rfl⟩ ⟨Nat.zero_le _, Nat.zero_le _⟩ (Nat.le_of_ble_eq_true rfl) dX9_eye_5 rfl ?_
  refine wa_if_eq (tgt := 18) C dX9_eye_8 (by decide) (fun c2 => ?_) (fun c2 => ?_)
  · replace h := (if_pos c2).symm.trans h
    refine wa_iconst (v := -1) C dX9_eye_18 (by decide) ?_
    obtain rfl := Option.some.inj h
    exact wa_iret C dX9_eye_19
  · replace h := (if_neg c2).symm.trans h
    refine wa_iload_n C dX9_eye_11 rfl ?_
    obtain ⟨q3, hq3, h⟩ := bd h
    refine wa_callS C (r_X9_isEither hq3) mk_X9_isEither ms_X9_isEither qw_487 rfl ⟨Nat.le_of_ble_eq_true rfl, Nat.le_of_ble_eq_true rfl⟩ ⟨Nat.zero_le _, Nat.zero_le _⟩ (Nat.le_of_ble_eq_true rfl) dX9_eye_12 rfl ?_
    refine wa_if_ne (tgt := 20) C dX9_eye_15 (by decide) (fun c4 => ?_) (fun c4 => ?_)
    · replace h := (if_neg c4).symm.trans h
      refine wa_iload_n C dX9_eye_20 rfl ?_
      refine wa_if_ne (tgt := 36) C dX9_eye_21 (by decide) (fun c5 => ?_) (fun c5 => ?_)
      · replace h := (if_neg c5).symm.trans h
        refine wa_aload_n C dX9_eye_36 rfl ?_
        refine wa_getr C fl_RX9_19 rfl rfl (by decide) dX9_eye_37 ?_
        refine wa_getr C fl_RX9_142 rfl rfl (by decide) dX9_eye_40 ?_
        refine wa_iload_n C dX9_eye_43 rfl ?_
        obtain ⟨g8, h⟩ := gd h
        refine wa_iald (j := (a1.toNatClampNeg)) (x := (q3.2.1 6 (a1.toNatClampNeg))) C rfl (by decide) g8 rfl rfl dX9_eye_44 ?_
        obtain rfl := Option.some.inj h
        exact wa_iret C dX9_eye_45
      · replace h := (if_pos c5).symm.trans h
        refine wa_aload_n C dX9_eye_24 rfl ?_
        obtain ⟨q6, hq6, h⟩ := bd h
        refine wa_callV C (r_X9_look_0 hq6) mk_X9_look mv_X9_look qw_508 rfl (by decide) rfl rfl ⟨Nat.le_of_ble_eq_true rfl, Nat.le_of_ble_eq_true rfl⟩ ⟨Nat.zero_le _, Nat.zero_le _⟩ (Nat.le_of_ble_eq_true rfl) dX9_eye_25 rfl ?_
        refine wa_getr C fl_RX9_139 rfl rfl (by decide) dX9_eye_28 ?_
        refine wa_iload_n C dX9_eye_31 rfl ?_
        obtain ⟨g7, h⟩ := gd h
        refine wa_iald (j := (a1.toNatClampNeg)) (x := (q6.1 48 (a1.toNatClampNeg))) C rfl (by decide) g7 rfl rfl dX9_eye_32 ?_
        refine wa_goto (tgt := 45) C dX9_eye_33 (by decide) ?_
        obtain rfl := Option.some.inj h
        exact wa_iret C dX9_eye_45
    · replace h := (if_pos c4).symm.trans h
      refine wa_iconst (v := -1) C dX9_eye_18 (by decide) ?_
      obtain rfl := Option.some.inj h
      exact wa_iret C dX9_eye_19
def f_X10_isEye_62 (a1 : Int32) (μ : Mem) : Option (Int32 × Mem) :=
  (f_X10_in (a1.toInt64) (0 : Int64) ((((2 : Int32) * (μ.1 62 2)) - (1 : Int32)).toInt64) μ).bind fun q1 =>
  if zb q1.1 = false then none else
  some (q1.1, q1.2)
set_option maxRecDepth 100000 in
set_option maxHeartbeats 4000000 in
theorem r_X10_isEye_62 {a1 : Int32} {μ : Mem} {ρ : (Int32 × Mem)} (h : f_X10_isEye_62 a1 μ = some ρ) : HT 1 yX10_isEye cX10_isEye 2 (some .boolean) [.ref 62, .int a1] μ (some (.int ρ.1)) ρ.2 := by
  refine HT.of (by decide +kernel) (Nat.le_of_ble_eq_true rfl) (fun C => ?_)
  unfold f_X10_isEye_62 at h
  refine wa_iload_n C dX10_isEye_0 rfl ?_
  refine wa_i2l (v := (a1.toInt64)) C dX10_isEye_1 rfl ?_
  refine wa_lconst (v := 0) C dX10_isEye_2 (by decide) ?_
  refine wa_iconst (v := 2) C dX10_isEye_3 (by decide) ?_
  refine wa_aload_n C dX10_isEye_4 rfl ?_
  refine wa_geti (x := (μ.1 62 2)) C fl_RX10_94 rfl rfl (by decide) rfl dX10_isEye_5 ?_
  refine wa_imul C dX10_isEye_8 ?_
  refine wa_iconst (v := 1) C dX10_isEye_9 (by decide) ?_
  refine wa_isub C dX10_isEye_10 ?_
  refine wa_i2l (v := ((((2 : Int32) * (μ.1 62 2)) - (1 : Int32)).toInt64)) C dX10_isEye_11 rfl ?_
  obtain ⟨q1, hq1, h⟩ := bd h
  refine wa_callS C (r_X10_in hq1) mk_X10_in ms_X10_in qw_198 rfl ⟨Nat.le_of_ble_eq_true rfl, Nat.le_of_ble_eq_true rfl⟩ ⟨Nat.zero_le _, Nat.zero_le _⟩ (Nat.le_of_ble_eq_true rfl) dX10_isEye_12 rfl ?_
  obtain ⟨g2, h⟩ := gd h
  obtain rfl := Option.some.inj h
  exact wa_zret C g2 dX10_isEye_15
def f_X10_seenBy_62 (a1 : Int32) (μ : Mem) : Option (Int32 × Mem) :=
  if inb ((0 : Int32) + (a1 / (2 : Int32))) 162 = false then none else
  if inb a1 6 = false then none else
  if inb a1 6 = false then none else
  some (((((μ.1 66 (a1.toNatClampNeg)) <<< ((μ.1 63 (((0 : Int32) + (a1 / (2 : Int32))).toNatClampNeg)) &&& 31)) ||| ((μ.1 66 (a1.toNatClampNeg)) >>> (((4 : Int32) - (μ.1 63 (((0 : Int32) + (a1 / (2 : Int32))).toNatClampNeg))) &&& 31))) &&& (15 : Int32)), μ)
set_option maxRecDepth 100000 in
set_option maxHeartbeats 4000000 in
theorem r_X10_seenBy_62 {a1 : Int32} {μ : Mem} {ρ : (Int32 × Mem)} (h : f_X10_seenBy_62 a1 μ = some ρ) : HT 0 yX10_seenBy cX10_seenBy 3 (some .int) [.ref 62, .int a1] μ (some (.int ρ.1)) ρ.2 := by
  refine HT.of (by decide +kernel) (Nat.le_of_ble_eq_true rfl) (fun C => ?_)
  unfold f_X10_seenBy_62 at h
  refine wa_aload_n C dX10_seenBy_0 rfl ?_
  refine wa_getr C fl_RX10_7 rfl rfl (by decide) dX10_seenBy_1 ?_
  refine wa_iconst (v := 0) C dX10_seenBy_4 (by decide) ?_
  refine wa_iload_n C dX10_seenBy_5 rfl ?_
  refine wa_iconst (v := 2) C dX10_seenBy_6 (by decide) ?_
  refine wa_idiv C dX10_seenBy_7 (by decide) ?_
  refine wa_iadd C dX10_seenBy_8 ?_
  obtain ⟨g1, h⟩ := gd h
  refine wa_iald (j := (((0 : Int32) + (a1 / (2 : Int32))).toNatClampNeg)) (x := (μ.1 63 (((0 : Int32) + (a1 / (2 : Int32))).toNatClampNeg))) C rfl (by decide) g1 rfl rfl dX10_seenBy_9 ?_
  refine wa_istore_n C dX10_seenBy_10 (by decide) ?_
  refine wa_aload_n C dX10_seenBy_11 rfl ?_
  refine wa_getr C fl_RX10_20 rfl rfl (by decide) dX10_seenBy_12 ?_
  refine wa_iload_n C dX10_seenBy_15 rfl ?_
  obtain ⟨g2, h⟩ := gd h
  refine wa_iald (j := (a1.toNatClampNeg)) (x := (μ.1 66 (a1.toNatClampNeg))) C rfl (by decide) g2 rfl rfl dX10_seenBy_16 ?_
  refine wa_iload_n C dX10_seenBy_17 rfl ?_
  refine wa_ishl C dX10_seenBy_18 ?_
  refine wa_aload_n C dX10_seenBy_19 rfl ?_
  refine wa_getr C fl_RX10_20 rfl rfl (by decide) dX10_seenBy_20 ?_
  refine wa_iload_n C dX10_seenBy_23 rfl ?_
  obtain ⟨g3, h⟩ := gd h
  refine wa_iald (j := (a1.toNatClampNeg)) (x := (μ.1 66 (a1.toNatClampNeg))) C rfl (by decide) g3 rfl rfl dX10_seenBy_24 ?_
  refine wa_iconst (v := 4) C dX10_seenBy_25 (by decide) ?_
  refine wa_iload_n C dX10_seenBy_26 rfl ?_
  refine wa_isub C dX10_seenBy_27 ?_
  refine wa_ishr C dX10_seenBy_28 ?_
  refine wa_ior C dX10_seenBy_29 ?_
  refine wa_bipush (v := 15) C dX10_seenBy_30 (by decide) ?_
  refine wa_iand C dX10_seenBy_32 ?_
  obtain rfl := Option.some.inj h
  exact wa_iret C dX10_seenBy_33
def f_X10_eye_62_J18 (μ : Mem) : Option (Int32 × Mem) :=
  some ((-1 : Int32), μ)
def f_X10_eye_62 (a1 : Int32) (a2 : Int32) (μ : Mem) : Option (Int32 × Mem) :=
  (f_X10_isEye_62 a1 μ).bind fun q1 =>
  if q1.1 = 0 then
    f_X10_eye_62_J18 q1.2
  else
    (f_X10_in (a2.toInt64) (0 : Int64) (1 : Int64) q1.2).bind fun q3 =>
    if q3.1 = 0 then
      f_X10_eye_62_J18 q3.2
    else
      if a2 = 0 then
        (f_X10_seenBy_62 a1 q3.2).bind fun q6 =>
        some (q6.1, q6.2)
      else
        if inb ((3 : Int32) + a1) 162 = false then none else
        some ((q3.2.1 63 (((3 : Int32) + a1).toNatClampNeg)), q3.2)
set_option maxRecDepth 100000 in
set_option maxHeartbeats 4000000 in
theorem r_X10_eye_62_J18 {p : Program} {l : Launch} {e : Env} {s : State} {m : MethodId} {args : Array Value} {below : List Frame} {meth : Method} {c : Code} {D : va_G} {cy : Nat → ClassId} {ad : Nat → Nat} (C : CX p s m args meth c cX10_eye 3 RX10 (some .int) D cy ad (AD ad)) {μ : Mem} {ρ : (Int32 × Mem)} (h : f_X10_eye_62_J18 μ = some ρ) : WA p l e (rmD 2) s m args below meth c 3 D cy ad (AD ad) 0 0 (ZZ below args s D cy ad (AD ad) 0 0 (some (.int ρ.1)) ρ.2) μ [] 18 [] := by
  unfold f_X10_eye_62_J18 at h
  refine wa_iconst (v := -1) C dX10_eye_18 (by decide) ?_
  refine wa_goto (tgt := 42) C dX10_eye_19 (by decide) ?_
  obtain rfl := Option.some.inj h
  exact wa_iret C dX10_eye_42
set_option maxRecDepth 100000 in
set_option maxHeartbeats 4000000 in
theorem r_X10_eye_62 {a1 : Int32} {a2 : Int32} {μ : Mem} {ρ : (Int32 × Mem)} (h : f_X10_eye_62 a1 a2 μ = some ρ) : HT 2 yX10_eye cX10_eye 3 (some .int) [.ref 62, .int a1, .int a2] μ (some (.int ρ.1)) ρ.2 := by
  refine HT.of (by decide +kernel) (Nat.le_of_ble_eq_true rfl) (fun C => ?_)
  unfold f_X10_eye_62 at h
  refine wa_aload_n C dX10_eye_0 rfl ?_
  refine wa_iload_n C dX10_eye_1 rfl ?_
  obtain ⟨q1, hq1, h⟩ := bd h
  refine wa_callV C (r_X10_isEye_62 hq1) mk_X10_isEye mv_X10_isEye qw_529 rfl (by decide) rfl rfl ⟨Nat.le_of_ble_eq_true rfl, Nat.le_of_ble_eq_true rfl⟩ ⟨Nat.zero_le _, Nat.zero_le _⟩ (Nat.le_of_ble_eq_true rfl) dX10_eye_2 rfl ?_
  refine wa_if_eq (tgt := 18) C dX10_eye_5 (by decide) (fun c2 => ?_) (fun c2 => ?_)
  · replace h := (if_pos c2).symm.trans h
    exact WA.sub lsub_n (r_X10_eye_62_J18 C h)
  · replace h := (if_neg c2).symm.trans h
    refine wa_iload_n C dX10_eye_8 rfl ?_
    refine wa_i2l (v := (a2.toInt64)) C dX10_eye_9 rfl ?_
    refine wa_lconst (v := 0) C dX10_eye_10 (by decide) ?_
    refine wa_lconst (v := 1) C dX10_eye_11 (by decide) ?_
    obtain ⟨q3, hq3, h⟩ := bd h
    refine wa_callS C (r_X10_in hq3) mk_X10_in ms_X10_in qw_198 rfl ⟨Nat.le_of_ble_eq_true rfl, Nat.le_of_ble_eq_true rfl⟩ ⟨Nat.zero_le _, Nat.zero_le _⟩ (Nat.le_of_ble_eq_true rfl) dX10_eye_12 rfl ?_
    refine wa_if_ne (tgt := 22) C dX10_eye_15 (by decide) (fun c4 => ?_) (fun c4 => ?_)
    · replace h := (if_neg c4).symm.trans h
      refine wa_iload_n C dX10_eye_22 rfl ?_
      refine wa_if_ne (tgt := 34) C dX10_eye_23 (by decide) (fun c5 => ?_) (fun c5 => ?_)
      · replace h := (if_neg c5).symm.trans h
        refine wa_aload_n C dX10_eye_34 rfl ?_
        refine wa_getr C fl_RX10_7 rfl rfl (by decide) dX10_eye_35 ?_
        refine wa_iconst (v := 3) C dX10_eye_38 (by decide) ?_
        refine wa_iload_n C dX10_eye_39 rfl ?_
        refine wa_iadd C dX10_eye_40 ?_
        obtain ⟨g7, h⟩ := gd h
        refine wa_iald (j := (((3 : Int32) + a1).toNatClampNeg)) (x := (q3.2.1 63 (((3 : Int32) + a1).toNatClampNeg))) C rfl (by decide) g7 rfl rfl dX10_eye_41 ?_
        obtain rfl := Option.some.inj h
        exact wa_iret C dX10_eye_42
      · replace h := (if_pos c5).symm.trans h
        refine wa_aload_n C dX10_eye_26 rfl ?_
        refine wa_iload_n C dX10_eye_27 rfl ?_
        obtain ⟨q6, hq6, h⟩ := bd h
        refine wa_callV C (r_X10_seenBy_62 hq6) mk_X10_seenBy mv_X10_seenBy qw_533 rfl (by decide) rfl rfl ⟨Nat.le_of_ble_eq_true rfl, Nat.le_of_ble_eq_true rfl⟩ ⟨Nat.zero_le _, Nat.zero_le _⟩ (Nat.le_of_ble_eq_true rfl) dX10_eye_28 rfl ?_
        refine wa_goto (tgt := 42) C dX10_eye_31 (by decide) ?_
        obtain rfl := Option.some.inj h
        exact wa_iret C dX10_eye_42
    · replace h := (if_pos c4).symm.trans h
      exact WA.sub lsub_n (r_X10_eye_62_J18 C h)
def f_X9_isSide (a0 : Int32) (μ : Mem) : Option (Int32 × Mem) :=
  if a0 < 0 then
    some ((0 : Int32), μ)
  else
    if (4 : Int32) ≤ a0 then
      some ((0 : Int32), μ)
    else
      some ((1 : Int32), μ)
set_option maxRecDepth 100000 in
set_option maxHeartbeats 4000000 in
theorem r_X9_isSide {a0 : Int32} {μ : Mem} {ρ : (Int32 × Mem)} (h : f_X9_isSide a0 μ = some ρ) : HT 0 yX9_isSide cX9_isSide 1 (some .boolean) [.int a0] μ (some (.int ρ.1)) ρ.2 := by
  refine HT.of (by decide +kernel) (Nat.le_of_ble_eq_true rfl) (fun C => ?_)
  unfold f_X9_isSide at h
  refine wa_iload_n C dX9_isSide_0 rfl ?_
  refine wa_if_lt (tgt := 13) C dX9_isSide_1 (by decide) (fun c1 => ?_) (fun c1 => ?_)
  · replace h := (if_pos c1).symm.trans h
    refine wa_iconst (v := 0) C dX9_isSide_13 (by decide) ?_
    obtain rfl := Option.some.inj h
    exact wa_zret C rfl dX9_isSide_14
  · replace h := (if_neg c1).symm.trans h
    refine wa_iload_n C dX9_isSide_4 rfl ?_
    refine wa_iconst (v := 4) C dX9_isSide_5 (by decide) ?_
    refine wa_icmp_ge (tgt := 13) C dX9_isSide_6 (by decide) (fun c2 => ?_) (fun c2 => ?_)
    · replace h := (if_pos c2).symm.trans h
      refine wa_iconst (v := 0) C dX9_isSide_13 (by decide) ?_
      obtain rfl := Option.some.inj h
      exact wa_zret C rfl dX9_isSide_14
    · replace h := (if_neg c2).symm.trans h
      refine wa_iconst (v := 1) C dX9_isSide_9 (by decide) ?_
      refine wa_goto (tgt := 14) C dX9_isSide_10 (by decide) ?_
      obtain rfl := Option.some.inj h
      exact wa_zret C rfl dX9_isSide_14
def f_X1_hasQuarter_1 (a1 : Int32) (μ : Mem) : Option (Int32 × Mem) :=
  if a1 < 0 then
    some ((0 : Int32), μ)
  else
    if (μ.1 1 1) ≤ a1 then
      some ((0 : Int32), μ)
    else
      some ((1 : Int32), μ)
set_option maxRecDepth 100000 in
set_option maxHeartbeats 4000000 in
theorem r_X1_hasQuarter_1 {a1 : Int32} {μ : Mem} {ρ : (Int32 × Mem)} (h : f_X1_hasQuarter_1 a1 μ = some ρ) : HT 0 yX1_hasQuarter cX1_hasQuarter 2 (some .boolean) [.ref 1, .int a1] μ (some (.int ρ.1)) ρ.2 := by
  refine HT.of (by decide +kernel) (Nat.le_of_ble_eq_true rfl) (fun C => ?_)
  unfold f_X1_hasQuarter_1 at h
  refine wa_iload_n C dX1_hasQuarter_0 rfl ?_
  refine wa_if_lt (tgt := 16) C dX1_hasQuarter_1 (by decide) (fun c1 => ?_) (fun c1 => ?_)
  · replace h := (if_pos c1).symm.trans h
    refine wa_iconst (v := 0) C dX1_hasQuarter_16 (by decide) ?_
    obtain rfl := Option.some.inj h
    exact wa_zret C rfl dX1_hasQuarter_17
  · replace h := (if_neg c1).symm.trans h
    refine wa_iload_n C dX1_hasQuarter_4 rfl ?_
    refine wa_aload_n C dX1_hasQuarter_5 rfl ?_
    refine wa_geti (x := (μ.1 1 1)) C fl_RX1_15 rfl rfl (by decide) rfl dX1_hasQuarter_6 ?_
    refine wa_icmp_ge (tgt := 16) C dX1_hasQuarter_9 (by decide) (fun c2 => ?_) (fun c2 => ?_)
    · replace h := (if_pos c2).symm.trans h
      refine wa_iconst (v := 0) C dX1_hasQuarter_16 (by decide) ?_
      obtain rfl := Option.some.inj h
      exact wa_zret C rfl dX1_hasQuarter_17
    · replace h := (if_neg c2).symm.trans h
      refine wa_iconst (v := 1) C dX1_hasQuarter_12 (by decide) ?_
      refine wa_goto (tgt := 17) C dX1_hasQuarter_13 (by decide) ?_
      obtain rfl := Option.some.inj h
      exact wa_zret C rfl dX1_hasQuarter_17
def f_X9_needed_0 (a1 : Int32) (a2 : Int32) (μ : Mem) : Option (Int32 × Mem) :=
  (f_X9_isSide a1 μ).bind fun q1 =>
  if q1.1 = 0 then
    some ((-1 : Int32), q1.2)
  else
    (f_X1_hasQuarter_1 a2 q1.2).bind fun q3 =>
    if q3.1 = 0 then
      some ((-1 : Int32), q3.2)
    else
      if inb a1 4 = false then none else
      if inb a2 6 = false then none else
      some (((q3.2.1 7 (a1.toNatClampNeg)) + (((q3.2.1 8 (a2.toNatClampNeg)) >>> (a1 &&& 31)) &&& (1 : Int32))), q3.2)
set_option maxRecDepth 100000 in
set_option maxHeartbeats 4000000 in
theorem r_X9_needed_0 {a1 : Int32} {a2 : Int32} {μ : Mem} {ρ : (Int32 × Mem)} (h : f_X9_needed_0 a1 a2 μ = some ρ) : HT 1 yX9_needed cX9_needed 3 (some .int) [.ref 0, .int a1, .int a2] μ (some (.int ρ.1)) ρ.2 := by
  refine HT.of (by decide +kernel) (Nat.le_of_ble_eq_true rfl) (fun C => ?_)
  unfold f_X9_needed_0 at h
  refine wa_iload_n C dX9_needed_0 rfl ?_
  obtain ⟨q1, hq1, h⟩ := bd h
  refine wa_callS C (r_X9_isSide hq1) mk_X9_isSide ms_X9_isSide qw_543 rfl ⟨Nat.le_of_ble_eq_true rfl, Nat.le_of_ble_eq_true rfl⟩ ⟨Nat.zero_le _, Nat.zero_le _⟩ (Nat.le_of_ble_eq_true rfl) dX9_needed_1 rfl ?_
  refine wa_if_eq (tgt := 18) C dX9_needed_4 (by decide) (fun c2 => ?_) (fun c2 => ?_)
  · replace h := (if_pos c2).symm.trans h
    refine wa_iconst (v := -1) C dX9_needed_18 (by decide) ?_
    obtain rfl := Option.some.inj h
    exact wa_iret C dX9_needed_19
  · replace h := (if_neg c2).symm.trans h
    refine wa_aload_n C dX9_needed_7 rfl ?_
    refine wa_getr C fl_RX9_10 rfl rfl (by decide) dX9_needed_8 ?_
    refine wa_iload_n C dX9_needed_11 rfl ?_
    obtain ⟨q3, hq3, h⟩ := bd h
    refine wa_callV C (r_X1_hasQuarter_1 hq3) mk_X1_hasQuarter mv_X1_hasQuarter qw_546 rfl (by decide) rfl rfl ⟨Nat.le_of_ble_eq_true rfl, Nat.le_of_ble_eq_true rfl⟩ ⟨Nat.zero_le _, Nat.zero_le _⟩ (Nat.le_of_ble_eq_true rfl) dX9_needed_12 rfl ?_
    refine wa_if_ne (tgt := 20) C dX9_needed_15 (by decide) (fun c4 => ?_) (fun c4 => ?_)
    · replace h := (if_neg c4).symm.trans h
      refine wa_aload_n C dX9_needed_20 rfl ?_
      refine wa_getr C fl_RX9_19 rfl rfl (by decide) dX9_needed_21 ?_
      refine wa_getr C fl_RX9_151 rfl rfl (by decide) dX9_needed_24 ?_
      refine wa_iload_n C dX9_needed_27 rfl ?_
      obtain ⟨g5, h⟩ := gd h
      refine wa_iald (j := (a1.toNatClampNeg)) (x := (q3.2.1 7 (a1.toNatClampNeg))) C rfl (by decide) g5 rfl rfl dX9_needed_28 ?_
      refine wa_aload_n C dX9_needed_29 rfl ?_
      refine wa_getr C fl_RX9_19 rfl rfl (by decide) dX9_needed_30 ?_
      refine wa_getr C fl_RX9_154 rfl rfl (by decide) dX9_needed_33 ?_
      refine wa_iload_n C dX9_needed_36 rfl ?_
      obtain ⟨g6, h⟩ := gd h
      refine wa_iald (j := (a2.toNatClampNeg)) (x := (q3.2.1 8 (a2.toNatClampNeg))) C rfl (by decide) g6 rfl rfl dX9_needed_37 ?_
      refine wa_iload_n C dX9_needed_38 rfl ?_
      refine wa_ishr C dX9_needed_39 ?_
      refine wa_iconst (v := 1) C dX9_needed_40 (by decide) ?_
      refine wa_iand C dX9_needed_41 ?_
      refine wa_iadd C dX9_needed_42 ?_
      obtain rfl := Option.some.inj h
      exact wa_iret C dX9_needed_43
    · replace h := (if_pos c4).symm.trans h
      refine wa_iconst (v := -1) C dX9_needed_18 (by decide) ?_
      obtain rfl := Option.some.inj h
      exact wa_iret C dX9_needed_19
def f_X10_isSide (a0 : Int32) (μ : Mem) : Option (Int32 × Mem) :=
  (f_X10_in (a0.toInt64) (0 : Int64) (3 : Int64) μ).bind fun q1 =>
  if zb q1.1 = false then none else
  some (q1.1, q1.2)
set_option maxRecDepth 100000 in
set_option maxHeartbeats 4000000 in
theorem r_X10_isSide {a0 : Int32} {μ : Mem} {ρ : (Int32 × Mem)} (h : f_X10_isSide a0 μ = some ρ) : HT 1 yX10_isSide cX10_isSide 1 (some .boolean) [.int a0] μ (some (.int ρ.1)) ρ.2 := by
  refine HT.of (by decide +kernel) (Nat.le_of_ble_eq_true rfl) (fun C => ?_)
  unfold f_X10_isSide at h
  refine wa_iload_n C dX10_isSide_0 rfl ?_
  refine wa_i2l (v := (a0.toInt64)) C dX10_isSide_1 rfl ?_
  refine wa_lconst (v := 0) C dX10_isSide_2 (by decide) ?_
  refine wa_ldc2 (v := 3) C qw_557 dX10_isSide_3 ?_
  obtain ⟨q1, hq1, h⟩ := bd h
  refine wa_callS C (r_X10_in hq1) mk_X10_in ms_X10_in qw_198 rfl ⟨Nat.le_of_ble_eq_true rfl, Nat.le_of_ble_eq_true rfl⟩ ⟨Nat.zero_le _, Nat.zero_le _⟩ (Nat.le_of_ble_eq_true rfl) dX10_isSide_6 rfl ?_
  obtain ⟨g2, h⟩ := gd h
  obtain rfl := Option.some.inj h
  exact wa_zret C g2 dX10_isSide_9
def f_X10_isQuarter_62 (a1 : Int32) (μ : Mem) : Option (Int32 × Mem) :=
  (f_X10_in (a1.toInt64) (0 : Int64) (((μ.1 62 3) - (1 : Int32)).toInt64) μ).bind fun q1 =>
  if zb q1.1 = false then none else
  some (q1.1, q1.2)
set_option maxRecDepth 100000 in
set_option maxHeartbeats 4000000 in
theorem r_X10_isQuarter_62 {a1 : Int32} {μ : Mem} {ρ : (Int32 × Mem)} (h : f_X10_isQuarter_62 a1 μ = some ρ) : HT 1 yX10_isQuarter cX10_isQuarter 2 (some .boolean) [.ref 62, .int a1] μ (some (.int ρ.1)) ρ.2 := by
  refine HT.of (by decide +kernel) (Nat.le_of_ble_eq_true rfl) (fun C => ?_)
  unfold f_X10_isQuarter_62 at h
  refine wa_iload_n C dX10_isQuarter_0 rfl ?_
  refine wa_i2l (v := (a1.toInt64)) C dX10_isQuarter_1 rfl ?_
  refine wa_lconst (v := 0) C dX10_isQuarter_2 (by decide) ?_
  refine wa_aload_n C dX10_isQuarter_3 rfl ?_
  refine wa_geti (x := (μ.1 62 3)) C fl_RX10_97 rfl rfl (by decide) rfl dX10_isQuarter_4 ?_
  refine wa_iconst (v := 1) C dX10_isQuarter_7 (by decide) ?_
  refine wa_isub C dX10_isQuarter_8 ?_
  refine wa_i2l (v := (((μ.1 62 3) - (1 : Int32)).toInt64)) C dX10_isQuarter_9 rfl ?_
  obtain ⟨q1, hq1, h⟩ := bd h
  refine wa_callS C (r_X10_in hq1) mk_X10_in ms_X10_in qw_198 rfl ⟨Nat.le_of_ble_eq_true rfl, Nat.le_of_ble_eq_true rfl⟩ ⟨Nat.zero_le _, Nat.zero_le _⟩ (Nat.le_of_ble_eq_true rfl) dX10_isQuarter_10 rfl ?_
  obtain ⟨g2, h⟩ := gd h
  obtain rfl := Option.some.inj h
  exact wa_zret C g2 dX10_isQuarter_13
def f_X10_neededAt_62 (a1 : Int32) (a2 : Int32) (μ : Mem) : Option (Int32 × Mem) :=
  if inb ((9 : Int32) + a1) 162 = false then none else
  if inb ((13 : Int32) + a2) 162 = false then none else
  some (((μ.1 63 (((9 : Int32) + a1).toNatClampNeg)) + (((μ.1 63 (((13 : Int32) + a2).toNatClampNeg)) >>> (a1 &&& 31)) &&& (1 : Int32))), μ)
set_option maxRecDepth 100000 in
set_option maxHeartbeats 4000000 in
theorem r_X10_neededAt_62 {a1 : Int32} {a2 : Int32} {μ : Mem} {ρ : (Int32 × Mem)} (h : f_X10_neededAt_62 a1 a2 μ = some ρ) : HT 0 yX10_neededAt cX10_neededAt 3 (some .int) [.ref 62, .int a1, .int a2] μ (some (.int ρ.1)) ρ.2 := by
  refine HT.of (by decide +kernel) (Nat.le_of_ble_eq_true rfl) (fun C => ?_)
  unfold f_X10_neededAt_62 at h
  refine wa_aload_n C dX10_neededAt_0 rfl ?_
  refine wa_getr C fl_RX10_7 rfl rfl (by decide) dX10_neededAt_1 ?_
  refine wa_bipush (v := 9) C dX10_neededAt_4 (by decide) ?_
  refine wa_iload_n C dX10_neededAt_6 rfl ?_
  refine wa_iadd C dX10_neededAt_7 ?_
  obtain ⟨g1, h⟩ := gd h
  refine wa_iald (j := (((9 : Int32) + a1).toNatClampNeg)) (x := (μ.1 63 (((9 : Int32) + a1).toNatClampNeg))) C rfl (by decide) g1 rfl rfl dX10_neededAt_8 ?_
  refine wa_aload_n C dX10_neededAt_9 rfl ?_
  refine wa_getr C fl_RX10_7 rfl rfl (by decide) dX10_neededAt_10 ?_
  refine wa_bipush (v := 13) C dX10_neededAt_13 (by decide) ?_
  refine wa_iload_n C dX10_neededAt_15 rfl ?_
  refine wa_iadd C dX10_neededAt_16 ?_
  obtain ⟨g2, h⟩ := gd h
  refine wa_iald (j := (((13 : Int32) + a2).toNatClampNeg)) (x := (μ.1 63 (((13 : Int32) + a2).toNatClampNeg))) C rfl (by decide) g2 rfl rfl dX10_neededAt_17 ?_
  refine wa_iload_n C dX10_neededAt_18 rfl ?_
  refine wa_ishr C dX10_neededAt_19 ?_
  refine wa_iconst (v := 1) C dX10_neededAt_20 (by decide) ?_
  refine wa_iand C dX10_neededAt_21 ?_
  refine wa_iadd C dX10_neededAt_22 ?_
  obtain rfl := Option.some.inj h
  exact wa_iret C dX10_neededAt_23
def f_X10_needed_62 (a1 : Int32) (a2 : Int32) (μ : Mem) : Option (Int32 × Mem) :=
  (f_X10_isSide a1 μ).bind fun q1 =>
  if q1.1 = 0 then
    some ((-1 : Int32), q1.2)
  else
    (f_X10_isQuarter_62 a2 q1.2).bind fun q3 =>
    if q3.1 = 0 then
      some ((-1 : Int32), q3.2)
    else
      (f_X10_neededAt_62 a1 a2 q3.2).bind fun q5 =>
      some (q5.1, q5.2)
set_option maxRecDepth 100000 in
set_option maxHeartbeats 4000000 in
theorem r_X10_needed_62 {a1 : Int32} {a2 : Int32} {μ : Mem} {ρ : (Int32 × Mem)} (h : f_X10_needed_62 a1 a2 μ = some ρ) : HT 2 yX10_needed cX10_needed 3 (some .int) [.ref 62, .int a1, .int a2] μ (some (.int ρ.1)) ρ.2 := by
  refine HT.of (by decide +kernel) (Nat.le_of_ble_eq_true rfl) (fun C => ?_)
  unfold f_X10_needed_62 at h
  refine wa_iload_n C dX10_needed_0 rfl ?_
  obtain ⟨q1, hq1, h⟩ := bd h
  refine wa_callS C (r_X10_isSide hq1) mk_X10_isSide ms_X10_isSide qw_554 rfl ⟨Nat.le_of_ble_eq_true rfl, Nat.le_of_ble_eq_true rfl⟩ ⟨Nat.zero_le _, Nat.zero_le _⟩ (Nat.le_of_ble_eq_true rfl) dX10_needed_1 rfl ?_
  refine wa_if_eq (tgt := 24) C dX10_needed_4 (by decide) (fun c2 => ?_) (fun c2 => ?_)
  · replace h := (if_pos c2).symm.trans h
    refine wa_iconst (v := -1) C dX10_needed_24 (by decide) ?_
    obtain rfl := Option.some.inj h
    exact wa_iret C dX10_needed_25
  · replace h := (if_neg c2).symm.trans h
    refine wa_aload_n C dX10_needed_7 rfl ?_
    refine wa_iload_n C dX10_needed_8 rfl ?_
    obtain ⟨q3, hq3, h⟩ := bd h
    refine wa_callV C (r_X10_isQuarter_62 hq3) mk_X10_isQuarter mv_X10_isQuarter qw_558 rfl (by decide) rfl rfl ⟨Nat.le_of_ble_eq_true rfl, Nat.le_of_ble_eq_true rfl⟩ ⟨Nat.zero_le _, Nat.zero_le _⟩ (Nat.le_of_ble_eq_true rfl) dX10_needed_9 rfl ?_
    refine wa_if_eq (tgt := 24) C dX10_needed_12 (by decide) (fun c4 => ?_) (fun c4 => ?_)
    · replace h := (if_pos c4).symm.trans h
      refine wa_iconst (v := -1) C dX10_needed_24 (by decide) ?_
      obtain rfl := Option.some.inj h
      exact wa_iret C dX10_needed_25
    · replace h := (if_neg c4).symm.trans h
      refine wa_aload_n C dX10_needed_15 rfl ?_
      refine wa_iload_n C dX10_needed_16 rfl ?_
      refine wa_iload_n C dX10_needed_17 rfl ?_
      obtain ⟨q5, hq5, h⟩ := bd h
      refine wa_callV C (r_X10_neededAt_62 hq5) mk_X10_neededAt mv_X10_neededAt qw_562 rfl (by decide) rfl rfl ⟨Nat.le_of_ble_eq_true rfl, Nat.le_of_ble_eq_true rfl⟩ ⟨Nat.zero_le _, Nat.zero_le _⟩ (Nat.le_of_ble_eq_true rfl) dX10_needed_18 rfl ?_
      refine wa_goto (tgt := 25) C dX10_needed_21 (by decide) ?_
      obtain rfl := Option.some.inj h
      exact wa_iret C dX10_needed_25
def f_X9_watch_0 (a1 : Int32) (μ : Mem) : Option (Int32 × Mem) :=
  (f_X1_hasQuarter_1 a1 μ).bind fun q1 =>
  if q1.1 = 0 then
    some ((-1 : Int32), q1.2)
  else
    if inb a1 6 = false then none else
    some ((q1.2.1 9 (a1.toNatClampNeg)), q1.2)
set_option maxRecDepth 100000 in
set_option maxHeartbeats 4000000 in
theorem r_X9_watch_0 {a1 : Int32} {μ : Mem} {ρ : (Int32 × Mem)} (h : f_X9_watch_0 a1 μ = some ρ) : HT 1 yX9_watch cX9_watch 2 (some .int) [.ref 0, .int a1] μ (some (.int ρ.1)) ρ.2 := by
  refine HT.of (by decide +kernel) (Nat.le_of_ble_eq_true rfl) (fun C => ?_)
  unfold f_X9_watch_0 at h
  refine wa_aload_n C dX9_watch_0 rfl ?_
  refine wa_getr C fl_RX9_10 rfl rfl (by decide) dX9_watch_1 ?_
  refine wa_iload_n C dX9_watch_4 rfl ?_
  obtain ⟨q1, hq1, h⟩ := bd h
  refine wa_callV C (r_X1_hasQuarter_1 hq1) mk_X1_hasQuarter mv_X1_hasQuarter qw_546 rfl (by decide) rfl rfl ⟨Nat.le_of_ble_eq_true rfl, Nat.le_of_ble_eq_true rfl⟩ ⟨Nat.zero_le _, Nat.zero_le _⟩ (Nat.le_of_ble_eq_true rfl) dX9_watch_5 rfl ?_
  refine wa_if_eq (tgt := 23) C dX9_watch_8 (by decide) (fun c2 => ?_) (fun c2 => ?_)
  · replace h := (if_pos c2).symm.trans h
    refine wa_iconst (v := -1) C dX9_watch_23 (by decide) ?_
    obtain rfl := Option.some.inj h
    exact wa_iret C dX9_watch_24
  · replace h := (if_neg c2).symm.trans h
    refine wa_aload_n C dX9_watch_11 rfl ?_
    refine wa_getr C fl_RX9_19 rfl rfl (by decide) dX9_watch_12 ?_
    refine wa_getr C fl_RX9_157 rfl rfl (by decide) dX9_watch_15 ?_
    refine wa_iload_n C dX9_watch_18 rfl ?_
    obtain ⟨g3, h⟩ := gd h
    refine wa_iald (j := (a1.toNatClampNeg)) (x := (q1.2.1 9 (a1.toNatClampNeg))) C rfl (by decide) g3 rfl rfl dX9_watch_19 ?_
    refine wa_goto (tgt := 24) C dX9_watch_20 (by decide) ?_
    obtain rfl := Option.some.inj h
    exact wa_iret C dX9_watch_24
def f_X10_watch_62 (a1 : Int32) (μ : Mem) : Option (Int32 × Mem) :=
  (f_X10_isQuarter_62 a1 μ).bind fun q1 =>
  if q1.1 = 0 then
    some ((-1 : Int32), q1.2)
  else
    if inb ((21 : Int32) + a1) 162 = false then none else
    some ((q1.2.1 63 (((21 : Int32) + a1).toNatClampNeg)), q1.2)
set_option maxRecDepth 100000 in
set_option maxHeartbeats 4000000 in
theorem r_X10_watch_62 {a1 : Int32} {μ : Mem} {ρ : (Int32 × Mem)} (h : f_X10_watch_62 a1 μ = some ρ) : HT 2 yX10_watch cX10_watch 2 (some .int) [.ref 62, .int a1] μ (some (.int ρ.1)) ρ.2 := by
  refine HT.of (by decide +kernel) (Nat.le_of_ble_eq_true rfl) (fun C => ?_)
  unfold f_X10_watch_62 at h
  refine wa_aload_n C dX10_watch_0 rfl ?_
  refine wa_iload_n C dX10_watch_1 rfl ?_
  obtain ⟨q1, hq1, h⟩ := bd h
  refine wa_callV C (r_X10_isQuarter_62 hq1) mk_X10_isQuarter mv_X10_isQuarter qw_558 rfl (by decide) rfl rfl ⟨Nat.le_of_ble_eq_true rfl, Nat.le_of_ble_eq_true rfl⟩ ⟨Nat.zero_le _, Nat.zero_le _⟩ (Nat.le_of_ble_eq_true rfl) dX10_watch_2 rfl ?_
  refine wa_if_eq (tgt := 20) C dX10_watch_5 (by decide) (fun c2 => ?_) (fun c2 => ?_)
  · replace h := (if_pos c2).symm.trans h
    refine wa_iconst (v := -1) C dX10_watch_20 (by decide) ?_
    obtain rfl := Option.some.inj h
    exact wa_iret C dX10_watch_21
  · replace h := (if_neg c2).symm.trans h
    refine wa_aload_n C dX10_watch_8 rfl ?_
    refine wa_getr C fl_RX10_7 rfl rfl (by decide) dX10_watch_9 ?_
    refine wa_bipush (v := 21) C dX10_watch_12 (by decide) ?_
    refine wa_iload_n C dX10_watch_14 rfl ?_
    refine wa_iadd C dX10_watch_15 ?_
    obtain ⟨g3, h⟩ := gd h
    refine wa_iald (j := (((21 : Int32) + a1).toNatClampNeg)) (x := (q1.2.1 63 (((21 : Int32) + a1).toNatClampNeg))) C rfl (by decide) g3 rfl rfl dX10_watch_16 ?_
    refine wa_goto (tgt := 21) C dX10_watch_17 (by decide) ?_
    obtain rfl := Option.some.inj h
    exact wa_iret C dX10_watch_21
def f_X1_watches_1 (μ : Mem) : Option (Int32 × Mem) :=
  if inb (μ.1 1 0) 4 = false then none else
  some ((powF ((μ.1 1 0).toNatClampNeg)), μ)
set_option maxRecDepth 100000 in
set_option maxHeartbeats 4000000 in
theorem r_X1_watches_1 {μ : Mem} {ρ : (Int32 × Mem)} (h : f_X1_watches_1 μ = some ρ) : HT 0 yX1_watches cX1_watches 1 (some .int) [.ref 1] μ (some (.int ρ.1)) ρ.2 := by
  refine HT.of (by decide +kernel) (Nat.le_of_ble_eq_true rfl) (fun C => ?_)
  unfold f_X1_watches_1 at h
  refine wa_gpow1 C dX1_watches_0 ?_
  refine wa_aload_n C dX1_watches_3 rfl ?_
  refine wa_geti (x := (μ.1 1 0)) C fl_RX1_9 rfl rfl (by decide) rfl dX1_watches_4 ?_
  obtain ⟨g1, h⟩ := gd h
  refine wa_pald (j := ((μ.1 1 0).toNatClampNeg)) C g1 rfl dX1_watches_7 ?_
  obtain rfl := Option.some.inj h
  exact wa_iret C dX1_watches_8
def f_X1_hasWatch_1 (a1 : Int32) (μ : Mem) : Option (Int32 × Mem) :=
  if a1 < 0 then
    some ((0 : Int32), μ)
  else
    (f_X1_watches_1 μ).bind fun q2 =>
    if q2.1 ≤ a1 then
      some ((0 : Int32), q2.2)
    else
      some ((1 : Int32), q2.2)
set_option maxRecDepth 100000 in
set_option maxHeartbeats 4000000 in
theorem r_X1_hasWatch_1 {a1 : Int32} {μ : Mem} {ρ : (Int32 × Mem)} (h : f_X1_hasWatch_1 a1 μ = some ρ) : HT 1 yX1_hasWatch cX1_hasWatch 2 (some .boolean) [.ref 1, .int a1] μ (some (.int ρ.1)) ρ.2 := by
  refine HT.of (by decide +kernel) (Nat.le_of_ble_eq_true rfl) (fun C => ?_)
  unfold f_X1_hasWatch_1 at h
  refine wa_iload_n C dX1_hasWatch_0 rfl ?_
  refine wa_if_lt (tgt := 16) C dX1_hasWatch_1 (by decide) (fun c1 => ?_) (fun c1 => ?_)
  · replace h := (if_pos c1).symm.trans h
    refine wa_iconst (v := 0) C dX1_hasWatch_16 (by decide) ?_
    obtain rfl := Option.some.inj h
    exact wa_zret C rfl dX1_hasWatch_17
  · replace h := (if_neg c1).symm.trans h
    refine wa_iload_n C dX1_hasWatch_4 rfl ?_
    refine wa_aload_n C dX1_hasWatch_5 rfl ?_
    obtain ⟨q2, hq2, h⟩ := bd h
    refine wa_callV C (r_X1_watches_1 hq2) mk_X1_watches mv_X1_watches qw_265 rfl (by decide) rfl rfl ⟨Nat.le_of_ble_eq_true rfl, Nat.le_of_ble_eq_true rfl⟩ ⟨Nat.zero_le _, Nat.zero_le _⟩ (Nat.le_of_ble_eq_true rfl) dX1_hasWatch_6 rfl ?_
    refine wa_icmp_ge (tgt := 16) C dX1_hasWatch_9 (by decide) (fun c3 => ?_) (fun c3 => ?_)
    · replace h := (if_pos c3).symm.trans h
      refine wa_iconst (v := 0) C dX1_hasWatch_16 (by decide) ?_
      obtain rfl := Option.some.inj h
      exact wa_zret C rfl dX1_hasWatch_17
    · replace h := (if_neg c3).symm.trans h
      refine wa_iconst (v := 1) C dX1_hasWatch_12 (by decide) ?_
      refine wa_goto (tgt := 17) C dX1_hasWatch_13 (by decide) ?_
      obtain rfl := Option.some.inj h
      exact wa_zret C rfl dX1_hasWatch_17
def f_X9_canTell_0 (a1 : Int32) (a2 : Int32) (μ : Mem) : Option (Int32 × Mem) :=
  (f_X1_hasQuarter_1 a1 μ).bind fun q1 =>
  if q1.1 = 0 then
    some ((0 : Int32), q1.2)
  else
    (f_X1_hasWatch_1 a2 q1.2).bind fun q3 =>
    if q3.1 = 0 then
      some ((0 : Int32), q3.2)
    else
      some ((1 : Int32), q3.2)
set_option maxRecDepth 100000 in
set_option maxHeartbeats 4000000 in
theorem r_X9_canTell_0 {a1 : Int32} {a2 : Int32} {μ : Mem} {ρ : (Int32 × Mem)} (h : f_X9_canTell_0 a1 a2 μ = some ρ) : HT 2 yX9_canTell cX9_canTell 3 (some .boolean) [.ref 0, .int a1, .int a2] μ (some (.int ρ.1)) ρ.2 := by
  refine HT.of (by decide +kernel) (Nat.le_of_ble_eq_true rfl) (fun C => ?_)
  unfold f_X9_canTell_0 at h
  refine wa_aload_n C dX9_canTell_0 rfl ?_
  refine wa_getr C fl_RX9_10 rfl rfl (by decide) dX9_canTell_1 ?_
  refine wa_iload_n C dX9_canTell_4 rfl ?_
  obtain ⟨q1, hq1, h⟩ := bd h
  refine wa_callV C (r_X1_hasQuarter_1 hq1) mk_X1_hasQuarter mv_X1_hasQuarter qw_546 rfl (by decide) rfl rfl ⟨Nat.le_of_ble_eq_true rfl, Nat.le_of_ble_eq_true rfl⟩ ⟨Nat.zero_le _, Nat.zero_le _⟩ (Nat.le_of_ble_eq_true rfl) dX9_canTell_5 rfl ?_
  refine wa_if_eq (tgt := 26) C dX9_canTell_8 (by decide) (fun c2 => ?_) (fun c2 => ?_)
  · replace h := (if_pos c2).symm.trans h
    refine wa_iconst (v := 0) C dX9_canTell_26 (by decide) ?_
    obtain rfl := Option.some.inj h
    exact wa_zret C rfl dX9_canTell_27
  · replace h := (if_neg c2).symm.trans h
    refine wa_aload_n C dX9_canTell_11 rfl ?_
    refine wa_getr C fl_RX9_10 rfl rfl (by decide) dX9_canTell_12 ?_
    refine wa_iload_n C dX9_canTell_15 rfl ?_
    obtain ⟨q3, hq3, h⟩ := bd h
    refine wa_callV C (r_X1_hasWatch_1 hq3) mk_X1_hasWatch mv_X1_hasWatch qw_583 rfl (by decide) rfl rfl ⟨Nat.le_of_ble_eq_true rfl, Nat.le_of_ble_eq_true rfl⟩ ⟨Nat.zero_le _, Nat.zero_le _⟩ (Nat.le_of_ble_eq_true rfl) dX9_canTell_16 rfl ?_
    refine wa_if_eq (tgt := 26) C dX9_canTell_19 (by decide) (fun c4 => ?_) (fun c4 => ?_)
    · replace h := (if_pos c4).symm.trans h
      refine wa_iconst (v := 0) C dX9_canTell_26 (by decide) ?_
      obtain rfl := Option.some.inj h
      exact wa_zret C rfl dX9_canTell_27
    · replace h := (if_neg c4).symm.trans h
      refine wa_iconst (v := 1) C dX9_canTell_22 (by decide) ?_
      refine wa_goto (tgt := 27) C dX9_canTell_23 (by decide) ?_
      obtain rfl := Option.some.inj h
      exact wa_zret C rfl dX9_canTell_27
def f_X9_tell_0 (a1 : Int32) (a2 : Int32) (μ : Mem) : Option (Int32 × Mem) :=
  (f_X9_canTell_0 a1 a2 μ).bind fun q1 =>
  if q1.1 = 0 then
    some ((-1 : Int32), q1.2)
  else
    if inb a1 6 = false then none else
    if inb a1 6 = false then none else
    some ((q1.2.1 9 (a1.toNatClampNeg)), (pI q1.2 9 (a1.toNatClampNeg) a2))
set_option maxRecDepth 100000 in
set_option maxHeartbeats 4000000 in
theorem r_X9_tell_0 {a1 : Int32} {a2 : Int32} {μ : Mem} {ρ : (Int32 × Mem)} (h : f_X9_tell_0 a1 a2 μ = some ρ) : HT 3 yX9_tell cX9_tell 4 (some .int) [.ref 0, .int a1, .int a2] μ (some (.int ρ.1)) ρ.2 := by
  refine HT.of (by decide +kernel) (Nat.le_of_ble_eq_true rfl) (fun C => ?_)
  unfold f_X9_tell_0 at h
  refine wa_aload_n C dX9_tell_0 rfl ?_
  refine wa_iload_n C dX9_tell_1 rfl ?_
  refine wa_iload_n C dX9_tell_2 rfl ?_
  obtain ⟨q1, hq1, h⟩ := bd h
  refine wa_callV C (r_X9_canTell_0 hq1) mk_X9_canTell mv_X9_canTell qw_579 rfl (by decide) rfl rfl ⟨Nat.le_of_ble_eq_true rfl, Nat.le_of_ble_eq_true rfl⟩ ⟨Nat.zero_le _, Nat.zero_le _⟩ (Nat.le_of_ble_eq_true rfl) dX9_tell_3 rfl ?_
  refine wa_if_ne (tgt := 11) C dX9_tell_6 (by decide) (fun c2 => ?_) (fun c2 => ?_)
  · replace h := (if_neg c2).symm.trans h
    refine wa_aload_n C dX9_tell_11 rfl ?_
    refine wa_getr C fl_RX9_19 rfl rfl (by decide) dX9_tell_12 ?_
    refine wa_getr C fl_RX9_157 rfl rfl (by decide) dX9_tell_15 ?_
    refine wa_iload_n C dX9_tell_18 rfl ?_
    obtain ⟨g3, h⟩ := gd h
    refine wa_iald (j := (a1.toNatClampNeg)) (x := (q1.2.1 9 (a1.toNatClampNeg))) C rfl (by decide) g3 rfl rfl dX9_tell_19 ?_
    refine wa_istore_n C dX9_tell_20 (by decide) ?_
    refine wa_aload_n C dX9_tell_21 rfl ?_
    refine wa_getr C fl_RX9_19 rfl rfl (by decide) dX9_tell_22 ?_
    refine wa_getr C fl_RX9_157 rfl rfl (by decide) dX9_tell_25 ?_
    refine wa_iload_n C dX9_tell_28 rfl ?_
    refine wa_iload_n C dX9_tell_29 rfl ?_
    obtain ⟨g4, h⟩ := gd h
    refine wa_iast (j := (a1.toNatClampNeg)) C rfl (by decide) g4 rfl dX9_tell_30 ?_
    refine wa_iload_n C dX9_tell_31 rfl ?_
    obtain rfl := Option.some.inj h
    exact wa_iret C dX9_tell_32
  · replace h := (if_pos c2).symm.trans h
    refine wa_iconst (v := -1) C dX9_tell_9 (by decide) ?_
    obtain rfl := Option.some.inj h
    exact wa_iret C dX9_tell_10
def f_X10_isWatch_62 (a1 : Int32) (μ : Mem) : Option (Int32 × Mem) :=
  (f_X10_in (a1.toInt64) (0 : Int64) (((μ.1 62 4) - (1 : Int32)).toInt64) μ).bind fun q1 =>
  if zb q1.1 = false then none else
  some (q1.1, q1.2)
set_option maxRecDepth 100000 in
set_option maxHeartbeats 4000000 in
theorem r_X10_isWatch_62 {a1 : Int32} {μ : Mem} {ρ : (Int32 × Mem)} (h : f_X10_isWatch_62 a1 μ = some ρ) : HT 1 yX10_isWatch cX10_isWatch 2 (some .boolean) [.ref 62, .int a1] μ (some (.int ρ.1)) ρ.2 := by
  refine HT.of (by decide +kernel) (Nat.le_of_ble_eq_true rfl) (fun C => ?_)
  unfold f_X10_isWatch_62 at h
  refine wa_iload_n C dX10_isWatch_0 rfl ?_
  refine wa_i2l (v := (a1.toInt64)) C dX10_isWatch_1 rfl ?_
  refine wa_lconst (v := 0) C dX10_isWatch_2 (by decide) ?_
  refine wa_aload_n C dX10_isWatch_3 rfl ?_
  refine wa_geti (x := (μ.1 62 4)) C fl_RX10_104 rfl rfl (by decide) rfl dX10_isWatch_4 ?_
  refine wa_iconst (v := 1) C dX10_isWatch_7 (by decide) ?_
  refine wa_isub C dX10_isWatch_8 ?_
  refine wa_i2l (v := (((μ.1 62 4) - (1 : Int32)).toInt64)) C dX10_isWatch_9 rfl ?_
  obtain ⟨q1, hq1, h⟩ := bd h
  refine wa_callS C (r_X10_in hq1) mk_X10_in ms_X10_in qw_198 rfl ⟨Nat.le_of_ble_eq_true rfl, Nat.le_of_ble_eq_true rfl⟩ ⟨Nat.zero_le _, Nat.zero_le _⟩ (Nat.le_of_ble_eq_true rfl) dX10_isWatch_10 rfl ?_
  obtain ⟨g2, h⟩ := gd h
  obtain rfl := Option.some.inj h
  exact wa_zret C g2 dX10_isWatch_13
def f_X10_tell_62 (a1 : Int32) (a2 : Int32) (μ : Mem) : Option (Int32 × Mem) :=
  (f_X10_isQuarter_62 a1 μ).bind fun q1 =>
  if q1.1 = 0 then
    some ((-1 : Int32), q1.2)
  else
    (f_X10_isWatch_62 a2 q1.2).bind fun q3 =>
    if q3.1 = 0 then
      some ((-1 : Int32), q3.2)
    else
      if inb ((21 : Int32) + a1) 162 = false then none else
      if inb ((21 : Int32) + a1) 162 = false then none else
      some ((q3.2.1 63 (((21 : Int32) + a1).toNatClampNeg)), (pI q3.2 63 (((21 : Int32) + a1).toNatClampNeg) a2))
set_option maxRecDepth 100000 in
set_option maxHeartbeats 4000000 in
theorem r_X10_tell_62 {a1 : Int32} {a2 : Int32} {μ : Mem} {ρ : (Int32 × Mem)} (h : f_X10_tell_62 a1 a2 μ = some ρ) : HT 2 yX10_tell cX10_tell 4 (some .int) [.ref 62, .int a1, .int a2] μ (some (.int ρ.1)) ρ.2 := by
  refine HT.of (by decide +kernel) (Nat.le_of_ble_eq_true rfl) (fun C => ?_)
  unfold f_X10_tell_62 at h
  refine wa_aload_n C dX10_tell_0 rfl ?_
  refine wa_iload_n C dX10_tell_1 rfl ?_
  obtain ⟨q1, hq1, h⟩ := bd h
  refine wa_callV C (r_X10_isQuarter_62 hq1) mk_X10_isQuarter mv_X10_isQuarter qw_558 rfl (by decide) rfl rfl ⟨Nat.le_of_ble_eq_true rfl, Nat.le_of_ble_eq_true rfl⟩ ⟨Nat.zero_le _, Nat.zero_le _⟩ (Nat.le_of_ble_eq_true rfl) dX10_tell_2 rfl ?_
  refine wa_if_eq (tgt := 16) C dX10_tell_5 (by decide) (fun c2 => ?_) (fun c2 => ?_)
  · replace h := (if_pos c2).symm.trans h
    refine wa_iconst (v := -1) C dX10_tell_16 (by decide) ?_
    obtain rfl := Option.some.inj h
    exact wa_iret C dX10_tell_17
  · replace h := (if_neg c2).symm.trans h
    refine wa_aload_n C dX10_tell_8 rfl ?_
    refine wa_iload_n C dX10_tell_9 rfl ?_
    obtain ⟨q3, hq3, h⟩ := bd h
    refine wa_callV C (r_X10_isWatch_62 hq3) mk_X10_isWatch mv_X10_isWatch qw_588 rfl (by decide) rfl rfl ⟨Nat.le_of_ble_eq_true rfl, Nat.le_of_ble_eq_true rfl⟩ ⟨Nat.zero_le _, Nat.zero_le _⟩ (Nat.le_of_ble_eq_true rfl) dX10_tell_10 rfl ?_
    refine wa_if_ne (tgt := 18) C dX10_tell_13 (by decide) (fun c4 => ?_) (fun c4 => ?_)
    · replace h := (if_neg c4).symm.trans h
      refine wa_aload_n C dX10_tell_18 rfl ?_
      refine wa_getr C fl_RX10_7 rfl rfl (by decide) dX10_tell_19 ?_
      refine wa_bipush (v := 21) C dX10_tell_22 (by decide) ?_
      refine wa_iload_n C dX10_tell_24 rfl ?_
      refine wa_iadd C dX10_tell_25 ?_
      obtain ⟨g5, h⟩ := gd h
      refine wa_iald (j := (((21 : Int32) + a1).toNatClampNeg)) (x := (q3.2.1 63 (((21 : Int32) + a1).toNatClampNeg))) C rfl (by decide) g5 rfl rfl dX10_tell_26 ?_
      refine wa_istore_n C dX10_tell_27 (by decide) ?_
      refine wa_aload_n C dX10_tell_28 rfl ?_
      refine wa_getr C fl_RX10_7 rfl rfl (by decide) dX10_tell_29 ?_
      refine wa_bipush (v := 21) C dX10_tell_32 (by decide) ?_
      refine wa_iload_n C dX10_tell_34 rfl ?_
      refine wa_iadd C dX10_tell_35 ?_
      refine wa_iload_n C dX10_tell_36 rfl ?_
      obtain ⟨g6, h⟩ := gd h
      refine wa_iast (j := (((21 : Int32) + a1).toNatClampNeg)) C rfl (by decide) g6 rfl dX10_tell_37 ?_
      refine wa_iload_n C dX10_tell_38 rfl ?_
      obtain rfl := Option.some.inj h
      exact wa_iret C dX10_tell_39
    · replace h := (if_pos c4).symm.trans h
      refine wa_iconst (v := -1) C dX10_tell_16 (by decide) ?_
      obtain rfl := Option.some.inj h
      exact wa_iret C dX10_tell_17
def f_X9_need_0 (a1 : Int32) (a2 : Int32) (μ : Mem) : Option (Int32 × Mem) :=
  (f_X9_isSide a1 μ).bind fun q1 =>
  if q1.1 = 0 then
    some ((-1 : Int32), q1.2)
  else
    if a2 < 0 then
      some ((-1 : Int32), q1.2)
    else
      if a2 ≤ (6 : Int32) then
        if inb a1 4 = false then none else
        if inb a1 4 = false then none else
        some ((q1.2.1 7 (a1.toNatClampNeg)), (pI q1.2 7 (a1.toNatClampNeg) a2))
      else
        some ((-1 : Int32), q1.2)
set_option maxRecDepth 100000 in
set_option maxHeartbeats 4000000 in
theorem r_X9_need_0 {a1 : Int32} {a2 : Int32} {μ : Mem} {ρ : (Int32 × Mem)} (h : f_X9_need_0 a1 a2 μ = some ρ) : HT 1 yX9_need cX9_need 4 (some .int) [.ref 0, .int a1, .int a2] μ (some (.int ρ.1)) ρ.2 := by
  refine HT.of (by decide +kernel) (Nat.le_of_ble_eq_true rfl) (fun C => ?_)
  unfold f_X9_need_0 at h
  refine wa_iload_n C dX9_need_0 rfl ?_
  obtain ⟨q1, hq1, h⟩ := bd h
  refine wa_callS C (r_X9_isSide hq1) mk_X9_isSide ms_X9_isSide qw_543 rfl ⟨Nat.le_of_ble_eq_true rfl, Nat.le_of_ble_eq_true rfl⟩ ⟨Nat.zero_le _, Nat.zero_le _⟩ (Nat.le_of_ble_eq_true rfl) dX9_need_1 rfl ?_
  refine wa_if_eq (tgt := 17) C dX9_need_4 (by decide) (fun c2 => ?_) (fun c2 => ?_)
  · replace h := (if_pos c2).symm.trans h
    refine wa_iconst (v := -1) C dX9_need_17 (by decide) ?_
    obtain rfl := Option.some.inj h
    exact wa_iret C dX9_need_18
  · replace h := (if_neg c2).symm.trans h
    refine wa_iload_n C dX9_need_7 rfl ?_
    refine wa_if_lt (tgt := 17) C dX9_need_8 (by decide) (fun c3 => ?_) (fun c3 => ?_)
    · replace h := (if_pos c3).symm.trans h
      refine wa_iconst (v := -1) C dX9_need_17 (by decide) ?_
      obtain rfl := Option.some.inj h
      exact wa_iret C dX9_need_18
    · replace h := (if_neg c3).symm.trans h
      refine wa_iload_n C dX9_need_11 rfl ?_
      refine wa_bipush (v := 6) C dX9_need_12 (by decide) ?_
      refine wa_icmp_le (tgt := 19) C dX9_need_14 (by decide) (fun c4 => ?_) (fun c4 => ?_)
      · replace h := (if_pos c4).symm.trans h
        refine wa_aload_n C dX9_need_19 rfl ?_
        refine wa_getr C fl_RX9_19 rfl rfl (by decide) dX9_need_20 ?_
        refine wa_getr C fl_RX9_151 rfl rfl (by decide) dX9_need_23 ?_
        refine wa_iload_n C dX9_need_26 rfl ?_
        obtain ⟨g5, h⟩ := gd h
        refine wa_iald (j := (a1.toNatClampNeg)) (x := (q1.2.1 7 (a1.toNatClampNeg))) C rfl (by decide) g5 rfl rfl dX9_need_27 ?_
        refine wa_istore_n C dX9_need_28 (by decide) ?_
        refine wa_aload_n C dX9_need_29 rfl ?_
        refine wa_getr C fl_RX9_19 rfl rfl (by decide) dX9_need_30 ?_
        refine wa_getr C fl_RX9_151 rfl rfl (by decide) dX9_need_33 ?_
        refine wa_iload_n C dX9_need_36 rfl ?_
        refine wa_iload_n C dX9_need_37 rfl ?_
        obtain ⟨g6, h⟩ := gd h
        refine wa_iast (j := (a1.toNatClampNeg)) C rfl (by decide) g6 rfl dX9_need_38 ?_
        refine wa_iload_n C dX9_need_39 rfl ?_
        obtain rfl := Option.some.inj h
        exact wa_iret C dX9_need_40
      · replace h := (if_neg c4).symm.trans h
        refine wa_iconst (v := -1) C dX9_need_17 (by decide) ?_
        obtain rfl := Option.some.inj h
        exact wa_iret C dX9_need_18
def f_X10_need_62 (a1 : Int32) (a2 : Int32) (μ : Mem) : Option (Int32 × Mem) :=
  (f_X10_isSide a1 μ).bind fun q1 =>
  if q1.1 = 0 then
    some ((-1 : Int32), q1.2)
  else
    (f_X10_in (a2.toInt64) (0 : Int64) (6 : Int64) q1.2).bind fun q3 =>
    if q3.1 = 0 then
      some ((-1 : Int32), q3.2)
    else
      if inb ((9 : Int32) + a1) 162 = false then none else
      if inb ((9 : Int32) + a1) 162 = false then none else
      some ((q3.2.1 63 (((9 : Int32) + a1).toNatClampNeg)), (pI q3.2 63 (((9 : Int32) + a1).toNatClampNeg) a2))
set_option maxRecDepth 100000 in
set_option maxHeartbeats 4000000 in
theorem r_X10_need_62 {a1 : Int32} {a2 : Int32} {μ : Mem} {ρ : (Int32 × Mem)} (h : f_X10_need_62 a1 a2 μ = some ρ) : HT 2 yX10_need cX10_need 4 (some .int) [.ref 62, .int a1, .int a2] μ (some (.int ρ.1)) ρ.2 := by
  refine HT.of (by decide +kernel) (Nat.le_of_ble_eq_true rfl) (fun C => ?_)
  unfold f_X10_need_62 at h
  refine wa_iload_n C dX10_need_0 rfl ?_
  obtain ⟨q1, hq1, h⟩ := bd h
  refine wa_callS C (r_X10_isSide hq1) mk_X10_isSide ms_X10_isSide qw_554 rfl ⟨Nat.le_of_ble_eq_true rfl, Nat.le_of_ble_eq_true rfl⟩ ⟨Nat.zero_le _, Nat.zero_le _⟩ (Nat.le_of_ble_eq_true rfl) dX10_need_1 rfl ?_
  refine wa_if_eq (tgt := 19) C dX10_need_4 (by decide) (fun c2 => ?_) (fun c2 => ?_)
  · replace h := (if_pos c2).symm.trans h
    refine wa_iconst (v := -1) C dX10_need_19 (by decide) ?_
    obtain rfl := Option.some.inj h
    exact wa_iret C dX10_need_20
  · replace h := (if_neg c2).symm.trans h
    refine wa_iload_n C dX10_need_7 rfl ?_
    refine wa_i2l (v := (a2.toInt64)) C dX10_need_8 rfl ?_
    refine wa_lconst (v := 0) C dX10_need_9 (by decide) ?_
    refine wa_ldc2 (v := 6) C qw_600 dX10_need_10 ?_
    obtain ⟨q3, hq3, h⟩ := bd h
    refine wa_callS C (r_X10_in hq3) mk_X10_in ms_X10_in qw_198 rfl ⟨Nat.le_of_ble_eq_true rfl, Nat.le_of_ble_eq_true rfl⟩ ⟨Nat.zero_le _, Nat.zero_le _⟩ (Nat.le_of_ble_eq_true rfl) dX10_need_13 rfl ?_
    refine wa_if_ne (tgt := 21) C dX10_need_16 (by decide) (fun c4 => ?_) (fun c4 => ?_)
    · replace h := (if_neg c4).symm.trans h
      refine wa_aload_n C dX10_need_21 rfl ?_
      refine wa_getr C fl_RX10_7 rfl rfl (by decide) dX10_need_22 ?_
      refine wa_bipush (v := 9) C dX10_need_25 (by decide) ?_
      refine wa_iload_n C dX10_need_27 rfl ?_
      refine wa_iadd C dX10_need_28 ?_
      obtain ⟨g5, h⟩ := gd h
      refine wa_iald (j := (((9 : Int32) + a1).toNatClampNeg)) (x := (q3.2.1 63 (((9 : Int32) + a1).toNatClampNeg))) C rfl (by decide) g5 rfl rfl dX10_need_29 ?_
      refine wa_istore_n C dX10_need_30 (by decide) ?_
      refine wa_aload_n C dX10_need_31 rfl ?_
      refine wa_getr C fl_RX10_7 rfl rfl (by decide) dX10_need_32 ?_
      refine wa_bipush (v := 9) C dX10_need_35 (by decide) ?_
      refine wa_iload_n C dX10_need_37 rfl ?_
      refine wa_iadd C dX10_need_38 ?_
      refine wa_iload_n C dX10_need_39 rfl ?_
      obtain ⟨g6, h⟩ := gd h
      refine wa_iast (j := (((9 : Int32) + a1).toNatClampNeg)) C rfl (by decide) g6 rfl dX10_need_40 ?_
      refine wa_iload_n C dX10_need_41 rfl ?_
      obtain rfl := Option.some.inj h
      exact wa_iret C dX10_need_42
    · replace h := (if_pos c4).symm.trans h
      refine wa_iconst (v := -1) C dX10_need_19 (by decide) ?_
      obtain rfl := Option.some.inj h
      exact wa_iret C dX10_need_20
def f_X9_storm_0 (a1 : Int32) (a2 : Int32) (a3 : Int32) (μ : Mem) : Option (Int32 × Mem) :=
  (f_X1_hasQuarter_1 a1 μ).bind fun q1 =>
  if q1.1 = 0 then
    some ((-1 : Int32), q1.2)
  else
    (f_X9_isSide a2 q1.2).bind fun q3 =>
    if q3.1 = 0 then
      some ((-1 : Int32), q3.2)
    else
      if inb a1 6 = false then none else
      if a3 = 0 then
        if inb a1 6 = false then none else
        if inb a1 6 = false then none else
        some ((((q3.2.1 8 (a1.toNatClampNeg)) >>> (a2 &&& 31)) &&& (1 : Int32)), (pI q3.2 8 (a1.toNatClampNeg) ((q3.2.1 8 (a1.toNatClampNeg)) &&& (((1 : Int32) <<< (a2 &&& 31)) ^^^ (-1 : Int32)))))
      else
        if inb a1 6 = false then none else
        if inb a1 6 = false then none else
        some ((((q3.2.1 8 (a1.toNatClampNeg)) >>> (a2 &&& 31)) &&& (1 : Int32)), (pI q3.2 8 (a1.toNatClampNeg) ((q3.2.1 8 (a1.toNatClampNeg)) ||| ((1 : Int32) <<< (a2 &&& 31)))))
set_option maxRecDepth 100000 in
set_option maxHeartbeats 4000000 in
theorem r_X9_storm_0 {a1 : Int32} {a2 : Int32} {a3 : Int32} {μ : Mem} {ρ : (Int32 × Mem)} (h : f_X9_storm_0 a1 a2 a3 μ = some ρ) : HT 1 yX9_storm cX9_storm 5 (some .int) [.ref 0, .int a1, .int a2, .int a3] μ (some (.int ρ.1)) ρ.2 := by
  refine HT.of (by decide +kernel) (Nat.le_of_ble_eq_true rfl) (fun C => ?_)
  unfold f_X9_storm_0 at h
  refine wa_aload_n C dX9_storm_0 rfl ?_
  refine wa_getr C fl_RX9_10 rfl rfl (by decide) dX9_storm_1 ?_
  refine wa_iload_n C dX9_storm_4 rfl ?_
  obtain ⟨q1, hq1, h⟩ := bd h
  refine wa_callV C (r_X1_hasQuarter_1 hq1) mk_X1_hasQuarter mv_X1_hasQuarter qw_546 rfl (by decide) rfl rfl ⟨Nat.le_of_ble_eq_true rfl, Nat.le_of_ble_eq_true rfl⟩ ⟨Nat.zero_le _, Nat.zero_le _⟩ (Nat.le_of_ble_eq_true rfl) dX9_storm_5 rfl ?_
  refine wa_if_eq (tgt := 18) C dX9_storm_8 (by decide) (fun c2 => ?_) (fun c2 => ?_)
  · replace h := (if_pos c2).symm.trans h
    refine wa_iconst (v := -1) C dX9_storm_18 (by decide) ?_
    obtain rfl := Option.some.inj h
    exact wa_iret C dX9_storm_19
  · replace h := (if_neg c2).symm.trans h
    refine wa_iload_n C dX9_storm_11 rfl ?_
    obtain ⟨q3, hq3, h⟩ := bd h
    refine wa_callS C (r_X9_isSide hq3) mk_X9_isSide ms_X9_isSide qw_543 rfl ⟨Nat.le_of_ble_eq_true rfl, Nat.le_of_ble_eq_true rfl⟩ ⟨Nat.zero_le _, Nat.zero_le _⟩ (Nat.le_of_ble_eq_true rfl) dX9_storm_12 rfl ?_
    refine wa_if_ne (tgt := 20) C dX9_storm_15 (by decide) (fun c4 => ?_) (fun c4 => ?_)
    · replace h := (if_neg c4).symm.trans h
      refine wa_aload_n C dX9_storm_20 rfl ?_
      refine wa_getr C fl_RX9_19 rfl rfl (by decide) dX9_storm_21 ?_
      refine wa_getr C fl_RX9_154 rfl rfl (by decide) dX9_storm_24 ?_
      refine wa_iload_n C dX9_storm_27 rfl ?_
      obtain ⟨g5, h⟩ := gd h
      refine wa_iald (j := (a1.toNatClampNeg)) (x := (q3.2.1 8 (a1.toNatClampNeg))) C rfl (by decide) g5 rfl rfl dX9_storm_28 ?_
      refine wa_iload_n C dX9_storm_29 rfl ?_
      refine wa_ishr C dX9_storm_30 ?_
      refine wa_iconst (v := 1) C dX9_storm_31 (by decide) ?_
      refine wa_iand C dX9_storm_32 ?_
      refine wa_istore C dX9_storm_33 (by decide) ?_
      refine wa_iload_n C dX9_storm_35 rfl ?_
      refine wa_if_eq (tgt := 57) C dX9_storm_36 (by decide) (fun c6 => ?_) (fun c6 => ?_)
      · replace h := (if_pos c6).symm.trans h
        refine wa_aload_n C dX9_storm_57 rfl ?_
        refine wa_getr C fl_RX9_19 rfl rfl (by decide) dX9_storm_58 ?_
        refine wa_getr C fl_RX9_154 rfl rfl (by decide) dX9_storm_61 ?_
        refine wa_iload_n C dX9_storm_64 rfl ?_
        refine wa_dup2_11 C dX9_storm_65 rfl rfl ?_
        obtain ⟨g7, h⟩ := gd h
        refine wa_iald (j := (a1.toNatClampNeg)) (x := (q3.2.1 8 (a1.toNatClampNeg))) C rfl (by decide) g7 rfl rfl dX9_storm_66 ?_
        refine wa_iconst (v := 1) C dX9_storm_67 (by decide) ?_
        refine wa_iload_n C dX9_storm_68 rfl ?_
        refine wa_ishl C dX9_storm_69 ?_
        refine wa_iconst (v := -1) C dX9_storm_70 (by decide) ?_
        refine wa_ixor C dX9_storm_71 ?_
        refine wa_iand C dX9_storm_72 ?_
        obtain ⟨g8, h⟩ := gd h
        refine wa_iast (j := (a1.toNatClampNeg)) C rfl (by decide) g8 rfl dX9_storm_73 ?_
        refine wa_iload C dX9_storm_74 rfl ?_
        obtain rfl := Option.some.inj h
        exact wa_iret C dX9_storm_76
      · replace h := (if_neg c6).symm.trans h
        refine wa_aload_n C dX9_storm_39 rfl ?_
        refine wa_getr C fl_RX9_19 rfl rfl (by decide) dX9_storm_40 ?_
        refine wa_getr C fl_RX9_154 rfl rfl (by decide) dX9_storm_43 ?_
        refine wa_iload_n C dX9_storm_46 rfl ?_
        refine wa_dup2_11 C dX9_storm_47 rfl rfl ?_
        obtain ⟨g9, h⟩ := gd h
        refine wa_iald (j := (a1.toNatClampNeg)) (x := (q3.2.1 8 (a1.toNatClampNeg))) C rfl (by decide) g9 rfl rfl dX9_storm_48 ?_
        refine wa_iconst (v := 1) C dX9_storm_49 (by decide) ?_
        refine wa_iload_n C dX9_storm_50 rfl ?_
        refine wa_ishl C dX9_storm_51 ?_
        refine wa_ior C dX9_storm_52 ?_
        obtain ⟨g10, h⟩ := gd h
        refine wa_iast (j := (a1.toNatClampNeg)) C rfl (by decide) g10 rfl dX9_storm_53 ?_
        refine wa_goto (tgt := 74) C dX9_storm_54 (by decide) ?_
        refine wa_iload C dX9_storm_74 rfl ?_
        obtain rfl := Option.some.inj h
        exact wa_iret C dX9_storm_76
    · replace h := (if_pos c4).symm.trans h
      refine wa_iconst (v := -1) C dX9_storm_18 (by decide) ?_
      obtain rfl := Option.some.inj h
      exact wa_iret C dX9_storm_19
def f_X10_storm_62_J75 (a4 : Int32) (t1 : Int32) (t2 : Int32) (μ : Mem) : Option (Int32 × Mem) :=
  if inb t1 162 = false then none else
  some (a4, (pI μ 63 (t1.toNatClampNeg) t2))
def f_X10_storm_62 (a1 : Int32) (a2 : Int32) (a3 : Int32) (μ : Mem) : Option (Int32 × Mem) :=
  (f_X10_isQuarter_62 a1 μ).bind fun q1 =>
  if q1.1 = 0 then
    some ((-1 : Int32), q1.2)
  else
    (f_X10_isSide a2 q1.2).bind fun q3 =>
    if q3.1 = 0 then
      some ((-1 : Int32), q3.2)
    else
      if inb ((13 : Int32) + a1) 162 = false then none else
      if a3 = 0 then
        if inb ((13 : Int32) + a1) 162 = false then none else
        f_X10_storm_62_J75 (((q3.2.1 63 (((13 : Int32) + a1).toNatClampNeg)) >>> (a2 &&& 31)) &&& (1 : Int32)) ((13 : Int32) + a1) ((q3.2.1 63 (((13 : Int32) + a1).toNatClampNeg)) &&& (((1 : Int32) <<< (a2 &&& 31)) ^^^ (-1 : Int32))) q3.2
      else
        if inb ((13 : Int32) + a1) 162 = false then none else
        f_X10_storm_62_J75 (((q3.2.1 63 (((13 : Int32) + a1).toNatClampNeg)) >>> (a2 &&& 31)) &&& (1 : Int32)) ((13 : Int32) + a1) ((q3.2.1 63 (((13 : Int32) + a1).toNatClampNeg)) ||| ((1 : Int32) <<< (a2 &&& 31))) q3.2
set_option maxRecDepth 100000 in
set_option maxHeartbeats 4000000 in
theorem r_X10_storm_62_J75 {p : Program} {l : Launch} {e : Env} {s : State} {m : MethodId} {args : Array Value} {below : List Frame} {meth : Method} {c : Code} {D : va_G} {cy : Nat → ClassId} {ad : Nat → Nat} (C : CX p s m args meth c cX10_storm 5 RX10 (some .int) D cy ad (AD ad)) {a4 : Int32} {t1 : Int32} {t2 : Int32} {μ : Mem} {ρ : (Int32 × Mem)} (h : f_X10_storm_62_J75 a4 t1 t2 μ = some ρ) : WA p l e (rmD 2) s m args below meth c 5 D cy ad (AD ad) 0 0 (ZZ below args s D cy ad (AD ad) 0 0 (some (.int ρ.1)) ρ.2) μ [(4, .int a4)] 75 [.int t2, .int t1, .ref 63] := by
  unfold f_X10_storm_62_J75 at h
  obtain ⟨g8, h⟩ := gd h
  refine wa_iast (j := (t1.toNatClampNeg)) C rfl (by decide) g8 rfl dX10_storm_75 ?_
  refine wa_iload C dX10_storm_76 rfl ?_
  obtain rfl := Option.some.inj h
  exact wa_iret C dX10_storm_78
set_option maxRecDepth 100000 in
set_option maxHeartbeats 4000000 in
theorem r_X10_storm_62 {a1 : Int32} {a2 : Int32} {a3 : Int32} {μ : Mem} {ρ : (Int32 × Mem)} (h : f_X10_storm_62 a1 a2 a3 μ = some ρ) : HT 2 yX10_storm cX10_storm 5 (some .int) [.ref 62, .int a1, .int a2, .int a3] μ (some (.int ρ.1)) ρ.2 := by
  refine HT.of (by decide +kernel) (Nat.le_of_ble_eq_true rfl) (fun C => ?_)
  unfold f_X10_storm_62 at h
  refine wa_aload_n C dX10_storm_0 rfl ?_
  refine wa_iload_n C dX10_storm_1 rfl ?_
  obtain ⟨q1, hq1, h⟩ := bd h
  refine wa_callV C (r_X10_isQuarter_62 hq1) mk_X10_isQuarter mv_X10_isQuarter qw_558 rfl (by decide) rfl rfl ⟨Nat.le_of_ble_eq_true rfl, Nat.le_of_ble_eq_true rfl⟩ ⟨Nat.zero_le _, Nat.zero_le _⟩ (Nat.le_of_ble_eq_true rfl) dX10_storm_2 rfl ?_
  refine wa_if_eq (tgt := 15) C dX10_storm_5 (by decide) (fun c2 => ?_) (fun c2 => ?_)
  · replace h := (if_pos c2).symm.trans h
    refine wa_iconst (v := -1) C dX10_storm_15 (by decide) ?_
    obtain rfl := Option.some.inj h
    exact wa_iret C dX10_storm_16
  · replace h := (if_neg c2).symm.trans h
    refine wa_iload_n C dX10_storm_8 rfl ?_
    obtain ⟨q3, hq3, h⟩ := bd h
    refine wa_callS C (r_X10_isSide hq3) mk_X10_isSide ms_X10_isSide qw_554 rfl ⟨Nat.le_of_ble_eq_true rfl, Nat.le_of_ble_eq_true rfl⟩ ⟨Nat.zero_le _, Nat.zero_le _⟩ (Nat.le_of_ble_eq_true rfl) dX10_storm_9 rfl ?_
    refine wa_if_ne (tgt := 17) C dX10_storm_12 (by decide) (fun c4 => ?_) (fun c4 => ?_)
    · replace h := (if_neg c4).symm.trans h
      refine wa_aload_n C dX10_storm_17 rfl ?_
      refine wa_getr C fl_RX10_7 rfl rfl (by decide) dX10_storm_18 ?_
      refine wa_bipush (v := 13) C dX10_storm_21 (by decide) ?_
      refine wa_iload_n C dX10_storm_23 rfl ?_
      refine wa_iadd C dX10_storm_24 ?_
      obtain ⟨g5, h⟩ := gd h
      refine wa_iald (j := (((13 : Int32) + a1).toNatClampNeg)) (x := (q3.2.1 63 (((13 : Int32) + a1).toNatClampNeg))) C rfl (by decide) g5 rfl rfl dX10_storm_25 ?_
      refine wa_iload_n C dX10_storm_26 rfl ?_
      refine wa_ishr C dX10_storm_27 ?_
      refine wa_iconst (v := 1) C dX10_storm_28 (by decide) ?_
      refine wa_iand C dX10_storm_29 ?_
      refine wa_istore C dX10_storm_30 (by decide) ?_
      refine wa_aload_n C dX10_storm_32 rfl ?_
      refine wa_getr C fl_RX10_7 rfl rfl (by decide) dX10_storm_33 ?_
      refine wa_bipush (v := 13) C dX10_storm_36 (by decide) ?_
      refine wa_iload_n C dX10_storm_38 rfl ?_
      refine wa_iadd C dX10_storm_39 ?_
      refine wa_iload_n C dX10_storm_40 rfl ?_
      refine wa_if_eq (tgt := 60) C dX10_storm_41 (by decide) (fun c6 => ?_) (fun c6 => ?_)
      · replace h := (if_pos c6).symm.trans h
        refine wa_aload_n C dX10_storm_60 rfl ?_
        refine wa_getr C fl_RX10_7 rfl rfl (by decide) dX10_storm_61 ?_
        refine wa_bipush (v := 13) C dX10_storm_64 (by decide) ?_
        refine wa_iload_n C dX10_storm_66 rfl ?_
        refine wa_iadd C dX10_storm_67 ?_
        obtain ⟨g7, h⟩ := gd h
        refine wa_iald (j := (((13 : Int32) + a1).toNatClampNeg)) (x := (q3.2.1 63 (((13 : Int32) + a1).toNatClampNeg))) C rfl (by decide) g7 rfl rfl dX10_storm_68 ?_
        refine wa_iconst (v := 1) C dX10_storm_69 (by decide) ?_
        refine wa_iload_n C dX10_storm_70 rfl ?_
        refine wa_ishl C dX10_storm_71 ?_
        refine wa_iconst (v := -1) C dX10_storm_72 (by decide) ?_
        refine wa_ixor C dX10_storm_73 ?_
        refine wa_iand C dX10_storm_74 ?_
        exact WA.sub (lsub_c rfl lsub_n) (r_X10_storm_62_J75 C h)
      · replace h := (if_neg c6).symm.trans h
        refine wa_aload_n C dX10_storm_44 rfl ?_
        refine wa_getr C fl_RX10_7 rfl rfl (by decide) dX10_storm_45 ?_
        refine wa_bipush (v := 13) C dX10_storm_48 (by decide) ?_
        refine wa_iload_n C dX10_storm_50 rfl ?_
        refine wa_iadd C dX10_storm_51 ?_
        obtain ⟨g9, h⟩ := gd h
        refine wa_iald (j := (((13 : Int32) + a1).toNatClampNeg)) (x := (q3.2.1 63 (((13 : Int32) + a1).toNatClampNeg))) C rfl (by decide) g9 rfl rfl dX10_storm_52 ?_
        refine wa_iconst (v := 1) C dX10_storm_53 (by decide) ?_
        refine wa_iload_n C dX10_storm_54 rfl ?_
        refine wa_ishl C dX10_storm_55 ?_
        refine wa_ior C dX10_storm_56 ?_
        refine wa_goto (tgt := 75) C dX10_storm_57 (by decide) ?_
        exact WA.sub (lsub_c rfl lsub_n) (r_X10_storm_62_J75 C h)
    · replace h := (if_pos c4).symm.trans h
      refine wa_iconst (v := -1) C dX10_storm_15 (by decide) ?_
      obtain rfl := Option.some.inj h
      exact wa_iret C dX10_storm_16
def f_X9_turn_0 (a1 : Int32) (a2 : Int32) (μ : Mem) : Option (Int32 × Mem) :=
  (f_X1_hasSister_1 a1 μ).bind fun q1 =>
  if q1.1 = 0 then
    some ((-1 : Int32), q1.2)
  else
    if a2 < 0 then
      some ((-1 : Int32), q1.2)
    else
      if a2 ≤ (3 : Int32) then
        if inb a1 3 = false then none else
        if inb a1 3 = false then none else
        some ((q1.2.1 5 (a1.toNatClampNeg)), (pI q1.2 5 (a1.toNatClampNeg) a2))
      else
        some ((-1 : Int32), q1.2)
set_option maxRecDepth 100000 in
set_option maxHeartbeats 4000000 in
theorem r_X9_turn_0 {a1 : Int32} {a2 : Int32} {μ : Mem} {ρ : (Int32 × Mem)} (h : f_X9_turn_0 a1 a2 μ = some ρ) : HT 1 yX9_turn cX9_turn 4 (some .int) [.ref 0, .int a1, .int a2] μ (some (.int ρ.1)) ρ.2 := by
  refine HT.of (by decide +kernel) (Nat.le_of_ble_eq_true rfl) (fun C => ?_)
  unfold f_X9_turn_0 at h
  refine wa_aload_n C dX9_turn_0 rfl ?_
  refine wa_getr C fl_RX9_10 rfl rfl (by decide) dX9_turn_1 ?_
  refine wa_iload_n C dX9_turn_4 rfl ?_
  obtain ⟨q1, hq1, h⟩ := bd h
  refine wa_callV C (r_X1_hasSister_1 hq1) mk_X1_hasSister mv_X1_hasSister qw_483 rfl (by decide) rfl rfl ⟨Nat.le_of_ble_eq_true rfl, Nat.le_of_ble_eq_true rfl⟩ ⟨Nat.zero_le _, Nat.zero_le _⟩ (Nat.le_of_ble_eq_true rfl) dX9_turn_5 rfl ?_
  refine wa_if_eq (tgt := 20) C dX9_turn_8 (by decide) (fun c2 => ?_) (fun c2 => ?_)
  · replace h := (if_pos c2).symm.trans h
    refine wa_iconst (v := -1) C dX9_turn_20 (by decide) ?_
    obtain rfl := Option.some.inj h
    exact wa_iret C dX9_turn_21
  · replace h := (if_neg c2).symm.trans h
    refine wa_iload_n C dX9_turn_11 rfl ?_
    refine wa_if_lt (tgt := 20) C dX9_turn_12 (by decide) (fun c3 => ?_) (fun c3 => ?_)
    · replace h := (if_pos c3).symm.trans h
      refine wa_iconst (v := -1) C dX9_turn_20 (by decide) ?_
      obtain rfl := Option.some.inj h
      exact wa_iret C dX9_turn_21
    · replace h := (if_neg c3).symm.trans h
      refine wa_iload_n C dX9_turn_15 rfl ?_
      refine wa_iconst (v := 3) C dX9_turn_16 (by decide) ?_
      refine wa_icmp_le (tgt := 22) C dX9_turn_17 (by decide) (fun c4 => ?_) (fun c4 => ?_)
      · replace h := (if_pos c4).symm.trans h
        refine wa_aload_n C dX9_turn_22 rfl ?_
        refine wa_getr C fl_RX9_19 rfl rfl (by decide) dX9_turn_23 ?_
        refine wa_getr C fl_RX9_129 rfl rfl (by decide) dX9_turn_26 ?_
        refine wa_iload_n C dX9_turn_29 rfl ?_
        obtain ⟨g5, h⟩ := gd h
        refine wa_iald (j := (a1.toNatClampNeg)) (x := (q1.2.1 5 (a1.toNatClampNeg))) C rfl (by decide) g5 rfl rfl dX9_turn_30 ?_
        refine wa_istore_n C dX9_turn_31 (by decide) ?_
        refine wa_aload_n C dX9_turn_32 rfl ?_
        refine wa_getr C fl_RX9_19 rfl rfl (by decide) dX9_turn_33 ?_
        refine wa_getr C fl_RX9_129 rfl rfl (by decide) dX9_turn_36 ?_
        refine wa_iload_n C dX9_turn_39 rfl ?_
        refine wa_iload_n C dX9_turn_40 rfl ?_
        obtain ⟨g6, h⟩ := gd h
        refine wa_iast (j := (a1.toNatClampNeg)) C rfl (by decide) g6 rfl dX9_turn_41 ?_
        refine wa_iload_n C dX9_turn_42 rfl ?_
        obtain rfl := Option.some.inj h
        exact wa_iret C dX9_turn_43
      · replace h := (if_neg c4).symm.trans h
        refine wa_iconst (v := -1) C dX9_turn_20 (by decide) ?_
        obtain rfl := Option.some.inj h
        exact wa_iret C dX9_turn_21
def f_X10_turn_62 (a1 : Int32) (a2 : Int32) (μ : Mem) : Option (Int32 × Mem) :=
  (f_X10_isSister_62 a1 μ).bind fun q1 =>
  if q1.1 = 0 then
    some ((-1 : Int32), q1.2)
  else
    (f_X10_in (a2.toInt64) (0 : Int64) (3 : Int64) q1.2).bind fun q3 =>
    if q3.1 = 0 then
      some ((-1 : Int32), q3.2)
    else
      if inb ((0 : Int32) + a1) 162 = false then none else
      if inb ((0 : Int32) + a1) 162 = false then none else
      some ((q3.2.1 63 (((0 : Int32) + a1).toNatClampNeg)), (pI q3.2 63 (((0 : Int32) + a1).toNatClampNeg) a2))
set_option maxRecDepth 100000 in
set_option maxHeartbeats 4000000 in
theorem r_X10_turn_62 {a1 : Int32} {a2 : Int32} {μ : Mem} {ρ : (Int32 × Mem)} (h : f_X10_turn_62 a1 a2 μ = some ρ) : HT 2 yX10_turn cX10_turn 4 (some .int) [.ref 62, .int a1, .int a2] μ (some (.int ρ.1)) ρ.2 := by
  refine HT.of (by decide +kernel) (Nat.le_of_ble_eq_true rfl) (fun C => ?_)
  unfold f_X10_turn_62 at h
  refine wa_aload_n C dX10_turn_0 rfl ?_
  refine wa_iload_n C dX10_turn_1 rfl ?_
  obtain ⟨q1, hq1, h⟩ := bd h
  refine wa_callV C (r_X10_isSister_62 hq1) mk_X10_isSister mv_X10_isSister qw_494 rfl (by decide) rfl rfl ⟨Nat.le_of_ble_eq_true rfl, Nat.le_of_ble_eq_true rfl⟩ ⟨Nat.zero_le _, Nat.zero_le _⟩ (Nat.le_of_ble_eq_true rfl) dX10_turn_2 rfl ?_
  refine wa_if_eq (tgt := 20) C dX10_turn_5 (by decide) (fun c2 => ?_) (fun c2 => ?_)
  · replace h := (if_pos c2).symm.trans h
    refine wa_iconst (v := -1) C dX10_turn_20 (by decide) ?_
    obtain rfl := Option.some.inj h
    exact wa_iret C dX10_turn_21
  · replace h := (if_neg c2).symm.trans h
    refine wa_iload_n C dX10_turn_8 rfl ?_
    refine wa_i2l (v := (a2.toInt64)) C dX10_turn_9 rfl ?_
    refine wa_lconst (v := 0) C dX10_turn_10 (by decide) ?_
    refine wa_ldc2 (v := 3) C qw_557 dX10_turn_11 ?_
    obtain ⟨q3, hq3, h⟩ := bd h
    refine wa_callS C (r_X10_in hq3) mk_X10_in ms_X10_in qw_198 rfl ⟨Nat.le_of_ble_eq_true rfl, Nat.le_of_ble_eq_true rfl⟩ ⟨Nat.zero_le _, Nat.zero_le _⟩ (Nat.le_of_ble_eq_true rfl) dX10_turn_14 rfl ?_
    refine wa_if_ne (tgt := 22) C dX10_turn_17 (by decide) (fun c4 => ?_) (fun c4 => ?_)
    · replace h := (if_neg c4).symm.trans h
      refine wa_aload_n C dX10_turn_22 rfl ?_
      refine wa_getr C fl_RX10_7 rfl rfl (by decide) dX10_turn_23 ?_
      refine wa_iconst (v := 0) C dX10_turn_26 (by decide) ?_
      refine wa_iload_n C dX10_turn_27 rfl ?_
      refine wa_iadd C dX10_turn_28 ?_
      obtain ⟨g5, h⟩ := gd h
      refine wa_iald (j := (((0 : Int32) + a1).toNatClampNeg)) (x := (q3.2.1 63 (((0 : Int32) + a1).toNatClampNeg))) C rfl (by decide) g5 rfl rfl dX10_turn_29 ?_
      refine wa_istore_n C dX10_turn_30 (by decide) ?_
      refine wa_aload_n C dX10_turn_31 rfl ?_
      refine wa_getr C fl_RX10_7 rfl rfl (by decide) dX10_turn_32 ?_
      refine wa_iconst (v := 0) C dX10_turn_35 (by decide) ?_
      refine wa_iload_n C dX10_turn_36 rfl ?_
      refine wa_iadd C dX10_turn_37 ?_
      refine wa_iload_n C dX10_turn_38 rfl ?_
      obtain ⟨g6, h⟩ := gd h
      refine wa_iast (j := (((0 : Int32) + a1).toNatClampNeg)) C rfl (by decide) g6 rfl dX10_turn_39 ?_
      refine wa_iload_n C dX10_turn_40 rfl ?_
      obtain rfl := Option.some.inj h
      exact wa_iret C dX10_turn_41
    · replace h := (if_pos c4).symm.trans h
      refine wa_iconst (v := -1) C dX10_turn_20 (by decide) ?_
      obtain rfl := Option.some.inj h
      exact wa_iret C dX10_turn_21
def f_X1_isGlassEye_1 (a1 : Int32) (μ : Mem) : Option (Int32 × Mem) :=
  if (a1 &&& (1 : Int32)) = 0 then
    if inb (a1 / (2 : Int32)) 3 = false then none else
    if (μ.1 2 ((a1 / (2 : Int32)).toNatClampNeg)) = (1 : Int32) then
      some ((1 : Int32), μ)
    else
      some ((0 : Int32), μ)
  else
    some ((0 : Int32), μ)
set_option maxRecDepth 100000 in
set_option maxHeartbeats 4000000 in
theorem r_X1_isGlassEye_1 {a1 : Int32} {μ : Mem} {ρ : (Int32 × Mem)} (h : f_X1_isGlassEye_1 a1 μ = some ρ) : HT 0 yX1_isGlassEye cX1_isGlassEye 2 (some .boolean) [.ref 1, .int a1] μ (some (.int ρ.1)) ρ.2 := by
  refine HT.of (by decide +kernel) (Nat.le_of_ble_eq_true rfl) (fun C => ?_)
  unfold f_X1_isGlassEye_1 at h
  refine wa_iload_n C dX1_isGlassEye_0 rfl ?_
  refine wa_iconst (v := 1) C dX1_isGlassEye_1 (by decide) ?_
  refine wa_iand C dX1_isGlassEye_2 ?_
  refine wa_if_ne (tgt := 22) C dX1_isGlassEye_3 (by decide) (fun c1 => ?_) (fun c1 => ?_)
  · replace h := (if_neg c1).symm.trans h
    refine wa_iconst (v := 0) C dX1_isGlassEye_22 (by decide) ?_
    obtain rfl := Option.some.inj h
    exact wa_zret C rfl dX1_isGlassEye_23
  · replace h := (if_pos c1).symm.trans h
    refine wa_aload_n C dX1_isGlassEye_6 rfl ?_
    refine wa_getr C fl_RX1_18 rfl rfl (by decide) dX1_isGlassEye_7 ?_
    refine wa_iload_n C dX1_isGlassEye_10 rfl ?_
    refine wa_iconst (v := 2) C dX1_isGlassEye_11 (by decide) ?_
    refine wa_idiv C dX1_isGlassEye_12 (by decide) ?_
    obtain ⟨g2, h⟩ := gd h
    refine wa_iald (j := ((a1 / (2 : Int32)).toNatClampNeg)) (x := (μ.1 2 ((a1 / (2 : Int32)).toNatClampNeg))) C rfl (by decide) g2 rfl rfl dX1_isGlassEye_13 ?_
    refine wa_iconst (v := 1) C dX1_isGlassEye_14 (by decide) ?_
    refine wa_icmp_ne (tgt := 22) C dX1_isGlassEye_15 (by decide) (fun c3 => ?_) (fun c3 => ?_)
    · replace h := (if_neg c3).symm.trans h
      refine wa_iconst (v := 0) C dX1_isGlassEye_22 (by decide) ?_
      obtain rfl := Option.some.inj h
      exact wa_zret C rfl dX1_isGlassEye_23
    · replace h := (if_pos c3).symm.trans h
      refine wa_iconst (v := 1) C dX1_isGlassEye_18 (by decide) ?_
      refine wa_goto (tgt := 23) C dX1_isGlassEye_19 (by decide) ?_
      obtain rfl := Option.some.inj h
      exact wa_zret C rfl dX1_isGlassEye_23
def f_X9_tire_0 (a1 : Int32) (a2 : Int32) (μ : Mem) : Option (Int32 × Mem) :=
  (f_X1_hasEye_1 a1 μ).bind fun q1 =>
  if q1.1 = 0 then
    some ((-1 : Int32), q1.2)
  else
    (f_X1_isGlassEye_1 a1 q1.2).bind fun q3 =>
    if q3.1 = 0 then
      if a2 < 0 then
        some ((-1 : Int32), q3.2)
      else
        if a2 ≤ (9 : Int32) then
          if inb a1 6 = false then none else
          if inb a1 6 = false then none else
          some ((q3.2.1 6 (a1.toNatClampNeg)), (pI q3.2 6 (a1.toNatClampNeg) a2))
        else
          some ((-1 : Int32), q3.2)
    else
      some ((-1 : Int32), q3.2)
set_option maxRecDepth 100000 in
set_option maxHeartbeats 4000000 in
theorem r_X9_tire_0 {a1 : Int32} {a2 : Int32} {μ : Mem} {ρ : (Int32 × Mem)} (h : f_X9_tire_0 a1 a2 μ = some ρ) : HT 1 yX9_tire cX9_tire 4 (some .int) [.ref 0, .int a1, .int a2] μ (some (.int ρ.1)) ρ.2 := by
  refine HT.of (by decide +kernel) (Nat.le_of_ble_eq_true rfl) (fun C => ?_)
  unfold f_X9_tire_0 at h
  refine wa_aload_n C dX9_tire_0 rfl ?_
  refine wa_getr C fl_RX9_10 rfl rfl (by decide) dX9_tire_1 ?_
  refine wa_iload_n C dX9_tire_4 rfl ?_
  obtain ⟨q1, hq1, h⟩ := bd h
  refine wa_callV C (r_X1_hasEye_1 hq1) mk_X1_hasEye mv_X1_hasEye qw_504 rfl (by decide) rfl rfl ⟨Nat.le_of_ble_eq_true rfl, Nat.le_of_ble_eq_true rfl⟩ ⟨Nat.zero_le _, Nat.zero_le _⟩ (Nat.le_of_ble_eq_true rfl) dX9_tire_5 rfl ?_
  refine wa_if_eq (tgt := 32) C dX9_tire_8 (by decide) (fun c2 => ?_) (fun c2 => ?_)
  · replace h := (if_pos c2).symm.trans h
    refine wa_iconst (v := -1) C dX9_tire_32 (by decide) ?_
    obtain rfl := Option.some.inj h
    exact wa_iret C dX9_tire_33
  · replace h := (if_neg c2).symm.trans h
    refine wa_aload_n C dX9_tire_11 rfl ?_
    refine wa_getr C fl_RX9_10 rfl rfl (by decide) dX9_tire_12 ?_
    refine wa_iload_n C dX9_tire_15 rfl ?_
    obtain ⟨q3, hq3, h⟩ := bd h
    refine wa_callV C (r_X1_isGlassEye_1 hq3) mk_X1_isGlassEye mv_X1_isGlassEye qw_621 rfl (by decide) rfl rfl ⟨Nat.le_of_ble_eq_true rfl, Nat.le_of_ble_eq_true rfl⟩ ⟨Nat.zero_le _, Nat.zero_le _⟩ (Nat.le_of_ble_eq_true rfl) dX9_tire_16 rfl ?_
    refine wa_if_ne (tgt := 32) C dX9_tire_19 (by decide) (fun c4 => ?_) (fun c4 => ?_)
    · replace h := (if_neg c4).symm.trans h
      refine wa_iconst (v := -1) C dX9_tire_32 (by decide) ?_
      obtain rfl := Option.some.inj h
      exact wa_iret C dX9_tire_33
    · replace h := (if_pos c4).symm.trans h
      refine wa_iload_n C dX9_tire_22 rfl ?_
      refine wa_if_lt (tgt := 32) C dX9_tire_23 (by decide) (fun c5 => ?_) (fun c5 => ?_)
      · replace h := (if_pos c5).symm.trans h
        refine wa_iconst (v := -1) C dX9_tire_32 (by decide) ?_
        obtain rfl := Option.some.inj h
        exact wa_iret C dX9_tire_33
      · replace h := (if_neg c5).symm.trans h
        refine wa_iload_n C dX9_tire_26 rfl ?_
        refine wa_bipush (v := 9) C dX9_tire_27 (by decide) ?_
        refine wa_icmp_le (tgt := 34) C dX9_tire_29 (by decide) (fun c6 => ?_) (fun c6 => ?_)
        · replace h := (if_pos c6).symm.trans h
          refine wa_aload_n C dX9_tire_34 rfl ?_
          refine wa_getr C fl_RX9_19 rfl rfl (by decide) dX9_tire_35 ?_
          refine wa_getr C fl_RX9_142 rfl rfl (by decide) dX9_tire_38 ?_
          refine wa_iload_n C dX9_tire_41 rfl ?_
          obtain ⟨g7, h⟩ := gd h
          refine wa_iald (j := (a1.toNatClampNeg)) (x := (q3.2.1 6 (a1.toNatClampNeg))) C rfl (by decide) g7 rfl rfl dX9_tire_42 ?_
          refine wa_istore_n C dX9_tire_43 (by decide) ?_
          refine wa_aload_n C dX9_tire_44 rfl ?_
          refine wa_getr C fl_RX9_19 rfl rfl (by decide) dX9_tire_45 ?_
          refine wa_getr C fl_RX9_142 rfl rfl (by decide) dX9_tire_48 ?_
          refine wa_iload_n C dX9_tire_51 rfl ?_
          refine wa_iload_n C dX9_tire_52 rfl ?_
          obtain ⟨g8, h⟩ := gd h
          refine wa_iast (j := (a1.toNatClampNeg)) C rfl (by decide) g8 rfl dX9_tire_53 ?_
          refine wa_iload_n C dX9_tire_54 rfl ?_
          obtain rfl := Option.some.inj h
          exact wa_iret C dX9_tire_55
        · replace h := (if_neg c6).symm.trans h
          refine wa_iconst (v := -1) C dX9_tire_32 (by decide) ?_
          obtain rfl := Option.some.inj h
          exact wa_iret C dX9_tire_33
def f_X10_isGlass_62 (a1 : Int32) (μ : Mem) : Option (Int32 × Mem) :=
  if (a1 - a1 / (2 : Int32) * (2 : Int32)) = 0 then
    if inb (a1 / (2 : Int32)) 3 = false then none else
    if (μ.1 65 ((a1 / (2 : Int32)).toNatClampNeg)) = (1 : Int32) then
      some ((1 : Int32), μ)
    else
      some ((0 : Int32), μ)
  else
    some ((0 : Int32), μ)
set_option maxRecDepth 100000 in
set_option maxHeartbeats 4000000 in
theorem r_X10_isGlass_62 {a1 : Int32} {μ : Mem} {ρ : (Int32 × Mem)} (h : f_X10_isGlass_62 a1 μ = some ρ) : HT 0 yX10_isGlass cX10_isGlass 2 (some .boolean) [.ref 62, .int a1] μ (some (.int ρ.1)) ρ.2 := by
  refine HT.of (by decide +kernel) (Nat.le_of_ble_eq_true rfl) (fun C => ?_)
  unfold f_X10_isGlass_62 at h
  refine wa_iload_n C dX10_isGlass_0 rfl ?_
  refine wa_iconst (v := 2) C dX10_isGlass_1 (by decide) ?_
  refine wa_irem C dX10_isGlass_2 (by decide) ?_
  refine wa_if_ne (tgt := 22) C dX10_isGlass_3 (by decide) (fun c1 => ?_) (fun c1 => ?_)
  · replace h := (if_neg c1).symm.trans h
    refine wa_iconst (v := 0) C dX10_isGlass_22 (by decide) ?_
    obtain rfl := Option.some.inj h
    exact wa_zret C rfl dX10_isGlass_23
  · replace h := (if_pos c1).symm.trans h
    refine wa_aload_n C dX10_isGlass_6 rfl ?_
    refine wa_getr C fl_RX10_17 rfl rfl (by decide) dX10_isGlass_7 ?_
    refine wa_iload_n C dX10_isGlass_10 rfl ?_
    refine wa_iconst (v := 2) C dX10_isGlass_11 (by decide) ?_
    refine wa_idiv C dX10_isGlass_12 (by decide) ?_
    obtain ⟨g2, h⟩ := gd h
    refine wa_iald (j := ((a1 / (2 : Int32)).toNatClampNeg)) (x := (μ.1 65 ((a1 / (2 : Int32)).toNatClampNeg))) C rfl (by decide) g2 rfl rfl dX10_isGlass_13 ?_
    refine wa_iconst (v := 1) C dX10_isGlass_14 (by decide) ?_
    refine wa_icmp_ne (tgt := 22) C dX10_isGlass_15 (by decide) (fun c3 => ?_) (fun c3 => ?_)
    · replace h := (if_neg c3).symm.trans h
      refine wa_iconst (v := 0) C dX10_isGlass_22 (by decide) ?_
      obtain rfl := Option.some.inj h
      exact wa_zret C rfl dX10_isGlass_23
    · replace h := (if_pos c3).symm.trans h
      refine wa_iconst (v := 1) C dX10_isGlass_18 (by decide) ?_
      refine wa_goto (tgt := 23) C dX10_isGlass_19 (by decide) ?_
      obtain rfl := Option.some.inj h
      exact wa_zret C rfl dX10_isGlass_23
def f_X10_tire_62 (a1 : Int32) (a2 : Int32) (μ : Mem) : Option (Int32 × Mem) :=
  (f_X10_isEye_62 a1 μ).bind fun q1 =>
  if q1.1 = 0 then
    some ((-1 : Int32), q1.2)
  else
    (f_X10_in (a2.toInt64) (0 : Int64) (9 : Int64) q1.2).bind fun q3 =>
    if q3.1 = 0 then
      some ((-1 : Int32), q3.2)
    else
      (f_X10_isGlass_62 a1 q3.2).bind fun q5 =>
      if q5.1 = 0 then
        if inb ((3 : Int32) + a1) 162 = false then none else
        if inb ((3 : Int32) + a1) 162 = false then none else
        some ((q5.2.1 63 (((3 : Int32) + a1).toNatClampNeg)), (pI q5.2 63 (((3 : Int32) + a1).toNatClampNeg) a2))
      else
        some ((-1 : Int32), q5.2)
set_option maxRecDepth 100000 in
set_option maxHeartbeats 4000000 in
theorem r_X10_tire_62 {a1 : Int32} {a2 : Int32} {μ : Mem} {ρ : (Int32 × Mem)} (h : f_X10_tire_62 a1 a2 μ = some ρ) : HT 2 yX10_tire cX10_tire 4 (some .int) [.ref 62, .int a1, .int a2] μ (some (.int ρ.1)) ρ.2 := by
  refine HT.of (by decide +kernel) (Nat.le_of_ble_eq_true rfl) (fun C => ?_)
  unfold f_X10_tire_62 at h
  refine wa_aload_n C dX10_tire_0 rfl ?_
  refine wa_iload_n C dX10_tire_1 rfl ?_
  obtain ⟨q1, hq1, h⟩ := bd h
  refine wa_callV C (r_X10_isEye_62 hq1) mk_X10_isEye mv_X10_isEye qw_529 rfl (by decide) rfl rfl ⟨Nat.le_of_ble_eq_true rfl, Nat.le_of_ble_eq_true rfl⟩ ⟨Nat.zero_le _, Nat.zero_le _⟩ (Nat.le_of_ble_eq_true rfl) dX10_tire_2 rfl ?_
  refine wa_if_eq (tgt := 28) C dX10_tire_5 (by decide) (fun c2 => ?_) (fun c2 => ?_)
  · replace h := (if_pos c2).symm.trans h
    refine wa_iconst (v := -1) C dX10_tire_28 (by decide) ?_
    obtain rfl := Option.some.inj h
    exact wa_iret C dX10_tire_29
  · replace h := (if_neg c2).symm.trans h
    refine wa_iload_n C dX10_tire_8 rfl ?_
    refine wa_i2l (v := (a2.toInt64)) C dX10_tire_9 rfl ?_
    refine wa_lconst (v := 0) C dX10_tire_10 (by decide) ?_
    refine wa_ldc2 (v := 9) C qw_626 dX10_tire_11 ?_
    obtain ⟨q3, hq3, h⟩ := bd h
    refine wa_callS C (r_X10_in hq3) mk_X10_in ms_X10_in qw_198 rfl ⟨Nat.le_of_ble_eq_true rfl, Nat.le_of_ble_eq_true rfl⟩ ⟨Nat.zero_le _, Nat.zero_le _⟩ (Nat.le_of_ble_eq_true rfl) dX10_tire_14 rfl ?_
    refine wa_if_eq (tgt := 28) C dX10_tire_17 (by decide) (fun c4 => ?_) (fun c4 => ?_)
    · replace h := (if_pos c4).symm.trans h
      refine wa_iconst (v := -1) C dX10_tire_28 (by decide) ?_
      obtain rfl := Option.some.inj h
      exact wa_iret C dX10_tire_29
    · replace h := (if_neg c4).symm.trans h
      refine wa_aload_n C dX10_tire_20 rfl ?_
      refine wa_iload_n C dX10_tire_21 rfl ?_
      obtain ⟨q5, hq5, h⟩ := bd h
      refine wa_callV C (r_X10_isGlass_62 hq5) mk_X10_isGlass mv_X10_isGlass qw_627 rfl (by decide) rfl rfl ⟨Nat.le_of_ble_eq_true rfl, Nat.le_of_ble_eq_true rfl⟩ ⟨Nat.zero_le _, Nat.zero_le _⟩ (Nat.le_of_ble_eq_true rfl) dX10_tire_22 rfl ?_
      refine wa_if_eq (tgt := 30) C dX10_tire_25 (by decide) (fun c6 => ?_) (fun c6 => ?_)
      · replace h := (if_pos c6).symm.trans h
        refine wa_aload_n C dX10_tire_30 rfl ?_
        refine wa_getr C fl_RX10_7 rfl rfl (by decide) dX10_tire_31 ?_
        refine wa_iconst (v := 3) C dX10_tire_34 (by decide) ?_
        refine wa_iload_n C dX10_tire_35 rfl ?_
        refine wa_iadd C dX10_tire_36 ?_
        obtain ⟨g7, h⟩ := gd h
        refine wa_iald (j := (((3 : Int32) + a1).toNatClampNeg)) (x := (q5.2.1 63 (((3 : Int32) + a1).toNatClampNeg))) C rfl (by decide) g7 rfl rfl dX10_tire_37 ?_
        refine wa_istore_n C dX10_tire_38 (by decide) ?_
        refine wa_aload_n C dX10_tire_39 rfl ?_
        refine wa_getr C fl_RX10_7 rfl rfl (by decide) dX10_tire_40 ?_
        refine wa_iconst (v := 3) C dX10_tire_43 (by decide) ?_
        refine wa_iload_n C dX10_tire_44 rfl ?_
        refine wa_iadd C dX10_tire_45 ?_
        refine wa_iload_n C dX10_tire_46 rfl ?_
        obtain ⟨g8, h⟩ := gd h
        refine wa_iast (j := (((3 : Int32) + a1).toNatClampNeg)) C rfl (by decide) g8 rfl dX10_tire_47 ?_
        refine wa_iload_n C dX10_tire_48 rfl ?_
        obtain rfl := Option.some.inj h
        exact wa_iret C dX10_tire_49
      · replace h := (if_neg c6).symm.trans h
        refine wa_iconst (v := -1) C dX10_tire_28 (by decide) ?_
        obtain rfl := Option.some.inj h
        exact wa_iret C dX10_tire_29
def f_X7_openBy_47 (a1 : Int32) (μ : Mem) : Option (Int32 × Mem) :=
  if inb a1 27 = false then none else
  some ((((μ.1 47 1) &&& ((μ.1 47 2) ^^^ (-1 : Int32))) &&& ((shuF (a1.toNatClampNeg)) ^^^ (-1 : Int32))), μ)
set_option maxRecDepth 100000 in
set_option maxHeartbeats 4000000 in
theorem r_X7_openBy_47 {a1 : Int32} {μ : Mem} {ρ : (Int32 × Mem)} (h : f_X7_openBy_47 a1 μ = some ρ) : HT 0 yX7_openBy cX7_openBy 2 (some .int) [.ref 47, .int a1] μ (some (.int ρ.1)) ρ.2 := by
  refine HT.of (by decide +kernel) (Nat.le_of_ble_eq_true rfl) (fun C => ?_)
  unfold f_X7_openBy_47 at h
  refine wa_aload_n C dX7_openBy_0 rfl ?_
  refine wa_geti (x := (μ.1 47 1)) C fl_RX7_15 rfl rfl (by decide) rfl dX7_openBy_1 ?_
  refine wa_aload_n C dX7_openBy_4 rfl ?_
  refine wa_geti (x := (μ.1 47 2)) C fl_RX7_19 rfl rfl (by decide) rfl dX7_openBy_5 ?_
  refine wa_iconst (v := -1) C dX7_openBy_8 (by decide) ?_
  refine wa_ixor C dX7_openBy_9 ?_
  refine wa_iand C dX7_openBy_10 ?_
  refine wa_gshu7 C dX7_openBy_11 ?_
  refine wa_iload_n C dX7_openBy_14 rfl ?_
  obtain ⟨g1, h⟩ := gd h
  refine wa_sald (j := (a1.toNatClampNeg)) C g1 rfl dX7_openBy_15 ?_
  refine wa_iconst (v := -1) C dX7_openBy_16 (by decide) ?_
  refine wa_ixor C dX7_openBy_17 ?_
  refine wa_iand C dX7_openBy_18 ?_
  obtain rfl := Option.some.inj h
  exact wa_iret C dX7_openBy_19
def f_X7_countOf_47_J53 (k5 : Int32 → Int32 → Option (Int32 × Mem)) (a1 : Int32) (a2 : Int32) (a3 : Int32) (a4 : Int32) (μ : Mem) : Option (Int32 × Mem) :=
  k5 a3 (a4 + 1)
def f_X7_countOf_47_J51 (k5 : Int32 → Int32 → Option (Int32 × Mem)) (a1 : Int32) (a2 : Int32) (a4 : Int32) (t0 : Int32) (t1 : Int32) (μ : Mem) : Option (Int32 × Mem) :=
  f_X7_countOf_47_J53 k5 a1 a2 (t0 + t1) a4 μ
def f_X7_countOf_47_L5 (a1 : Int32) (a2 : Int32) (μ : Mem) (k5 : Int32 → Int32 → Option (Int32 × Mem)) (a3 : Int32) (a4 : Int32) : Option (Int32 × Mem) :=
    if (6 : Int32) ≤ a4 then
      some (a3, μ)
    else
      if inb a4 6 = false then none else
      if (((μ.1 48 (a4.toNatClampNeg)) >>> (a1 &&& 31)) &&& (1 : Int32)) = (1 : Int32) then
        if ((a2 >>> (a4 &&& 31)) &&& (1 : Int32)) = (1 : Int32) then
          f_X7_countOf_47_J51 k5 a1 a2 a4 a3 (2 : Int32) μ
        else
          f_X7_countOf_47_J51 k5 a1 a2 a4 a3 (((μ.1 47 3) >>> (a4 &&& 31)) &&& (1 : Int32)) μ
      else
        f_X7_countOf_47_J53 k5 a1 a2 a3 a4 μ
def f_X7_countOf_47 (a1 : Int32) (a2 : Int32) (μ : Mem) : Option (Int32 × Mem) :=
  it2 (f_X7_countOf_47_L5 a1 a2 μ) FU (0 : Int32) (0 : Int32)
set_option maxRecDepth 100000 in
set_option maxHeartbeats 4000000 in
theorem r_X7_countOf_47_J53 {p : Program} {l : Launch} {e : Env} {s : State} {m : MethodId} {args : Array Value} {below : List Frame} {meth : Method} {c : Code} {D : va_G} {cy : Nat → ClassId} {ad : Nat → Nat} (C : CX p s m args meth c cX7_countOf 5 RX7 (some .int) D cy ad (AD ad)) {a1 : Int32} {a2 : Int32} {a3 : Int32} {a4 : Int32} {μ : Mem} {ρ : (Int32 × Mem)} (k5 : Int32 → Int32 → Option (Int32 × Mem)) (hk5 : ∀ (a3 : Int32) (a4 : Int32), k5 a3 a4 = some ρ → WA p l e (rmD 0) s m args below meth c 5 D cy ad (AD ad) 0 0 (ZZ below args s D cy ad (AD ad) 0 0 (some (.int ρ.1)) ρ.2) μ [(0, .ref 47), (1, .int a1), (2, .int a2), (3, .int a3), (4, .int a4)] 5 []) (h : f_X7_countOf_47_J53 k5 a1 a2 a3 a4 μ = some ρ) : WA p l e (rmD 0) s m args below meth c 5 D cy ad (AD ad) 0 0 (ZZ below args s D cy ad (AD ad) 0 0 (some (.int ρ.1)) ρ.2) μ [(0, .ref 47), (1, .int a1), (2, .int a2), (3, .int a3), (4, .int a4)] 53 [] := by
  unfold f_X7_countOf_47_J53 at h
  refine wa_iinc (v := (a4 + 1)) C dX7_countOf_53 rfl rfl (by decide) ?_
  refine wa_goto (tgt := 5) C dX7_countOf_56 (by decide) ?_
  exact WA.sub (lsub_c rfl (lsub_c rfl (lsub_c rfl (lsub_c rfl (lsub_c rfl lsub_n))))) (hk5 _ _ h)
set_option maxRecDepth 100000 in
set_option maxHeartbeats 4000000 in
theorem r_X7_countOf_47_J51 {p : Program} {l : Launch} {e : Env} {s : State} {m : MethodId} {args : Array Value} {below : List Frame} {meth : Method} {c : Code} {D : va_G} {cy : Nat → ClassId} {ad : Nat → Nat} (C : CX p s m args meth c cX7_countOf 5 RX7 (some .int) D cy ad (AD ad)) {a1 : Int32} {a2 : Int32} {a4 : Int32} {t0 : Int32} {t1 : Int32} {μ : Mem} {ρ : (Int32 × Mem)} (k5 : Int32 → Int32 → Option (Int32 × Mem)) (hk5 : ∀ (a3 : Int32) (a4 : Int32), k5 a3 a4 = some ρ → WA p l e (rmD 0) s m args below meth c 5 D cy ad (AD ad) 0 0 (ZZ below args s D cy ad (AD ad) 0 0 (some (.int ρ.1)) ρ.2) μ [(0, .ref 47), (1, .int a1), (2, .int a2), (3, .int a3), (4, .int a4)] 5 []) (h : f_X7_countOf_47_J51 k5 a1 a2 a4 t0 t1 μ = some ρ) : WA p l e (rmD 0) s m args below meth c 5 D cy ad (AD ad) 0 0 (ZZ below args s D cy ad (AD ad) 0 0 (some (.int ρ.1)) ρ.2) μ [(0, .ref 47), (1, .int a1), (2, .int a2), (4, .int a4)] 51 [.int t1, .int t0] := by
  unfold f_X7_countOf_47_J51 at h
  refine wa_iadd C dX7_countOf_51 ?_
  refine wa_istore_n C dX7_countOf_52 (by decide) ?_
  exact WA.sub (lsub_c rfl (lsub_c rfl (lsub_c rfl (lsub_c rfl (lsub_c rfl lsub_n))))) (r_X7_countOf_47_J53 C _ hk5 h)
set_option maxRecDepth 100000 in
set_option maxHeartbeats 4000000 in
theorem r_X7_countOf_47_L5 {p : Program} {l : Launch} {e : Env} {s : State} {m : MethodId} {args : Array Value} {below : List Frame} {meth : Method} {c : Code} {D : va_G} {cy : Nat → ClassId} {ad : Nat → Nat} (C : CX p s m args meth c cX7_countOf 5 RX7 (some .int) D cy ad (AD ad)) (a1 : Int32) (a2 : Int32) (μ : Mem) {ρ : (Int32 × Mem)} : ∀ (n : Nat) (a3 : Int32) (a4 : Int32), it2 (f_X7_countOf_47_L5 a1 a2 μ) n a3 a4 = some ρ → WA p l e (rmD 0) s m args below meth c 5 D cy ad (AD ad) 0 0 (ZZ below args s D cy ad (AD ad) 0 0 (some (.int ρ.1)) ρ.2) μ [(0, .ref 47), (1, .int a1), (2, .int a2), (3, .int a3), (4, .int a4)] 5 [] := by
  intro n
  induction n with
  | zero =>
    intro a3 a4 h
    exact absurd h (fun h => by cases h)
  | succ n ih =>
    intro a3 a4 h
    replace h : f_X7_countOf_47_L5 a1 a2 μ (it2 (f_X7_countOf_47_L5 a1 a2 μ) n) a3 a4 = some ρ := h
    unfold f_X7_countOf_47_L5 at h
    refine wa_iload C dX7_countOf_5 rfl ?_
    refine wa_bipush (v := 6) C dX7_countOf_7 (by decide) ?_
    refine wa_icmp_ge (tgt := 59) C dX7_countOf_9 (by decide) (fun c1 => ?_) (fun c1 => ?_)
    · replace h := (if_pos c1).symm.trans h
      refine wa_iload_n C dX7_countOf_59 rfl ?_
      obtain rfl := Option.some.inj h
      exact wa_iret C dX7_countOf_60
    · replace h := (if_neg c1).symm.trans h
      refine wa_aload_n C dX7_countOf_12 rfl ?_
      refine wa_getr C fl_RX7_9 rfl rfl (by decide) dX7_countOf_13 ?_
      refine wa_iload C dX7_countOf_16 rfl ?_
      obtain ⟨g2, h⟩ := gd h
      refine wa_iald (j := (a4.toNatClampNeg)) (x := (μ.1 48 (a4.toNatClampNeg))) C rfl (by decide) g2 rfl rfl dX7_countOf_18 ?_
      refine wa_iload_n C dX7_countOf_19 rfl ?_
      refine wa_ishr C dX7_countOf_20 ?_
      refine wa_iconst (v := 1) C dX7_countOf_21 (by decide) ?_
      refine wa_iand C dX7_countOf_22 ?_
      refine wa_iconst (v := 1) C dX7_countOf_23 (by decide) ?_
      refine wa_icmp_ne (tgt := 53) C dX7_countOf_24 (by decide) (fun c3 => ?_) (fun c3 => ?_)
      · replace h := (if_neg c3).symm.trans h
        exact WA.sub (lsub_c rfl (lsub_c rfl (lsub_c rfl (lsub_c rfl (lsub_c rfl lsub_n))))) (r_X7_countOf_47_J53 C _ (fun _ _ h => ih _ _ h) h)
      · replace h := (if_pos c3).symm.trans h
        refine wa_iload_n C dX7_countOf_27 rfl ?_
        refine wa_iload_n C dX7_countOf_28 rfl ?_
        refine wa_iload C dX7_countOf_29 rfl ?_
        refine wa_ishr C dX7_countOf_31 ?_
        refine wa_iconst (v := 1) C dX7_countOf_32 (by decide) ?_
        refine wa_iand C dX7_countOf_33 ?_
        refine wa_iconst (v := 1) C dX7_countOf_34 (by decide) ?_
        refine wa_icmp_ne (tgt := 42) C dX7_countOf_35 (by decide) (fun c4 => ?_) (fun c4 => ?_)
        · replace h := (if_neg c4).symm.trans h
          refine wa_aload_n C dX7_countOf_42 rfl ?_
          refine wa_geti (x := (μ.1 47 3)) C fl_RX7_22 rfl rfl (by decide) rfl dX7_countOf_43 ?_
          refine wa_iload C dX7_countOf_46 rfl ?_
          refine wa_ishr C dX7_countOf_48 ?_
          refine wa_iconst (v := 1) C dX7_countOf_49 (by decide) ?_
          refine wa_iand C dX7_countOf_50 ?_
          exact WA.sub (lsub_c rfl (lsub_c rfl (lsub_c rfl (lsub_c rfl lsub_n)))) (r_X7_countOf_47_J51 C _ (fun _ _ h => ih _ _ h) h)
        · replace h := (if_pos c4).symm.trans h
          refine wa_iconst (v := 2) C dX7_countOf_38 (by decide) ?_
          refine wa_goto (tgt := 51) C dX7_countOf_39 (by decide) ?_
          exact WA.sub (lsub_c rfl (lsub_c rfl (lsub_c rfl (lsub_c rfl lsub_n)))) (r_X7_countOf_47_J51 C _ (fun _ _ h => ih _ _ h) h)
set_option maxRecDepth 100000 in
set_option maxHeartbeats 4000000 in
theorem r_X7_countOf_47 {a1 : Int32} {a2 : Int32} {μ : Mem} {ρ : (Int32 × Mem)} (h : f_X7_countOf_47 a1 a2 μ = some ρ) : HT 0 yX7_countOf cX7_countOf 5 (some .int) [.ref 47, .int a1, .int a2] μ (some (.int ρ.1)) ρ.2 := by
  refine HT.of (by decide +kernel) (Nat.le_of_ble_eq_true rfl) (fun C => ?_)
  unfold f_X7_countOf_47 at h
  refine wa_iconst (v := 0) C dX7_countOf_0 (by decide) ?_
  refine wa_istore_n C dX7_countOf_1 (by decide) ?_
  refine wa_iconst (v := 0) C dX7_countOf_2 (by decide) ?_
  refine wa_istore C dX7_countOf_3 (by decide) ?_
  exact WA.sub (lsub_c rfl (lsub_c rfl (lsub_c rfl (lsub_c rfl (lsub_c rfl lsub_n))))) (r_X7_countOf_47_L5 C _ _ _ _ _ _ h)
def f_X9_sees_0 (a1 : Int32) (a2 : Int32) (μ : Mem) : Option (Int32 × Mem) :=
  (f_X9_isSide a1 μ).bind fun q1 =>
  if q1.1 = 0 then
    some ((-1 : Int32), q1.2)
  else
    (f_X1_hasWatch_1 a2 q1.2).bind fun q3 =>
    if q3.1 = 0 then
      some ((-1 : Int32), q3.2)
    else
      (f_X9_look_0 q3.2).bind fun q5 =>
      (f_X7_openBy_47 a2 q5).bind fun q6 =>
      (f_X7_countOf_47 a1 q6.1 q6.2).bind fun q7 =>
      some (q7.1, q7.2)
set_option maxRecDepth 100000 in
set_option maxHeartbeats 4000000 in
theorem r_X9_sees_0 {a1 : Int32} {a2 : Int32} {μ : Mem} {ρ : (Int32 × Mem)} (h : f_X9_sees_0 a1 a2 μ = some ρ) : HT 3 yX9_sees cX9_sees 3 (some .int) [.ref 0, .int a1, .int a2] μ (some (.int ρ.1)) ρ.2 := by
  refine HT.of (by decide +kernel) (Nat.le_of_ble_eq_true rfl) (fun C => ?_)
  unfold f_X9_sees_0 at h
  refine wa_iload_n C dX9_sees_0 rfl ?_
  obtain ⟨q1, hq1, h⟩ := bd h
  refine wa_callS C (r_X9_isSide hq1) mk_X9_isSide ms_X9_isSide qw_543 rfl ⟨Nat.le_of_ble_eq_true rfl, Nat.le_of_ble_eq_true rfl⟩ ⟨Nat.zero_le _, Nat.zero_le _⟩ (Nat.le_of_ble_eq_true rfl) dX9_sees_1 rfl ?_
  refine wa_if_eq (tgt := 18) C dX9_sees_4 (by decide) (fun c2 => ?_) (fun c2 => ?_)
  · replace h := (if_pos c2).symm.trans h
    refine wa_iconst (v := -1) C dX9_sees_18 (by decide) ?_
    obtain rfl := Option.some.inj h
    exact wa_iret C dX9_sees_19
  · replace h := (if_neg c2).symm.trans h
    refine wa_aload_n C dX9_sees_7 rfl ?_
    refine wa_getr C fl_RX9_10 rfl rfl (by decide) dX9_sees_8 ?_
    refine wa_iload_n C dX9_sees_11 rfl ?_
    obtain ⟨q3, hq3, h⟩ := bd h
    refine wa_callV C (r_X1_hasWatch_1 hq3) mk_X1_hasWatch mv_X1_hasWatch qw_583 rfl (by decide) rfl rfl ⟨Nat.le_of_ble_eq_true rfl, Nat.le_of_ble_eq_true rfl⟩ ⟨Nat.zero_le _, Nat.zero_le _⟩ (Nat.le_of_ble_eq_true rfl) dX9_sees_12 rfl ?_
    refine wa_if_ne (tgt := 20) C dX9_sees_15 (by decide) (fun c4 => ?_) (fun c4 => ?_)
    · replace h := (if_neg c4).symm.trans h
      refine wa_aload_n C dX9_sees_20 rfl ?_
      obtain ⟨q5, hq5, h⟩ := bd h
      refine wa_callV C (r_X9_look_0 hq5) mk_X9_look mv_X9_look qw_508 rfl (by decide) rfl rfl ⟨Nat.le_of_ble_eq_true rfl, Nat.le_of_ble_eq_true rfl⟩ ⟨Nat.zero_le _, Nat.zero_le _⟩ (Nat.le_of_ble_eq_true rfl) dX9_sees_21 rfl ?_
      refine wa_pop C dX9_sees_24 rfl ?_
      refine wa_aload_n C dX9_sees_25 rfl ?_
      refine wa_getr C fl_RX9_44 rfl rfl (by decide) dX9_sees_26 ?_
      refine wa_iload_n C dX9_sees_29 rfl ?_
      refine wa_aload_n C dX9_sees_30 rfl ?_
      refine wa_getr C fl_RX9_44 rfl rfl (by decide) dX9_sees_31 ?_
      refine wa_iload_n C dX9_sees_34 rfl ?_
      obtain ⟨q6, hq6, h⟩ := bd h
      refine wa_callV C (r_X7_openBy_47 hq6) mk_X7_openBy mv_X7_openBy qw_635 rfl (by decide) rfl rfl ⟨Nat.le_of_ble_eq_true rfl, Nat.le_of_ble_eq_true rfl⟩ ⟨Nat.zero_le _, Nat.zero_le _⟩ (Nat.le_of_ble_eq_true rfl) dX9_sees_35 rfl ?_
      obtain ⟨q7, hq7, h⟩ := bd h
      refine wa_callV C (r_X7_countOf_47 hq7) mk_X7_countOf mv_X7_countOf qw_639 rfl (by decide) rfl rfl ⟨Nat.le_of_ble_eq_true rfl, Nat.le_of_ble_eq_true rfl⟩ ⟨Nat.zero_le _, Nat.zero_le _⟩ (Nat.le_of_ble_eq_true rfl) dX9_sees_38 rfl ?_
      obtain rfl := Option.some.inj h
      exact wa_iret C dX9_sees_41
    · replace h := (if_pos c4).symm.trans h
      refine wa_iconst (v := -1) C dX9_sees_18 (by decide) ?_
      obtain rfl := Option.some.inj h
      exact wa_iret C dX9_sees_19
def f_X10_shutBy_62_J39 (k7 : Int32 → Int32 → Int32 → Option (Int32 × Mem)) (a3 : Int32) (a4 : Int32) (t0 : Int32) (t1 : Int32) (μ : Mem) : Option (Int32 × Mem) :=
  k7 (t0 ||| t1) (a3 / (3 : Int32)) (a4 + 1)
def f_X10_shutBy_62_L7 (μ : Mem) (k7 : Int32 → Int32 → Int32 → Option (Int32 × Mem)) (a2 : Int32) (a3 : Int32) (a4 : Int32) : Option (Int32 × Mem) :=
    if (μ.1 62 2) ≤ a4 then
      some (a2, μ)
    else
      if (a3 - a3 / (3 : Int32) * (3 : Int32)) = 0 then
        f_X10_shutBy_62_J39 k7 a3 a4 a2 (0 : Int32) μ
      else
        f_X10_shutBy_62_J39 k7 a3 a4 a2 ((1 : Int32) <<< (((((2 : Int32) * a4) + (a3 - a3 / (3 : Int32) * (3 : Int32))) - (1 : Int32)) &&& 31)) μ
def f_X10_shutBy_62 (a1 : Int32) (μ : Mem) : Option (Int32 × Mem) :=
  it3 (f_X10_shutBy_62_L7 μ) FU (0 : Int32) a1 (0 : Int32)
set_option maxRecDepth 100000 in
set_option maxHeartbeats 4000000 in
theorem r_X10_shutBy_62_J39 {p : Program} {l : Launch} {e : Env} {s : State} {m : MethodId} {args : Array Value} {below : List Frame} {meth : Method} {c : Code} {D : va_G} {cy : Nat → ClassId} {ad : Nat → Nat} (C : CX p s m args meth c cX10_shutBy 5 RX10 (some .int) D cy ad (AD ad)) {a3 : Int32} {a4 : Int32} {t0 : Int32} {t1 : Int32} {μ : Mem} {ρ : (Int32 × Mem)} (k7 : Int32 → Int32 → Int32 → Option (Int32 × Mem)) (hk7 : ∀ (a2 : Int32) (a3 : Int32) (a4 : Int32), k7 a2 a3 a4 = some ρ → WA p l e (rmD 0) s m args below meth c 5 D cy ad (AD ad) 0 0 (ZZ below args s D cy ad (AD ad) 0 0 (some (.int ρ.1)) ρ.2) μ [(0, .ref 62), (2, .int a2), (3, .int a3), (4, .int a4)] 7 []) (h : f_X10_shutBy_62_J39 k7 a3 a4 t0 t1 μ = some ρ) : WA p l e (rmD 0) s m args below meth c 5 D cy ad (AD ad) 0 0 (ZZ below args s D cy ad (AD ad) 0 0 (some (.int ρ.1)) ρ.2) μ [(0, .ref 62), (3, .int a3), (4, .int a4)] 39 [.int t1, .int t0] := by
  unfold f_X10_shutBy_62_J39 at h
  refine wa_ior C dX10_shutBy_39 ?_
  refine wa_istore_n C dX10_shutBy_40 (by decide) ?_
  refine wa_iload_n C dX10_shutBy_41 rfl ?_
  refine wa_iconst (v := 3) C dX10_shutBy_42 (by decide) ?_
  refine wa_idiv C dX10_shutBy_43 (by decide) ?_
  refine wa_istore_n C dX10_shutBy_44 (by decide) ?_
  refine wa_iinc (v := (a4 + 1)) C dX10_shutBy_45 rfl rfl (by decide) ?_
  refine wa_goto (tgt := 7) C dX10_shutBy_48 (by decide) ?_
  exact WA.sub (lsub_c rfl (lsub_c rfl (lsub_c rfl (lsub_c rfl lsub_n)))) (hk7 _ _ _ h)
set_option maxRecDepth 100000 in
set_option maxHeartbeats 4000000 in
theorem r_X10_shutBy_62_L7 {p : Program} {l : Launch} {e : Env} {s : State} {m : MethodId} {args : Array Value} {below : List Frame} {meth : Method} {c : Code} {D : va_G} {cy : Nat → ClassId} {ad : Nat → Nat} (C : CX p s m args meth c cX10_shutBy 5 RX10 (some .int) D cy ad (AD ad)) (μ : Mem) {ρ : (Int32 × Mem)} : ∀ (n : Nat) (a2 : Int32) (a3 : Int32) (a4 : Int32), it3 (f_X10_shutBy_62_L7 μ) n a2 a3 a4 = some ρ → WA p l e (rmD 0) s m args below meth c 5 D cy ad (AD ad) 0 0 (ZZ below args s D cy ad (AD ad) 0 0 (some (.int ρ.1)) ρ.2) μ [(0, .ref 62), (2, .int a2), (3, .int a3), (4, .int a4)] 7 [] := by
  intro n
  induction n with
  | zero =>
    intro a2 a3 a4 h
    exact absurd h (fun h => by cases h)
  | succ n ih =>
    intro a2 a3 a4 h
    replace h : f_X10_shutBy_62_L7 μ (it3 (f_X10_shutBy_62_L7 μ) n) a2 a3 a4 = some ρ := h
    unfold f_X10_shutBy_62_L7 at h
    refine wa_iload C dX10_shutBy_7 rfl ?_
    refine wa_aload_n C dX10_shutBy_9 rfl ?_
    refine wa_geti (x := (μ.1 62 2)) C fl_RX10_94 rfl rfl (by decide) rfl dX10_shutBy_10 ?_
    refine wa_icmp_ge (tgt := 51) C dX10_shutBy_13 (by decide) (fun c1 => ?_) (fun c1 => ?_)
    · replace h := (if_pos c1).symm.trans h
      refine wa_iload_n C dX10_shutBy_51 rfl ?_
      obtain rfl := Option.some.inj h
      exact wa_iret C dX10_shutBy_52
    · replace h := (if_neg c1).symm.trans h
      refine wa_iload_n C dX10_shutBy_16 rfl ?_
      refine wa_iload_n C dX10_shutBy_17 rfl ?_
      refine wa_iconst (v := 3) C dX10_shutBy_18 (by decide) ?_
      refine wa_irem C dX10_shutBy_19 (by decide) ?_
      refine wa_if_ne (tgt := 27) C dX10_shutBy_20 (by decide) (fun c2 => ?_) (fun c2 => ?_)
      · replace h := (if_neg c2).symm.trans h
        refine wa_iconst (v := 1) C dX10_shutBy_27 (by decide) ?_
        refine wa_iconst (v := 2) C dX10_shutBy_28 (by decide) ?_
        refine wa_iload C dX10_shutBy_29 rfl ?_
        refine wa_imul C dX10_shutBy_31 ?_
        refine wa_iload_n C dX10_shutBy_32 rfl ?_
        refine wa_iconst (v := 3) C dX10_shutBy_33 (by decide) ?_
        refine wa_irem C dX10_shutBy_34 (by decide) ?_
        refine wa_iadd C dX10_shutBy_35 ?_
        refine wa_iconst (v := 1) C dX10_shutBy_36 (by decide) ?_
        refine wa_isub C dX10_shutBy_37 ?_
        refine wa_ishl C dX10_shutBy_38 ?_
        exact WA.sub (lsub_c rfl (lsub_c rfl (lsub_c rfl lsub_n))) (r_X10_shutBy_62_J39 C _ (fun _ _ _ h => ih _ _ _ h) h)
      · replace h := (if_pos c2).symm.trans h
        refine wa_iconst (v := 0) C dX10_shutBy_23 (by decide) ?_
        refine wa_goto (tgt := 39) C dX10_shutBy_24 (by decide) ?_
        exact WA.sub (lsub_c rfl (lsub_c rfl (lsub_c rfl lsub_n))) (r_X10_shutBy_62_J39 C _ (fun _ _ _ h => ih _ _ _ h) h)
set_option maxRecDepth 100000 in
set_option maxHeartbeats 4000000 in
theorem r_X10_shutBy_62 {a1 : Int32} {μ : Mem} {ρ : (Int32 × Mem)} (h : f_X10_shutBy_62 a1 μ = some ρ) : HT 0 yX10_shutBy cX10_shutBy 5 (some .int) [.ref 62, .int a1] μ (some (.int ρ.1)) ρ.2 := by
  refine HT.of (by decide +kernel) (Nat.le_of_ble_eq_true rfl) (fun C => ?_)
  unfold f_X10_shutBy_62 at h
  refine wa_iconst (v := 0) C dX10_shutBy_0 (by decide) ?_
  refine wa_istore_n C dX10_shutBy_1 (by decide) ?_
  refine wa_iload_n C dX10_shutBy_2 rfl ?_
  refine wa_istore_n C dX10_shutBy_3 (by decide) ?_
  refine wa_iconst (v := 0) C dX10_shutBy_4 (by decide) ?_
  refine wa_istore C dX10_shutBy_5 (by decide) ?_
  exact WA.sub (lsub_c rfl (lsub_c rfl (lsub_c rfl (lsub_c rfl lsub_n)))) (r_X10_shutBy_62_L7 C _ _ _ _ _ h)
def f_X10_isHere_62 (a1 : Int32) (μ : Mem) : Option (Int32 × Mem) :=
  if (a1 / (2 : Int32)) = ((μ.1 62 26) - (1 : Int32)) then
    some ((0 : Int32), μ)
  else
    some ((1 : Int32), μ)
set_option maxRecDepth 100000 in
set_option maxHeartbeats 4000000 in
theorem r_X10_isHere_62 {a1 : Int32} {μ : Mem} {ρ : (Int32 × Mem)} (h : f_X10_isHere_62 a1 μ = some ρ) : HT 0 yX10_isHere cX10_isHere 2 (some .boolean) [.ref 62, .int a1] μ (some (.int ρ.1)) ρ.2 := by
  refine HT.of (by decide +kernel) (Nat.le_of_ble_eq_true rfl) (fun C => ?_)
  unfold f_X10_isHere_62 at h
  refine wa_iload_n C dX10_isHere_0 rfl ?_
  refine wa_iconst (v := 2) C dX10_isHere_1 (by decide) ?_
  refine wa_idiv C dX10_isHere_2 (by decide) ?_
  refine wa_aload_n C dX10_isHere_3 rfl ?_
  refine wa_geti (x := (μ.1 62 26)) C fl_RX10_225 rfl rfl (by decide) rfl dX10_isHere_4 ?_
  refine wa_iconst (v := 1) C dX10_isHere_7 (by decide) ?_
  refine wa_isub C dX10_isHere_8 ?_
  refine wa_icmp_eq (tgt := 16) C dX10_isHere_9 (by decide) (fun c1 => ?_) (fun c1 => ?_)
  · replace h := (if_pos c1).symm.trans h
    refine wa_iconst (v := 0) C dX10_isHere_16 (by decide) ?_
    obtain rfl := Option.some.inj h
    exact wa_zret C rfl dX10_isHere_17
  · replace h := (if_neg c1).symm.trans h
    refine wa_iconst (v := 1) C dX10_isHere_12 (by decide) ?_
    refine wa_goto (tgt := 17) C dX10_isHere_13 (by decide) ?_
    obtain rfl := Option.some.inj h
    exact wa_zret C rfl dX10_isHere_17
def f_X10_flag (a0 : Int32) (μ : Mem) : Option (Int32 × Mem) :=
  if a0 = 0 then
    some ((0 : Int32), μ)
  else
    some ((1 : Int32), μ)
set_option maxRecDepth 100000 in
set_option maxHeartbeats 4000000 in
theorem r_X10_flag {a0 : Int32} {μ : Mem} {ρ : (Int32 × Mem)} (h : f_X10_flag a0 μ = some ρ) : HT 0 yX10_flag cX10_flag 1 (some .int) [.int a0] μ (some (.int ρ.1)) ρ.2 := by
  refine HT.of (by decide +kernel) (Nat.le_of_ble_eq_true rfl) (fun C => ?_)
  unfold f_X10_flag at h
  refine wa_iload_n C dX10_flag_0 rfl ?_
  refine wa_if_eq (tgt := 8) C dX10_flag_1 (by decide) (fun c1 => ?_) (fun c1 => ?_)
  · replace h := (if_pos c1).symm.trans h
    refine wa_iconst (v := 0) C dX10_flag_8 (by decide) ?_
    obtain rfl := Option.some.inj h
    exact wa_iret C dX10_flag_9
  · replace h := (if_neg c1).symm.trans h
    refine wa_iconst (v := 1) C dX10_flag_4 (by decide) ?_
    refine wa_goto (tgt := 9) C dX10_flag_5 (by decide) ?_
    obtain rfl := Option.some.inj h
    exact wa_iret C dX10_flag_9
def f_X10_countOf_62_J94 (k5 : Int32 → Int32 → Mem → Option (Int32 × Mem)) (a1 : Int32) (a2 : Int32) (a4 : Int32) (t0 : Int32) (t1 : Int32) (μ : Mem) : Option (Int32 × Mem) :=
  k5 (t0 + t1) (a4 + 1) μ
def f_X10_countOf_62_J80 (k5 : Int32 → Int32 → Mem → Option (Int32 × Mem)) (a1 : Int32) (a2 : Int32) (a3 : Int32) (a4 : Int32) (a5 : Int32) (t0 : Int32) (μ : Mem) : Option (Int32 × Mem) :=
  if a5 = 0 then
    f_X10_countOf_62_J94 k5 a1 a2 a4 a3 (0 : Int32) μ
  else
    f_X10_countOf_62_J94 k5 a1 a2 a4 a3 t0 μ
def f_X10_countOf_62_J77 (k5 : Int32 → Int32 → Mem → Option (Int32 × Mem)) (a1 : Int32) (a2 : Int32) (a3 : Int32) (a4 : Int32) (a5 : Int32) (t0 : Int32) (μ : Mem) : Option (Int32 × Mem) :=
  (f_X10_flag t0 μ).bind fun q8 =>
  f_X10_countOf_62_J80 k5 a1 a2 a3 a4 a5 q8.1 q8.2
def f_X10_countOf_62_J44 (k5 : Int32 → Int32 → Mem → Option (Int32 × Mem)) (a1 : Int32) (a2 : Int32) (a3 : Int32) (a4 : Int32) (t0 : Int32) (μ : Mem) : Option (Int32 × Mem) :=
  if ((a2 >>> (a4 &&& 31)) &&& (1 : Int32)) = 0 then
    f_X10_countOf_62_J80 k5 a1 a2 a3 a4 t0 (2 : Int32) μ
  else
    if inb (a4 / (2 : Int32)) 3 = false then none else
    if (μ.1 65 ((a4 / (2 : Int32)).toNatClampNeg)) = (3 : Int32) then
      f_X10_countOf_62_J77 k5 a1 a2 a3 a4 t0 (1 : Int32) μ
    else
      f_X10_countOf_62_J77 k5 a1 a2 a3 a4 t0 (0 : Int32) μ
def f_X10_countOf_62_J43 (k5 : Int32 → Int32 → Mem → Option (Int32 × Mem)) (a1 : Int32) (a2 : Int32) (a3 : Int32) (a4 : Int32) (μ : Mem) : Option (Int32 × Mem) :=
  f_X10_countOf_62_J44 k5 a1 a2 a3 a4 (0 : Int32) μ
def f_X10_countOf_62_L5 (a1 : Int32) (a2 : Int32) (k5 : Int32 → Int32 → Mem → Option (Int32 × Mem)) (a3 : Int32) (a4 : Int32) (μ : Mem) : Option (Int32 × Mem) :=
    if ((2 : Int32) * (μ.1 62 2)) ≤ a4 then
      some (a3, μ)
    else
      (f_X10_isHere_62 a4 μ).bind fun q2 =>
      if q2.1 = 0 then
        f_X10_countOf_62_J43 k5 a1 a2 a3 a4 q2.2
      else
        (f_X10_seenBy_62 a4 q2.2).bind fun q9 =>
        if ((q9.1 >>> (a1 &&& 31)) &&& (1 : Int32)) = (1 : Int32) then
          f_X10_countOf_62_J44 k5 a1 a2 a3 a4 (1 : Int32) q9.2
        else
          f_X10_countOf_62_J43 k5 a1 a2 a3 a4 q9.2
def f_X10_countOf_62 (a1 : Int32) (a2 : Int32) (μ : Mem) : Option (Int32 × Mem) :=
  it3 (f_X10_countOf_62_L5 a1 a2) FU (0 : Int32) (0 : Int32) μ
set_option maxRecDepth 100000 in
set_option maxHeartbeats 4000000 in
theorem r_X10_countOf_62_J94 {p : Program} {l : Launch} {e : Env} {s : State} {m : MethodId} {args : Array Value} {below : List Frame} {meth : Method} {c : Code} {D : va_G} {cy : Nat → ClassId} {ad : Nat → Nat} (C : CX p s m args meth c cX10_countOf 7 RX10 (some .int) D cy ad (AD ad)) {a1 : Int32} {a2 : Int32} {a4 : Int32} {t0 : Int32} {t1 : Int32} {μ : Mem} {ρ : (Int32 × Mem)} (k5 : Int32 → Int32 → Mem → Option (Int32 × Mem)) (hk5 : ∀ (a3 : Int32) (a4 : Int32) (μ : Mem), k5 a3 a4 μ = some ρ → WA p l e (rmD 1) s m args below meth c 7 D cy ad (AD ad) 0 0 (ZZ below args s D cy ad (AD ad) 0 0 (some (.int ρ.1)) ρ.2) μ [(0, .ref 62), (1, .int a1), (2, .int a2), (3, .int a3), (4, .int a4)] 5 []) (h : f_X10_countOf_62_J94 k5 a1 a2 a4 t0 t1 μ = some ρ) : WA p l e (rmD 1) s m args below meth c 7 D cy ad (AD ad) 0 0 (ZZ below args s D cy ad (AD ad) 0 0 (some (.int ρ.1)) ρ.2) μ [(0, .ref 62), (1, .int a1), (2, .int a2), (4, .int a4)] 94 [.int t1, .int t0] := by
  unfold f_X10_countOf_62_J94 at h
  refine wa_iadd C dX10_countOf_94 ?_
  refine wa_istore_n C dX10_countOf_95 (by decide) ?_
  refine wa_iinc (v := (a4 + 1)) C dX10_countOf_96 rfl rfl (by decide) ?_
  refine wa_goto (tgt := 5) C dX10_countOf_99 (by decide) ?_
  exact WA.sub (lsub_c rfl (lsub_c rfl (lsub_c rfl (lsub_c rfl (lsub_c rfl lsub_n))))) (hk5 _ _ _ h)
set_option maxRecDepth 100000 in
set_option maxHeartbeats 4000000 in
theorem r_X10_countOf_62_J80 {p : Program} {l : Launch} {e : Env} {s : State} {m : MethodId} {args : Array Value} {below : List Frame} {meth : Method} {c : Code} {D : va_G} {cy : Nat → ClassId} {ad : Nat → Nat} (C : CX p s m args meth c cX10_countOf 7 RX10 (some .int) D cy ad (AD ad)) {a1 : Int32} {a2 : Int32} {a3 : Int32} {a4 : Int32} {a5 : Int32} {t0 : Int32} {μ : Mem} {ρ : (Int32 × Mem)} (k5 : Int32 → Int32 → Mem → Option (Int32 × Mem)) (hk5 : ∀ (a3 : Int32) (a4 : Int32) (μ : Mem), k5 a3 a4 μ = some ρ → WA p l e (rmD 1) s m args below meth c 7 D cy ad (AD ad) 0 0 (ZZ below args s D cy ad (AD ad) 0 0 (some (.int ρ.1)) ρ.2) μ [(0, .ref 62), (1, .int a1), (2, .int a2), (3, .int a3), (4, .int a4)] 5 []) (h : f_X10_countOf_62_J80 k5 a1 a2 a3 a4 a5 t0 μ = some ρ) : WA p l e (rmD 1) s m args below meth c 7 D cy ad (AD ad) 0 0 (ZZ below args s D cy ad (AD ad) 0 0 (some (.int ρ.1)) ρ.2) μ [(0, .ref 62), (1, .int a1), (2, .int a2), (3, .int a3), (4, .int a4), (5, .int a5)] 80 [.int t0] := by
  unfold f_X10_countOf_62_J80 at h
  refine wa_istore C dX10_countOf_80 (by decide) ?_
  refine wa_iload_n C dX10_countOf_82 rfl ?_
  refine wa_iload C dX10_countOf_83 rfl ?_
  refine wa_if_eq (tgt := 93) C dX10_countOf_85 (by decide) (fun c5 => ?_) (fun c5 => ?_)
  · replace h := (if_pos c5).symm.trans h
    refine wa_iconst (v := 0) C dX10_countOf_93 (by decide) ?_
    exact WA.sub (lsub_c rfl (lsub_c rfl (lsub_c rfl (lsub_c rfl lsub_n)))) (r_X10_countOf_62_J94 C _ hk5 h)
  · replace h := (if_neg c5).symm.trans h
    refine wa_iload C dX10_countOf_88 rfl ?_
    refine wa_goto (tgt := 94) C dX10_countOf_90 (by decide) ?_
    exact WA.sub (lsub_c rfl (lsub_c rfl (lsub_c rfl (lsub_c rfl lsub_n)))) (r_X10_countOf_62_J94 C _ hk5 h)
set_option maxRecDepth 100000 in
set_option maxHeartbeats 4000000 in
theorem r_X10_countOf_62_J77 {p : Program} {l : Launch} {e : Env} {s : State} {m : MethodId} {args : Array Value} {below : List Frame} {meth : Method} {c : Code} {D : va_G} {cy : Nat → ClassId} {ad : Nat → Nat} (C : CX p s m args meth c cX10_countOf 7 RX10 (some .int) D cy ad (AD ad)) {a1 : Int32} {a2 : Int32} {a3 : Int32} {a4 : Int32} {a5 : Int32} {t0 : Int32} {μ : Mem} {ρ : (Int32 × Mem)} (k5 : Int32 → Int32 → Mem → Option (Int32 × Mem)) (hk5 : ∀ (a3 : Int32) (a4 : Int32) (μ : Mem), k5 a3 a4 μ = some ρ → WA p l e (rmD 1) s m args below meth c 7 D cy ad (AD ad) 0 0 (ZZ below args s D cy ad (AD ad) 0 0 (some (.int ρ.1)) ρ.2) μ [(0, .ref 62), (1, .int a1), (2, .int a2), (3, .int a3), (4, .int a4)] 5 []) (h : f_X10_countOf_62_J77 k5 a1 a2 a3 a4 a5 t0 μ = some ρ) : WA p l e (rmD 1) s m args below meth c 7 D cy ad (AD ad) 0 0 (ZZ below args s D cy ad (AD ad) 0 0 (some (.int ρ.1)) ρ.2) μ [(0, .ref 62), (1, .int a1), (2, .int a2), (3, .int a3), (4, .int a4), (5, .int a5)] 77 [.int t0] := by
  unfold f_X10_countOf_62_J77 at h
  obtain ⟨q8, hq8, h⟩ := bd h
  refine wa_callS C (r_X10_flag hq8) mk_X10_flag ms_X10_flag qw_660 rfl ⟨Nat.le_of_ble_eq_true rfl, Nat.le_of_ble_eq_true rfl⟩ ⟨Nat.zero_le _, Nat.zero_le _⟩ (Nat.le_of_ble_eq_true rfl) dX10_countOf_77 rfl ?_
  exact WA.sub (lsub_c rfl (lsub_c rfl (lsub_c rfl (lsub_c rfl (lsub_c rfl (lsub_c rfl lsub_n)))))) (r_X10_countOf_62_J80 C _ hk5 h)
set_option maxRecDepth 100000 in
set_option maxHeartbeats 4000000 in
theorem r_X10_countOf_62_J44 {p : Program} {l : Launch} {e : Env} {s : State} {m : MethodId} {args : Array Value} {below : List Frame} {meth : Method} {c : Code} {D : va_G} {cy : Nat → ClassId} {ad : Nat → Nat} (C : CX p s m args meth c cX10_countOf 7 RX10 (some .int) D cy ad (AD ad)) {a1 : Int32} {a2 : Int32} {a3 : Int32} {a4 : Int32} {t0 : Int32} {μ : Mem} {ρ : (Int32 × Mem)} (k5 : Int32 → Int32 → Mem → Option (Int32 × Mem)) (hk5 : ∀ (a3 : Int32) (a4 : Int32) (μ : Mem), k5 a3 a4 μ = some ρ → WA p l e (rmD 1) s m args below meth c 7 D cy ad (AD ad) 0 0 (ZZ below args s D cy ad (AD ad) 0 0 (some (.int ρ.1)) ρ.2) μ [(0, .ref 62), (1, .int a1), (2, .int a2), (3, .int a3), (4, .int a4)] 5 []) (h : f_X10_countOf_62_J44 k5 a1 a2 a3 a4 t0 μ = some ρ) : WA p l e (rmD 1) s m args below meth c 7 D cy ad (AD ad) 0 0 (ZZ below args s D cy ad (AD ad) 0 0 (some (.int ρ.1)) ρ.2) μ [(0, .ref 62), (1, .int a1), (2, .int a2), (3, .int a3), (4, .int a4)] 44 [.int t0] := by
  unfold f_X10_countOf_62_J44 at h
  refine wa_istore C dX10_countOf_44 (by decide) ?_
  refine wa_iload_n C dX10_countOf_46 rfl ?_
  refine wa_iload C dX10_countOf_47 rfl ?_
  refine wa_ishr C dX10_countOf_49 ?_
  refine wa_iconst (v := 1) C dX10_countOf_50 (by decide) ?_
  refine wa_iand C dX10_countOf_51 ?_
  refine wa_if_ne (tgt := 59) C dX10_countOf_52 (by decide) (fun c4 => ?_) (fun c4 => ?_)
  · replace h := (if_neg c4).symm.trans h
    refine wa_aload_n C dX10_countOf_59 rfl ?_
    refine wa_getr C fl_RX10_17 rfl rfl (by decide) dX10_countOf_60 ?_
    refine wa_iload C dX10_countOf_63 rfl ?_
    refine wa_iconst (v := 2) C dX10_countOf_65 (by decide) ?_
    refine wa_idiv C dX10_countOf_66 (by decide) ?_
    obtain ⟨g6, h⟩ := gd h
    refine wa_iald (j := ((a4 / (2 : Int32)).toNatClampNeg)) (x := (μ.1 65 ((a4 / (2 : Int32)).toNatClampNeg))) C rfl (by decide) g6 rfl rfl dX10_countOf_67 ?_
    refine wa_iconst (v := 3) C dX10_countOf_68 (by decide) ?_
    refine wa_icmp_ne (tgt := 76) C dX10_countOf_69 (by decide) (fun c7 => ?_) (fun c7 => ?_)
    · replace h := (if_neg c7).symm.trans h
      refine wa_iconst (v := 0) C dX10_countOf_76 (by decide) ?_
      exact WA.sub (lsub_c rfl (lsub_c rfl (lsub_c rfl (lsub_c rfl (lsub_c rfl (lsub_c rfl lsub_n)))))) (r_X10_countOf_62_J77 C _ hk5 h)
    · replace h := (if_pos c7).symm.trans h
      refine wa_iconst (v := 1) C dX10_countOf_72 (by decide) ?_
      refine wa_goto (tgt := 77) C dX10_countOf_73 (by decide) ?_
      exact WA.sub (lsub_c rfl (lsub_c rfl (lsub_c rfl (lsub_c rfl (lsub_c rfl (lsub_c rfl lsub_n)))))) (r_X10_countOf_62_J77 C _ hk5 h)
  · replace h := (if_pos c4).symm.trans h
    refine wa_iconst (v := 2) C dX10_countOf_55 (by decide) ?_
    refine wa_goto (tgt := 80) C dX10_countOf_56 (by decide) ?_
    exact WA.sub (lsub_c rfl (lsub_c rfl (lsub_c rfl (lsub_c rfl (lsub_c rfl (lsub_c rfl lsub_n)))))) (r_X10_countOf_62_J80 C _ hk5 h)
set_option maxRecDepth 100000 in
set_option maxHeartbeats 4000000 in
theorem r_X10_countOf_62_J43 {p : Program} {l : Launch} {e : Env} {s : State} {m : MethodId} {args : Array Value} {below : List Frame} {meth : Method} {c : Code} {D : va_G} {cy : Nat → ClassId} {ad : Nat → Nat} (C : CX p s m args meth c cX10_countOf 7 RX10 (some .int) D cy ad (AD ad)) {a1 : Int32} {a2 : Int32} {a3 : Int32} {a4 : Int32} {μ : Mem} {ρ : (Int32 × Mem)} (k5 : Int32 → Int32 → Mem → Option (Int32 × Mem)) (hk5 : ∀ (a3 : Int32) (a4 : Int32) (μ : Mem), k5 a3 a4 μ = some ρ → WA p l e (rmD 1) s m args below meth c 7 D cy ad (AD ad) 0 0 (ZZ below args s D cy ad (AD ad) 0 0 (some (.int ρ.1)) ρ.2) μ [(0, .ref 62), (1, .int a1), (2, .int a2), (3, .int a3), (4, .int a4)] 5 []) (h : f_X10_countOf_62_J43 k5 a1 a2 a3 a4 μ = some ρ) : WA p l e (rmD 1) s m args below meth c 7 D cy ad (AD ad) 0 0 (ZZ below args s D cy ad (AD ad) 0 0 (some (.int ρ.1)) ρ.2) μ [(0, .ref 62), (1, .int a1), (2, .int a2), (3, .int a3), (4, .int a4)] 43 [] := by
  unfold f_X10_countOf_62_J43 at h
  refine wa_iconst (v := 0) C dX10_countOf_43 (by decide) ?_
  exact WA.sub (lsub_c rfl (lsub_c rfl (lsub_c rfl (lsub_c rfl (lsub_c rfl lsub_n))))) (r_X10_countOf_62_J44 C _ hk5 h)
set_option maxRecDepth 100000 in
set_option maxHeartbeats 4000000 in
theorem r_X10_countOf_62_L5 {p : Program} {l : Launch} {e : Env} {s : State} {m : MethodId} {args : Array Value} {below : List Frame} {meth : Method} {c : Code} {D : va_G} {cy : Nat → ClassId} {ad : Nat → Nat} (C : CX p s m args meth c cX10_countOf 7 RX10 (some .int) D cy ad (AD ad)) (a1 : Int32) (a2 : Int32) {ρ : (Int32 × Mem)} : ∀ (n : Nat) (a3 : Int32) (a4 : Int32) (μ : Mem), it3 (f_X10_countOf_62_L5 a1 a2) n a3 a4 μ = some ρ → WA p l e (rmD 1) s m args below meth c 7 D cy ad (AD ad) 0 0 (ZZ below args s D cy ad (AD ad) 0 0 (some (.int ρ.1)) ρ.2) μ [(0, .ref 62), (1, .int a1), (2, .int a2), (3, .int a3), (4, .int a4)] 5 [] := by
  intro n
  induction n with
  | zero =>
    intro a3 a4 μ h
    exact absurd h (fun h => by cases h)
  | succ n ih =>
    intro a3 a4 μ h
    replace h : f_X10_countOf_62_L5 a1 a2 (it3 (f_X10_countOf_62_L5 a1 a2) n) a3 a4 μ = some ρ := h
    unfold f_X10_countOf_62_L5 at h
    refine wa_iload C dX10_countOf_5 rfl ?_
    refine wa_iconst (v := 2) C dX10_countOf_7 (by decide) ?_
    refine wa_aload_n C dX10_countOf_8 rfl ?_
    refine wa_geti (x := (μ.1 62 2)) C fl_RX10_94 rfl rfl (by decide) rfl dX10_countOf_9 ?_
    refine wa_imul C dX10_countOf_12 ?_
    refine wa_icmp_ge (tgt := 102) C dX10_countOf_13 (by decide) (fun c1 => ?_) (fun c1 => ?_)
    · replace h := (if_pos c1).symm.trans h
      refine wa_iload_n C dX10_countOf_102 rfl ?_
      obtain rfl := Option.some.inj h
      exact wa_iret C dX10_countOf_103
    · replace h := (if_neg c1).symm.trans h
      refine wa_aload_n C dX10_countOf_16 rfl ?_
      refine wa_iload C dX10_countOf_17 rfl ?_
      obtain ⟨q2, hq2, h⟩ := bd h
      refine wa_callV C (r_X10_isHere_62 hq2) mk_X10_isHere mv_X10_isHere qw_655 rfl (by decide) rfl rfl ⟨Nat.le_of_ble_eq_true rfl, Nat.le_of_ble_eq_true rfl⟩ ⟨Nat.zero_le _, Nat.zero_le _⟩ (Nat.le_of_ble_eq_true rfl) dX10_countOf_19 rfl ?_
      refine wa_if_eq (tgt := 43) C dX10_countOf_22 (by decide) (fun c3 => ?_) (fun c3 => ?_)
      · replace h := (if_pos c3).symm.trans h
        exact WA.sub (lsub_c rfl (lsub_c rfl (lsub_c rfl (lsub_c rfl (lsub_c rfl lsub_n))))) (r_X10_countOf_62_J43 C _ (fun _ _ _ h => ih _ _ _ h) h)
      · replace h := (if_neg c3).symm.trans h
        refine wa_aload_n C dX10_countOf_25 rfl ?_
        refine wa_iload C dX10_countOf_26 rfl ?_
        obtain ⟨q9, hq9, h⟩ := bd h
        refine wa_callV C (r_X10_seenBy_62 hq9) mk_X10_seenBy mv_X10_seenBy qw_533 rfl (by decide) rfl rfl ⟨Nat.le_of_ble_eq_true rfl, Nat.le_of_ble_eq_true rfl⟩ ⟨Nat.zero_le _, Nat.zero_le _⟩ (Nat.le_of_ble_eq_true rfl) dX10_countOf_28 rfl ?_
        refine wa_iload_n C dX10_countOf_31 rfl ?_
        refine wa_ishr C dX10_countOf_32 ?_
        refine wa_iconst (v := 1) C dX10_countOf_33 (by decide) ?_
        refine wa_iand C dX10_countOf_34 ?_
        refine wa_iconst (v := 1) C dX10_countOf_35 (by decide) ?_
        refine wa_icmp_ne (tgt := 43) C dX10_countOf_36 (by decide) (fun c10 => ?_) (fun c10 => ?_)
        · replace h := (if_neg c10).symm.trans h
          exact WA.sub (lsub_c rfl (lsub_c rfl (lsub_c rfl (lsub_c rfl (lsub_c rfl lsub_n))))) (r_X10_countOf_62_J43 C _ (fun _ _ _ h => ih _ _ _ h) h)
        · replace h := (if_pos c10).symm.trans h
          refine wa_iconst (v := 1) C dX10_countOf_39 (by decide) ?_
          refine wa_goto (tgt := 44) C dX10_countOf_40 (by decide) ?_
          exact WA.sub (lsub_c rfl (lsub_c rfl (lsub_c rfl (lsub_c rfl (lsub_c rfl lsub_n))))) (r_X10_countOf_62_J44 C _ (fun _ _ _ h => ih _ _ _ h) h)
set_option maxRecDepth 100000 in
set_option maxHeartbeats 4000000 in
theorem r_X10_countOf_62 {a1 : Int32} {a2 : Int32} {μ : Mem} {ρ : (Int32 × Mem)} (h : f_X10_countOf_62 a1 a2 μ = some ρ) : HT 1 yX10_countOf cX10_countOf 7 (some .int) [.ref 62, .int a1, .int a2] μ (some (.int ρ.1)) ρ.2 := by
  refine HT.of (by decide +kernel) (Nat.le_of_ble_eq_true rfl) (fun C => ?_)
  unfold f_X10_countOf_62 at h
  refine wa_iconst (v := 0) C dX10_countOf_0 (by decide) ?_
  refine wa_istore_n C dX10_countOf_1 (by decide) ?_
  refine wa_iconst (v := 0) C dX10_countOf_2 (by decide) ?_
  refine wa_istore C dX10_countOf_3 (by decide) ?_
  exact WA.sub (lsub_c rfl (lsub_c rfl (lsub_c rfl (lsub_c rfl (lsub_c rfl lsub_n))))) (r_X10_countOf_62_L5 C _ _ _ _ _ _ h)
def f_X10_sees_62 (a1 : Int32) (a2 : Int32) (μ : Mem) : Option (Int32 × Mem) :=
  (f_X10_isSide a1 μ).bind fun q1 =>
  if q1.1 = 0 then
    some ((-1 : Int32), q1.2)
  else
    (f_X10_isWatch_62 a2 q1.2).bind fun q3 =>
    if q3.1 = 0 then
      some ((-1 : Int32), q3.2)
    else
      (f_X10_shutBy_62 a2 q3.2).bind fun q5 =>
      (f_X10_countOf_62 a1 q5.1 q5.2).bind fun q6 =>
      some (q6.1, q6.2)
set_option maxRecDepth 100000 in
set_option maxHeartbeats 4000000 in
theorem r_X10_sees_62 {a1 : Int32} {a2 : Int32} {μ : Mem} {ρ : (Int32 × Mem)} (h : f_X10_sees_62 a1 a2 μ = some ρ) : HT 2 yX10_sees cX10_sees 3 (some .int) [.ref 62, .int a1, .int a2] μ (some (.int ρ.1)) ρ.2 := by
  refine HT.of (by decide +kernel) (Nat.le_of_ble_eq_true rfl) (fun C => ?_)
  unfold f_X10_sees_62 at h
  refine wa_iload_n C dX10_sees_0 rfl ?_
  obtain ⟨q1, hq1, h⟩ := bd h
  refine wa_callS C (r_X10_isSide hq1) mk_X10_isSide ms_X10_isSide qw_554 rfl ⟨Nat.le_of_ble_eq_true rfl, Nat.le_of_ble_eq_true rfl⟩ ⟨Nat.zero_le _, Nat.zero_le _⟩ (Nat.le_of_ble_eq_true rfl) dX10_sees_1 rfl ?_
  refine wa_if_eq (tgt := 28) C dX10_sees_4 (by decide) (fun c2 => ?_) (fun c2 => ?_)
  · replace h := (if_pos c2).symm.trans h
    refine wa_iconst (v := -1) C dX10_sees_28 (by decide) ?_
    obtain rfl := Option.some.inj h
    exact wa_iret C dX10_sees_29
  · replace h := (if_neg c2).symm.trans h
    refine wa_aload_n C dX10_sees_7 rfl ?_
    refine wa_iload_n C dX10_sees_8 rfl ?_
    obtain ⟨q3, hq3, h⟩ := bd h
    refine wa_callV C (r_X10_isWatch_62 hq3) mk_X10_isWatch mv_X10_isWatch qw_588 rfl (by decide) rfl rfl ⟨Nat.le_of_ble_eq_true rfl, Nat.le_of_ble_eq_true rfl⟩ ⟨Nat.zero_le _, Nat.zero_le _⟩ (Nat.le_of_ble_eq_true rfl) dX10_sees_9 rfl ?_
    refine wa_if_eq (tgt := 28) C dX10_sees_12 (by decide) (fun c4 => ?_) (fun c4 => ?_)
    · replace h := (if_pos c4).symm.trans h
      refine wa_iconst (v := -1) C dX10_sees_28 (by decide) ?_
      obtain rfl := Option.some.inj h
      exact wa_iret C dX10_sees_29
    · replace h := (if_neg c4).symm.trans h
      refine wa_aload_n C dX10_sees_15 rfl ?_
      refine wa_iload_n C dX10_sees_16 rfl ?_
      refine wa_aload_n C dX10_sees_17 rfl ?_
      refine wa_iload_n C dX10_sees_18 rfl ?_
      obtain ⟨q5, hq5, h⟩ := bd h
      refine wa_callV C (r_X10_shutBy_62 hq5) mk_X10_shutBy mv_X10_shutBy qw_647 rfl (by decide) rfl rfl ⟨Nat.le_of_ble_eq_true rfl, Nat.le_of_ble_eq_true rfl⟩ ⟨Nat.zero_le _, Nat.zero_le _⟩ (Nat.le_of_ble_eq_true rfl) dX10_sees_19 rfl ?_
      obtain ⟨q6, hq6, h⟩ := bd h
      refine wa_callV C (r_X10_countOf_62 hq6) mk_X10_countOf mv_X10_countOf qw_651 rfl (by decide) rfl rfl ⟨Nat.le_of_ble_eq_true rfl, Nat.le_of_ble_eq_true rfl⟩ ⟨Nat.zero_le _, Nat.zero_le _⟩ (Nat.le_of_ble_eq_true rfl) dX10_sees_22 rfl ?_
      refine wa_goto (tgt := 29) C dX10_sees_25 (by decide) ?_
      obtain rfl := Option.some.inj h
      exact wa_iret C dX10_sees_29
def f_X7_lacking_47_7_J48 (k6 : Int32 → Int32 → Mem → Option (Int32 × Mem)) (a2 : Int32) (a3 : Int32) (a4 : Int32) (a5 : Int32) (μ : Mem) : Option (Int32 × Mem) :=
  k6 a4 (a5 + 1) μ
def f_X7_lacking_47_7_L6 (a2 : Int32) (a3 : Int32) (k6 : Int32 → Int32 → Mem → Option (Int32 × Mem)) (a4 : Int32) (a5 : Int32) (μ : Mem) : Option (Int32 × Mem) :=
    if (4 : Int32) ≤ a5 then
      some (a4, μ)
    else
      if inb a5 4 = false then none else
      (f_X7_countOf_47 a5 a3 μ).bind fun q3 =>
      if ((2 : Int32) * ((μ.1 7 (a5.toNatClampNeg)) + ((a2 >>> (a5 &&& 31)) &&& (1 : Int32)))) ≤ q3.1 then
        f_X7_lacking_47_7_J48 k6 a2 a3 a4 a5 q3.2
      else
        f_X7_lacking_47_7_J48 k6 a2 a3 (a4 ||| ((1 : Int32) <<< (a5 &&& 31))) a5 q3.2
def f_X7_lacking_47_7 (a2 : Int32) (a3 : Int32) (μ : Mem) : Option (Int32 × Mem) :=
  it3 (f_X7_lacking_47_7_L6 a2 a3) FU (0 : Int32) (0 : Int32) μ
set_option maxRecDepth 100000 in
set_option maxHeartbeats 4000000 in
theorem r_X7_lacking_47_7_J48 {p : Program} {l : Launch} {e : Env} {s : State} {m : MethodId} {args : Array Value} {below : List Frame} {meth : Method} {c : Code} {D : va_G} {cy : Nat → ClassId} {ad : Nat → Nat} (C : CX p s m args meth c cX7_lacking 7 RX7 (some .int) D cy ad (AD ad)) {a2 : Int32} {a3 : Int32} {a4 : Int32} {a5 : Int32} {μ : Mem} {ρ : (Int32 × Mem)} (k6 : Int32 → Int32 → Mem → Option (Int32 × Mem)) (hk6 : ∀ (a4 : Int32) (a5 : Int32) (μ : Mem), k6 a4 a5 μ = some ρ → WA p l e (rmD 1) s m args below meth c 7 D cy ad (AD ad) 0 0 (ZZ below args s D cy ad (AD ad) 0 0 (some (.int ρ.1)) ρ.2) μ [(0, .ref 47), (1, .ref 7), (2, .int a2), (3, .int a3), (4, .int a4), (5, .int a5)] 6 []) (h : f_X7_lacking_47_7_J48 k6 a2 a3 a4 a5 μ = some ρ) : WA p l e (rmD 1) s m args below meth c 7 D cy ad (AD ad) 0 0 (ZZ below args s D cy ad (AD ad) 0 0 (some (.int ρ.1)) ρ.2) μ [(0, .ref 47), (1, .ref 7), (2, .int a2), (3, .int a3), (4, .int a4), (5, .int a5)] 48 [] := by
  unfold f_X7_lacking_47_7_J48 at h
  refine wa_iinc (v := (a5 + 1)) C dX7_lacking_48 rfl rfl (by decide) ?_
  refine wa_goto (tgt := 6) C dX7_lacking_51 (by decide) ?_
  exact WA.sub (lsub_c rfl (lsub_c rfl (lsub_c rfl (lsub_c rfl (lsub_c rfl (lsub_c rfl lsub_n)))))) (hk6 _ _ _ h)
set_option maxRecDepth 100000 in
set_option maxHeartbeats 4000000 in
theorem r_X7_lacking_47_7_L6 {p : Program} {l : Launch} {e : Env} {s : State} {m : MethodId} {args : Array Value} {below : List Frame} {meth : Method} {c : Code} {D : va_G} {cy : Nat → ClassId} {ad : Nat → Nat} (C : CX p s m args meth c cX7_lacking 7 RX7 (some .int) D cy ad (AD ad)) (a2 : Int32) (a3 : Int32) {ρ : (Int32 × Mem)} : ∀ (n : Nat) (a4 : Int32) (a5 : Int32) (μ : Mem), it3 (f_X7_lacking_47_7_L6 a2 a3) n a4 a5 μ = some ρ → WA p l e (rmD 1) s m args below meth c 7 D cy ad (AD ad) 0 0 (ZZ below args s D cy ad (AD ad) 0 0 (some (.int ρ.1)) ρ.2) μ [(0, .ref 47), (1, .ref 7), (2, .int a2), (3, .int a3), (4, .int a4), (5, .int a5)] 6 [] := by
  intro n
  induction n with
  | zero =>
    intro a4 a5 μ h
    exact absurd h (fun h => by cases h)
  | succ n ih =>
    intro a4 a5 μ h
    replace h : f_X7_lacking_47_7_L6 a2 a3 (it3 (f_X7_lacking_47_7_L6 a2 a3) n) a4 a5 μ = some ρ := h
    unfold f_X7_lacking_47_7_L6 at h
    refine wa_iload C dX7_lacking_6 rfl ?_
    refine wa_iconst (v := 4) C dX7_lacking_8 (by decide) ?_
    refine wa_icmp_ge (tgt := 54) C dX7_lacking_9 (by decide) (fun c1 => ?_) (fun c1 => ?_)
    · replace h := (if_pos c1).symm.trans h
      refine wa_iload C dX7_lacking_54 rfl ?_
      obtain rfl := Option.some.inj h
      exact wa_iret C dX7_lacking_56
    · replace h := (if_neg c1).symm.trans h
      refine wa_aload_n C dX7_lacking_12 rfl ?_
      refine wa_iload C dX7_lacking_13 rfl ?_
      obtain ⟨g2, h⟩ := gd h
      refine wa_iald (j := (a5.toNatClampNeg)) (x := (μ.1 7 (a5.toNatClampNeg))) C rfl (by decide) g2 rfl rfl dX7_lacking_15 ?_
      refine wa_iload_n C dX7_lacking_16 rfl ?_
      refine wa_iload C dX7_lacking_17 rfl ?_
      refine wa_ishr C dX7_lacking_19 ?_
      refine wa_iconst (v := 1) C dX7_lacking_20 (by decide) ?_
      refine wa_iand C dX7_lacking_21 ?_
      refine wa_iadd C dX7_lacking_22 ?_
      refine wa_istore C dX7_lacking_23 (by decide) ?_
      refine wa_aload_n C dX7_lacking_25 rfl ?_
      refine wa_iload C dX7_lacking_26 rfl ?_
      refine wa_iload_n C dX7_lacking_28 rfl ?_
      obtain ⟨q3, hq3, h⟩ := bd h
      refine wa_callV C (r_X7_countOf_47 hq3) mk_X7_countOf mv_X7_countOf qw_675 rfl (by decide) rfl rfl ⟨Nat.le_of_ble_eq_true rfl, Nat.le_of_ble_eq_true rfl⟩ ⟨Nat.zero_le _, Nat.zero_le _⟩ (Nat.le_of_ble_eq_true rfl) dX7_lacking_29 rfl ?_
      refine wa_iconst (v := 2) C dX7_lacking_32 (by decide) ?_
      refine wa_iload C dX7_lacking_33 rfl ?_
      refine wa_imul C dX7_lacking_35 ?_
      refine wa_icmp_ge (tgt := 48) C dX7_lacking_36 (by decide) (fun c4 => ?_) (fun c4 => ?_)
      · replace h := (if_pos c4).symm.trans h
        exact WA.sub (lsub_c rfl (lsub_c rfl (lsub_c rfl (lsub_c rfl (lsub_c rfl (lsub_c rfl lsub_n)))))) (r_X7_lacking_47_7_J48 C _ (fun _ _ _ h => ih _ _ _ h) h)
      · replace h := (if_neg c4).symm.trans h
        refine wa_iload C dX7_lacking_39 rfl ?_
        refine wa_iconst (v := 1) C dX7_lacking_41 (by decide) ?_
        refine wa_iload C dX7_lacking_42 rfl ?_
        refine wa_ishl C dX7_lacking_44 ?_
        refine wa_ior C dX7_lacking_45 ?_
        refine wa_istore C dX7_lacking_46 (by decide) ?_
        exact WA.sub (lsub_c rfl (lsub_c rfl (lsub_c rfl (lsub_c rfl (lsub_c rfl (lsub_c rfl lsub_n)))))) (r_X7_lacking_47_7_J48 C _ (fun _ _ _ h => ih _ _ _ h) h)
set_option maxRecDepth 100000 in
set_option maxHeartbeats 4000000 in
theorem r_X7_lacking_47_7 {a2 : Int32} {a3 : Int32} {μ : Mem} {ρ : (Int32 × Mem)} (h : f_X7_lacking_47_7 a2 a3 μ = some ρ) : HT 1 yX7_lacking cX7_lacking 7 (some .int) [.ref 47, .ref 7, .int a2, .int a3] μ (some (.int ρ.1)) ρ.2 := by
  refine HT.of (by decide +kernel) (Nat.le_of_ble_eq_true rfl) (fun C => ?_)
  unfold f_X7_lacking_47_7 at h
  refine wa_iconst (v := 0) C dX7_lacking_0 (by decide) ?_
  refine wa_istore C dX7_lacking_1 (by decide) ?_
  refine wa_iconst (v := 0) C dX7_lacking_3 (by decide) ?_
  refine wa_istore C dX7_lacking_4 (by decide) ?_
  exact WA.sub (lsub_c rfl (lsub_c rfl (lsub_c rfl (lsub_c rfl (lsub_c rfl (lsub_c rfl lsub_n)))))) (r_X7_lacking_47_7_L6 C _ _ _ _ _ _ h)
def f_X9_isLawful_0 (a1 : Int32) (a2 : Int32) (μ : Mem) : Option (Int32 × Mem) :=
  if inb a1 6 = false then none else
  (f_X7_openBy_47 a2 μ).bind fun q2 =>
  (f_X7_lacking_47_7 (μ.1 8 (a1.toNatClampNeg)) q2.1 q2.2).bind fun q3 =>
  if q3.1 = 0 then
    some ((1 : Int32), q3.2)
  else
    some ((0 : Int32), q3.2)
set_option maxRecDepth 100000 in
set_option maxHeartbeats 4000000 in
theorem r_X9_isLawful_0 {a1 : Int32} {a2 : Int32} {μ : Mem} {ρ : (Int32 × Mem)} (h : f_X9_isLawful_0 a1 a2 μ = some ρ) : HT 2 yX9_isLawful cX9_isLawful 3 (some .boolean) [.ref 0, .int a1, .int a2] μ (some (.int ρ.1)) ρ.2 := by
  refine HT.of (by decide +kernel) (Nat.le_of_ble_eq_true rfl) (fun C => ?_)
  unfold f_X9_isLawful_0 at h
  refine wa_aload_n C dX9_isLawful_0 rfl ?_
  refine wa_getr C fl_RX9_44 rfl rfl (by decide) dX9_isLawful_1 ?_
  refine wa_aload_n C dX9_isLawful_4 rfl ?_
  refine wa_getr C fl_RX9_19 rfl rfl (by decide) dX9_isLawful_5 ?_
  refine wa_getr C fl_RX9_151 rfl rfl (by decide) dX9_isLawful_8 ?_
  refine wa_aload_n C dX9_isLawful_11 rfl ?_
  refine wa_getr C fl_RX9_19 rfl rfl (by decide) dX9_isLawful_12 ?_
  refine wa_getr C fl_RX9_154 rfl rfl (by decide) dX9_isLawful_15 ?_
  refine wa_iload_n C dX9_isLawful_18 rfl ?_
  obtain ⟨g1, h⟩ := gd h
  refine wa_iald (j := (a1.toNatClampNeg)) (x := (μ.1 8 (a1.toNatClampNeg))) C rfl (by decide) g1 rfl rfl dX9_isLawful_19 ?_
  refine wa_aload_n C dX9_isLawful_20 rfl ?_
  refine wa_getr C fl_RX9_44 rfl rfl (by decide) dX9_isLawful_21 ?_
  refine wa_iload_n C dX9_isLawful_24 rfl ?_
  obtain ⟨q2, hq2, h⟩ := bd h
  refine wa_callV C (r_X7_openBy_47 hq2) mk_X7_openBy mv_X7_openBy qw_635 rfl (by decide) rfl rfl ⟨Nat.le_of_ble_eq_true rfl, Nat.le_of_ble_eq_true rfl⟩ ⟨Nat.zero_le _, Nat.zero_le _⟩ (Nat.le_of_ble_eq_true rfl) dX9_isLawful_25 rfl ?_
  obtain ⟨q3, hq3, h⟩ := bd h
  refine wa_callV C (r_X7_lacking_47_7 hq3) mk_X7_lacking mv_X7_lacking qw_671 rfl (by decide) rfl rfl ⟨Nat.le_of_ble_eq_true rfl, Nat.le_of_ble_eq_true rfl⟩ ⟨Nat.zero_le _, Nat.zero_le _⟩ (Nat.le_of_ble_eq_true rfl) dX9_isLawful_28 rfl ?_
  refine wa_if_ne (tgt := 38) C dX9_isLawful_31 (by decide) (fun c4 => ?_) (fun c4 => ?_)
  · replace h := (if_neg c4).symm.trans h
    refine wa_iconst (v := 0) C dX9_isLawful_38 (by decide) ?_
    obtain rfl := Option.some.inj h
    exact wa_zret C rfl dX9_isLawful_39
  · replace h := (if_pos c4).symm.trans h
    refine wa_iconst (v := 1) C dX9_isLawful_34 (by decide) ?_
    refine wa_goto (tgt := 39) C dX9_isLawful_35 (by decide) ?_
    obtain rfl := Option.some.inj h
    exact wa_zret C rfl dX9_isLawful_39
def f_X9_lawful_0 (a1 : Int32) (a2 : Int32) (μ : Mem) : Option (Int32 × Mem) :=
  (f_X9_canTell_0 a1 a2 μ).bind fun q1 =>
  if q1.1 = 0 then
    some ((-1 : Int32), q1.2)
  else
    (f_X9_look_0 q1.2).bind fun q3 =>
    (f_X9_isLawful_0 a1 a2 q3).bind fun q4 =>
    if q4.1 = 0 then
      some ((0 : Int32), q4.2)
    else
      some ((1 : Int32), q4.2)
set_option maxRecDepth 100000 in
set_option maxHeartbeats 4000000 in
theorem r_X9_lawful_0 {a1 : Int32} {a2 : Int32} {μ : Mem} {ρ : (Int32 × Mem)} (h : f_X9_lawful_0 a1 a2 μ = some ρ) : HT 3 yX9_lawful cX9_lawful 3 (some .int) [.ref 0, .int a1, .int a2] μ (some (.int ρ.1)) ρ.2 := by
  refine HT.of (by decide +kernel) (Nat.le_of_ble_eq_true rfl) (fun C => ?_)
  unfold f_X9_lawful_0 at h
  refine wa_aload_n C dX9_lawful_0 rfl ?_
  refine wa_iload_n C dX9_lawful_1 rfl ?_
  refine wa_iload_n C dX9_lawful_2 rfl ?_
  obtain ⟨q1, hq1, h⟩ := bd h
  refine wa_callV C (r_X9_canTell_0 hq1) mk_X9_canTell mv_X9_canTell qw_579 rfl (by decide) rfl rfl ⟨Nat.le_of_ble_eq_true rfl, Nat.le_of_ble_eq_true rfl⟩ ⟨Nat.zero_le _, Nat.zero_le _⟩ (Nat.le_of_ble_eq_true rfl) dX9_lawful_3 rfl ?_
  refine wa_if_ne (tgt := 11) C dX9_lawful_6 (by decide) (fun c2 => ?_) (fun c2 => ?_)
  · replace h := (if_neg c2).symm.trans h
    refine wa_aload_n C dX9_lawful_11 rfl ?_
    obtain ⟨q3, hq3, h⟩ := bd h
    refine wa_callV C (r_X9_look_0 hq3) mk_X9_look mv_X9_look qw_508 rfl (by decide) rfl rfl ⟨Nat.le_of_ble_eq_true rfl, Nat.le_of_ble_eq_true rfl⟩ ⟨Nat.zero_le _, Nat.zero_le _⟩ (Nat.le_of_ble_eq_true rfl) dX9_lawful_12 rfl ?_
    refine wa_pop C dX9_lawful_15 rfl ?_
    refine wa_aload_n C dX9_lawful_16 rfl ?_
    refine wa_iload_n C dX9_lawful_17 rfl ?_
    refine wa_iload_n C dX9_lawful_18 rfl ?_
    obtain ⟨q4, hq4, h⟩ := bd h
    refine wa_callV C (r_X9_isLawful_0 hq4) mk_X9_isLawful mv_X9_isLawful qw_667 rfl (by decide) rfl rfl ⟨Nat.le_of_ble_eq_true rfl, Nat.le_of_ble_eq_true rfl⟩ ⟨Nat.zero_le _, Nat.zero_le _⟩ (Nat.le_of_ble_eq_true rfl) dX9_lawful_19 rfl ?_
    refine wa_if_eq (tgt := 29) C dX9_lawful_22 (by decide) (fun c5 => ?_) (fun c5 => ?_)
    · replace h := (if_pos c5).symm.trans h
      refine wa_iconst (v := 0) C dX9_lawful_29 (by decide) ?_
      obtain rfl := Option.some.inj h
      exact wa_iret C dX9_lawful_30
    · replace h := (if_neg c5).symm.trans h
      refine wa_iconst (v := 1) C dX9_lawful_25 (by decide) ?_
      refine wa_goto (tgt := 30) C dX9_lawful_26 (by decide) ?_
      obtain rfl := Option.some.inj h
      exact wa_iret C dX9_lawful_30
  · replace h := (if_pos c2).symm.trans h
    refine wa_iconst (v := -1) C dX9_lawful_9 (by decide) ?_
    obtain rfl := Option.some.inj h
    exact wa_iret C dX9_lawful_10
def f_X10_missedBy_62_J36 (k5 : Int32 → Int32 → Mem → Option (Int32 × Mem)) (a1 : Int32) (a2 : Int32) (a4 : Int32) (t0 : Int32) (t1 : Int32) (μ : Mem) : Option (Int32 × Mem) :=
  (f_X10_flag t1 μ).bind fun q5 =>
  k5 (t0 ||| (q5.1 <<< (a4 &&& 31))) (a4 + 1) q5.2
def f_X10_missedBy_62_L5 (a1 : Int32) (a2 : Int32) (k5 : Int32 → Int32 → Mem → Option (Int32 × Mem)) (a3 : Int32) (a4 : Int32) (μ : Mem) : Option (Int32 × Mem) :=
    if (4 : Int32) ≤ a4 then
      some (a3, μ)
    else
      (f_X10_countOf_62 a4 a2 μ).bind fun q2 =>
      (f_X10_neededAt_62 a4 a1 q2.2).bind fun q3 =>
      if ((2 : Int32) * q3.1) ≤ q2.1 then
        f_X10_missedBy_62_J36 k5 a1 a2 a4 a3 (0 : Int32) q3.2
      else
        f_X10_missedBy_62_J36 k5 a1 a2 a4 a3 (1 : Int32) q3.2
def f_X10_missedBy_62 (a1 : Int32) (a2 : Int32) (μ : Mem) : Option (Int32 × Mem) :=
  it3 (f_X10_missedBy_62_L5 a1 a2) FU (0 : Int32) (0 : Int32) μ
set_option maxRecDepth 100000 in
set_option maxHeartbeats 4000000 in
theorem r_X10_missedBy_62_J36 {p : Program} {l : Launch} {e : Env} {s : State} {m : MethodId} {args : Array Value} {below : List Frame} {meth : Method} {c : Code} {D : va_G} {cy : Nat → ClassId} {ad : Nat → Nat} (C : CX p s m args meth c cX10_missedBy 5 RX10 (some .int) D cy ad (AD ad)) {a1 : Int32} {a2 : Int32} {a4 : Int32} {t0 : Int32} {t1 : Int32} {μ : Mem} {ρ : (Int32 × Mem)} (k5 : Int32 → Int32 → Mem → Option (Int32 × Mem)) (hk5 : ∀ (a3 : Int32) (a4 : Int32) (μ : Mem), k5 a3 a4 μ = some ρ → WA p l e (rmD 2) s m args below meth c 5 D cy ad (AD ad) 0 0 (ZZ below args s D cy ad (AD ad) 0 0 (some (.int ρ.1)) ρ.2) μ [(0, .ref 62), (1, .int a1), (2, .int a2), (3, .int a3), (4, .int a4)] 5 []) (h : f_X10_missedBy_62_J36 k5 a1 a2 a4 t0 t1 μ = some ρ) : WA p l e (rmD 2) s m args below meth c 5 D cy ad (AD ad) 0 0 (ZZ below args s D cy ad (AD ad) 0 0 (some (.int ρ.1)) ρ.2) μ [(0, .ref 62), (1, .int a1), (2, .int a2), (4, .int a4)] 36 [.int t1, .int t0] := by
  unfold f_X10_missedBy_62_J36 at h
  obtain ⟨q5, hq5, h⟩ := bd h
  refine wa_callS C (r_X10_flag hq5) mk_X10_flag ms_X10_flag qw_660 rfl ⟨Nat.le_of_ble_eq_true rfl, Nat.le_of_ble_eq_true rfl⟩ ⟨Nat.zero_le _, Nat.zero_le _⟩ (Nat.le_of_ble_eq_true rfl) dX10_missedBy_36 rfl ?_
  refine wa_iload C dX10_missedBy_39 rfl ?_
  refine wa_ishl C dX10_missedBy_41 ?_
  refine wa_ior C dX10_missedBy_42 ?_
  refine wa_istore_n C dX10_missedBy_43 (by decide) ?_
  refine wa_iinc (v := (a4 + 1)) C dX10_missedBy_44 rfl rfl (by decide) ?_
  refine wa_goto (tgt := 5) C dX10_missedBy_47 (by decide) ?_
  exact WA.sub (lsub_c rfl (lsub_c rfl (lsub_c rfl (lsub_c rfl (lsub_c rfl lsub_n))))) (hk5 _ _ _ h)
set_option maxRecDepth 100000 in
set_option maxHeartbeats 4000000 in
theorem r_X10_missedBy_62_L5 {p : Program} {l : Launch} {e : Env} {s : State} {m : MethodId} {args : Array Value} {below : List Frame} {meth : Method} {c : Code} {D : va_G} {cy : Nat → ClassId} {ad : Nat → Nat} (C : CX p s m args meth c cX10_missedBy 5 RX10 (some .int) D cy ad (AD ad)) (a1 : Int32) (a2 : Int32) {ρ : (Int32 × Mem)} : ∀ (n : Nat) (a3 : Int32) (a4 : Int32) (μ : Mem), it3 (f_X10_missedBy_62_L5 a1 a2) n a3 a4 μ = some ρ → WA p l e (rmD 2) s m args below meth c 5 D cy ad (AD ad) 0 0 (ZZ below args s D cy ad (AD ad) 0 0 (some (.int ρ.1)) ρ.2) μ [(0, .ref 62), (1, .int a1), (2, .int a2), (3, .int a3), (4, .int a4)] 5 [] := by
  intro n
  induction n with
  | zero =>
    intro a3 a4 μ h
    exact absurd h (fun h => by cases h)
  | succ n ih =>
    intro a3 a4 μ h
    replace h : f_X10_missedBy_62_L5 a1 a2 (it3 (f_X10_missedBy_62_L5 a1 a2) n) a3 a4 μ = some ρ := h
    unfold f_X10_missedBy_62_L5 at h
    refine wa_iload C dX10_missedBy_5 rfl ?_
    refine wa_iconst (v := 4) C dX10_missedBy_7 (by decide) ?_
    refine wa_icmp_ge (tgt := 50) C dX10_missedBy_8 (by decide) (fun c1 => ?_) (fun c1 => ?_)
    · replace h := (if_pos c1).symm.trans h
      refine wa_iload_n C dX10_missedBy_50 rfl ?_
      obtain rfl := Option.some.inj h
      exact wa_iret C dX10_missedBy_51
    · replace h := (if_neg c1).symm.trans h
      refine wa_iload_n C dX10_missedBy_11 rfl ?_
      refine wa_aload_n C dX10_missedBy_12 rfl ?_
      refine wa_iload C dX10_missedBy_13 rfl ?_
      refine wa_iload_n C dX10_missedBy_15 rfl ?_
      obtain ⟨q2, hq2, h⟩ := bd h
      refine wa_callV C (r_X10_countOf_62 hq2) mk_X10_countOf mv_X10_countOf qw_651 rfl (by decide) rfl rfl ⟨Nat.le_of_ble_eq_true rfl, Nat.le_of_ble_eq_true rfl⟩ ⟨Nat.zero_le _, Nat.zero_le _⟩ (Nat.le_of_ble_eq_true rfl) dX10_missedBy_16 rfl ?_
      refine wa_iconst (v := 2) C dX10_missedBy_19 (by decide) ?_
      refine wa_aload_n C dX10_missedBy_20 rfl ?_
      refine wa_iload C dX10_missedBy_21 rfl ?_
      refine wa_iload_n C dX10_missedBy_23 rfl ?_
      obtain ⟨q3, hq3, h⟩ := bd h
      refine wa_callV C (r_X10_neededAt_62 hq3) mk_X10_neededAt mv_X10_neededAt qw_562 rfl (by decide) rfl rfl ⟨Nat.le_of_ble_eq_true rfl, Nat.le_of_ble_eq_true rfl⟩ ⟨Nat.zero_le _, Nat.zero_le _⟩ (Nat.le_of_ble_eq_true rfl) dX10_missedBy_24 rfl ?_
      refine wa_imul C dX10_missedBy_27 ?_
      refine wa_icmp_ge (tgt := 35) C dX10_missedBy_28 (by decide) (fun c4 => ?_) (fun c4 => ?_)
      · replace h := (if_pos c4).symm.trans h
        refine wa_iconst (v := 0) C dX10_missedBy_35 (by decide) ?_
        exact WA.sub (lsub_c rfl (lsub_c rfl (lsub_c rfl (lsub_c rfl lsub_n)))) (r_X10_missedBy_62_J36 C _ (fun _ _ _ h => ih _ _ _ h) h)
      · replace h := (if_neg c4).symm.trans h
        refine wa_iconst (v := 1) C dX10_missedBy_31 (by decide) ?_
        refine wa_goto (tgt := 36) C dX10_missedBy_32 (by decide) ?_
        exact WA.sub (lsub_c rfl (lsub_c rfl (lsub_c rfl (lsub_c rfl lsub_n)))) (r_X10_missedBy_62_J36 C _ (fun _ _ _ h => ih _ _ _ h) h)
set_option maxRecDepth 100000 in
set_option maxHeartbeats 4000000 in
theorem r_X10_missedBy_62 {a1 : Int32} {a2 : Int32} {μ : Mem} {ρ : (Int32 × Mem)} (h : f_X10_missedBy_62 a1 a2 μ = some ρ) : HT 2 yX10_missedBy cX10_missedBy 5 (some .int) [.ref 62, .int a1, .int a2] μ (some (.int ρ.1)) ρ.2 := by
  refine HT.of (by decide +kernel) (Nat.le_of_ble_eq_true rfl) (fun C => ?_)
  unfold f_X10_missedBy_62 at h
  refine wa_iconst (v := 0) C dX10_missedBy_0 (by decide) ?_
  refine wa_istore_n C dX10_missedBy_1 (by decide) ?_
  refine wa_iconst (v := 0) C dX10_missedBy_2 (by decide) ?_
  refine wa_istore C dX10_missedBy_3 (by decide) ?_
  exact WA.sub (lsub_c rfl (lsub_c rfl (lsub_c rfl (lsub_c rfl (lsub_c rfl lsub_n))))) (r_X10_missedBy_62_L5 C _ _ _ _ _ _ h)
