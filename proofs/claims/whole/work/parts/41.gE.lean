def popN (v : Nat) : Nat := v % 2 + v / 2 % 2 + v / 4 % 2 + v / 8 % 2 + v / 16 % 2 + v / 32 % 2
def bcE (a : Int32) : Int32 := match f_J6_bitCount_0f7a4 a (fun _ _ => 0, fun _ _ => 0) with | some q => q.1 | none => 0
theorem bcE_pop : ∀ v, v < 64 → bcE (nI v) = nI (popN v) := by decide +kernel
theorem p_bitCount {v : Nat} (hv : v < 64) (μ : Mem) : f_J6_bitCount_0f7a4 (nI v) μ = some (nI (popN v), μ) := by
  rw [← bcE_pop v hv]
  rfl
def bsF (a : Int32) : Nat → Int32
  | 0 => 0
  | k + 1 => bsF a k + ((a >>> (nI k &&& 31)) &&& 1)
theorem bsF_pop : ∀ v, v < 64 → bsF (nI v) 6 = nI (popN v) := by decide +kernel
theorem m_bitsOf {v : Nat} (hv : v < 64) (μ : Mem) : f_X10_bitsOf (nI v) μ = some (nI (popN v), μ) := by
  rw [← bsF_pop v hv]
  unfold f_X10_bitsOf
  refine for_acc nI 6 (bsF (nI v)) _ (fun k i hi => ?_) (fun k => ?_) FU 0 (by omega) (fu_gt (by omega))
  · unfold f_X10_bitsOf_L4
    rw [if_neg (show ¬ (6 : Int32) ≤ nI i from nI_ge (b := 6) hi (by omega)), al1]
    rfl
  · unfold f_X10_bitsOf_L4
    rw [if_pos (show (6 : Int32) ≤ nI 6 from by decide)]
theorem popN_le (v : Nat) : popN v ≤ 6 := by unfold popN; omega
def stS (μ : Mem) : Nat → Nat
  | 0 => 0
  | k + 1 => stS μ k + popN ((μ.1 8 k).toNatClampNeg)
theorem stS_le (μ : Mem) : ∀ k, stS μ k ≤ 6 * k
  | 0 => Nat.le_refl _
  | k + 1 => by
    have h1 := stS_le μ k
    have h2 := popN_le ((μ.1 8 k).toNatClampNeg)
    unfold stS
    omega
theorem p_storms {n Q : Nat} {μ : Mem} (hP : PostR n Q μ 4 0) : f_X4_storms_4 μ = some (nI (stS μ 6), μ) := by
  unfold f_X4_storms_4
  have := for_acc3 (body := f_X4_storms_4_L4) nI 6 (fun i a ν => ν = μ ∧ a = nI (stS μ i)) (fun r => r = (nI (stS μ 6), μ)) (fun k i a ν hi hQ => ?_) (fun k a ν hQ => ?_) FU 0 0 μ (by omega) (fu_gt (by omega)) ⟨rfl, rfl⟩
  · obtain ⟨r, h1, rfl⟩ := this
    exact h1
  · obtain ⟨rfl, rfl⟩ := hQ
    obtain ⟨v, hv, g1, -, -⟩ := hP.2.2.2.1 i hi
    have g1 : ν.1 8 i = nI v := g1
    unfold f_X4_storms_4_L4
    rw [if_neg (show ¬ (6 : Int32) ≤ nI i from nI_ge (b := 6) hi (by omega)), inb_nI (by omega) (by omega), nI_clamp (by omega), g1, p_bitCount (by omega)]
    simp only [Bool.true_eq_false, if_false, Option.bind_some, al1]
    refine ⟨nI (stS ν i) + nI (popN v), ν, rfl, rfl, ?_⟩
    show nI (stS ν i) + nI (popN v) = nI (stS ν (i + 1))
    rw [nI_add]
    show nI (stS ν i + popN v) = nI (stS ν i + popN ((ν.1 8 i).toNatClampNeg))
    rw [g1, nI_clamp (by omega)]
  · obtain ⟨rfl, rfl⟩ := hQ
    unfold f_X4_storms_4_L4
    rw [if_pos (show (6 : Int32) ≤ nI 6 from by decide)]
    exact ⟨_, rfl, rfl⟩
theorem stS_Q {n Q : Nat} {μ : Mem} (hQ : Q ≤ 6) (hP : PostR n Q μ 4 0) : ∀ k, Q ≤ k → k ≤ 6 → stS μ k = stS μ Q := by
  intro k
  induction k with
  | zero => intro h1 _; rw [show Q = 0 by omega]
  | succ k ih =>
    intro h1 h2
    by_cases hk : Q = k + 1
    · rw [hk]
    · obtain ⟨v, hv, g1, -, g3⟩ := hP.2.2.2.1 k (by omega)
      have g1 : μ.1 8 k = nI v := g1
      have hv0 := g3 (by omega)
      subst hv0
      show stS μ k + popN ((μ.1 8 k).toNatClampNeg) = stS μ Q
      rw [ih (by omega) (by omega), g1]
      rfl

set_option maxRecDepth 100000 in
theorem s_count (a0 : Int32) : PStp (f_X9_count_0 a0) (f_X10_count_62 a0) := by
  intro μ hI0
  obtain ⟨n, Q, hC⟩ := hI0
  have hC0 := hC
  obtain ⟨⟨hn, hQ1, hQ6, e10, e622, e624, e11, e623, hk, hs⟩, hP, hI, hS, hT, hR⟩ := hC
  have h27 := p3 hn
  obtain ⟨h, h8, t1, t2, -⟩ := hP.2.2.2.2.2
  have t2 : μ.1 63 29 = nI h := by simpa using t2
  have hT0 := hT
  obtain ⟨T, hT1, u1, u2, -⟩ := hT
  have hmod : ∀ r, f_X10_count_62_L4 a0 (fun _ _ _ => none) (nI (stS μ 6)) (nI Q) μ = some r → f_X10_count_62 a0 μ = some r := by
    intro r hr
    unfold f_X10_count_62
    have := for_acc3 (body := f_X10_count_62_L4 a0) nI Q (fun i a ν => ν = μ ∧ a = nI (stS μ i)) (fun x => x = r) (fun k i a ν hi hQ => ?_) (fun k a ν hQ => ?_) FU 0 0 μ (by omega) (fu_gt (by omega)) ⟨rfl, rfl⟩
    · obtain ⟨x, h1, rfl⟩ := this
      exact h1
    · obtain ⟨rfl, rfl⟩ := hQ
      obtain ⟨v, hv, g1, g2, -⟩ := hP.2.2.2.1 i (by omega)
      have g1 : ν.1 8 i = nI v := g1
      have g2 : ν.1 63 (13 + i) = nI v := by simpa using g2
      unfold f_X10_count_62_L4
      rw [e623, if_neg (nI_ge hi (by omega)), la13, inb_nI (by omega) (by omega), nI_clamp (by omega), g2, m_bitsOf (by omega)]
      simp only [Bool.true_eq_false, if_false, Option.bind_some, al1]
      refine ⟨nI (stS ν i) + nI (popN v), ν, rfl, rfl, ?_⟩
      show nI (stS ν i) + nI (popN v) = nI (stS ν (i + 1))
      rw [nI_add]
      show nI (stS ν i + popN v) = nI (stS ν i + popN ((ν.1 8 i).toNatClampNeg))
      rw [g1, nI_clamp (by omega)]
    · obtain ⟨rfl, rfl⟩ := hQ
      refine ⟨r, ?_, rfl⟩
      rw [← hr, ← stS_Q hQ6 hP 6 (by omega) (by omega)]
      unfold f_X10_count_62_L4
      rw [e623, if_pos (nI_le (Nat.le_refl _) (by omega)), if_pos (nI_le (Nat.le_refl _) (by omega))]
  by_cases h0 : a0 = 0
  · refine ⟨nI h, μ, μ, ?_, hmod _ ?_, n, Q, hC0⟩
    · unfold f_X9_count_0
      rw [if_pos h0]
      rw [t1]
    · unfold f_X10_count_62_L4
      rw [e623, if_pos (nI_le (Nat.le_refl _) (by omega)), if_pos h0]
      rw [t2]
  obtain ⟨a, b, i1, i2, i3, -, -⟩ := hI
  by_cases h1 : a0 = 1
  · refine ⟨nI (a.toNat + b.toNat), μ, μ, ?_, hmod _ ?_, n, Q, hC0⟩
    · unfold f_X9_count_0
      rw [if_neg h0, if_pos h1]
      rw [i1, p_bitCount (by cases a <;> cases b <;> decide)]
      cases a <;> cases b <;> rfl
    · unfold f_X10_count_62_L4
      rw [e623, if_pos (nI_le (Nat.le_refl _) (by omega)), if_neg h0, if_pos h1]
      rw [i2]
      have hfl : ∀ c : Bool, ∀ ν, f_X10_flag (b2i c) ν = some (b2i c, ν) := by intro c ν; cases c <;> rfl
      rw [hfl]
      simp only [Option.bind_some]
      rw [i3, hfl]
      cases a <;> cases b <;> rfl
  by_cases h2 : a0 = 2
  · refine ⟨nI T, μ, μ, ?_, hmod _ ?_, n, Q, hC0⟩
    · unfold f_X9_count_0
      rw [if_neg h0, if_neg h1, if_pos h2]
      rw [u1]
    · unfold f_X10_count_62_L4
      rw [e623, if_pos (nI_le (Nat.le_refl _) (by omega)), if_neg h0, if_neg h1, if_pos h2]
      rw [u2]
  by_cases h3 : a0 = 3
  · rcases hS 0 (by omega) with ⟨g1, g2⟩ | ⟨l, z, hl, hz, g3, g4, g5, g6, g7⟩
    · refine ⟨-4, μ, μ, ?_, hmod _ ?_, n, Q, hC0⟩
      · unfold f_X9_count_0
        rw [if_neg h0, if_neg h1, if_neg h2, if_pos h3, p_none_27 g1]
        simp only [Option.bind_some]
        rw [if_neg (show ¬ (1 : Int32) = 0 by decide)]
      · unfold f_X10_count_62_L4
        rw [e623, if_pos (nI_le (Nat.le_refl _) (by omega)), if_neg h0, if_neg h1, if_neg h2, if_pos h3, g2, if_pos rfl]
    · have hne : ¬ nI l = -4 := by rcases (show l = 0 ∨ l = 1 ∨ l = 2 by omega) with rfl | rfl | rfl <;> decide
      refine ⟨nI z, μ, μ, ?_, hmod _ ?_, n, Q, hC0⟩
      · unfold f_X9_count_0
        have e0 : f_X6_isNothing_27 μ = some (0, μ) := by
          unfold f_X6_isNothing_27
          rw [g5, if_pos (nI_pos' (by omega))]
        rw [if_neg h0, if_neg h1, if_neg h2, if_pos h3, e0]
        simp only [Option.bind_some, if_true]
        rw [g5]
      · unfold f_X10_count_62_L4
        rw [e623, if_pos (nI_le (Nat.le_refl _) (by omega)), if_neg h0, if_neg h1, if_neg h2, if_pos h3, g4, if_neg hne, g6]
  by_cases h4 : a0 = 4
  · refine ⟨nI (stS μ 6), μ, μ, ?_, hmod _ ?_, n, Q, hC0⟩
    · unfold f_X9_count_0
      rw [if_neg h0, if_neg h1, if_neg h2, if_neg h3, if_pos h4]
      rw [p_storms hP]
      rfl
    · unfold f_X10_count_62_L4
      rw [e623, if_pos (nI_le (Nat.le_refl _) (by omega)), if_neg h0, if_neg h1, if_neg h2, if_neg h3, if_pos h4]
      skip
  by_cases h5 : a0 = 5
  · refine ⟨nI (3 ^ n), μ, μ, ?_, hmod _ ?_, n, Q, hC0⟩
    · unfold f_X9_count_0
      rw [if_neg h0, if_neg h1, if_neg h2, if_neg h3, if_neg h4, if_pos h5]
      rw [p_watches e10 hn]
      rfl
    · unfold f_X10_count_62_L4
      rw [e623, if_pos (nI_le (Nat.le_refl _) (by omega)), if_neg h0, if_neg h1, if_neg h2, if_neg h3, if_neg h4, if_pos h5]
      rw [e624]
  refine ⟨-1, μ, μ, ?_, hmod _ ?_, n, Q, hC0⟩
  · unfold f_X9_count_0
    rw [if_neg h0, if_neg h1, if_neg h2, if_neg h3, if_neg h4, if_neg h5]
  · unfold f_X10_count_62_L4
    rw [e623, if_pos (nI_le (Nat.le_refl _) (by omega)), if_neg h0, if_neg h1, if_neg h2, if_neg h3, if_neg h4, if_neg h5]

theorem byte_eq (x : Int64) : ∃ c, c < 256 ∧ (x &&& (255 : Int64)).toInt32 = nI c ∧ x.toInt32.toInt8.toInt32.toInt8.toInt32 = (nI c).toInt8.toInt32 := by
  have h0 : (x &&& (255 : Int64)).toInt32.toBitVec = BitVec.ofNat 32 (x.toBitVec.toNat % 256) := by
    apply BitVec.eq_of_toNat_eq
    have h1 : (x &&& (255 : Int64)).toBitVec.toNat = x.toBitVec.toNat % 256 := by
      have : (x &&& (255 : Int64)).toBitVec = x.toBitVec &&& 255#64 := rfl
      rw [this, BitVec.toNat_and]
      exact Nat.and_two_pow_sub_one_eq_mod _ 8
    rw [Int64.toBitVec_toInt32, BitVec.signExtend_eq_setWidth_of_le _ (by decide), BitVec.toNat_setWidth, h1, BitVec.toNat_ofNat]
  refine ⟨x.toBitVec.toNat % 256, Nat.mod_lt _ (by decide), ?_, ?_⟩
  · apply Int32.toBitVec_inj.mp
    rw [h0]
    rfl
  · have h2 : x.toInt32.toInt8 = (nI (x.toBitVec.toNat % 256)).toInt8 := by
      apply Int8.toBitVec_inj.mp
      apply BitVec.eq_of_toNat_eq
      have h3 : (nI (x.toBitVec.toNat % 256)).toBitVec.toNat = x.toBitVec.toNat % 256 := pk_tn (by omega)
      rw [Int32.toBitVec_toInt8, Int32.toBitVec_toInt8, Int64.toBitVec_toInt32, BitVec.signExtend_eq_setWidth_of_le _ (by decide), BitVec.signExtend_eq_setWidth_of_le _ (by decide), BitVec.signExtend_eq_setWidth_of_le _ (by decide), BitVec.toNat_setWidth, BitVec.toNat_setWidth, BitVec.toNat_setWidth, h3]
      omega
    rw [h2, Int8.toInt8_toInt32]
theorem s_feed (v : Int64) : PStp (f_X9_feed_0 v) (f_X10_feed_62 v) := by
  intro μ hI0
  obtain ⟨n, Q, hC⟩ := hI0
  have hC0 := hC
  obtain ⟨⟨hn, hQ1, hQ6, e10, e622, e624, e11, e623, hk, hs⟩, hP, hI, hS, hT, hR⟩ := hC
  have h27 := p3 hn
  obtain ⟨T, hT1, u1, u2, u3⟩ := hT
  by_cases hc : T + 8 ≤ 320
  case neg =>
    have c1 : ¬ (nI T + 8 ≤ (320 : Int32)) := by
      rw [show nI T + (8 : Int32) = nI (T + 8) from nI_add T 8, show (320 : Int32) = nI 320 from rfl, nI_leI (by omega) (by omega)]
      exact hc
    refine ⟨-3, μ, μ, ?_, ?_, n, Q, hC0⟩
    · unfold f_X9_feed_0 f_X5_append_35
      rw [u1, if_neg c1]
      rfl
    · unfold f_X10_feed_62
      rw [u2, if_neg c1]
  have c1 : nI T + 8 ≤ (320 : Int32) := by
    rw [show nI T + (8 : Int32) = nI (T + 8) from nI_add T 8, show (320 : Int32) = nI 320 from rfl, nI_leI (by omega) (by omega)]
    exact hc
  let ix : Nat → Int32 := fun i => nI 56 - nI (8 * i)
  have ixs : ∀ i, i < 8 → ix i + (-8) = ix (i + 1) ∧ ¬ ix i < 0 := by decide
  have ixe : ix 8 < 0 := by decide
  let g : Nat → Int32 := fun i => ((v >>> ((ix i).toInt64 &&& 63)).toInt32.toInt8.toInt32).toInt8.toInt32
  let g2 : Nat → Int32 := fun i => ((v >>> ((ix i).toInt64 &&& 63)) &&& (255 : Int64)).toInt32
  have hclass : ∃ r : Int32 × Mem, it2 (f_X5_append_35_L19 v) FU (56 : Int32) μ = some r ∧ (r.1 = nI (T + 8) ∧ (∀ p k, ¬ (p = 36 ∧ T ≤ k ∧ k < T + 8) → ¬ (p = 35 ∧ k = 1) → r.2.1 p k = μ.1 p k) ∧ (∀ k, k < 8 → r.2.1 36 (T + k) = g k) ∧ r.2.1 35 1 = nI (T + 8)) := by
    refine for_rel ix 8 (fun i ν => (∀ p k, ¬ (p = 36 ∧ T ≤ k ∧ k < T + i) → ¬ (p = 35 ∧ k = 1) → ν.1 p k = μ.1 p k) ∧ (∀ k, k < i → ν.1 36 (T + k) = g k) ∧ ν.1 35 1 = nI (T + i)) _ (fun k i ν hi hQ => ?_) (fun k ν hQ => ?_) FU 0 μ (by omega) (fu_gt (by omega)) ⟨fun _ _ _ _ => rfl, fun _ h => by omega, u1⟩
    · obtain ⟨q1, q2, q3⟩ := hQ
      unfold f_X5_append_35_L19
      rw [if_neg (ixs i hi).2, q3, inb_nI (by omega) (by omega), nI_clamp (by omega), (ixs i hi).1, al1]
      refine ⟨_, rfl, fun p k b1 b2 => ?_, fun k hk => ?_, ?_⟩
      · by_cases hp : p = 35
        · subst hp
          rw [rd_i (by omega), rd_p (by omega)]
          exact q1 _ _ (by omega) b2
        · rw [rd_p hp]
          by_cases hp2 : p = 36
          · subst hp2
            rw [rd_i (by omega)]
            exact q1 _ _ (by omega) b2
          · rw [rd_p hp2]
            exact q1 _ _ (by omega) b2
      · rw [rd_p (by omega)]
        by_cases hki : k = i
        · subst hki
          exact rd_s
        · rw [rd_i (by omega)]
          exact q2 k (by omega)
      · exact rd_s
    · obtain ⟨q1, q2, q3⟩ := hQ
      unfold f_X5_append_35_L19
      rw [if_pos ixe]
      exact ⟨_, rfl, q3, q1, q2, q3⟩
  obtain ⟨r, hr, r1, r2, r3, r4⟩ := hclass
  have hmodel : ∃ r' : Int32 × Mem, it2 (f_X10_feed_62_L19 v) FU (56 : Int32) r.2 = some r' ∧ (r'.1 = nI (T + 8) ∧ (∀ p k, ¬ (p = 70 ∧ T ≤ k ∧ k < T + 8) → ¬ (p = 62 ∧ k = 19) → r'.2.1 p k = r.2.1 p k) ∧ (∀ k, k < 8 → r'.2.1 70 (T + k) = g2 k) ∧ r'.2.1 62 19 = nI (T + 8)) := by
    refine for_rel ix 8 (fun i ν => (∀ p k, ¬ (p = 70 ∧ T ≤ k ∧ k < T + i) → ¬ (p = 62 ∧ k = 19) → ν.1 p k = r.2.1 p k) ∧ (∀ k, k < i → ν.1 70 (T + k) = g2 k) ∧ ν.1 62 19 = nI (T + i)) _ (fun k i ν hi hQ => ?_) (fun k ν hQ => ?_) FU 0 r.2 (by omega) (fu_gt (by omega)) ⟨fun _ _ _ _ => rfl, fun _ h => by omega, by rw [r2 _ _ (by omega) (by omega)]; exact u2⟩
    · obtain ⟨q1, q2, q3⟩ := hQ
      unfold f_X10_feed_62_L19
      rw [if_neg (ixs i hi).2, q3, inb_nI (by omega) (by omega), nI_clamp (by omega), (ixs i hi).1, al1]
      refine ⟨_, rfl, fun p k b1 b2 => ?_, fun k hk => ?_, ?_⟩
      · by_cases hp : p = 62
        · subst hp
          rw [rd_i (by omega), rd_p (by omega)]
          exact q1 _ _ (by omega) b2
        · rw [rd_p hp]
          by_cases hp2 : p = 70
          · subst hp2
            rw [rd_i (by omega)]
            exact q1 _ _ (by omega) b2
          · rw [rd_p hp2]
            exact q1 _ _ (by omega) b2
      · rw [rd_p (by omega)]
        by_cases hki : k = i
        · subst hki
          exact rd_s
        · rw [rd_i (by omega)]
          exact q2 k (by omega)
      · exact rd_s
    · obtain ⟨q1, q2, q3⟩ := hQ
      unfold f_X10_feed_62_L19
      rw [if_pos ixe]
      exact ⟨_, rfl, q3, q1, q2, q3⟩
  obtain ⟨r', hr', s1, s2, s3, s4⟩ := hmodel
  refine ⟨nI (T + 8), r.2, r'.2, ?_, ?_, n, Q, ?_⟩
  · unfold f_X9_feed_0 f_X5_append_35
    rw [u1, if_pos c1, hr]
    simp only [Option.bind_some]
    rw [r1]
  · unfold f_X10_feed_62
    rw [r2 _ _ (by omega) (by omega), u2, if_pos c1, hr', ← s1]
  · refine Core.tape (fun p k b1 b2 b3 b4 => by rw [s2 p k (by omega) b4, r2 p k (by omega) b3]) ⟨T + 8, hc, ?_, s4, fun i hi => ?_⟩ hC0
    · rw [s2 _ _ (by omega) (by omega)]
      exact r4
    · by_cases hiT : i < T
      · rw [s2 _ _ (by omega) (by omega), s2 _ _ (by omega) (by omega), r2 _ _ (by omega) (by omega), r2 _ _ (by omega) (by omega)]
        exact u3 i hiT
      · obtain ⟨j, hj, rfl⟩ : ∃ j, j < 8 ∧ i = T + j := ⟨i - T, by omega, by omega⟩
        obtain ⟨c, hc, e1, e2⟩ := byte_eq (v >>> ((ix j).toInt64 &&& 63))
        refine ⟨c, hc, ?_, ?_⟩
        · rw [s3 j hj]
          exact e1
        · rw [s2 _ _ (by omega) (by omega), r3 j hj]
          exact e2
