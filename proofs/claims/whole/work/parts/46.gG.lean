theorem for_acc4 {ρ : Type} {body : (Int32 → Int32 → Int32 → Mem → Option ρ) → Int32 → Int32 → Int32 → Mem → Option ρ} (ix : Nat → Int32) (N : Nat) (A B : Nat → Int32) (μ : Mem) (r : Option ρ) (hstep : ∀ k i, i < N → body k (A i) (B i) (ix i) μ = k (A (i + 1)) (B (i + 1)) (ix (i + 1)) μ) (hend : ∀ k, body k (A N) (B N) (ix N) μ = r) : ∀ fuel i, i ≤ N → N < fuel + i → it4 body fuel (A i) (B i) (ix i) μ = r := by
  intro fuel
  induction fuel with
  | zero => intro i h1 h2; omega
  | succ m ih =>
    intro i h1 h2
    show body (it4 body m) (A i) (B i) (ix i) μ = r
    by_cases hi : i < N
    · rw [hstep _ i hi]
      exact ih (i + 1) (by omega) (by omega)
    · have : i = N := by omega
      subst this
      exact hend _
theorem gl_eq {n : Nat} {K S : Nat → Nat} {μ : Mem} (h : HV n K S μ) {e : Nat} (he : e < 2 * n) : gl μ e = glE K e := by
  obtain ⟨hn, -, -, -, hk, -⟩ := h
  obtain ⟨k4, k1, -⟩ := hk (e / 2) (by omega)
  unfold gl glE
  rw [k1]
  exact congrArg (fun b => decide (e % 2 = 0) && b) (decide_eq_decide.mpr (nI_eq (b := 1) (by omega) (by omega)))
theorem m_isGlass {n : Nat} {K S : Nat → Nat} {μ : Mem} (h : HV n K S μ) {e : Nat} (he : e < 2 * n) : f_X10_isGlass_62 (nI e) μ = some (b2i (glE K e), μ) := by
  rw [← gl_eq h he]
  exact m_glass h.1 (fun s hs => ⟨K s, h.2.2.2.2.1 s hs⟩) he
def gmE (n : Nat) (K : Nat → Nat) (e : Nat) : Bool := hr n 3 (e / 2) && glE K e
theorem hr3 {n s : Nat} (hn : n ≤ 3) : hr n 3 s = decide (s < n) := by
  unfold hr
  by_cases h : s < n
  · rw [decide_eq_true h, decide_eq_false (show ¬ s = 3 by omega)]
    rfl
  · rw [decide_eq_false h]
    rfl
theorem m_glassEyes {n : Nat} {K S : Nat → Nat} {μ : Mem} (h : HV n K S μ) : f_X10_glassEyes_62 μ = some (nI (mk6 (gmE n K)), μ) := by
  have h0 := h
  obtain ⟨hn, -, e622, -, -, -⟩ := h0
  unfold f_X10_glassEyes_62
  have hz : (0 : Int32) = nI (mk6 fun e => decide (e < 0) && glE K e) := by
    rw [show mk6 (fun e => decide (e < 0) && glE K e) = mk6 (fun _ => false) from mk6_congr (fun e _ => by simp)]
    rfl
  have := for_acc3 (body := f_X10_glassEyes_62_L4) nI (2 * n) (fun i a ν => ν = μ ∧ a = nI (mk6 fun e => decide (e < i) && glE K e)) (fun r => r = (nI (mk6 (gmE n K)), μ)) (fun k i a ν hi hQ => ?_) (fun k a ν hQ => ?_) FU 0 0 μ (by omega) (fu_gt (by omega)) ⟨rfl, hz⟩
  · obtain ⟨r, h1, rfl⟩ := this
    exact h1
  · obtain ⟨rfl, rfl⟩ := hQ
    unfold f_X10_glassEyes_62_L4
    rw [e622, lm2, if_neg (nI_ge hi (by omega)), m_isGlass h hi]
    simp only [Option.bind_some]
    rw [m_flag]
    simp only [Option.bind_some]
    rw [al1]
    refine ⟨_, ν, rfl, rfl, ?_⟩
    rw [sh1 i (by omega), mk6_or]
    refine congrArg nI (mk6_congr fun e _ => ?_)
    by_cases h : e = i
    · subst h
      simp
    · rw [show (decide (e < i)) = decide (e < i + 1) from decide_eq_decide.mpr (by omega)]
      simp [h]
  · obtain ⟨rfl, rfl⟩ := hQ
    unfold f_X10_glassEyes_62_L4
    rw [e622, lm2, if_pos (nI_le (Nat.le_refl _) (by omega))]
    refine ⟨_, rfl, ?_⟩
    rw [show mk6 (fun e => decide (e < 2 * n) && glE K e) = mk6 (gmE n K) from mk6_congr fun e he => by
      unfold gmE
      rw [hr3 hn, show decide (e / 2 < n) = decide (e < 2 * n) from decide_eq_decide.mpr (by omega)]]
def bz (n : Nat) (K : Nat → Nat) (w : Nat) : Nat := popN (mk6 fun e => shut w e && !gmE n K e)
def asF (b : Nat → Nat) (ok : Nat → Bool) : Nat → Int32 × Int32
  | 0 => (-4, -4)
  | i + 1 => if ok i = true ∧ ¬ nI (b i) ≤ (asF b ok i).1 then (nI (b i), nI i) else asF b ok i
theorem for_acc4' {ρ : Type} {body : (Int32 → Int32 → Int32 → Mem → Option ρ) → Int32 → Int32 → Int32 → Mem → Option ρ} (ix : Nat → Int32) (N : Nat) (A B : Nat → Int32) (μ : Mem) (r : Option ρ) {a b : Int32} (hA : a = A 0) (hB : b = B 0) (hstep : ∀ k i, i < N → body k (A i) (B i) (ix i) μ = k (A (i + 1)) (B (i + 1)) (ix (i + 1)) μ) (hend : ∀ k, body k (A N) (B N) (ix N) μ = r) (hf : N < FU) : it4 body FU a b (ix 0) μ = r := by
  rw [hA, hB]
  exact for_acc4 ix N A B μ r hstep hend FU 0 (by omega) (by omega)
theorem bnd {α β : Type} {f : Option α} {a : α} (h : f = some a) (g : α → Option β) : f.bind g = g a := by rw [h]; rfl
theorem m_bz {n w : Nat} {K S : Nat → Nat} {μ : Mem} (h : HV n K S μ) (hw : w < 3 ^ n) (c : Int32 × Mem → Option (Int32 × Mem)) : ((f_X10_shutBy_62 (nI w) μ).bind fun q11 => (f_X10_glassEyes_62 q11.2).bind fun q12 => (f_X10_bitsOf (q11.1 &&& (q12.1 ^^^ (-1))) q12.2).bind c) = c (nI (bz n K w), μ) := by
  rw [bnd (m_shutBy h.2.2.1 h.1 hw), bnd (m_glassEyes h), mk6_andn, bnd (m_bitsOf (mk6_lt _) μ)]
  rfl
theorem asF_0 (b : Nat → Nat) (ok : Nat → Bool) : asF b ok 0 = (-4, -4) := rfl
theorem asF_ge (b : Nat → Nat) (hb : ∀ i, b i < 2 ^ 31) (ok : Nat → Bool) : ∀ i, (-4 : Int32) ≤ (asF b ok i).1
  | 0 => show (-4 : Int32) ≤ -4 by decide
  | i + 1 => by
    show (-4 : Int32) ≤ (if ok i = true ∧ ¬ nI (b i) ≤ (asF b ok i).1 then (nI (b i), nI i) else asF b ok i).1
    split
    · rw [i32_le]
      show (-4 : Int) ≤ (nI (b i)).toInt
      rw [nI_toInt (hb i)]
      omega
    · exact asF_ge b hb ok i

set_option maxRecDepth 100000 in
theorem s_asleep (a0 a1 : Int32) : PStp (f_X9_asleep_0 a0 a1) (f_X10_asleep_62 a0 a1) := by
  intro μ hI0
  obtain ⟨n, Q, hC⟩ := hI0
  have hC0 := hC
  obtain ⟨⟨hn, hQ1, hQ6, e10, e622, e624, e11, e623, hk, hs⟩, hP, hI, hS, hT, hR⟩ := hC
  have h27 := p3 hn
  cases h1 : inb a0 Q with
  | false =>
    refine ⟨-1, μ, μ, ?_, ?_, n, Q, hC0⟩
    · unfold f_X9_asleep_0
      simp only [p_isSide, p_isEither, p_hasSister e10 hn, p_hasEye e10 hn, p_hasQuarter e11 hQ6, p_hasWatch e10 hn, p_canTell e10 hn e11 hQ6, m_isSide, m_isPart, m_isSister e622 hn, m_isEye e622 hn, m_isQuarter e623 hQ6, m_isWatch e624 hn, Option.bind_some, b2i_z, Bool.true_eq_false, Bool.false_eq_true, if_false, if_true, Bool.and_true, Bool.true_and, Bool.false_and, Bool.and_false, la0, la3, la9, la13, la21, la30, rd_p, rd_i, rd_s, h1]
    · unfold f_X10_asleep_62
      simp only [p_isSide, p_isEither, p_hasSister e10 hn, p_hasEye e10 hn, p_hasQuarter e11 hQ6, p_hasWatch e10 hn, p_canTell e10 hn e11 hQ6, m_isSide, m_isPart, m_isSister e622 hn, m_isEye e622 hn, m_isQuarter e623 hQ6, m_isWatch e624 hn, Option.bind_some, b2i_z, Bool.true_eq_false, Bool.false_eq_true, if_false, if_true, Bool.and_true, Bool.true_and, Bool.false_and, Bool.and_false, la0, la3, la9, la13, la21, la30, rd_p, rd_i, rd_s, h1]
  | true =>
    cases h2 : inb a1 2 with
    | false =>
      refine ⟨-1, μ, μ, ?_, ?_, n, Q, hC0⟩
      · unfold f_X9_asleep_0
        simp only [p_isSide, p_isEither, p_hasSister e10 hn, p_hasEye e10 hn, p_hasQuarter e11 hQ6, p_hasWatch e10 hn, p_canTell e10 hn e11 hQ6, m_isSide, m_isPart, m_isSister e622 hn, m_isEye e622 hn, m_isQuarter e623 hQ6, m_isWatch e624 hn, Option.bind_some, b2i_z, Bool.true_eq_false, Bool.false_eq_true, if_false, if_true, Bool.and_true, Bool.true_and, Bool.false_and, Bool.and_false, la0, la3, la9, la13, la21, la30, rd_p, rd_i, rd_s, h1, h2]
      · unfold f_X10_asleep_62
        simp only [p_isSide, p_isEither, p_hasSister e10 hn, p_hasEye e10 hn, p_hasQuarter e11 hQ6, p_hasWatch e10 hn, p_canTell e10 hn e11 hQ6, m_isSide, m_isPart, m_isSister e622 hn, m_isEye e622 hn, m_isQuarter e623 hQ6, m_isWatch e624 hn, Option.bind_some, b2i_z, Bool.true_eq_false, Bool.false_eq_true, if_false, if_true, Bool.and_true, Bool.true_and, Bool.false_and, Bool.and_false, la0, la3, la9, la13, la21, la30, rd_p, rd_i, rd_s, h1, h2]
    | true =>
    obtain ⟨Z, hZ, rfl⟩ := inb_of h1 (by omega)
    obtain ⟨K, S, hV⟩ := HV.get hC0.1
    obtain ⟨F, T, N, G, W, hPV⟩ := PV.get hn hP
    obtain ⟨ν, l1, l2, l3⟩ := p_look0 hV hPV.1
    have lsm := only4.sm l2
    have hV' := hV.sm lsm
    have hPV' := hPV.sm lsm
    have hC' := hC0.sm lsm
    have hA' := hC'.abs
    have f623 : ν.1 62 3 = nI Q := by rw [lsm 62 3 (Or.inl rfl)]; exact e623
    let ok : Nat → Bool := fun w => decide (LKS n 3 K S F N (shut w) (G Z) = 0)
    have hb : ∀ i, bz n K i < 2 ^ 31 := fun i => Nat.lt_of_le_of_lt (popN_le _) (by decide)
    have hge := asF_ge (bz n K) hb ok
    refine ⟨if a1 = 0 then (asF (bz n K) ok (3 ^ n)).1 else (asF (bz n K) ok (3 ^ n)).2, ν, ν, ?_, ?_, n, Q, hC'⟩
    · unfold f_X9_asleep_0
      simp only [p_isSide, p_isEither, p_hasSister e10 hn, p_hasEye e10 hn, p_hasQuarter e11 hQ6, p_hasWatch e10 hn, p_canTell e10 hn e11 hQ6, m_isSide, m_isPart, m_isSister e622 hn, m_isEye e622 hn, m_isQuarter e623 hQ6, m_isWatch e624 hn, Option.bind_some, b2i_z, Bool.true_eq_false, Bool.false_eq_true, if_false, if_true, Bool.and_true, Bool.true_and, Bool.false_and, Bool.and_false, la0, la3, la9, la13, la21, la30, rd_p, rd_i, rd_s, h1, h2]
      rw [l1]
      simp only [Option.bind_some]
      refine for_acc4' nI (3 ^ n) (fun i => (asF (bz n K) ok i).1) (fun i => (asF (bz n K) ok i).2) ν _ (by rw [asF_0]) (by rw [asF_0]) (fun k i hi => ?_) (fun k => ?_) (fu_gt (by omega))
      · unfold f_X9_asleep_0_L35
        rw [p_watches hV'.2.1 hn]
        simp only [Option.bind_some]
        rw [if_neg (nI_ge hi (by omega)), inb_nI (by omega) (by omega), if_neg (show ¬ (true = false) by decide), nI_clamp (by omega), shu_T i (by omega), l3.2.1, mk6_andn, p_bitCount (mk6_lt _)]
        simp only [Option.bind_some]
        have e1 : nI (popN (mk6 fun e => shut i e && !(hr n 3 (e / 2) && glE K e))) = nI (bz n K i) := rfl
        rw [e1]
        unfold f_X9_asleep_0_J91
        rw [al1]
        show _ = k (if ok i = true ∧ ¬ nI (bz n K i) ≤ (asF (bz n K) ok i).1 then (nI (bz n K i), nI i) else asF (bz n K) ok i).1 (if ok i = true ∧ ¬ nI (bz n K i) ≤ (asF (bz n K) ok i).1 then (nI (bz n K i), nI i) else asF (bz n K) ok i).2 (nI (i + 1)) ν
        by_cases hc : nI (bz n K i) ≤ (asF (bz n K) ok i).1
        · rw [if_pos hc, if_neg (fun h => h.2 hc)]
        · rw [if_neg hc, p_isLawful hV' hPV' l3 hi (by omega)]
          simp only [Option.bind_some, b2i_z]
          cases hok : ok i with
          | false =>
            rw [if_pos hok, if_neg (by simp)]
          | true =>
            rw [if_neg (by rw [show decide (LKS n 3 K S F N (shut i) (G Z) = 0) = true from hok]; decide), if_pos ⟨by first | rfl | trivial, hc⟩]
      · unfold f_X9_asleep_0_L35
        rw [p_watches hV'.2.1 hn]
        simp only [Option.bind_some]
        rw [if_pos (nI_le (Nat.le_refl _) (by omega))]
        split <;> rfl
    · unfold f_X10_asleep_62
      simp only [p_isSide, p_isEither, p_hasSister e10 hn, p_hasEye e10 hn, p_hasQuarter e11 hQ6, p_hasWatch e10 hn, p_canTell e10 hn e11 hQ6, m_isSide, m_isPart, m_isSister hV'.2.2.1 hn, m_isEye hV'.2.2.1 hn, m_isQuarter f623 hQ6, m_isWatch hV'.2.2.2.1 hn, Option.bind_some, b2i_z, Bool.true_eq_false, Bool.false_eq_true, if_false, if_true, Bool.and_true, Bool.true_and, Bool.false_and, Bool.and_false, la0, la3, la9, la13, la21, la30, rd_p, rd_i, rd_s, h1, h2]
      refine for_acc4' nI (3 ^ n) (fun i => (asF (bz n K) ok i).1) (fun i => (asF (bz n K) ok i).2) ν _ (by rw [asF_0]) (by rw [asF_0]) (fun k i hi => ?_) (fun k => ?_) (fu_gt (by omega))
      · unfold f_X10_asleep_62_L27
        rw [hV'.2.2.2.1, if_neg (nI_ge hi (by omega)), m_isLawful hV' hPV' hA' hi (by omega)]
        simp only [Option.bind_some, b2i_z]
        show _ = k (if ok i = true ∧ ¬ nI (bz n K i) ≤ (asF (bz n K) ok i).1 then (nI (bz n K i), nI i) else asF (bz n K) ok i).1 (if ok i = true ∧ ¬ nI (bz n K i) ≤ (asF (bz n K) ok i).1 then (nI (bz n K i), nI i) else asF (bz n K) ok i).2 (nI (i + 1)) ν
        cases hok : ok i with
        | false =>
          rw [if_pos hok, if_neg (by simp)]
          unfold f_X10_asleep_62_J67 f_X10_asleep_62_J82 f_X10_asleep_62_J96
          rw [if_pos (hge i), if_pos (hge i), al1]
        | true =>
          rw [if_neg (by rw [show decide (LKS n 3 K S F N (shut i) (G Z) = 0) = true from hok]; decide), m_bz hV' hi]
          unfold f_X10_asleep_62_J67 f_X10_asleep_62_J82 f_X10_asleep_62_J96
          rw [al1]
          by_cases hc : nI (bz n K i) ≤ (asF (bz n K) ok i).1
          · rw [if_pos hc, if_pos hc, if_neg (fun h => h.2 hc)]
          · rw [if_neg hc, if_neg hc, if_pos ⟨by first | rfl | trivial, hc⟩]
      · unfold f_X10_asleep_62_L27
        rw [hV'.2.2.2.1, if_pos (nI_le (Nat.le_refl _) (by omega))]
        split <;> rfl
