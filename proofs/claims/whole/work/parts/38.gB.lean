theorem rdC_p {μ : Mem} {a q n p k : Nat} (h : p ≠ q) : (cpI μ a q n).1 p k = μ.1 p k := by simp [cpI, h]
theorem rdC_in {μ : Mem} {a q n k : Nat} (h : k < n) : (cpI μ a q n).1 q k = μ.1 a k := by simp [cpI, h]
theorem PostR.hd {n Q : Nat} {μ μ' : Mem} (h1 : ∀ p k, (p = 2 ∨ (5 ≤ p ∧ p ≤ 9)) → μ'.1 p k = μ.1 p k) (h3 : ∀ k, k < 27 → μ'.1 63 k = μ.1 63 k) (hnew : ∃ h, h ≤ 8 ∧ μ'.1 4 6 = nI h ∧ μ'.1 63 29 = nI h ∧ ∀ i, i < h → ∃ q d x, q < Q ∧ d < 4 ∧ x < 2 ∧ μ'.1 10 i = nI ((q * 4 + d) * 2 + x) ∧ μ'.1 63 (30 + 3 * i) = nI q ∧ μ'.1 63 (31 + 3 * i) = nI d ∧ μ'.1 63 (32 + 3 * i) = nI x) (h : PostR n Q μ 4 0) : PostR n Q μ' 4 0 := by
  obtain ⟨a1, a2, a3, a4, a5, a6⟩ := h
  refine ⟨fun s hs => ?_, fun s hs => ?_, fun s hs => ?_, fun s hs => ?_, fun s hs => ?_, ?_⟩
  · rw [h1 (4 + 1) _ (by omega), h3 _ (by omega)]; exact a1 s hs
  · rw [h1 (4 + 2) _ (by omega), h3 _ (by omega), h1 2 _ (by omega)]; exact a2 s hs
  · rw [h1 (4 + 3) _ (by omega), h3 _ (by omega)]; exact a3 s hs
  · rw [h1 (4 + 4) _ (by omega), h3 _ (by omega)]; exact a4 s hs
  · rw [h1 (4 + 5) _ (by omega), h3 _ (by omega)]; exact a5 s hs
  · simpa using hnew
theorem PostR.cpy {n Q : Nat} {μ μ' : Mem} {p o p' o' : Nat} (h1 : ∀ k, k < 3 → μ'.1 (p' + 1) k = μ.1 (p + 1) k) (h2 : ∀ k, k < 6 → μ'.1 (p' + 2) k = μ.1 (p + 2) k) (h3 : ∀ k, k < 4 → μ'.1 (p' + 3) k = μ.1 (p + 3) k) (h4 : ∀ k, k < 6 → μ'.1 (p' + 4) k = μ.1 (p + 4) k) (h5 : ∀ k, k < 6 → μ'.1 (p' + 5) k = μ.1 (p + 5) k) (h6 : ∀ k, k < 8 → μ'.1 (p' + 6) k = μ.1 (p + 6) k) (h7 : μ'.1 p' 6 = μ.1 p 6) (h8 : ∀ k, μ'.1 2 k = μ.1 2 k) (h9 : ∀ k, k < 54 → μ'.1 63 (o' + k) = μ.1 63 (o + k)) (h : PostR n Q μ p o) : PostR n Q μ' p' o' := by
  obtain ⟨a1, a2, a3, a4, a5, a6⟩ := h
  refine ⟨fun s hs => ?_, fun s hs => ?_, fun s hs => ?_, fun s hs => ?_, fun s hs => ?_, ?_⟩
  · rw [h1 s hs, h9 s (by omega)]; exact a1 s hs
  · rw [h2 s hs, Nat.add_assoc, h9 (3 + s) (by omega), h8, ← Nat.add_assoc]; exact a2 s hs
  · rw [h3 s hs, Nat.add_assoc, h9 (9 + s) (by omega), ← Nat.add_assoc]; exact a3 s hs
  · rw [h4 s hs, Nat.add_assoc, h9 (13 + s) (by omega), ← Nat.add_assoc]; exact a4 s hs
  · rw [h5 s hs, Nat.add_assoc, h9 (21 + s) (by omega), ← Nat.add_assoc]; exact a5 s hs
  · obtain ⟨h, g1, g2, g3, g4⟩ := a6
    refine ⟨h, g1, by rw [h7]; exact g2, by rw [h9 29 (by omega)]; exact g3, fun i hi => ?_⟩
    obtain ⟨q, d, x, b1, b2, b3, b4, b5, b6, b7⟩ := g4 i hi
    refine ⟨q, d, x, b1, b2, b3, by rw [h6 i (by omega)]; exact b4, ?_, ?_, ?_⟩
    · rw [Nat.add_assoc, h9 (30 + 3 * i) (by omega), ← Nat.add_assoc]; exact b5
    · rw [Nat.add_assoc, h9 (31 + 3 * i) (by omega), ← Nat.add_assoc]; exact b6
    · rw [Nat.add_assoc, h9 (32 + 3 * i) (by omega), ← Nat.add_assoc]; exact b7
theorem nI_i64 {n : Nat} (h : n < 2 ^ 31) : (nI n).toInt64.toInt = n := by rw [wide_int, nI_toInt h]

theorem s_end (a0 : Int32) : PStp (f_X9_end_0 a0) (f_X10_end_62 a0) := by
  intro μ hI0
  obtain ⟨n, Q, hC⟩ := hI0
  have hC0 := hC
  obtain ⟨⟨hn, hQ1, hQ6, e10, e622, e624, e11, e623, hk, hs⟩, hP, hI, hS, hT, hR⟩ := hC
  have h27 := p3 hn
  obtain ⟨T, hT1, t1, t2, t3⟩ := hT
  cases h1 : inb a0 (T + 1) with
  | false =>
    refine ⟨-1, μ, μ, ?_, ?_, n, Q, hC0⟩
    · unfold f_X9_end_0
      rw [t1, rngL (n := T) (nI_toInt (by omega)), h1]
      rfl
    · unfold f_X10_end_62
      rw [t2, in_lit (n := T) (nI_i64 (by omega)), h1]
      rfl
  | true =>
    have h1' := h1
    obtain ⟨x, hx, rfl⟩ := inb_of h1 (by omega)
    refine ⟨nI T, pI μ 35 1 (nI x), pI (pI μ 35 1 (nI x)) 62 19 (nI x), ?_, ?_, n, Q, ?_⟩
    · unfold f_X9_end_0
      rw [t1, rngL (n := T) (nI_toInt (by omega)), h1']
      rfl
    · unfold f_X10_end_62
      rw [rd_p (by omega), t2, in_lit (n := T) (nI_i64 (by omega)), h1']
      simp only [Option.bind_some, b2i_z, Bool.true_eq_false, if_false]
      rw [rd_p (by omega), t2]
    · refine Core.tape (fun p k h1 h2 h3 h4 => ?_) ⟨x, by omega, ?_, ?_, fun i hi => ?_⟩ hC0
      · by_cases hp : p = 62
        · subst hp
          rw [rd_i (by omega), rd_p (by omega)]
        · rw [rd_p hp]
          by_cases hp : p = 35
          · subst hp
            rw [rd_i (by omega)]
          · rw [rd_p hp]
      · simp (disch := omega) only [rd_p, rd_i, rd_s]
      · simp (disch := omega) only [rd_p, rd_i, rd_s]
      · simp (disch := omega) only [rd_p, rd_i, rd_s]
        exact t3 i (by omega)

theorem s_forget (a0 : Int32) : PStp (f_X9_forget_0 a0) (f_X10_forget_62 a0) := by
  intro μ hI0
  obtain ⟨n, Q, hC⟩ := hI0
  have hC0 := hC
  obtain ⟨⟨hn, hQ1, hQ6, e10, e622, e624, e11, e623, hk, hs⟩, hP, hI, hS, hT, hR⟩ := hC
  have h27 := p3 hn
  obtain ⟨h, h8, t1, t2, t3⟩ := hP.2.2.2.2.2
  have t2 : μ.1 63 29 = nI h := by simpa using t2
  cases h1 : inb a0 (h + 1) with
  | false =>
    refine ⟨-1, μ, μ, ?_, ?_, n, Q, hC0⟩
    · unfold f_X9_forget_0
      rw [t1, rngL (n := h) (nI_toInt (by omega)), h1]
      rfl
    · unfold f_X10_forget_62
      rw [t2, in_lit (n := h) (nI_i64 (by omega)), h1]
      rfl
  | true =>
    have h1' := h1
    obtain ⟨x, hx, rfl⟩ := inb_of h1 (by omega)
    refine ⟨nI h, pI μ 4 6 (nI x), pI (pI μ 4 6 (nI x)) 63 29 (nI x), ?_, ?_, n, Q, ?_⟩
    · unfold f_X9_forget_0
      rw [t1, rngL (n := h) (nI_toInt (by omega)), h1']
      rfl
    · unfold f_X10_forget_62
      rw [rd_p (by omega), t2, in_lit (n := h) (nI_i64 (by omega)), h1']
      simp only [Option.bind_some, b2i_z, Bool.true_eq_false, if_false]
      rw [rd_p (by omega), t2]
    · refine Core.post (fun p k h1 h2 => ?_) (PostR.hd (fun p k hp => ?_) (fun k hk => ?_) ⟨x, by omega, ?_, ?_, fun i hi => ?_⟩ hP) hC0
      · by_cases hp : p = 63
        · subst hp
          rw [rd_i (by omega), rd_p (by omega)]
        · rw [rd_p hp, rd_p (by omega)]
      · simp (disch := omega) only [rd_p, rd_i, rd_s]
      · simp (disch := omega) only [rd_p, rd_i, rd_s]
      · simp (disch := omega) only [rd_p, rd_i, rd_s]
      · simp (disch := omega) only [rd_p, rd_i, rd_s]
      · simp (disch := omega) only [rd_p, rd_i, rd_s]
        simpa using t3 i (by omega)

theorem s_hear (a0 a1 a2 : Int32) (hz : zb a2 = true) : PStp (f_X9_hear_0 a0 a1 a2) (f_X10_hear_62 a0 a1 a2) := by
  intro μ hI0
  obtain ⟨n, Q, hC⟩ := hI0
  have hC0 := hC
  obtain ⟨⟨hn, hQ1, hQ6, e10, e622, e624, e11, e623, hk, hs⟩, hP, hI, hS, hT, hR⟩ := hC
  have h27 := p3 hn
  cases h1 : inb a0 Q with
  | false =>
    refine ⟨-1, μ, μ, ?_, ?_, n, Q, hC0⟩
    · unfold f_X9_hear_0
      simp only [p_isSide, p_isEither, p_hasSister e10 hn, p_hasEye e10 hn, p_hasQuarter e11 hQ6, p_hasWatch e10 hn, p_canTell e10 hn e11 hQ6, m_isSide, m_isPart, m_isSister e622 hn, m_isEye e622 hn, m_isQuarter e623 hQ6, m_isWatch e624 hn, Option.bind_some, b2i_z, Bool.true_eq_false, Bool.false_eq_true, if_false, if_true, Bool.and_true, Bool.true_and, Bool.false_and, Bool.and_false, la0, la3, la9, la13, la21, la30, rd_p, rd_i, rd_s, h1]
    · unfold f_X10_hear_62
      simp only [p_isSide, p_isEither, p_hasSister e10 hn, p_hasEye e10 hn, p_hasQuarter e11 hQ6, p_hasWatch e10 hn, p_canTell e10 hn e11 hQ6, m_isSide, m_isPart, m_isSister e622 hn, m_isEye e622 hn, m_isQuarter e623 hQ6, m_isWatch e624 hn, Option.bind_some, b2i_z, Bool.true_eq_false, Bool.false_eq_true, if_false, if_true, Bool.and_true, Bool.true_and, Bool.false_and, Bool.and_false, la0, la3, la9, la13, la21, la30, rd_p, rd_i, rd_s, h1]
  | true =>
    cases h2 : inb a1 4 with
    | false =>
      refine ⟨-1, μ, μ, ?_, ?_, n, Q, hC0⟩
      · unfold f_X9_hear_0
        simp only [p_isSide, p_isEither, p_hasSister e10 hn, p_hasEye e10 hn, p_hasQuarter e11 hQ6, p_hasWatch e10 hn, p_canTell e10 hn e11 hQ6, m_isSide, m_isPart, m_isSister e622 hn, m_isEye e622 hn, m_isQuarter e623 hQ6, m_isWatch e624 hn, Option.bind_some, b2i_z, Bool.true_eq_false, Bool.false_eq_true, if_false, if_true, Bool.and_true, Bool.true_and, Bool.false_and, Bool.and_false, la0, la3, la9, la13, la21, la30, rd_p, rd_i, rd_s, h1, h2]
      · unfold f_X10_hear_62
        simp only [p_isSide, p_isEither, p_hasSister e10 hn, p_hasEye e10 hn, p_hasQuarter e11 hQ6, p_hasWatch e10 hn, p_canTell e10 hn e11 hQ6, m_isSide, m_isPart, m_isSister e622 hn, m_isEye e622 hn, m_isQuarter e623 hQ6, m_isWatch e624 hn, Option.bind_some, b2i_z, Bool.true_eq_false, Bool.false_eq_true, if_false, if_true, Bool.and_true, Bool.true_and, Bool.false_and, Bool.and_false, la0, la3, la9, la13, la21, la30, rd_p, rd_i, rd_s, h1, h2]
    | true =>
      obtain ⟨q, hq, rfl⟩ := inb_of h1 (by omega)
      obtain ⟨d, hd, rfl⟩ := inb_of h2 (by omega)
      obtain ⟨h, h8, t1, t2, t3⟩ := hP.2.2.2.2.2
      have t2 : μ.1 63 29 = nI h := by simpa using t2
      have t3 : ∀ i, i < h → ∃ q d x, q < Q ∧ d < 4 ∧ x < 2 ∧ μ.1 10 i = nI ((q * 4 + d) * 2 + x) ∧ μ.1 63 (30 + 3 * i) = nI q ∧ μ.1 63 (31 + 3 * i) = nI d ∧ μ.1 63 (32 + 3 * i) = nI x := by simpa using t3
      by_cases hh : h = 8
      · subst hh
        refine ⟨-3, μ, μ, ?_, ?_, n, Q, hC0⟩
        · unfold f_X9_hear_0
          simp only [p_isSide, p_isEither, p_hasSister e10 hn, p_hasEye e10 hn, p_hasQuarter e11 hQ6, p_hasWatch e10 hn, p_canTell e10 hn e11 hQ6, m_isSide, m_isPart, m_isSister e622 hn, m_isEye e622 hn, m_isQuarter e623 hQ6, m_isWatch e624 hn, Option.bind_some, b2i_z, Bool.true_eq_false, Bool.false_eq_true, if_false, if_true, Bool.and_true, Bool.true_and, Bool.false_and, Bool.and_false, la0, la3, la9, la13, la21, la30, rd_p, rd_i, rd_s, h1, h2, t1]
          rw [if_neg (by decide)]
        · unfold f_X10_hear_62
          simp only [p_isSide, p_isEither, p_hasSister e10 hn, p_hasEye e10 hn, p_hasQuarter e11 hQ6, p_hasWatch e10 hn, p_canTell e10 hn e11 hQ6, m_isSide, m_isPart, m_isSister e622 hn, m_isEye e622 hn, m_isQuarter e623 hQ6, m_isWatch e624 hn, Option.bind_some, b2i_z, Bool.true_eq_false, Bool.false_eq_true, if_false, if_true, Bool.and_true, Bool.true_and, Bool.false_and, Bool.and_false, la0, la3, la9, la13, la21, la30, rd_p, rd_i, rd_s, h1, h2, t2]
          rw [if_pos (by decide)]
      · obtain ⟨x, hx, hxe⟩ : ∃ x, x < 2 ∧ a2 = nI x := by
          simp only [zb, Bool.or_eq_true, decide_eq_true_eq] at hz
          rcases hz with rfl | rfl
          · exact ⟨0, by omega, rfl⟩
          · exact ⟨1, by omega, rfl⟩
        have hval : ((nI q * 4) + nI d) * 2 + nI x = nI ((q * 4 + d) * 2 + x) := by rw [ml4, nI_add, ml2, nI_add]
        obtain ⟨μ1, hμ1⟩ : ∃ μ1, μ1 = pI (pI μ 10 h (nI ((q * 4 + d) * 2 + x))) 4 6 (nI (h + 1)) := ⟨_, rfl⟩
        obtain ⟨μ2, hμ2⟩ : ∃ μ2, μ2 = pI (pI (pI (pI μ1 63 (30 + 3 * h) (nI q)) 63 (30 + 3 * h + 1) (nI d)) 63 (30 + 3 * h + 2) (nI x)) 63 29 (nI (h + 1)) := ⟨_, rfl⟩
        refine ⟨nI (h + 1), μ1, μ2, ?_, ?_, n, Q, ?_⟩
        · unfold f_X9_hear_0 f_X9_hear_0_J65
          simp only [p_isSide, p_isEither, p_hasSister e10 hn, p_hasEye e10 hn, p_hasQuarter e11 hQ6, p_hasWatch e10 hn, p_canTell e10 hn e11 hQ6, m_isSide, m_isPart, m_isSister e622 hn, m_isEye e622 hn, m_isQuarter e623 hQ6, m_isWatch e624 hn, Option.bind_some, b2i_z, Bool.true_eq_false, Bool.false_eq_true, if_false, if_true, Bool.and_true, Bool.true_and, Bool.false_and, Bool.and_false, la0, la3, la9, la13, la21, la30, rd_p, rd_i, rd_s, h1, h2, t1]
          rw [if_pos (show nI h < 8 from (nI_ltI (b := 8) (by omega) (by omega)).mpr (by omega))]
          have hx01 : x = 0 ∨ x = 1 := by omega
          rcases hx01 with rfl | rfl
          · rw [if_pos (by rw [hxe]; rfl), inb_nI (by omega) (by omega), nI_clamp (by omega), al1]
            have hval : ((nI q * 4) + nI d) * 2 + 0 = nI ((q * 4 + d) * 2 + 0) := hval
            rw [hval, hμ1]
            rfl
          · rw [if_neg (by rw [hxe]; decide), inb_nI (by omega) (by omega), nI_clamp (by omega), al1]
            have hval : ((nI q * 4) + nI d) * 2 + 1 = nI ((q * 4 + d) * 2 + 1) := hval
            rw [hval, hμ1]
            rfl
        · have f623 : μ1.1 62 3 = nI Q := by rw [hμ1]; simp (disch := omega) only [rd_p]; exact e623
          have f29 : μ1.1 63 29 = nI h := by rw [hμ1]; simp (disch := omega) only [rd_p]; exact t2
          have hfl : ∀ ν, f_X10_flag a2 ν = some (nI x, ν) := by
            intro ν
            unfold f_X10_flag
            have hx01 : x = 0 ∨ x = 1 := by omega
            rcases hx01 with rfl | rfl
            · rw [if_pos (by rw [hxe]; rfl)]; rfl
            · rw [if_neg (by rw [hxe]; decide)]; rfl
          unfold f_X10_hear_62
          simp only [m_isQuarter f623 hQ6, m_isSide, Option.bind_some, b2i_z, Bool.true_eq_false, Bool.false_eq_true, if_false, if_true, Bool.and_true, Bool.true_and, Bool.false_and, Bool.and_false, la0, la3, la9, la13, la21, la30, rd_p, rd_i, rd_s, h1, h2, f29]
          rw [if_neg (show ¬ nI h = 8 from fun e => hh ((nI_eq (b := 8) (by omega) (by omega)).mp e))]
          simp (disch := omega) only [lm3, la30, al1, al2, inb_nI, nI_clamp, Bool.true_eq_false, if_false, hfl, Option.bind_some, rd_i, rd_p, f29]
          rw [hμ2]
        · have hr : ∀ p k, p ≠ 10 → p ≠ 63 → ¬ (p = 4 ∧ k = 6) → μ2.1 p k = μ.1 p k := by
            intro p k g1 g2 g3
            rw [hμ2, rd_p g2, rd_p g2, rd_p g2, rd_p g2, hμ1]
            by_cases hp : p = 4
            · subst hp
              rw [rd_i (by omega), rd_p (by omega)]
            · rw [rd_p hp, rd_p g1]
          have hr3 : ∀ k, k < 30 + 3 * h → k ≠ 29 → μ2.1 63 k = μ.1 63 k := by
            intro k g1 g2
            rw [hμ2, rd_i g2, rd_i (by omega), rd_i (by omega), rd_i (by omega), hμ1, rd_p (by omega), rd_p (by omega)]
          have hr4 : ∀ k, 54 ≤ k → μ2.1 63 k = μ.1 63 k := by
            intro k g1
            rw [hμ2, rd_i (by omega), rd_i (by omega), rd_i (by omega), rd_i (by omega), hμ1, rd_p (by omega), rd_p (by omega)]
          refine Core.post (fun p k g1 g2 => ?_) (PostR.hd (fun p k hp => ?_) (fun k hk => ?_) ⟨h + 1, by omega, ?_, ?_, fun i hi => ?_⟩ hP) hC0
          · by_cases hp : p = 63
            · subst hp
              exact hr4 k (by omega)
            · exact hr p k (by omega) hp (by omega)
          · exact hr p k (by omega) (by omega) (by omega)
          · exact hr3 k (by omega) (by omega)
          · rw [hμ2, hμ1]
            simp (disch := omega) only [rd_p, rd_i, rd_s]
          · rw [hμ2]
            simp (disch := omega) only [rd_p, rd_i, rd_s]
          · by_cases hih : i = h
            · subst hih
              refine ⟨q, d, x, hq, hd, hx, ?_, ?_, ?_, ?_⟩
              · rw [hμ2, hμ1]
                simp (disch := omega) only [rd_p, rd_i, rd_s]
              · rw [hμ2]
                simp (disch := omega) only [rd_p, rd_i, rd_s]
              · rw [hμ2, show 31 + 3 * i = 30 + 3 * i + 1 by omega]
                simp (disch := omega) only [rd_p, rd_i, rd_s]
              · rw [hμ2, show 32 + 3 * i = 30 + 3 * i + 2 by omega]
                simp (disch := omega) only [rd_p, rd_i, rd_s]
            · have h10 : μ2.1 10 i = μ.1 10 i := by
                rw [hμ2, hμ1]
                simp (disch := omega) only [rd_p, rd_i]
              rw [h10, hr3 _ (by omega) (by omega), hr3 _ (by omega) (by omega), hr3 _ (by omega) (by omega)]
              exact t3 i (by omega)
