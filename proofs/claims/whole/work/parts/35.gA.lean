theorem s_fault : PStp f_X9_fault_0 f_X10_fault_62 := by
  intro μ hI0
  obtain ⟨n, Q, hC⟩ := hI0
  have hC0 := hC
  obtain ⟨⟨hn, hQ1, hQ6, e10, e622, e624, e11, e623, hk, hs⟩, hP, hI, hS, hT, hR⟩ := hC
  have h27 := p3 hn
  exact ⟨μ.1 35 2, μ, μ, rfl, by unfold f_X10_fault_62; rw [hR.1], n, Q, hC0⟩

theorem s_torn : PStp f_X9_torn_0 f_X10_torn_62 := by
  intro μ hI0
  obtain ⟨n, Q, hC⟩ := hI0
  have hC0 := hC
  obtain ⟨⟨hn, hQ1, hQ6, e10, e622, e624, e11, e623, hk, hs⟩, hP, hI, hS, hT, hR⟩ := hC
  have h27 := p3 hn
  exact ⟨μ.1 0 5, μ, μ, rfl, by unfold f_X10_torn_62; rw [hR.2.1], n, Q, hC0⟩

theorem s_rule (a0 : Int32) : PStp (f_X9_rule_0 a0) (f_X10_rule_62 a0) := by
  intro μ hI0
  obtain ⟨n, Q, hC⟩ := hI0
  have hC0 := hC
  obtain ⟨⟨hn, hQ1, hQ6, e10, e622, e624, e11, e623, hk, hs⟩, hP, hI, hS, hT, hR⟩ := hC
  have h27 := p3 hn
  by_cases h0 : a0 = 0
  · exact ⟨nI n, μ, μ, by unfold f_X9_rule_0; rw [if_pos h0, e10], by unfold f_X10_rule_62; rw [if_pos h0, e622], n, Q, hC0⟩
  · by_cases h1 : a0 = 1
    · exact ⟨nI Q, μ, μ, by unfold f_X9_rule_0; rw [if_neg h0, if_pos h1, e11], by unfold f_X10_rule_62; rw [if_neg h0, if_pos h1, e623], n, Q, hC0⟩
    · exact ⟨-1, μ, μ, by unfold f_X9_rule_0; rw [if_neg h0, if_neg h1], by unfold f_X10_rule_62; rw [if_neg h0, if_neg h1], n, Q, hC0⟩

theorem s_watch (a0 : Int32) : PStp (f_X9_watch_0 a0) (f_X10_watch_62 a0) := by
  intro μ hI0
  obtain ⟨n, Q, hC⟩ := hI0
  have hC0 := hC
  obtain ⟨⟨hn, hQ1, hQ6, e10, e622, e624, e11, e623, hk, hs⟩, hP, hI, hS, hT, hR⟩ := hC
  have h27 := p3 hn
  cases h1 : inb a0 Q with
  | false =>
    refine ⟨-1, μ, μ, ?_, ?_, n, Q, hC0⟩
    · unfold f_X9_watch_0
      simp only [p_isSide, p_isEither, p_hasSister e10 hn, p_hasEye e10 hn, p_hasQuarter e11 hQ6, p_hasWatch e10 hn, p_canTell e10 hn e11 hQ6, m_isSide, m_isPart, m_isSister e622 hn, m_isEye e622 hn, m_isQuarter e623 hQ6, m_isWatch e624 hn, Option.bind_some, b2i_z, Bool.true_eq_false, Bool.false_eq_true, if_false, if_true, Bool.and_true, Bool.true_and, Bool.false_and, Bool.and_false, la0, la3, la9, la13, la21, la30, rd_p, rd_i, rd_s, h1]
    · unfold f_X10_watch_62
      simp only [p_isSide, p_isEither, p_hasSister e10 hn, p_hasEye e10 hn, p_hasQuarter e11 hQ6, p_hasWatch e10 hn, p_canTell e10 hn e11 hQ6, m_isSide, m_isPart, m_isSister e622 hn, m_isEye e622 hn, m_isQuarter e623 hQ6, m_isWatch e624 hn, Option.bind_some, b2i_z, Bool.true_eq_false, Bool.false_eq_true, if_false, if_true, Bool.and_true, Bool.true_and, Bool.false_and, Bool.and_false, la0, la3, la9, la13, la21, la30, rd_p, rd_i, rd_s, h1]
  | true =>
    obtain ⟨j, hj, rfl⟩ := inb_of h1 (by omega)
    obtain ⟨w, hw, g1, g2⟩ := hP.2.2.2.2.1 j (by omega)
    have g1 : μ.1 9 j = nI w := g1
    have g2 : μ.1 63 (21 + j) = nI w := by simpa using g2
    refine ⟨nI w, μ, μ, ?_, ?_, n, Q, hC0⟩
    · unfold f_X9_watch_0
      simp (disch := omega) only [p_isSide, p_isEither, p_hasSister e10 hn, p_hasEye e10 hn, p_hasQuarter e11 hQ6, p_hasWatch e10 hn, p_canTell e10 hn e11 hQ6, m_isSide, m_isPart, m_isSister e622 hn, m_isEye e622 hn, m_isQuarter e623 hQ6, m_isWatch e624 hn, Option.bind_some, b2i_z, Bool.true_eq_false, Bool.false_eq_true, if_false, if_true, Bool.and_true, Bool.true_and, Bool.false_and, Bool.and_false, la0, la3, la9, la13, la21, la30, rd_p, rd_i, rd_s, h1, inb_nI, nI_clamp, g1]
    · unfold f_X10_watch_62
      simp (disch := omega) only [p_isSide, p_isEither, p_hasSister e10 hn, p_hasEye e10 hn, p_hasQuarter e11 hQ6, p_hasWatch e10 hn, p_canTell e10 hn e11 hQ6, m_isSide, m_isPart, m_isSister e622 hn, m_isEye e622 hn, m_isQuarter e623 hQ6, m_isWatch e624 hn, Option.bind_some, b2i_z, Bool.true_eq_false, Bool.false_eq_true, if_false, if_true, Bool.and_true, Bool.true_and, Bool.false_and, Bool.and_false, la0, la3, la9, la13, la21, la30, rd_p, rd_i, rd_s, h1, inb_nI, nI_clamp, g2]

theorem s_sister (a0 a1 : Int32) : PStp (f_X9_sister_0 a0 a1) (f_X10_sister_62 a0 a1) := by
  intro μ hI0
  obtain ⟨n, Q, hC⟩ := hI0
  have hC0 := hC
  obtain ⟨⟨hn, hQ1, hQ6, e10, e622, e624, e11, e623, hk, hs⟩, hP, hI, hS, hT, hR⟩ := hC
  have h27 := p3 hn
  cases h1 : inb a0 n with
  | false =>
    refine ⟨-1, μ, μ, ?_, ?_, n, Q, hC0⟩
    · unfold f_X9_sister_0
      simp only [p_isSide, p_isEither, p_hasSister e10 hn, p_hasEye e10 hn, p_hasQuarter e11 hQ6, p_hasWatch e10 hn, p_canTell e10 hn e11 hQ6, m_isSide, m_isPart, m_isSister e622 hn, m_isEye e622 hn, m_isQuarter e623 hQ6, m_isWatch e624 hn, Option.bind_some, b2i_z, Bool.true_eq_false, Bool.false_eq_true, if_false, if_true, Bool.and_true, Bool.true_and, Bool.false_and, Bool.and_false, la0, la3, la9, la13, la21, la30, rd_p, rd_i, rd_s, h1]
    · unfold f_X10_sister_62 f_X10_sister_62_J18
      simp only [p_isSide, p_isEither, p_hasSister e10 hn, p_hasEye e10 hn, p_hasQuarter e11 hQ6, p_hasWatch e10 hn, p_canTell e10 hn e11 hQ6, m_isSide, m_isPart, m_isSister e622 hn, m_isEye e622 hn, m_isQuarter e623 hQ6, m_isWatch e624 hn, Option.bind_some, b2i_z, Bool.true_eq_false, Bool.false_eq_true, if_false, if_true, Bool.and_true, Bool.true_and, Bool.false_and, Bool.and_false, la0, la3, la9, la13, la21, la30, rd_p, rd_i, rd_s, h1]
  | true =>
    cases h2 : inb a1 2 with
    | false =>
      refine ⟨-1, μ, μ, ?_, ?_, n, Q, hC0⟩
      · unfold f_X9_sister_0
        simp only [p_isSide, p_isEither, p_hasSister e10 hn, p_hasEye e10 hn, p_hasQuarter e11 hQ6, p_hasWatch e10 hn, p_canTell e10 hn e11 hQ6, m_isSide, m_isPart, m_isSister e622 hn, m_isEye e622 hn, m_isQuarter e623 hQ6, m_isWatch e624 hn, Option.bind_some, b2i_z, Bool.true_eq_false, Bool.false_eq_true, if_false, if_true, Bool.and_true, Bool.true_and, Bool.false_and, Bool.and_false, la0, la3, la9, la13, la21, la30, rd_p, rd_i, rd_s, h1, h2]
      · unfold f_X10_sister_62 f_X10_sister_62_J18
        simp only [p_isSide, p_isEither, p_hasSister e10 hn, p_hasEye e10 hn, p_hasQuarter e11 hQ6, p_hasWatch e10 hn, p_canTell e10 hn e11 hQ6, m_isSide, m_isPart, m_isSister e622 hn, m_isEye e622 hn, m_isQuarter e623 hQ6, m_isWatch e624 hn, Option.bind_some, b2i_z, Bool.true_eq_false, Bool.false_eq_true, if_false, if_true, Bool.and_true, Bool.true_and, Bool.false_and, Bool.and_false, la0, la3, la9, la13, la21, la30, rd_p, rd_i, rd_s, in_lit (n := 1) (hi := 1) rfl, h1, h2]
    | true =>
      obtain ⟨j, hj, rfl⟩ := inb_of h1 (by omega)
      obtain ⟨k, hk4, g1, g2⟩ := hk j hj
      obtain ⟨f, hf, g3, g4⟩ := hP.1 j (by omega)
      have g3 : μ.1 5 j = nI f := g3
      have g4 : μ.1 63 j = nI f := by simpa using g4
      by_cases h0 : a1 = 0
      · refine ⟨nI k, μ, μ, ?_, ?_, n, Q, hC0⟩
        · unfold f_X9_sister_0
          simp (disch := omega) only [p_isSide, p_isEither, p_hasSister e10 hn, p_hasEye e10 hn, p_hasQuarter e11 hQ6, p_hasWatch e10 hn, p_canTell e10 hn e11 hQ6, m_isSide, m_isPart, m_isSister e622 hn, m_isEye e622 hn, m_isQuarter e623 hQ6, m_isWatch e624 hn, Option.bind_some, b2i_z, Bool.true_eq_false, Bool.false_eq_true, if_false, if_true, Bool.and_true, Bool.true_and, Bool.false_and, Bool.and_false, la0, la3, la9, la13, la21, la30, rd_p, rd_i, rd_s, h1, h2, inb_nI, nI_clamp, if_pos h0, g1]
        · unfold f_X10_sister_62
          simp (disch := omega) only [p_isSide, p_isEither, p_hasSister e10 hn, p_hasEye e10 hn, p_hasQuarter e11 hQ6, p_hasWatch e10 hn, p_canTell e10 hn e11 hQ6, m_isSide, m_isPart, m_isSister e622 hn, m_isEye e622 hn, m_isQuarter e623 hQ6, m_isWatch e624 hn, Option.bind_some, b2i_z, Bool.true_eq_false, Bool.false_eq_true, if_false, if_true, Bool.and_true, Bool.true_and, Bool.false_and, Bool.and_false, la0, la3, la9, la13, la21, la30, rd_p, rd_i, rd_s, in_lit (n := 1) (hi := 1) rfl, h1, h2, inb_nI, nI_clamp, if_pos h0, g2]
      · refine ⟨nI f, μ, μ, ?_, ?_, n, Q, hC0⟩
        · unfold f_X9_sister_0
          simp (disch := omega) only [p_isSide, p_isEither, p_hasSister e10 hn, p_hasEye e10 hn, p_hasQuarter e11 hQ6, p_hasWatch e10 hn, p_canTell e10 hn e11 hQ6, m_isSide, m_isPart, m_isSister e622 hn, m_isEye e622 hn, m_isQuarter e623 hQ6, m_isWatch e624 hn, Option.bind_some, b2i_z, Bool.true_eq_false, Bool.false_eq_true, if_false, if_true, Bool.and_true, Bool.true_and, Bool.false_and, Bool.and_false, la0, la3, la9, la13, la21, la30, rd_p, rd_i, rd_s, h1, h2, inb_nI, nI_clamp, if_neg h0, g3]
        · unfold f_X10_sister_62
          simp (disch := omega) only [p_isSide, p_isEither, p_hasSister e10 hn, p_hasEye e10 hn, p_hasQuarter e11 hQ6, p_hasWatch e10 hn, p_canTell e10 hn e11 hQ6, m_isSide, m_isPart, m_isSister e622 hn, m_isEye e622 hn, m_isQuarter e623 hQ6, m_isWatch e624 hn, Option.bind_some, b2i_z, Bool.true_eq_false, Bool.false_eq_true, if_false, if_true, Bool.and_true, Bool.true_and, Bool.false_and, Bool.and_false, la0, la3, la9, la13, la21, la30, rd_p, rd_i, rd_s, in_lit (n := 1) (hi := 1) rfl, h1, h2, inb_nI, nI_clamp, if_neg h0, g4]

theorem s_needed (a0 a1 : Int32) : PStp (f_X9_needed_0 a0 a1) (f_X10_needed_62 a0 a1) := by
  intro μ hI0
  obtain ⟨n, Q, hC⟩ := hI0
  have hC0 := hC
  obtain ⟨⟨hn, hQ1, hQ6, e10, e622, e624, e11, e623, hk, hs⟩, hP, hI, hS, hT, hR⟩ := hC
  have h27 := p3 hn
  cases h1 : inb a0 4 with
  | false =>
    refine ⟨-1, μ, μ, ?_, ?_, n, Q, hC0⟩
    · unfold f_X9_needed_0
      simp only [p_isSide, p_isEither, p_hasSister e10 hn, p_hasEye e10 hn, p_hasQuarter e11 hQ6, p_hasWatch e10 hn, p_canTell e10 hn e11 hQ6, m_isSide, m_isPart, m_isSister e622 hn, m_isEye e622 hn, m_isQuarter e623 hQ6, m_isWatch e624 hn, Option.bind_some, b2i_z, Bool.true_eq_false, Bool.false_eq_true, if_false, if_true, Bool.and_true, Bool.true_and, Bool.false_and, Bool.and_false, la0, la3, la9, la13, la21, la30, rd_p, rd_i, rd_s, h1]
    · unfold f_X10_needed_62
      simp only [p_isSide, p_isEither, p_hasSister e10 hn, p_hasEye e10 hn, p_hasQuarter e11 hQ6, p_hasWatch e10 hn, p_canTell e10 hn e11 hQ6, m_isSide, m_isPart, m_isSister e622 hn, m_isEye e622 hn, m_isQuarter e623 hQ6, m_isWatch e624 hn, Option.bind_some, b2i_z, Bool.true_eq_false, Bool.false_eq_true, if_false, if_true, Bool.and_true, Bool.true_and, Bool.false_and, Bool.and_false, la0, la3, la9, la13, la21, la30, rd_p, rd_i, rd_s, h1]
  | true =>
    cases h2 : inb a1 Q with
    | false =>
      refine ⟨-1, μ, μ, ?_, ?_, n, Q, hC0⟩
      · unfold f_X9_needed_0
        simp only [p_isSide, p_isEither, p_hasSister e10 hn, p_hasEye e10 hn, p_hasQuarter e11 hQ6, p_hasWatch e10 hn, p_canTell e10 hn e11 hQ6, m_isSide, m_isPart, m_isSister e622 hn, m_isEye e622 hn, m_isQuarter e623 hQ6, m_isWatch e624 hn, Option.bind_some, b2i_z, Bool.true_eq_false, Bool.false_eq_true, if_false, if_true, Bool.and_true, Bool.true_and, Bool.false_and, Bool.and_false, la0, la3, la9, la13, la21, la30, rd_p, rd_i, rd_s, h1, h2]
      · unfold f_X10_needed_62
        simp only [p_isSide, p_isEither, p_hasSister e10 hn, p_hasEye e10 hn, p_hasQuarter e11 hQ6, p_hasWatch e10 hn, p_canTell e10 hn e11 hQ6, m_isSide, m_isPart, m_isSister e622 hn, m_isEye e622 hn, m_isQuarter e623 hQ6, m_isWatch e624 hn, Option.bind_some, b2i_z, Bool.true_eq_false, Bool.false_eq_true, if_false, if_true, Bool.and_true, Bool.true_and, Bool.false_and, Bool.and_false, la0, la3, la9, la13, la21, la30, rd_p, rd_i, rd_s, h1, h2]
    | true =>
      obtain ⟨d, hd, rfl⟩ := inb_of h1 (by omega)
      obtain ⟨j, hj, rfl⟩ := inb_of h2 (by omega)
      obtain ⟨v, hv, g1, g2⟩ := hP.2.2.1 d hd
      obtain ⟨w, hw, g3, g4, g5⟩ := hP.2.2.2.1 j (by omega)
      have g1 : μ.1 7 d = nI v := g1
      have g2 : μ.1 63 (9 + d) = nI v := by simpa using g2
      have g3 : μ.1 8 j = nI w := g3
      have g4 : μ.1 63 (13 + j) = nI w := by simpa using g4
      refine ⟨nI v + ((nI w >>> (nI d &&& 31)) &&& 1), μ, μ, ?_, ?_, n, Q, hC0⟩
      · unfold f_X9_needed_0
        simp (disch := omega) only [p_isSide, p_isEither, p_hasSister e10 hn, p_hasEye e10 hn, p_hasQuarter e11 hQ6, p_hasWatch e10 hn, p_canTell e10 hn e11 hQ6, m_isSide, m_isPart, m_isSister e622 hn, m_isEye e622 hn, m_isQuarter e623 hQ6, m_isWatch e624 hn, Option.bind_some, b2i_z, Bool.true_eq_false, Bool.false_eq_true, if_false, if_true, Bool.and_true, Bool.true_and, Bool.false_and, Bool.and_false, la0, la3, la9, la13, la21, la30, rd_p, rd_i, rd_s, h1, h2, inb_nI, nI_clamp, g1, g3]
      · unfold f_X10_needed_62 f_X10_neededAt_62
        simp (disch := omega) only [p_isSide, p_isEither, p_hasSister e10 hn, p_hasEye e10 hn, p_hasQuarter e11 hQ6, p_hasWatch e10 hn, p_canTell e10 hn e11 hQ6, m_isSide, m_isPart, m_isSister e622 hn, m_isEye e622 hn, m_isQuarter e623 hQ6, m_isWatch e624 hn, Option.bind_some, b2i_z, Bool.true_eq_false, Bool.false_eq_true, if_false, if_true, Bool.and_true, Bool.true_and, Bool.false_and, Bool.and_false, la0, la3, la9, la13, la21, la30, rd_p, rd_i, rd_s, h1, h2, inb_nI, nI_clamp, g2, g4]

theorem s_tell (a0 a1 : Int32) : PStp (f_X9_tell_0 a0 a1) (f_X10_tell_62 a0 a1) := by
  intro μ hI0
  obtain ⟨n, Q, hC⟩ := hI0
  have hC0 := hC
  obtain ⟨⟨hn, hQ1, hQ6, e10, e622, e624, e11, e623, hk, hs⟩, hP, hI, hS, hT, hR⟩ := hC
  have h27 := p3 hn
  cases h1 : inb a0 Q with
  | false =>
    refine ⟨-1, μ, μ, ?_, ?_, n, Q, hC0⟩
    · unfold f_X9_tell_0
      simp only [p_isSide, p_isEither, p_hasSister e10 hn, p_hasEye e10 hn, p_hasQuarter e11 hQ6, p_hasWatch e10 hn, p_canTell e10 hn e11 hQ6, m_isSide, m_isPart, m_isSister e622 hn, m_isEye e622 hn, m_isQuarter e623 hQ6, m_isWatch e624 hn, Option.bind_some, b2i_z, Bool.true_eq_false, Bool.false_eq_true, if_false, if_true, Bool.and_true, Bool.true_and, Bool.false_and, Bool.and_false, la0, la3, la9, la13, la21, la30, rd_p, rd_i, rd_s, h1]
    · unfold f_X10_tell_62
      simp only [p_isSide, p_isEither, p_hasSister e10 hn, p_hasEye e10 hn, p_hasQuarter e11 hQ6, p_hasWatch e10 hn, p_canTell e10 hn e11 hQ6, m_isSide, m_isPart, m_isSister e622 hn, m_isEye e622 hn, m_isQuarter e623 hQ6, m_isWatch e624 hn, Option.bind_some, b2i_z, Bool.true_eq_false, Bool.false_eq_true, if_false, if_true, Bool.and_true, Bool.true_and, Bool.false_and, Bool.and_false, la0, la3, la9, la13, la21, la30, rd_p, rd_i, rd_s, h1]
  | true =>
    cases h2 : inb a1 (3 ^ n) with
    | false =>
      refine ⟨-1, μ, μ, ?_, ?_, n, Q, hC0⟩
      · unfold f_X9_tell_0
        simp only [p_isSide, p_isEither, p_hasSister e10 hn, p_hasEye e10 hn, p_hasQuarter e11 hQ6, p_hasWatch e10 hn, p_canTell e10 hn e11 hQ6, m_isSide, m_isPart, m_isSister e622 hn, m_isEye e622 hn, m_isQuarter e623 hQ6, m_isWatch e624 hn, Option.bind_some, b2i_z, Bool.true_eq_false, Bool.false_eq_true, if_false, if_true, Bool.and_true, Bool.true_and, Bool.false_and, Bool.and_false, la0, la3, la9, la13, la21, la30, rd_p, rd_i, rd_s, h1, h2]
      · unfold f_X10_tell_62
        simp only [p_isSide, p_isEither, p_hasSister e10 hn, p_hasEye e10 hn, p_hasQuarter e11 hQ6, p_hasWatch e10 hn, p_canTell e10 hn e11 hQ6, m_isSide, m_isPart, m_isSister e622 hn, m_isEye e622 hn, m_isQuarter e623 hQ6, m_isWatch e624 hn, Option.bind_some, b2i_z, Bool.true_eq_false, Bool.false_eq_true, if_false, if_true, Bool.and_true, Bool.true_and, Bool.false_and, Bool.and_false, la0, la3, la9, la13, la21, la30, rd_p, rd_i, rd_s, h1, h2]
    | true =>
      obtain ⟨j, hj, rfl⟩ := inb_of h1 (by omega)
      obtain ⟨x, hx, rfl⟩ := inb_of h2 (by omega)
      obtain ⟨w, hw, g1, g2⟩ := hP.2.2.2.2.1 j (by omega)
      have g1 : μ.1 9 j = nI w := g1
      have g2 : μ.1 63 (21 + j) = nI w := by simpa using g2
      obtain ⟨μ1, hμ1⟩ : ∃ μ1, μ1 = pI μ 9 j (nI x) := ⟨_, rfl⟩
      have f622 : μ1.1 62 2 = nI n := by rw [hμ1]; simp (disch := omega) only [rd_p]; exact e622
      have f623 : μ1.1 62 3 = nI Q := by rw [hμ1]; simp (disch := omega) only [rd_p]; exact e623
      have f624 : μ1.1 62 4 = nI (3 ^ n) := by rw [hμ1]; simp (disch := omega) only [rd_p]; exact e624
      refine ⟨nI w, μ1, pI μ1 63 (21 + j) (nI x), ?_, ?_, n, Q, by rw [hμ1]; exact upd_watch (by omega) hx hC0⟩
      · unfold f_X9_tell_0
        simp (disch := omega) only [p_isSide, p_isEither, p_hasSister e10 hn, p_hasEye e10 hn, p_hasQuarter e11 hQ6, p_hasWatch e10 hn, p_canTell e10 hn e11 hQ6, m_isSide, m_isPart, m_isSister e622 hn, m_isEye e622 hn, m_isQuarter e623 hQ6, m_isWatch e624 hn, Option.bind_some, b2i_z, Bool.true_eq_false, Bool.false_eq_true, if_false, if_true, Bool.and_true, Bool.true_and, Bool.false_and, Bool.and_false, la0, la3, la9, la13, la21, la30, rd_p, rd_i, rd_s, h1, h2, inb_nI, nI_clamp, g1, hμ1]
      · unfold f_X10_tell_62
        have g2' : μ1.1 63 (21 + j) = nI w := by rw [hμ1, rd_p (by omega)]; exact g2
        simp (disch := omega) only [m_isSide, m_isPart, m_isSister f622 hn, m_isEye f622 hn, m_isQuarter f623 hQ6, m_isWatch f624 hn, Option.bind_some, b2i_z, Bool.true_eq_false, Bool.false_eq_true, if_false, if_true, Bool.and_true, Bool.true_and, Bool.false_and, Bool.and_false, la0, la3, la9, la13, la21, la30, rd_p, rd_i, rd_s, h1, h2, inb_nI, nI_clamp, g2']

theorem s_need (a0 a1 : Int32) : PStp (f_X9_need_0 a0 a1) (f_X10_need_62 a0 a1) := by
  intro μ hI0
  obtain ⟨n, Q, hC⟩ := hI0
  have hC0 := hC
  obtain ⟨⟨hn, hQ1, hQ6, e10, e622, e624, e11, e623, hk, hs⟩, hP, hI, hS, hT, hR⟩ := hC
  have h27 := p3 hn
  cases h1 : inb a0 4 with
  | false =>
    refine ⟨-1, μ, μ, ?_, ?_, n, Q, hC0⟩
    · unfold f_X9_need_0
      simp only [p_isSide, p_isEither, p_hasSister e10 hn, p_hasEye e10 hn, p_hasQuarter e11 hQ6, p_hasWatch e10 hn, p_canTell e10 hn e11 hQ6, m_isSide, m_isPart, m_isSister e622 hn, m_isEye e622 hn, m_isQuarter e623 hQ6, m_isWatch e624 hn, Option.bind_some, b2i_z, Bool.true_eq_false, Bool.false_eq_true, if_false, if_true, Bool.and_true, Bool.true_and, Bool.false_and, Bool.and_false, la0, la3, la9, la13, la21, la30, rd_p, rd_i, rd_s, h1]
    · unfold f_X10_need_62
      simp only [p_isSide, p_isEither, p_hasSister e10 hn, p_hasEye e10 hn, p_hasQuarter e11 hQ6, p_hasWatch e10 hn, p_canTell e10 hn e11 hQ6, m_isSide, m_isPart, m_isSister e622 hn, m_isEye e622 hn, m_isQuarter e623 hQ6, m_isWatch e624 hn, Option.bind_some, b2i_z, Bool.true_eq_false, Bool.false_eq_true, if_false, if_true, Bool.and_true, Bool.true_and, Bool.false_and, Bool.and_false, la0, la3, la9, la13, la21, la30, rd_p, rd_i, rd_s, h1]
  | true =>
    cases h2 : inb a1 7 with
    | false =>
      refine ⟨-1, μ, μ, ?_, ?_, n, Q, hC0⟩
      · unfold f_X9_need_0
        simp only [p_isSide, p_isEither, p_hasSister e10 hn, p_hasEye e10 hn, p_hasQuarter e11 hQ6, p_hasWatch e10 hn, p_canTell e10 hn e11 hQ6, m_isSide, m_isPart, m_isSister e622 hn, m_isEye e622 hn, m_isQuarter e623 hQ6, m_isWatch e624 hn, Option.bind_some, b2i_z, Bool.true_eq_false, Bool.false_eq_true, if_false, if_true, Bool.and_true, Bool.true_and, Bool.false_and, Bool.and_false, la0, la3, la9, la13, la21, la30, rd_p, rd_i, rd_s, h1]
        rw [rngL (n := 6) rfl, h2]
        rfl
      · unfold f_X10_need_62
        simp only [p_isSide, p_isEither, p_hasSister e10 hn, p_hasEye e10 hn, p_hasQuarter e11 hQ6, p_hasWatch e10 hn, p_canTell e10 hn e11 hQ6, m_isSide, m_isPart, m_isSister e622 hn, m_isEye e622 hn, m_isQuarter e623 hQ6, m_isWatch e624 hn, Option.bind_some, b2i_z, Bool.true_eq_false, Bool.false_eq_true, if_false, if_true, Bool.and_true, Bool.true_and, Bool.false_and, Bool.and_false, la0, la3, la9, la13, la21, la30, rd_p, rd_i, rd_s, in_lit (n := 6) (hi := 6) rfl, h1, h2]
    | true =>
      obtain ⟨j, hj, rfl⟩ := inb_of h1 (by omega)
      have h2' := h2
      obtain ⟨x, hx, rfl⟩ := inb_of h2 (by omega)
      obtain ⟨w, hw, g1, g2⟩ := hP.2.2.1 j (by omega)
      have g1 : μ.1 7 j = nI w := g1
      have g2 : μ.1 63 (9 + j) = nI w := by simpa using g2
      obtain ⟨μ1, hμ1⟩ : ∃ μ1, μ1 = pI μ 7 j (nI x) := ⟨_, rfl⟩
      have f622 : μ1.1 62 2 = nI n := by rw [hμ1]; simp (disch := omega) only [rd_p]; exact e622
      have f623 : μ1.1 62 3 = nI Q := by rw [hμ1]; simp (disch := omega) only [rd_p]; exact e623
      have f624 : μ1.1 62 4 = nI (3 ^ n) := by rw [hμ1]; simp (disch := omega) only [rd_p]; exact e624
      refine ⟨nI w, μ1, pI μ1 63 (9 + j) (nI x), ?_, ?_, n, Q, by rw [hμ1]; exact upd_need (by omega) hx hC0⟩
      · unfold f_X9_need_0
        simp only [p_isSide, p_isEither, p_hasSister e10 hn, p_hasEye e10 hn, p_hasQuarter e11 hQ6, p_hasWatch e10 hn, p_canTell e10 hn e11 hQ6, m_isSide, m_isPart, m_isSister e622 hn, m_isEye e622 hn, m_isQuarter e623 hQ6, m_isWatch e624 hn, Option.bind_some, b2i_z, Bool.true_eq_false, Bool.false_eq_true, if_false, if_true, Bool.and_true, Bool.true_and, Bool.false_and, Bool.and_false, la0, la3, la9, la13, la21, la30, rd_p, rd_i, rd_s, h1]
        rw [rngL (n := 6) rfl, if_pos h2']
        simp (disch := omega) only [p_isSide, p_isEither, p_hasSister e10 hn, p_hasEye e10 hn, p_hasQuarter e11 hQ6, p_hasWatch e10 hn, p_canTell e10 hn e11 hQ6, m_isSide, m_isPart, m_isSister e622 hn, m_isEye e622 hn, m_isQuarter e623 hQ6, m_isWatch e624 hn, Option.bind_some, b2i_z, Bool.true_eq_false, Bool.false_eq_true, if_false, if_true, Bool.and_true, Bool.true_and, Bool.false_and, Bool.and_false, la0, la3, la9, la13, la21, la30, rd_p, rd_i, rd_s, inb_nI, nI_clamp, g1, hμ1]
      · unfold f_X10_need_62
        have g2' : μ1.1 63 (9 + j) = nI w := by rw [hμ1, rd_p (by omega)]; exact g2
        simp (disch := omega) only [m_isSide, m_isPart, m_isSister f622 hn, m_isEye f622 hn, m_isQuarter f623 hQ6, m_isWatch f624 hn, Option.bind_some, b2i_z, Bool.true_eq_false, Bool.false_eq_true, if_false, if_true, Bool.and_true, Bool.true_and, Bool.false_and, Bool.and_false, la0, la3, la9, la13, la21, la30, rd_p, rd_i, rd_s, in_lit (n := 6) (hi := 6) rfl, h1, h2', inb_nI, nI_clamp, g2']

theorem s_turn (a0 a1 : Int32) : PStp (f_X9_turn_0 a0 a1) (f_X10_turn_62 a0 a1) := by
  intro μ hI0
  obtain ⟨n, Q, hC⟩ := hI0
  have hC0 := hC
  obtain ⟨⟨hn, hQ1, hQ6, e10, e622, e624, e11, e623, hk, hs⟩, hP, hI, hS, hT, hR⟩ := hC
  have h27 := p3 hn
  cases h1 : inb a0 n with
  | false =>
    refine ⟨-1, μ, μ, ?_, ?_, n, Q, hC0⟩
    · unfold f_X9_turn_0
      simp only [p_isSide, p_isEither, p_hasSister e10 hn, p_hasEye e10 hn, p_hasQuarter e11 hQ6, p_hasWatch e10 hn, p_canTell e10 hn e11 hQ6, m_isSide, m_isPart, m_isSister e622 hn, m_isEye e622 hn, m_isQuarter e623 hQ6, m_isWatch e624 hn, Option.bind_some, b2i_z, Bool.true_eq_false, Bool.false_eq_true, if_false, if_true, Bool.and_true, Bool.true_and, Bool.false_and, Bool.and_false, la0, la3, la9, la13, la21, la30, rd_p, rd_i, rd_s, h1]
    · unfold f_X10_turn_62
      simp only [p_isSide, p_isEither, p_hasSister e10 hn, p_hasEye e10 hn, p_hasQuarter e11 hQ6, p_hasWatch e10 hn, p_canTell e10 hn e11 hQ6, m_isSide, m_isPart, m_isSister e622 hn, m_isEye e622 hn, m_isQuarter e623 hQ6, m_isWatch e624 hn, Option.bind_some, b2i_z, Bool.true_eq_false, Bool.false_eq_true, if_false, if_true, Bool.and_true, Bool.true_and, Bool.false_and, Bool.and_false, la0, la3, la9, la13, la21, la30, rd_p, rd_i, rd_s, h1]
  | true =>
    cases h2 : inb a1 4 with
    | false =>
      refine ⟨-1, μ, μ, ?_, ?_, n, Q, hC0⟩
      · unfold f_X9_turn_0
        simp only [p_isSide, p_isEither, p_hasSister e10 hn, p_hasEye e10 hn, p_hasQuarter e11 hQ6, p_hasWatch e10 hn, p_canTell e10 hn e11 hQ6, m_isSide, m_isPart, m_isSister e622 hn, m_isEye e622 hn, m_isQuarter e623 hQ6, m_isWatch e624 hn, Option.bind_some, b2i_z, Bool.true_eq_false, Bool.false_eq_true, if_false, if_true, Bool.and_true, Bool.true_and, Bool.false_and, Bool.and_false, la0, la3, la9, la13, la21, la30, rd_p, rd_i, rd_s, h1]
        rw [rngL (n := 3) rfl, h2]
        rfl
      · unfold f_X10_turn_62
        simp only [p_isSide, p_isEither, p_hasSister e10 hn, p_hasEye e10 hn, p_hasQuarter e11 hQ6, p_hasWatch e10 hn, p_canTell e10 hn e11 hQ6, m_isSide, m_isPart, m_isSister e622 hn, m_isEye e622 hn, m_isQuarter e623 hQ6, m_isWatch e624 hn, Option.bind_some, b2i_z, Bool.true_eq_false, Bool.false_eq_true, if_false, if_true, Bool.and_true, Bool.true_and, Bool.false_and, Bool.and_false, la0, la3, la9, la13, la21, la30, rd_p, rd_i, rd_s, in_lit (n := 3) (hi := 3) rfl, h1, h2]
    | true =>
      obtain ⟨j, hj, rfl⟩ := inb_of h1 (by omega)
      have h2' := h2
      obtain ⟨x, hx, rfl⟩ := inb_of h2 (by omega)
      obtain ⟨w, hw, g1, g2⟩ := hP.1 j (by omega)
      have g1 : μ.1 5 j = nI w := g1
      have g2 : μ.1 63 j = nI w := by simpa using g2
      obtain ⟨μ1, hμ1⟩ : ∃ μ1, μ1 = pI μ 5 j (nI x) := ⟨_, rfl⟩
      have f622 : μ1.1 62 2 = nI n := by rw [hμ1]; simp (disch := omega) only [rd_p]; exact e622
      have f623 : μ1.1 62 3 = nI Q := by rw [hμ1]; simp (disch := omega) only [rd_p]; exact e623
      have f624 : μ1.1 62 4 = nI (3 ^ n) := by rw [hμ1]; simp (disch := omega) only [rd_p]; exact e624
      refine ⟨nI w, μ1, pI μ1 63 j (nI x), ?_, ?_, n, Q, by
        have h := upd_face (j := j) (by omega) hx hC0
        rw [hμ1]
        rwa [Nat.zero_add] at h⟩
      · unfold f_X9_turn_0
        simp only [p_isSide, p_isEither, p_hasSister e10 hn, p_hasEye e10 hn, p_hasQuarter e11 hQ6, p_hasWatch e10 hn, p_canTell e10 hn e11 hQ6, m_isSide, m_isPart, m_isSister e622 hn, m_isEye e622 hn, m_isQuarter e623 hQ6, m_isWatch e624 hn, Option.bind_some, b2i_z, Bool.true_eq_false, Bool.false_eq_true, if_false, if_true, Bool.and_true, Bool.true_and, Bool.false_and, Bool.and_false, la0, la3, la9, la13, la21, la30, rd_p, rd_i, rd_s, h1]
        rw [rngL (n := 3) rfl, if_pos h2']
        simp (disch := omega) only [p_isSide, p_isEither, p_hasSister e10 hn, p_hasEye e10 hn, p_hasQuarter e11 hQ6, p_hasWatch e10 hn, p_canTell e10 hn e11 hQ6, m_isSide, m_isPart, m_isSister e622 hn, m_isEye e622 hn, m_isQuarter e623 hQ6, m_isWatch e624 hn, Option.bind_some, b2i_z, Bool.true_eq_false, Bool.false_eq_true, if_false, if_true, Bool.and_true, Bool.true_and, Bool.false_and, Bool.and_false, la0, la3, la9, la13, la21, la30, rd_p, rd_i, rd_s, inb_nI, nI_clamp, g1, hμ1]
      · unfold f_X10_turn_62
        have g2' : μ1.1 63 j = nI w := by rw [hμ1, rd_p (by omega)]; exact g2
        simp (disch := omega) only [m_isSide, m_isPart, m_isSister f622 hn, m_isEye f622 hn, m_isQuarter f623 hQ6, m_isWatch f624 hn, Option.bind_some, b2i_z, Bool.true_eq_false, Bool.false_eq_true, if_false, if_true, Bool.and_true, Bool.true_and, Bool.false_and, Bool.and_false, la0, la3, la9, la13, la21, la30, rd_p, rd_i, rd_s, in_lit (n := 3) (hi := 3) rfl, h1, h2', inb_nI, nI_clamp, g2']

theorem s_tire (a0 a1 : Int32) : PStp (f_X9_tire_0 a0 a1) (f_X10_tire_62 a0 a1) := by
  intro μ hI0
  obtain ⟨n, Q, hC⟩ := hI0
  have hC0 := hC
  obtain ⟨⟨hn, hQ1, hQ6, e10, e622, e624, e11, e623, hk, hs⟩, hP, hI, hS, hT, hR⟩ := hC
  have h27 := p3 hn
  cases h1 : inb a0 (2 * n) with
  | false =>
    refine ⟨-1, μ, μ, ?_, ?_, n, Q, hC0⟩
    · unfold f_X9_tire_0
      simp only [p_isSide, p_isEither, p_hasSister e10 hn, p_hasEye e10 hn, p_hasQuarter e11 hQ6, p_hasWatch e10 hn, p_canTell e10 hn e11 hQ6, m_isSide, m_isPart, m_isSister e622 hn, m_isEye e622 hn, m_isQuarter e623 hQ6, m_isWatch e624 hn, Option.bind_some, b2i_z, Bool.true_eq_false, Bool.false_eq_true, if_false, if_true, Bool.and_true, Bool.true_and, Bool.false_and, Bool.and_false, la0, la3, la9, la13, la21, la30, rd_p, rd_i, rd_s, h1]
    · unfold f_X10_tire_62
      simp only [p_isSide, p_isEither, p_hasSister e10 hn, p_hasEye e10 hn, p_hasQuarter e11 hQ6, p_hasWatch e10 hn, p_canTell e10 hn e11 hQ6, m_isSide, m_isPart, m_isSister e622 hn, m_isEye e622 hn, m_isQuarter e623 hQ6, m_isWatch e624 hn, Option.bind_some, b2i_z, Bool.true_eq_false, Bool.false_eq_true, if_false, if_true, Bool.and_true, Bool.true_and, Bool.false_and, Bool.and_false, la0, la3, la9, la13, la21, la30, rd_p, rd_i, rd_s, h1]
  | true =>
    obtain ⟨j, hj, rfl⟩ := inb_of h1 (by omega)
    have hg := p_glass (μ := μ) hn hj
    have hm := m_glass hn hk hj
    cases h3 : gl μ j with
    | true =>
      refine ⟨-1, μ, μ, ?_, ?_, n, Q, hC0⟩
      · unfold f_X9_tire_0
        simp only [p_isSide, p_isEither, p_hasSister e10 hn, p_hasEye e10 hn, p_hasQuarter e11 hQ6, p_hasWatch e10 hn, p_canTell e10 hn e11 hQ6, m_isSide, m_isPart, m_isSister e622 hn, m_isEye e622 hn, m_isQuarter e623 hQ6, m_isWatch e624 hn, Option.bind_some, b2i_z, Bool.true_eq_false, Bool.false_eq_true, if_false, if_true, Bool.and_true, Bool.true_and, Bool.false_and, Bool.and_false, la0, la3, la9, la13, la21, la30, rd_p, rd_i, rd_s, h1, hg, h3]
      · unfold f_X10_tire_62
        simp only [p_isSide, p_isEither, p_hasSister e10 hn, p_hasEye e10 hn, p_hasQuarter e11 hQ6, p_hasWatch e10 hn, p_canTell e10 hn e11 hQ6, m_isSide, m_isPart, m_isSister e622 hn, m_isEye e622 hn, m_isQuarter e623 hQ6, m_isWatch e624 hn, Option.bind_some, b2i_z, Bool.true_eq_false, Bool.false_eq_true, if_false, if_true, Bool.and_true, Bool.true_and, Bool.false_and, Bool.and_false, la0, la3, la9, la13, la21, la30, rd_p, rd_i, rd_s, in_lit (n := 9) (hi := 9) rfl, h1, hm, h3]
        cases inb a1 (9 + 1) <;> rfl
    | false =>
      cases h2 : inb a1 10 with
      | false =>
        refine ⟨-1, μ, μ, ?_, ?_, n, Q, hC0⟩
        · unfold f_X9_tire_0
          simp only [p_isSide, p_isEither, p_hasSister e10 hn, p_hasEye e10 hn, p_hasQuarter e11 hQ6, p_hasWatch e10 hn, p_canTell e10 hn e11 hQ6, m_isSide, m_isPart, m_isSister e622 hn, m_isEye e622 hn, m_isQuarter e623 hQ6, m_isWatch e624 hn, Option.bind_some, b2i_z, Bool.true_eq_false, Bool.false_eq_true, if_false, if_true, Bool.and_true, Bool.true_and, Bool.false_and, Bool.and_false, la0, la3, la9, la13, la21, la30, rd_p, rd_i, rd_s, h1, hg, h3]
          rw [rngL (n := 9) rfl, h2]
          rfl
        · unfold f_X10_tire_62
          simp only [p_isSide, p_isEither, p_hasSister e10 hn, p_hasEye e10 hn, p_hasQuarter e11 hQ6, p_hasWatch e10 hn, p_canTell e10 hn e11 hQ6, m_isSide, m_isPart, m_isSister e622 hn, m_isEye e622 hn, m_isQuarter e623 hQ6, m_isWatch e624 hn, Option.bind_some, b2i_z, Bool.true_eq_false, Bool.false_eq_true, if_false, if_true, Bool.and_true, Bool.true_and, Bool.false_and, Bool.and_false, la0, la3, la9, la13, la21, la30, rd_p, rd_i, rd_s, in_lit (n := 9) (hi := 9) rfl, h1, h2]
      | true =>
        have h2' := h2
        obtain ⟨x, hx, rfl⟩ := inb_of h2 (by omega)
        obtain ⟨w, hw, g1, g2, g3⟩ := hP.2.1 j (by omega)
        have g1 : μ.1 6 j = nI w := g1
        have g2 : μ.1 63 (3 + j) = nI w := by simpa using g2
        obtain ⟨μ1, hμ1⟩ : ∃ μ1, μ1 = pI μ 6 j (nI x) := ⟨_, rfl⟩
        have f622 : μ1.1 62 2 = nI n := by rw [hμ1]; simp (disch := omega) only [rd_p]; exact e622
        have f623 : μ1.1 62 3 = nI Q := by rw [hμ1]; simp (disch := omega) only [rd_p]; exact e623
        have f624 : μ1.1 62 4 = nI (3 ^ n) := by rw [hμ1]; simp (disch := omega) only [rd_p]; exact e624
        refine ⟨nI w, μ1, pI μ1 63 (3 + j) (nI x), ?_, ?_, n, Q, by
          rw [hμ1]
          exact upd_tire (by omega) hx (by
            rintro ⟨a, b, c⟩
            simp [gl, a, c] at h3) hC0⟩
        · unfold f_X9_tire_0
          simp only [p_isSide, p_isEither, p_hasSister e10 hn, p_hasEye e10 hn, p_hasQuarter e11 hQ6, p_hasWatch e10 hn, p_canTell e10 hn e11 hQ6, m_isSide, m_isPart, m_isSister e622 hn, m_isEye e622 hn, m_isQuarter e623 hQ6, m_isWatch e624 hn, Option.bind_some, b2i_z, Bool.true_eq_false, Bool.false_eq_true, if_false, if_true, Bool.and_true, Bool.true_and, Bool.false_and, Bool.and_false, la0, la3, la9, la13, la21, la30, rd_p, rd_i, rd_s, h1, hg, h3]
          rw [rngL (n := 9) rfl, if_pos h2']
          simp (disch := omega) only [p_isSide, p_isEither, p_hasSister e10 hn, p_hasEye e10 hn, p_hasQuarter e11 hQ6, p_hasWatch e10 hn, p_canTell e10 hn e11 hQ6, m_isSide, m_isPart, m_isSister e622 hn, m_isEye e622 hn, m_isQuarter e623 hQ6, m_isWatch e624 hn, Option.bind_some, b2i_z, Bool.true_eq_false, Bool.false_eq_true, if_false, if_true, Bool.and_true, Bool.true_and, Bool.false_and, Bool.and_false, la0, la3, la9, la13, la21, la30, rd_p, rd_i, rd_s, inb_nI, nI_clamp, g1, hμ1]
        · unfold f_X10_tire_62
          have g2' : μ1.1 63 (3 + j) = nI w := by rw [hμ1, rd_p (by omega)]; exact g2
          have hm' := m_glass (μ := μ1) hn (fun s hs => by rw [hμ1, rd_p (by omega), rd_p (by omega)]; exact hk s hs) hj
          have e3 : gl μ1 j = false := by rw [hμ1]; unfold gl at h3 ⊢; rw [rd_p (by omega)]; exact h3
          simp (disch := omega) only [m_isSide, m_isPart, m_isSister f622 hn, m_isEye f622 hn, m_isQuarter f623 hQ6, m_isWatch f624 hn, Option.bind_some, b2i_z, Bool.true_eq_false, Bool.false_eq_true, if_false, if_true, Bool.and_true, Bool.true_and, Bool.false_and, Bool.and_false, la0, la3, la9, la13, la21, la30, rd_p, rd_i, rd_s, in_lit (n := 9) (hi := 9) rfl, h1, h2', hm', e3, inb_nI, nI_clamp, g2']

theorem s_storm (a0 a1 a2 : Int32) (hz : zb a2 = true) : PStp (f_X9_storm_0 a0 a1 a2) (f_X10_storm_62 a0 a1 a2) := by
  intro μ hI0
  obtain ⟨n, Q, hC⟩ := hI0
  have hC0 := hC
  obtain ⟨⟨hn, hQ1, hQ6, e10, e622, e624, e11, e623, hk, hs⟩, hP, hI, hS, hT, hR⟩ := hC
  have h27 := p3 hn
  cases h1 : inb a0 Q with
  | false =>
    refine ⟨-1, μ, μ, ?_, ?_, n, Q, hC0⟩
    · unfold f_X9_storm_0
      simp only [p_isSide, p_isEither, p_hasSister e10 hn, p_hasEye e10 hn, p_hasQuarter e11 hQ6, p_hasWatch e10 hn, p_canTell e10 hn e11 hQ6, m_isSide, m_isPart, m_isSister e622 hn, m_isEye e622 hn, m_isQuarter e623 hQ6, m_isWatch e624 hn, Option.bind_some, b2i_z, Bool.true_eq_false, Bool.false_eq_true, if_false, if_true, Bool.and_true, Bool.true_and, Bool.false_and, Bool.and_false, la0, la3, la9, la13, la21, la30, rd_p, rd_i, rd_s, h1]
    · unfold f_X10_storm_62
      simp only [p_isSide, p_isEither, p_hasSister e10 hn, p_hasEye e10 hn, p_hasQuarter e11 hQ6, p_hasWatch e10 hn, p_canTell e10 hn e11 hQ6, m_isSide, m_isPart, m_isSister e622 hn, m_isEye e622 hn, m_isQuarter e623 hQ6, m_isWatch e624 hn, Option.bind_some, b2i_z, Bool.true_eq_false, Bool.false_eq_true, if_false, if_true, Bool.and_true, Bool.true_and, Bool.false_and, Bool.and_false, la0, la3, la9, la13, la21, la30, rd_p, rd_i, rd_s, h1]
  | true =>
    cases h2 : inb a1 4 with
    | false =>
      refine ⟨-1, μ, μ, ?_, ?_, n, Q, hC0⟩
      · unfold f_X9_storm_0
        simp only [p_isSide, p_isEither, p_hasSister e10 hn, p_hasEye e10 hn, p_hasQuarter e11 hQ6, p_hasWatch e10 hn, p_canTell e10 hn e11 hQ6, m_isSide, m_isPart, m_isSister e622 hn, m_isEye e622 hn, m_isQuarter e623 hQ6, m_isWatch e624 hn, Option.bind_some, b2i_z, Bool.true_eq_false, Bool.false_eq_true, if_false, if_true, Bool.and_true, Bool.true_and, Bool.false_and, Bool.and_false, la0, la3, la9, la13, la21, la30, rd_p, rd_i, rd_s, h1, h2]
      · unfold f_X10_storm_62
        simp only [p_isSide, p_isEither, p_hasSister e10 hn, p_hasEye e10 hn, p_hasQuarter e11 hQ6, p_hasWatch e10 hn, p_canTell e10 hn e11 hQ6, m_isSide, m_isPart, m_isSister e622 hn, m_isEye e622 hn, m_isQuarter e623 hQ6, m_isWatch e624 hn, Option.bind_some, b2i_z, Bool.true_eq_false, Bool.false_eq_true, if_false, if_true, Bool.and_true, Bool.true_and, Bool.false_and, Bool.and_false, la0, la3, la9, la13, la21, la30, rd_p, rd_i, rd_s, h1, h2]
    | true =>
      obtain ⟨j, hj, rfl⟩ := inb_of h1 (by omega)
      obtain ⟨d, hd, rfl⟩ := inb_of h2 (by omega)
      obtain ⟨w, hw, g1, g2, g3⟩ := hP.2.2.2.1 j (by omega)
      have g1 : μ.1 8 j = nI w := g1
      have g2 : μ.1 63 (13 + j) = nI w := by simpa using g2
      by_cases h0 : a2 = 0
      · obtain ⟨x, hx, hex⟩ := st_clr w hw d hd
        obtain ⟨μ1, hμ1⟩ : ∃ μ1, μ1 = pI μ 8 j (nI x) := ⟨_, rfl⟩
        have f622 : μ1.1 62 2 = nI n := by rw [hμ1]; simp (disch := omega) only [rd_p]; exact e622
        have f623 : μ1.1 62 3 = nI Q := by rw [hμ1]; simp (disch := omega) only [rd_p]; exact e623
        have f624 : μ1.1 62 4 = nI (3 ^ n) := by rw [hμ1]; simp (disch := omega) only [rd_p]; exact e624
        refine ⟨(nI w >>> (nI d &&& 31)) &&& 1, μ1, pI μ1 63 (13 + j) (nI x), ?_, ?_, n, Q, by rw [hμ1]; exact upd_storm hj (by omega) hx hC0⟩
        · unfold f_X9_storm_0
          simp (disch := omega) only [p_isSide, p_isEither, p_hasSister e10 hn, p_hasEye e10 hn, p_hasQuarter e11 hQ6, p_hasWatch e10 hn, p_canTell e10 hn e11 hQ6, m_isSide, m_isPart, m_isSister e622 hn, m_isEye e622 hn, m_isQuarter e623 hQ6, m_isWatch e624 hn, Option.bind_some, b2i_z, Bool.true_eq_false, Bool.false_eq_true, if_false, if_true, Bool.and_true, Bool.true_and, Bool.false_and, Bool.and_false, la0, la3, la9, la13, la21, la30, rd_p, rd_i, rd_s, h1, h2, if_pos h0, inb_nI, nI_clamp, g1, hex, hμ1]
        · unfold f_X10_storm_62 f_X10_storm_62_J75
          have g2' : μ1.1 63 (13 + j) = nI w := by rw [hμ1, rd_p (by omega)]; exact g2
          simp (disch := omega) only [m_isSide, m_isPart, m_isSister f622 hn, m_isEye f622 hn, m_isQuarter f623 hQ6, m_isWatch f624 hn, Option.bind_some, b2i_z, Bool.true_eq_false, Bool.false_eq_true, if_false, if_true, Bool.and_true, Bool.true_and, Bool.false_and, Bool.and_false, la0, la3, la9, la13, la21, la30, rd_p, rd_i, rd_s, h1, h2, if_pos h0, inb_nI, nI_clamp, g2', hex]
      · obtain ⟨x, hx, hex⟩ := st_set w hw d hd
        obtain ⟨μ1, hμ1⟩ : ∃ μ1, μ1 = pI μ 8 j (nI x) := ⟨_, rfl⟩
        have f622 : μ1.1 62 2 = nI n := by rw [hμ1]; simp (disch := omega) only [rd_p]; exact e622
        have f623 : μ1.1 62 3 = nI Q := by rw [hμ1]; simp (disch := omega) only [rd_p]; exact e623
        have f624 : μ1.1 62 4 = nI (3 ^ n) := by rw [hμ1]; simp (disch := omega) only [rd_p]; exact e624
        refine ⟨(nI w >>> (nI d &&& 31)) &&& 1, μ1, pI μ1 63 (13 + j) (nI x), ?_, ?_, n, Q, by rw [hμ1]; exact upd_storm hj (by omega) hx hC0⟩
        · unfold f_X9_storm_0
          simp (disch := omega) only [p_isSide, p_isEither, p_hasSister e10 hn, p_hasEye e10 hn, p_hasQuarter e11 hQ6, p_hasWatch e10 hn, p_canTell e10 hn e11 hQ6, m_isSide, m_isPart, m_isSister e622 hn, m_isEye e622 hn, m_isQuarter e623 hQ6, m_isWatch e624 hn, Option.bind_some, b2i_z, Bool.true_eq_false, Bool.false_eq_true, if_false, if_true, Bool.and_true, Bool.true_and, Bool.false_and, Bool.and_false, la0, la3, la9, la13, la21, la30, rd_p, rd_i, rd_s, h1, h2, if_neg h0, inb_nI, nI_clamp, g1, hex, hμ1]
        · unfold f_X10_storm_62 f_X10_storm_62_J75
          have g2' : μ1.1 63 (13 + j) = nI w := by rw [hμ1, rd_p (by omega)]; exact g2
          simp (disch := omega) only [m_isSide, m_isPart, m_isSister f622 hn, m_isEye f622 hn, m_isQuarter f623 hQ6, m_isWatch f624 hn, Option.bind_some, b2i_z, Bool.true_eq_false, Bool.false_eq_true, if_false, if_true, Bool.and_true, Bool.true_and, Bool.false_and, Bool.and_false, la0, la3, la9, la13, la21, la30, rd_p, rd_i, rd_s, h1, h2, if_neg h0, inb_nI, nI_clamp, g2', hex]
