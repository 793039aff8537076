theorem p_become_12_4 (μ : Mem) : ∃ ν, f_X4_become_12_4 μ = some ν ∧ (∀ r k, ¬ (12 ≤ r ∧ r ≤ 18) → ν.1 r k = μ.1 r k) ∧ (∀ k, k < 3 → ν.1 13 k = μ.1 5 k) ∧ (∀ k, k < 6 → ν.1 14 k = μ.1 6 k) ∧ (∀ k, k < 4 → ν.1 15 k = μ.1 7 k) ∧ (∀ k, k < 6 → ν.1 16 k = μ.1 8 k) ∧ (∀ k, k < 6 → ν.1 17 k = μ.1 9 k) ∧ (∀ k, k < 8 → ν.1 18 k = μ.1 10 k) ∧ ν.1 12 6 = μ.1 4 6 ∧ ν.2 = μ.2 := by
  refine ⟨_, rfl, fun r k hr => ?_, fun k hk => ?_, fun k hk => ?_, fun k hk => ?_, fun k hk => ?_, fun k hk => ?_, fun k hk => ?_, ?_, rfl⟩
  · simp (disch := omega) only [rd_p, rdC_p]
  · simp (disch := omega) only [rd_p, rdC_p, rdC_in]
  · simp (disch := omega) only [rd_p, rdC_p, rdC_in]
  · simp (disch := omega) only [rd_p, rdC_p, rdC_in]
  · simp (disch := omega) only [rd_p, rdC_p, rdC_in]
  · simp (disch := omega) only [rd_p, rdC_p, rdC_in]
  · simp (disch := omega) only [rd_p, rdC_p, rdC_in]
  · simp (disch := omega) only [rd_s]

theorem p_become_19_4 (μ : Mem) : ∃ ν, f_X4_become_19_4 μ = some ν ∧ (∀ r k, ¬ (19 ≤ r ∧ r ≤ 25) → ν.1 r k = μ.1 r k) ∧ (∀ k, k < 3 → ν.1 20 k = μ.1 5 k) ∧ (∀ k, k < 6 → ν.1 21 k = μ.1 6 k) ∧ (∀ k, k < 4 → ν.1 22 k = μ.1 7 k) ∧ (∀ k, k < 6 → ν.1 23 k = μ.1 8 k) ∧ (∀ k, k < 6 → ν.1 24 k = μ.1 9 k) ∧ (∀ k, k < 8 → ν.1 25 k = μ.1 10 k) ∧ ν.1 19 6 = μ.1 4 6 ∧ ν.2 = μ.2 := by
  refine ⟨_, rfl, fun r k hr => ?_, fun k hk => ?_, fun k hk => ?_, fun k hk => ?_, fun k hk => ?_, fun k hk => ?_, fun k hk => ?_, ?_, rfl⟩
  · simp (disch := omega) only [rd_p, rdC_p]
  · simp (disch := omega) only [rd_p, rdC_p, rdC_in]
  · simp (disch := omega) only [rd_p, rdC_p, rdC_in]
  · simp (disch := omega) only [rd_p, rdC_p, rdC_in]
  · simp (disch := omega) only [rd_p, rdC_p, rdC_in]
  · simp (disch := omega) only [rd_p, rdC_p, rdC_in]
  · simp (disch := omega) only [rd_p, rdC_p, rdC_in]
  · simp (disch := omega) only [rd_s]

theorem p_become_4_12 (μ : Mem) : ∃ ν, f_X4_become_4_12 μ = some ν ∧ (∀ r k, ¬ (4 ≤ r ∧ r ≤ 10) → ν.1 r k = μ.1 r k) ∧ (∀ k, k < 3 → ν.1 5 k = μ.1 13 k) ∧ (∀ k, k < 6 → ν.1 6 k = μ.1 14 k) ∧ (∀ k, k < 4 → ν.1 7 k = μ.1 15 k) ∧ (∀ k, k < 6 → ν.1 8 k = μ.1 16 k) ∧ (∀ k, k < 6 → ν.1 9 k = μ.1 17 k) ∧ (∀ k, k < 8 → ν.1 10 k = μ.1 18 k) ∧ ν.1 4 6 = μ.1 12 6 ∧ ν.2 = μ.2 := by
  refine ⟨_, rfl, fun r k hr => ?_, fun k hk => ?_, fun k hk => ?_, fun k hk => ?_, fun k hk => ?_, fun k hk => ?_, fun k hk => ?_, ?_, rfl⟩
  · simp (disch := omega) only [rd_p, rdC_p]
  · simp (disch := omega) only [rd_p, rdC_p, rdC_in]
  · simp (disch := omega) only [rd_p, rdC_p, rdC_in]
  · simp (disch := omega) only [rd_p, rdC_p, rdC_in]
  · simp (disch := omega) only [rd_p, rdC_p, rdC_in]
  · simp (disch := omega) only [rd_p, rdC_p, rdC_in]
  · simp (disch := omega) only [rd_p, rdC_p, rdC_in]
  · simp (disch := omega) only [rd_s]

theorem p_become_4_19 (μ : Mem) : ∃ ν, f_X4_become_4_19 μ = some ν ∧ (∀ r k, ¬ (4 ≤ r ∧ r ≤ 10) → ν.1 r k = μ.1 r k) ∧ (∀ k, k < 3 → ν.1 5 k = μ.1 20 k) ∧ (∀ k, k < 6 → ν.1 6 k = μ.1 21 k) ∧ (∀ k, k < 4 → ν.1 7 k = μ.1 22 k) ∧ (∀ k, k < 6 → ν.1 8 k = μ.1 23 k) ∧ (∀ k, k < 6 → ν.1 9 k = μ.1 24 k) ∧ (∀ k, k < 8 → ν.1 10 k = μ.1 25 k) ∧ ν.1 4 6 = μ.1 19 6 ∧ ν.2 = μ.2 := by
  refine ⟨_, rfl, fun r k hr => ?_, fun k hk => ?_, fun k hk => ?_, fun k hk => ?_, fun k hk => ?_, fun k hk => ?_, fun k hk => ?_, ?_, rfl⟩
  · simp (disch := omega) only [rd_p, rdC_p]
  · simp (disch := omega) only [rd_p, rdC_p, rdC_in]
  · simp (disch := omega) only [rd_p, rdC_p, rdC_in]
  · simp (disch := omega) only [rd_p, rdC_p, rdC_in]
  · simp (disch := omega) only [rd_p, rdC_p, rdC_in]
  · simp (disch := omega) only [rd_p, rdC_p, rdC_in]
  · simp (disch := omega) only [rd_p, rdC_p, rdC_in]
  · simp (disch := omega) only [rd_s]

theorem p_become_4_40 (μ : Mem) : ∃ ν, f_X4_become_4_40 μ = some ν ∧ (∀ r k, ¬ (4 ≤ r ∧ r ≤ 10) → ν.1 r k = μ.1 r k) ∧ (∀ k, k < 3 → ν.1 5 k = μ.1 41 k) ∧ (∀ k, k < 6 → ν.1 6 k = μ.1 42 k) ∧ (∀ k, k < 4 → ν.1 7 k = μ.1 43 k) ∧ (∀ k, k < 6 → ν.1 8 k = μ.1 44 k) ∧ (∀ k, k < 6 → ν.1 9 k = μ.1 45 k) ∧ (∀ k, k < 8 → ν.1 10 k = μ.1 46 k) ∧ ν.1 4 6 = μ.1 40 6 ∧ ν.2 = μ.2 := by
  refine ⟨_, rfl, fun r k hr => ?_, fun k hk => ?_, fun k hk => ?_, fun k hk => ?_, fun k hk => ?_, fun k hk => ?_, fun k hk => ?_, ?_, rfl⟩
  · simp (disch := omega) only [rd_p, rdC_p]
  · simp (disch := omega) only [rd_p, rdC_p, rdC_in]
  · simp (disch := omega) only [rd_p, rdC_p, rdC_in]
  · simp (disch := omega) only [rd_p, rdC_p, rdC_in]
  · simp (disch := omega) only [rd_p, rdC_p, rdC_in]
  · simp (disch := omega) only [rd_p, rdC_p, rdC_in]
  · simp (disch := omega) only [rd_p, rdC_p, rdC_in]
  · simp (disch := omega) only [rd_s]

theorem s_keep (a0 : Int32) : PStp (f_X9_keep_0 a0) (f_X10_keep_62 a0) := by
  intro μ hI0
  obtain ⟨n, Q, hC⟩ := hI0
  have hC0 := hC
  obtain ⟨⟨hn, hQ1, hQ6, e10, e622, e624, e11, e623, hk, hs⟩, hP, hI, hS, hT, hR⟩ := hC
  have h27 := p3 hn
  obtain ⟨a, b, i1, i2, i3, i4, i5⟩ := hI
  cases h1 : inb a0 2 with
  | false =>
    refine ⟨-1, μ, μ, ?_, ?_, n, Q, hC0⟩
    · unfold f_X9_keep_0
      simp only [p_isImage, Option.bind_some, b2i_z, h1, if_true]
    · unfold f_X10_keep_62
      rw [in_lit (n := 1) (hi := 1) rfl]
      simp only [Option.bind_some, b2i_z, h1, if_true]
  | true =>
    have h1' := h1
    obtain ⟨j, hj, rfl⟩ := inb_of h1 (by omega)
    rcases (show j = 0 ∨ j = 1 by omega) with rfl | rfl
    · skip
      obtain ⟨ν, hν, w1, w2, w3, w4, w5, w6, w7, w8, w9⟩ := p_become_12_4 μ
      have k3 : ν.1 0 3 = nI (a.toNat + 2 * b.toNat) := by rw [w1 0 3 (by omega)]; exact i1
      have kor : ∀ a b : Bool, (nI (a.toNat + 2 * b.toNat) ||| ((1 : Int32) <<< ((0 : Int32) &&& 31))) = nI (1 + 2 * b.toNat) := by decide
      have kbit : ∀ a b : Bool, ((nI (a.toNat + 2 * b.toNat) >>> ((0 : Int32) &&& 31)) &&& 1) = b2i a := by decide
      obtain ⟨μ1, hμ1⟩ : ∃ μ1, μ1 = pI ν 0 3 (nI (1 + 2 * b.toNat)) := ⟨_, rfl⟩
      have hst : ∀ k, μ1.1 63 k = μ.1 63 k := fun k => by rw [hμ1, rd_p (by omega), w1 _ _ (by omega)]
      obtain ⟨μ2, h2, c1, c2, c3⟩ := m_copies (a := 54) (b := 0) (by omega) (by omega) (by omega) (pI μ1 64 0 1)
      refine ⟨b2i a, μ1, μ2, ?_, ?_, n, Q, ?_⟩
      · unfold f_X9_keep_0
        simp only [p_isImage, Option.bind_some, b2i_z, h1', Bool.true_eq_false, if_false]
        rw [if_pos (show nI 0 = 0 from rfl), hν]
        simp only [Option.bind_some]
        rw [k3, i1, show nI 0 = (0 : Int32) from rfl, kor, kbit, hμ1]
      · unfold f_X10_keep_62
        rw [in_lit (n := 1) (hi := 1) rfl]
        simp only [Option.bind_some, b2i_z, h1', Bool.true_eq_false, if_false]
        have e64 : μ1.1 64 0 = b2i a := by rw [hμ1, rd_p (by omega), w1 _ _ (by omega)]; exact i2
        rw [nI_clamp (by omega), e64]
        have hfl : f_X10_flag (b2i a) μ1 = some (b2i a, μ1) := by cases a <;> rfl
        rw [hfl]
        simp only [Option.bind_some]
        rw [show ((54 : Int32) * (nI 0 + (1 : Int32))) = nI 54 from by decide, show (0 : Int32) = nI 0 from rfl, h2]
        rfl
      · have hr : ∀ r k, ¬ (12 ≤ r ∧ r ≤ 18) → ¬ (r = 0 ∧ k = 3) → ¬ (r = 64 ∧ k = 0) → ¬ (r = 63 ∧ 54 ≤ k ∧ k < 108) → μ2.1 r k = μ.1 r k := by
          intro r k g1 g2 g3 g4
          rw [c1 r k g4]
          by_cases hr64 : r = 64
          · subst hr64
            rw [rd_i (by omega), hμ1, rd_p (by omega), w1 _ _ g1]
          · rw [rd_p hr64, hμ1]
            by_cases hr0 : r = 0
            · subst hr0
              rw [rd_i (by omega), w1 _ _ g1]
            · rw [rd_p hr0, w1 _ _ g1]
        have hrp : ∀ r k, (12 ≤ r ∧ r ≤ 18) → μ2.1 r k = ν.1 r k := by
          intro r k g1
          rw [c1 r k (by omega), rd_p (by omega), hμ1, rd_p (by omega)]
        have himg : PostR n Q μ2 12 54 := by
          refine PostR.cpy (p := 4) (o := 0) (fun k hk => ?_) (fun k hk => ?_) (fun k hk => ?_) (fun k hk => ?_) (fun k hk => ?_) (fun k hk => ?_) ?_ (fun k => ?_) (fun k hk => ?_) hP
          · rw [hrp _ _ (by omega)]; exact w2 k hk
          · rw [hrp _ _ (by omega)]; exact w3 k hk
          · rw [hrp _ _ (by omega)]; exact w4 k hk
          · rw [hrp _ _ (by omega)]; exact w5 k hk
          · rw [hrp _ _ (by omega)]; exact w6 k hk
          · rw [hrp _ _ (by omega)]; exact w7 k hk
          · rw [hrp _ _ (by omega)]; exact w8
          · exact hr _ _ (by omega) (by omega) (by omega) (by omega)
          · rw [c2 k hk]
            dsimp only
            rw [rd_p (by omega)]
            exact hst _
        refine Core.img (fun r k g1 g2 g3 g4 => hr r k (by omega) g3 (by omega) (by omega)) ?_ hC0
        refine ⟨true, b, ?_, ?_, ?_, fun h => ?_, fun h => ?_⟩
        · rw [c1 _ _ (by omega), rd_p (by omega), hμ1, rd_s]
          rfl
        · rw [c1 _ _ (by omega), rd_s]; rfl
        · rw [c1 _ _ (by omega), rd_i (by omega), hμ1, rd_p (by omega), w1 _ _ (by omega)]; exact i3
        · exact himg
        · exact (i5 h).fr (fun jj k hj => hr _ _ (by omega) (by omega) (by omega) (by omega)) (fun k => hr _ _ (by omega) (by omega) (by omega) (by omega)) (fun k g1 g2 => hr _ _ (by omega) (by omega) (by omega) (by omega))
    · skip
      obtain ⟨ν, hν, w1, w2, w3, w4, w5, w6, w7, w8, w9⟩ := p_become_19_4 μ
      have k3 : ν.1 0 3 = nI (a.toNat + 2 * b.toNat) := by rw [w1 0 3 (by omega)]; exact i1
      have kor : ∀ a b : Bool, (nI (a.toNat + 2 * b.toNat) ||| ((1 : Int32) <<< ((1 : Int32) &&& 31))) = nI (a.toNat + 2 * 1) := by decide
      have kbit : ∀ a b : Bool, ((nI (a.toNat + 2 * b.toNat) >>> ((1 : Int32) &&& 31)) &&& 1) = b2i b := by decide
      obtain ⟨μ1, hμ1⟩ : ∃ μ1, μ1 = pI ν 0 3 (nI (a.toNat + 2 * 1)) := ⟨_, rfl⟩
      have hst : ∀ k, μ1.1 63 k = μ.1 63 k := fun k => by rw [hμ1, rd_p (by omega), w1 _ _ (by omega)]
      obtain ⟨μ2, h2, c1, c2, c3⟩ := m_copies (a := 108) (b := 0) (by omega) (by omega) (by omega) (pI μ1 64 1 1)
      refine ⟨b2i b, μ1, μ2, ?_, ?_, n, Q, ?_⟩
      · unfold f_X9_keep_0
        simp only [p_isImage, Option.bind_some, b2i_z, h1', Bool.true_eq_false, if_false]
        rw [if_neg (show ¬ nI 1 = 0 by decide), if_pos (show nI 1 = 1 from rfl), hν]
        simp only [Option.bind_some]
        rw [k3, i1, show nI 1 = (1 : Int32) from rfl, kor, kbit, hμ1]
      · unfold f_X10_keep_62
        rw [in_lit (n := 1) (hi := 1) rfl]
        simp only [Option.bind_some, b2i_z, h1', Bool.true_eq_false, if_false]
        have e64 : μ1.1 64 1 = b2i b := by rw [hμ1, rd_p (by omega), w1 _ _ (by omega)]; exact i3
        rw [nI_clamp (by omega), e64]
        have hfl : f_X10_flag (b2i b) μ1 = some (b2i b, μ1) := by cases b <;> rfl
        rw [hfl]
        simp only [Option.bind_some]
        rw [show ((54 : Int32) * (nI 1 + (1 : Int32))) = nI 108 from by decide, show (0 : Int32) = nI 0 from rfl, h2]
        rfl
      · have hr : ∀ r k, ¬ (19 ≤ r ∧ r ≤ 25) → ¬ (r = 0 ∧ k = 3) → ¬ (r = 64 ∧ k = 1) → ¬ (r = 63 ∧ 108 ≤ k ∧ k < 162) → μ2.1 r k = μ.1 r k := by
          intro r k g1 g2 g3 g4
          rw [c1 r k g4]
          by_cases hr64 : r = 64
          · subst hr64
            rw [rd_i (by omega), hμ1, rd_p (by omega), w1 _ _ g1]
          · rw [rd_p hr64, hμ1]
            by_cases hr0 : r = 0
            · subst hr0
              rw [rd_i (by omega), w1 _ _ g1]
            · rw [rd_p hr0, w1 _ _ g1]
        have hrp : ∀ r k, (19 ≤ r ∧ r ≤ 25) → μ2.1 r k = ν.1 r k := by
          intro r k g1
          rw [c1 r k (by omega), rd_p (by omega), hμ1, rd_p (by omega)]
        have himg : PostR n Q μ2 19 108 := by
          refine PostR.cpy (p := 4) (o := 0) (fun k hk => ?_) (fun k hk => ?_) (fun k hk => ?_) (fun k hk => ?_) (fun k hk => ?_) (fun k hk => ?_) ?_ (fun k => ?_) (fun k hk => ?_) hP
          · rw [hrp _ _ (by omega)]; exact w2 k hk
          · rw [hrp _ _ (by omega)]; exact w3 k hk
          · rw [hrp _ _ (by omega)]; exact w4 k hk
          · rw [hrp _ _ (by omega)]; exact w5 k hk
          · rw [hrp _ _ (by omega)]; exact w6 k hk
          · rw [hrp _ _ (by omega)]; exact w7 k hk
          · rw [hrp _ _ (by omega)]; exact w8
          · exact hr _ _ (by omega) (by omega) (by omega) (by omega)
          · rw [c2 k hk]
            dsimp only
            rw [rd_p (by omega)]
            exact hst _
        refine Core.img (fun r k g1 g2 g3 g4 => hr r k (by omega) g3 (by omega) (by omega)) ?_ hC0
        refine ⟨a, true, ?_, ?_, ?_, fun h => ?_, fun h => ?_⟩
        · rw [c1 _ _ (by omega), rd_p (by omega), hμ1, rd_s]
          rfl
        · rw [c1 _ _ (by omega), rd_i (by omega), hμ1, rd_p (by omega), w1 _ _ (by omega)]; exact i2
        · rw [c1 _ _ (by omega), rd_s]; rfl
        · exact (i4 h).fr (fun jj k hj => hr _ _ (by omega) (by omega) (by omega) (by omega)) (fun k => hr _ _ (by omega) (by omega) (by omega) (by omega)) (fun k g1 g2 => hr _ _ (by omega) (by omega) (by omega) (by omega))
        · exact himg

theorem s_back (a0 : Int32) : PStp (f_X9_back_0 a0) (f_X10_back_62 a0) := by
  intro μ hI0
  obtain ⟨n, Q, hC⟩ := hI0
  have hC0 := hC
  obtain ⟨⟨hn, hQ1, hQ6, e10, e622, e624, e11, e623, hk, hs⟩, hP, hI, hS, hT, hR⟩ := hC
  have h27 := p3 hn
  obtain ⟨a, b, i1, i2, i3, i4, i5⟩ := hI
  cases h1 : inb a0 2 with
  | false =>
    refine ⟨-1, μ, μ, ?_, ?_, n, Q, hC0⟩
    · unfold f_X9_back_0
      simp only [p_isImage, Option.bind_some, b2i_z, h1, if_true]
    · unfold f_X10_back_62
      rw [in_lit (n := 1) (hi := 1) rfl]
      simp only [Option.bind_some, b2i_z, h1, if_true]
  | true =>
    have h1' := h1
    obtain ⟨j, hj, rfl⟩ := inb_of h1 (by omega)
    rcases (show j = 0 ∨ j = 1 by omega) with rfl | rfl
    · skip
      have kbit : ∀ a b : Bool, ((nI (a.toNat + 2 * b.toNat) >>> ((0 : Int32) &&& 31)) &&& 1) = b2i a := by decide
      cases hm : a with
      | false =>
        refine ⟨-2, μ, μ, ?_, ?_, n, Q, hC0⟩
        · unfold f_X9_back_0
          simp only [p_isImage, Option.bind_some, b2i_z, h1', Bool.true_eq_false, if_false]
          rw [i1, show nI 0 = (0 : Int32) from rfl, kbit, hm]
          rfl
        · unfold f_X10_back_62
          rw [in_lit (n := 1) (hi := 1) rfl]
          simp only [Option.bind_some, b2i_z, h1', Bool.true_eq_false, if_false]
          rw [nI_clamp (by omega), i2, hm]
          rfl
      | true =>
        obtain ⟨ν, hν, w1, w2, w3, w4, w5, w6, w7, w8, w9⟩ := p_become_4_12 μ
        obtain ⟨μ2, h2, c1, c2, c3⟩ := m_copies (a := 0) (b := 54) (by omega) (by omega) (by omega) ν
        have hr : ∀ r k, ¬ (4 ≤ r ∧ r ≤ 10) → ¬ (r = 63 ∧ k < 54) → μ2.1 r k = μ.1 r k := by
          intro r k g1 g4
          rw [c1 r k (by omega), w1 r k g1]
        have hrp : ∀ r k, (4 ≤ r ∧ r ≤ 10) → μ2.1 r k = ν.1 r k := by
          intro r k g1
          rw [c1 r k (by omega)]
        refine ⟨nI n, ν, μ2, ?_, ?_, n, Q, ?_⟩
        · unfold f_X9_back_0
          simp only [p_isImage, Option.bind_some, b2i_z, h1', Bool.true_eq_false, if_false]
          rw [i1, show nI 0 = (0 : Int32) from rfl, kbit, hm, if_neg (show ¬ b2i true = 0 by decide), if_pos (show (0 : Int32) = 0 from rfl), hν]
          simp only [Option.bind_some]
          rw [w1 1 0 (by omega), e10]
        · unfold f_X10_back_62
          rw [in_lit (n := 1) (hi := 1) rfl]
          simp only [Option.bind_some, b2i_z, h1', Bool.true_eq_false, if_false]
          rw [nI_clamp (by omega), w1 _ _ (by omega), i2, hm, if_neg (show ¬ b2i true = 0 by decide), show ((54 : Int32) * (nI 0 + (1 : Int32))) = nI 54 from by decide, show (0 : Int32) = nI 0 from rfl, h2]
          simp only [Option.bind_some]
          rw [hr 62 2 (by omega) (by omega), e622]
        · refine Core.post (fun r k g1 g2 => hr r k (by omega) g2) ?_ hC0
          refine PostR.cpy (p := 12) (o := 54) (fun k hk => ?_) (fun k hk => ?_) (fun k hk => ?_) (fun k hk => ?_) (fun k hk => ?_) (fun k hk => ?_) ?_ (fun k => ?_) (fun k hk => ?_) (i4 hm)
          · rw [hrp _ _ (by omega)]; exact w2 k hk
          · rw [hrp _ _ (by omega)]; exact w3 k hk
          · rw [hrp _ _ (by omega)]; exact w4 k hk
          · rw [hrp _ _ (by omega)]; exact w5 k hk
          · rw [hrp _ _ (by omega)]; exact w6 k hk
          · rw [hrp _ _ (by omega)]; exact w7 k hk
          · rw [hrp _ _ (by omega)]; exact w8
          · exact hr _ _ (by omega) (by omega)
          · rw [c2 k hk]
            dsimp only
            rw [w1 _ _ (by omega)]
    · skip
      have kbit : ∀ a b : Bool, ((nI (a.toNat + 2 * b.toNat) >>> ((1 : Int32) &&& 31)) &&& 1) = b2i b := by decide
      cases hm : b with
      | false =>
        refine ⟨-2, μ, μ, ?_, ?_, n, Q, hC0⟩
        · unfold f_X9_back_0
          simp only [p_isImage, Option.bind_some, b2i_z, h1', Bool.true_eq_false, if_false]
          rw [i1, show nI 1 = (1 : Int32) from rfl, kbit, hm]
          rfl
        · unfold f_X10_back_62
          rw [in_lit (n := 1) (hi := 1) rfl]
          simp only [Option.bind_some, b2i_z, h1', Bool.true_eq_false, if_false]
          rw [nI_clamp (by omega), i3, hm]
          rfl
      | true =>
        obtain ⟨ν, hν, w1, w2, w3, w4, w5, w6, w7, w8, w9⟩ := p_become_4_19 μ
        obtain ⟨μ2, h2, c1, c2, c3⟩ := m_copies (a := 0) (b := 108) (by omega) (by omega) (by omega) ν
        have hr : ∀ r k, ¬ (4 ≤ r ∧ r ≤ 10) → ¬ (r = 63 ∧ k < 54) → μ2.1 r k = μ.1 r k := by
          intro r k g1 g4
          rw [c1 r k (by omega), w1 r k g1]
        have hrp : ∀ r k, (4 ≤ r ∧ r ≤ 10) → μ2.1 r k = ν.1 r k := by
          intro r k g1
          rw [c1 r k (by omega)]
        refine ⟨nI n, ν, μ2, ?_, ?_, n, Q, ?_⟩
        · unfold f_X9_back_0
          simp only [p_isImage, Option.bind_some, b2i_z, h1', Bool.true_eq_false, if_false]
          rw [i1, show nI 1 = (1 : Int32) from rfl, kbit, hm, if_neg (show ¬ b2i true = 0 by decide), if_neg (show ¬ (1 : Int32) = 0 by decide), if_pos (show (1 : Int32) = 1 from rfl), hν]
          simp only [Option.bind_some]
          rw [w1 1 0 (by omega), e10]
        · unfold f_X10_back_62
          rw [in_lit (n := 1) (hi := 1) rfl]
          simp only [Option.bind_some, b2i_z, h1', Bool.true_eq_false, if_false]
          rw [nI_clamp (by omega), w1 _ _ (by omega), i3, hm, if_neg (show ¬ b2i true = 0 by decide), show ((54 : Int32) * (nI 1 + (1 : Int32))) = nI 108 from by decide, show (0 : Int32) = nI 0 from rfl, h2]
          simp only [Option.bind_some]
          rw [hr 62 2 (by omega) (by omega), e622]
        · refine Core.post (fun r k g1 g2 => hr r k (by omega) g2) ?_ hC0
          refine PostR.cpy (p := 19) (o := 108) (fun k hk => ?_) (fun k hk => ?_) (fun k hk => ?_) (fun k hk => ?_) (fun k hk => ?_) (fun k hk => ?_) ?_ (fun k => ?_) (fun k hk => ?_) (i5 hm)
          · rw [hrp _ _ (by omega)]; exact w2 k hk
          · rw [hrp _ _ (by omega)]; exact w3 k hk
          · rw [hrp _ _ (by omega)]; exact w4 k hk
          · rw [hrp _ _ (by omega)]; exact w5 k hk
          · rw [hrp _ _ (by omega)]; exact w6 k hk
          · rw [hrp _ _ (by omega)]; exact w7 k hk
          · rw [hrp _ _ (by omega)]; exact w8
          · exact hr _ _ (by omega) (by omega)
          · rw [c2 k hk]
            dsimp only
            rw [w1 _ _ (by omega)]
