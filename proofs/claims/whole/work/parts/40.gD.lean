theorem m_isSheet (x y : Int32) (μ : Mem) : f_X10_isSheet x y μ = some (b2i (inb x 4 && inb y 3), μ) := by
  unfold f_X10_isSheet
  rw [in_lit (n := 3) (hi := 3) rfl]
  simp only [Option.bind_some, b2i_z]
  rw [in_lit (n := 2) (hi := 2) rfl]
  simp only [Option.bind_some, b2i_z]
  cases inb x (3 + 1) <;> cases inb y (2 + 1) <;> rfl
theorem m_clear {j : Nat} (hj : j < 4) (μ : Mem) : ∃ ρ : Int32 × Mem, it2 (f_X10_sheet_62_L40 (nI j)) FU 0 μ = some ρ ∧ ρ.1 = 1 ∧ setW μ ρ.2 78 (40 * j) 40 (fun _ => 0) := by
  refine for_rel nI 40 (fun i ν => setW μ ν 78 (40 * j) i (fun _ => 0)) _ (fun k i ν hi hP => ?_) (fun k ν hP => ?_) FU 0 μ (by omega) (fu_gt (by omega)) setW.z
  · unfold f_X10_sheet_62_L40
    rw [if_neg (show ¬ (40 : Int32) ≤ nI i from nI_ge (b := 40) hi (by omega)), lm40, nI_add, inb_nI (by omega) (by omega), nI_clamp (by omega), al1]
    exact ⟨_, rfl, hP.s⟩
  · unfold f_X10_sheet_62_L40
    rw [if_pos (show (40 : Int32) ≤ nI 40 from by decide)]
    exact ⟨_, rfl, rfl, hP⟩
theorem i32_0le {x : Int32} {N : Nat} (h1 : x.toInt ≤ N) (h2 : 0 ≤ x) (hN : N < 2 ^ 30) : ∃ z, z ≤ N ∧ x = nI z := by
  have h0 : (0 : Int32).toInt = 0 := rfl
  rw [i32_le, h0] at h2
  obtain ⟨j, hj, rfl⟩ := inb_of (x := x) (n := N + 1) (inb_iff.mpr ⟨h2, by omega⟩) (by omega)
  exact ⟨j, by omega, rfl⟩

def nar (l : Nat) (v : Int32) : Int32 := if l = 0 then v.toInt8.toInt32 else if l = 1 then v.toInt16.toInt32 else v

set_option maxRecDepth 100000 in
theorem s_sheet (a0 a1 a2 : Int32) : PStp (f_X9_sheet_0 a0 a1 a2) (f_X10_sheet_62 a0 a1 a2) := by
  intro μ hI0
  obtain ⟨n, Q, hC⟩ := hI0
  have hC0 := hC
  obtain ⟨⟨hn, hQ1, hQ6, e10, e622, e624, e11, e623, hk, hs⟩, hP, hI, hS, hT, hR⟩ := hC
  have h27 := p3 hn
  cases h1 : inb a0 4 with
  | false =>
    refine ⟨-1, μ, μ, ?_, ?_, n, Q, hC0⟩
    · unfold f_X9_sheet_0
      simp only [p_isSheet, p_isLane, Option.bind_some, b2i_z, h1, Bool.true_eq_false, if_false, if_true]
    · unfold f_X10_sheet_62
      simp only [m_isSheet, Option.bind_some, b2i_z, h1, Bool.true_eq_false, if_false, if_true, Bool.false_and, Bool.and_false]
  | true =>
    cases h2 : inb a1 3 with
    | false =>
      refine ⟨-1, μ, μ, ?_, ?_, n, Q, hC0⟩
      · unfold f_X9_sheet_0
        simp only [p_isSheet, p_isLane, Option.bind_some, b2i_z, h1, h2, Bool.true_eq_false, if_false, if_true]
      · unfold f_X10_sheet_62
        simp only [m_isSheet, Option.bind_some, b2i_z, h1, h2, Bool.true_eq_false, if_false, if_true, Bool.false_and, Bool.and_false]
    | true =>
      have h1' := h1
      have h2' := h2
      by_cases c40 : a2 ≤ 40
      case neg =>
        refine ⟨-1, μ, μ, ?_, ?_, n, Q, hC0⟩
        · unfold f_X9_sheet_0
          simp only [p_isSheet, p_isLane, Option.bind_some, b2i_z, h1, h2, Bool.true_eq_false, if_false]
          rw [if_neg c40]
        · unfold f_X10_sheet_62
          simp only [m_isSheet, Option.bind_some, b2i_z, h1, h2, Bool.true_eq_false, if_false, Bool.and_self]
          rw [if_neg c40]
      by_cases c00 : 0 ≤ a2
      case neg =>
        refine ⟨-14, μ, μ, ?_, ?_, n, Q, hC0⟩
        · unfold f_X9_sheet_0
          simp only [p_isSheet, p_isLane, Option.bind_some, b2i_z, h1, h2, Bool.true_eq_false, if_false]
          rw [if_pos c40, if_neg c00]
        · unfold f_X10_sheet_62
          simp only [m_isSheet, Option.bind_some, b2i_z, h1, h2, Bool.true_eq_false, if_false, Bool.and_self]
          rw [if_pos c40, if_neg c00]
      have c40' : a2.toInt ≤ (40 : Nat) := by rw [i32_le] at c40; exact c40
      obtain ⟨z, hz, rfl⟩ := i32_0le c40' c00 (by omega)
      obtain ⟨l, hl, rfl⟩ := inb_of h2 (by omega)
      obtain ⟨j, hj, rfl⟩ := inb_of h1 (by omega)
      rcases (show j = 0 ∨ j = 1 ∨ j = 2 ∨ j = 3 by omega) with rfl | rfl | rfl | rfl
      · obtain ⟨ν, hν, w1, w2, w3⟩ := p_fill_28 0 (pI (pI μ 27 0 (nI l)) 27 1 (nI z))
        obtain ⟨ρ, hρ, r1, c1, c2, c3⟩ := m_clear (j := 0) (by omega) (pI (pI ν 76 0 (nI l)) 77 0 (nI z))
        refine ⟨1, ν, ρ.2, ?_, ?_, n, Q, ?_⟩
        · unfold f_X9_sheet_0
          simp only [p_isSheet, p_isLane, Option.bind_some, b2i_z, h1', h2', Bool.true_eq_false, if_false]
          rw [if_pos c40, if_pos c00, if_pos (show nI 0 = 0 from rfl)]
          unfold f_X6_begin_27
          rw [hν]
          rfl
        · unfold f_X10_sheet_62
          simp only [m_isSheet, Option.bind_some, b2i_z, h1', h2', Bool.true_eq_false, if_false, Bool.and_self]
          rw [if_pos c40, if_pos c00, nI_clamp (by omega), hρ]
          rw [← r1]
        · have hr : ∀ r k, r ≠ 27 → r ≠ 28 → ¬ (r = 76 ∧ k = 0) → ¬ (r = 77 ∧ k = 0) → ¬ (r = 78 ∧ 40 * 0 ≤ k ∧ k < 40 * 0 + 40) → ρ.2.1 r k = μ.1 r k := by
            intro r k g1 g2 g3 g4 g5
            rw [c1 r k g5]
            have e1 : (pI (pI ν 76 0 (nI l)) 77 0 (nI z)).1 r k = ν.1 r k := by
              by_cases h77 : r = 77
              · subst h77
                rw [rd_i (by omega), rd_p (by omega)]
              · rw [rd_p h77]
                by_cases h76 : r = 76
                · subst h76
                  rw [rd_i (by omega)]
                · rw [rd_p h76]
            rw [e1, w1 r k (by omega), rd_p g1, rd_p g1]
          refine Core.sheets (fun r k g1 g2 g3 g4 g5 g6 => hr r k (by omega) (by omega) (by omega) (by omega) (by omega)) (fun k hk4 => ?_) ?_ hC0
          · by_cases hkj : k = 0
            · subst hkj
              refine Or.inr ⟨l, z, hl, hz, ?_, ?_, ?_, ?_, fun i hi => ?_⟩
              · rw [c1 _ _ (by omega), rd_p (by omega), rd_p (by omega), w1 _ _ (by omega), rd_i (by omega), rd_s]
              · rw [c1 _ _ (by omega), rd_p (by omega), rd_s]
              · rw [c1 _ _ (by omega), rd_p (by omega), rd_p (by omega), w1 _ _ (by omega), rd_s]
              · rw [c1 _ _ (by omega), rd_s]
              · rw [c2 i hi, c1 _ _ (by omega), rd_p (by omega), rd_p (by omega)]
                have := w2 i hi
                rw [Nat.zero_add] at this
                exact this
            · exact (hS k hk4).fr (fun i => hr _ _ (by omega) (by omega) (by omega) (by omega) (by omega)) (fun i => hr _ _ (by omega) (by omega) (by omega) (by omega) (by omega)) (hr _ _ (by omega) (by omega) (by omega) (by omega) (by omega)) (hr _ _ (by omega) (by omega) (by omega) (by omega) (by omega)) (fun i hi => hr _ _ (by omega) (by omega) (by omega) (by omega) (by omega))
          · rw [hr 0 5 (by omega) (by omega) (by omega) (by omega) (by omega), hr 62 38 (by omega) (by omega) (by omega) (by omega) (by omega)]
            exact hR.2.1
      · obtain ⟨ν, hν, w1, w2, w3⟩ := p_fill_30 0 (pI (pI μ 29 0 (nI l)) 29 1 (nI z))
        obtain ⟨ρ, hρ, r1, c1, c2, c3⟩ := m_clear (j := 1) (by omega) (pI (pI ν 76 1 (nI l)) 77 1 (nI z))
        refine ⟨1, ν, ρ.2, ?_, ?_, n, Q, ?_⟩
        · unfold f_X9_sheet_0
          simp only [p_isSheet, p_isLane, Option.bind_some, b2i_z, h1', h2', Bool.true_eq_false, if_false]
          rw [if_pos c40, if_pos c00, if_neg (show ¬ nI 1 = 0 by decide), if_pos (show nI 1 = 1 from rfl)]
          unfold f_X6_begin_29
          rw [hν]
          rfl
        · unfold f_X10_sheet_62
          simp only [m_isSheet, Option.bind_some, b2i_z, h1', h2', Bool.true_eq_false, if_false, Bool.and_self]
          rw [if_pos c40, if_pos c00, nI_clamp (by omega), hρ]
          rw [← r1]
        · have hr : ∀ r k, r ≠ 29 → r ≠ 30 → ¬ (r = 76 ∧ k = 1) → ¬ (r = 77 ∧ k = 1) → ¬ (r = 78 ∧ 40 * 1 ≤ k ∧ k < 40 * 1 + 40) → ρ.2.1 r k = μ.1 r k := by
            intro r k g1 g2 g3 g4 g5
            rw [c1 r k g5]
            have e1 : (pI (pI ν 76 1 (nI l)) 77 1 (nI z)).1 r k = ν.1 r k := by
              by_cases h77 : r = 77
              · subst h77
                rw [rd_i (by omega), rd_p (by omega)]
              · rw [rd_p h77]
                by_cases h76 : r = 76
                · subst h76
                  rw [rd_i (by omega)]
                · rw [rd_p h76]
            rw [e1, w1 r k (by omega), rd_p g1, rd_p g1]
          refine Core.sheets (fun r k g1 g2 g3 g4 g5 g6 => hr r k (by omega) (by omega) (by omega) (by omega) (by omega)) (fun k hk4 => ?_) ?_ hC0
          · by_cases hkj : k = 1
            · subst hkj
              refine Or.inr ⟨l, z, hl, hz, ?_, ?_, ?_, ?_, fun i hi => ?_⟩
              · rw [c1 _ _ (by omega), rd_p (by omega), rd_p (by omega), w1 _ _ (by omega), rd_i (by omega), rd_s]
              · rw [c1 _ _ (by omega), rd_p (by omega), rd_s]
              · rw [c1 _ _ (by omega), rd_p (by omega), rd_p (by omega), w1 _ _ (by omega), rd_s]
              · rw [c1 _ _ (by omega), rd_s]
              · rw [c2 i hi, c1 _ _ (by omega), rd_p (by omega), rd_p (by omega)]
                have := w2 i hi
                rw [Nat.zero_add] at this
                exact this
            · exact (hS k hk4).fr (fun i => hr _ _ (by omega) (by omega) (by omega) (by omega) (by omega)) (fun i => hr _ _ (by omega) (by omega) (by omega) (by omega) (by omega)) (hr _ _ (by omega) (by omega) (by omega) (by omega) (by omega)) (hr _ _ (by omega) (by omega) (by omega) (by omega) (by omega)) (fun i hi => hr _ _ (by omega) (by omega) (by omega) (by omega) (by omega))
          · rw [hr 0 5 (by omega) (by omega) (by omega) (by omega) (by omega), hr 62 38 (by omega) (by omega) (by omega) (by omega) (by omega)]
            exact hR.2.1
      · obtain ⟨ν, hν, w1, w2, w3⟩ := p_fill_32 0 (pI (pI μ 31 0 (nI l)) 31 1 (nI z))
        obtain ⟨ρ, hρ, r1, c1, c2, c3⟩ := m_clear (j := 2) (by omega) (pI (pI ν 76 2 (nI l)) 77 2 (nI z))
        refine ⟨1, ν, ρ.2, ?_, ?_, n, Q, ?_⟩
        · unfold f_X9_sheet_0
          simp only [p_isSheet, p_isLane, Option.bind_some, b2i_z, h1', h2', Bool.true_eq_false, if_false]
          rw [if_pos c40, if_pos c00, if_neg (show ¬ nI 2 = 0 by decide), if_neg (show ¬ nI 2 = 1 by decide), if_pos (show nI 2 = 2 from rfl)]
          unfold f_X6_begin_31
          rw [hν]
          rfl
        · unfold f_X10_sheet_62
          simp only [m_isSheet, Option.bind_some, b2i_z, h1', h2', Bool.true_eq_false, if_false, Bool.and_self]
          rw [if_pos c40, if_pos c00, nI_clamp (by omega), hρ]
          rw [← r1]
        · have hr : ∀ r k, r ≠ 31 → r ≠ 32 → ¬ (r = 76 ∧ k = 2) → ¬ (r = 77 ∧ k = 2) → ¬ (r = 78 ∧ 40 * 2 ≤ k ∧ k < 40 * 2 + 40) → ρ.2.1 r k = μ.1 r k := by
            intro r k g1 g2 g3 g4 g5
            rw [c1 r k g5]
            have e1 : (pI (pI ν 76 2 (nI l)) 77 2 (nI z)).1 r k = ν.1 r k := by
              by_cases h77 : r = 77
              · subst h77
                rw [rd_i (by omega), rd_p (by omega)]
              · rw [rd_p h77]
                by_cases h76 : r = 76
                · subst h76
                  rw [rd_i (by omega)]
                · rw [rd_p h76]
            rw [e1, w1 r k (by omega), rd_p g1, rd_p g1]
          refine Core.sheets (fun r k g1 g2 g3 g4 g5 g6 => hr r k (by omega) (by omega) (by omega) (by omega) (by omega)) (fun k hk4 => ?_) ?_ hC0
          · by_cases hkj : k = 2
            · subst hkj
              refine Or.inr ⟨l, z, hl, hz, ?_, ?_, ?_, ?_, fun i hi => ?_⟩
              · rw [c1 _ _ (by omega), rd_p (by omega), rd_p (by omega), w1 _ _ (by omega), rd_i (by omega), rd_s]
              · rw [c1 _ _ (by omega), rd_p (by omega), rd_s]
              · rw [c1 _ _ (by omega), rd_p (by omega), rd_p (by omega), w1 _ _ (by omega), rd_s]
              · rw [c1 _ _ (by omega), rd_s]
              · rw [c2 i hi, c1 _ _ (by omega), rd_p (by omega), rd_p (by omega)]
                have := w2 i hi
                rw [Nat.zero_add] at this
                exact this
            · exact (hS k hk4).fr (fun i => hr _ _ (by omega) (by omega) (by omega) (by omega) (by omega)) (fun i => hr _ _ (by omega) (by omega) (by omega) (by omega) (by omega)) (hr _ _ (by omega) (by omega) (by omega) (by omega) (by omega)) (hr _ _ (by omega) (by omega) (by omega) (by omega) (by omega)) (fun i hi => hr _ _ (by omega) (by omega) (by omega) (by omega) (by omega))
          · rw [hr 0 5 (by omega) (by omega) (by omega) (by omega) (by omega), hr 62 38 (by omega) (by omega) (by omega) (by omega) (by omega)]
            exact hR.2.1
      · obtain ⟨ν, hν, w1, w2, w3⟩ := p_fill_34 0 (pI (pI μ 33 0 (nI l)) 33 1 (nI z))
        obtain ⟨ρ, hρ, r1, c1, c2, c3⟩ := m_clear (j := 3) (by omega) (pI (pI ν 76 3 (nI l)) 77 3 (nI z))
        refine ⟨1, ν, ρ.2, ?_, ?_, n, Q, ?_⟩
        · unfold f_X9_sheet_0
          simp only [p_isSheet, p_isLane, Option.bind_some, b2i_z, h1', h2', Bool.true_eq_false, if_false]
          rw [if_pos c40, if_pos c00, if_neg (show ¬ nI 3 = 0 by decide), if_neg (show ¬ nI 3 = 1 by decide), if_neg (show ¬ nI 3 = 2 by decide), if_pos (show nI 3 = 3 from rfl)]
          unfold f_X6_begin_33
          rw [hν]
          rfl
        · unfold f_X10_sheet_62
          simp only [m_isSheet, Option.bind_some, b2i_z, h1', h2', Bool.true_eq_false, if_false, Bool.and_self]
          rw [if_pos c40, if_pos c00, nI_clamp (by omega), hρ]
          rw [← r1]
        · have hr : ∀ r k, r ≠ 33 → r ≠ 34 → ¬ (r = 76 ∧ k = 3) → ¬ (r = 77 ∧ k = 3) → ¬ (r = 78 ∧ 40 * 3 ≤ k ∧ k < 40 * 3 + 40) → ρ.2.1 r k = μ.1 r k := by
            intro r k g1 g2 g3 g4 g5
            rw [c1 r k g5]
            have e1 : (pI (pI ν 76 3 (nI l)) 77 3 (nI z)).1 r k = ν.1 r k := by
              by_cases h77 : r = 77
              · subst h77
                rw [rd_i (by omega), rd_p (by omega)]
              · rw [rd_p h77]
                by_cases h76 : r = 76
                · subst h76
                  rw [rd_i (by omega)]
                · rw [rd_p h76]
            rw [e1, w1 r k (by omega), rd_p g1, rd_p g1]
          refine Core.sheets (fun r k g1 g2 g3 g4 g5 g6 => hr r k (by omega) (by omega) (by omega) (by omega) (by omega)) (fun k hk4 => ?_) ?_ hC0
          · by_cases hkj : k = 3
            · subst hkj
              refine Or.inr ⟨l, z, hl, hz, ?_, ?_, ?_, ?_, fun i hi => ?_⟩
              · rw [c1 _ _ (by omega), rd_p (by omega), rd_p (by omega), w1 _ _ (by omega), rd_i (by omega), rd_s]
              · rw [c1 _ _ (by omega), rd_p (by omega), rd_s]
              · rw [c1 _ _ (by omega), rd_p (by omega), rd_p (by omega), w1 _ _ (by omega), rd_s]
              · rw [c1 _ _ (by omega), rd_s]
              · rw [c2 i hi, c1 _ _ (by omega), rd_p (by omega), rd_p (by omega)]
                have := w2 i hi
                rw [Nat.zero_add] at this
                exact this
            · exact (hS k hk4).fr (fun i => hr _ _ (by omega) (by omega) (by omega) (by omega) (by omega)) (fun i => hr _ _ (by omega) (by omega) (by omega) (by omega) (by omega)) (hr _ _ (by omega) (by omega) (by omega) (by omega) (by omega)) (hr _ _ (by omega) (by omega) (by omega) (by omega) (by omega)) (fun i hi => hr _ _ (by omega) (by omega) (by omega) (by omega) (by omega))
          · rw [hr 0 5 (by omega) (by omega) (by omega) (by omega) (by omega), hr 62 38 (by omega) (by omega) (by omega) (by omega) (by omega)]
            exact hR.2.1

theorem p_fault_27 {μ : Mem} {z : Nat} (hz : z ≤ 40) (h : μ.1 27 1 = nI z) (x : Int32) : f_X6_faultAt_27 x μ = some ((if inb x z = true then (0 : Int32) else 2), μ) := by
  have e0 : f_X6_isNothing_27 μ = some (0, μ) := by
    unfold f_X6_isNothing_27
    rw [h, if_pos (nI_pos' (by omega))]
  unfold f_X6_faultAt_27 f_X6_faultAt_27_J21
  rw [e0]
  simp only [Option.bind_some, if_true, h]
  have hz2 : (nI z).toInt = z := nI_toInt (by omega)
  have h0 : (0 : Int32).toInt = 0 := rfl
  by_cases c : inb x z = true
  · rw [if_pos c]
    rw [inb_iff] at c
    rw [if_neg (by rw [i32_lt, h0]; omega), if_pos (by rw [i32_lt, hz2]; omega)]
  · rw [if_neg c]
    rw [inb_iff] at c
    by_cases c1 : x < 0
    · rw [if_pos c1]
    · rw [i32_lt, h0] at c1
      rw [if_neg (by rw [i32_lt, h0]; omega), if_neg (by rw [i32_lt, hz2]; omega)]
theorem p_none_27 {μ : Mem} (h : μ.1 27 1 = -1) : f_X6_isNothing_27 μ = some (1, μ) := by
  unfold f_X6_isNothing_27
  rw [h, if_neg (by decide)]
theorem p_fnone_27 {μ : Mem} (h : μ.1 27 1 = -1) (x : Int32) : f_X6_faultAt_27 x μ = some (1, μ) := by
  unfold f_X6_faultAt_27
  rw [p_none_27 h]
  rfl
theorem p_put_27 {μ : Mem} {l i : Nat} (hl : l < 3) (hi : i < 40) (h : μ.1 27 0 = nI l) (v : Int32) : f_X6_put_27 (nI i) v μ = some (pI μ 28 i (nar l v)) := by
  unfold f_X6_put_27 f_X6_put_27_J37 nar
  rw [h, inb_nI (by omega) (by omega), nI_clamp (by omega)]
  rcases (show l = 0 ∨ l = 1 ∨ l = 2 by omega) with rfl | rfl | rfl <;> rfl

theorem p_fault_29 {μ : Mem} {z : Nat} (hz : z ≤ 40) (h : μ.1 29 1 = nI z) (x : Int32) : f_X6_faultAt_29 x μ = some ((if inb x z = true then (0 : Int32) else 2), μ) := by
  have e0 : f_X6_isNothing_29 μ = some (0, μ) := by
    unfold f_X6_isNothing_29
    rw [h, if_pos (nI_pos' (by omega))]
  unfold f_X6_faultAt_29 f_X6_faultAt_29_J21
  rw [e0]
  simp only [Option.bind_some, if_true, h]
  have hz2 : (nI z).toInt = z := nI_toInt (by omega)
  have h0 : (0 : Int32).toInt = 0 := rfl
  by_cases c : inb x z = true
  · rw [if_pos c]
    rw [inb_iff] at c
    rw [if_neg (by rw [i32_lt, h0]; omega), if_pos (by rw [i32_lt, hz2]; omega)]
  · rw [if_neg c]
    rw [inb_iff] at c
    by_cases c1 : x < 0
    · rw [if_pos c1]
    · rw [i32_lt, h0] at c1
      rw [if_neg (by rw [i32_lt, h0]; omega), if_neg (by rw [i32_lt, hz2]; omega)]
theorem p_none_29 {μ : Mem} (h : μ.1 29 1 = -1) : f_X6_isNothing_29 μ = some (1, μ) := by
  unfold f_X6_isNothing_29
  rw [h, if_neg (by decide)]
theorem p_fnone_29 {μ : Mem} (h : μ.1 29 1 = -1) (x : Int32) : f_X6_faultAt_29 x μ = some (1, μ) := by
  unfold f_X6_faultAt_29
  rw [p_none_29 h]
  rfl
theorem p_put_29 {μ : Mem} {l i : Nat} (hl : l < 3) (hi : i < 40) (h : μ.1 29 0 = nI l) (v : Int32) : f_X6_put_29 (nI i) v μ = some (pI μ 30 i (nar l v)) := by
  unfold f_X6_put_29 f_X6_put_29_J37 nar
  rw [h, inb_nI (by omega) (by omega), nI_clamp (by omega)]
  rcases (show l = 0 ∨ l = 1 ∨ l = 2 by omega) with rfl | rfl | rfl <;> rfl

theorem p_fault_31 {μ : Mem} {z : Nat} (hz : z ≤ 40) (h : μ.1 31 1 = nI z) (x : Int32) : f_X6_faultAt_31 x μ = some ((if inb x z = true then (0 : Int32) else 2), μ) := by
  have e0 : f_X6_isNothing_31 μ = some (0, μ) := by
    unfold f_X6_isNothing_31
    rw [h, if_pos (nI_pos' (by omega))]
  unfold f_X6_faultAt_31 f_X6_faultAt_31_J21
  rw [e0]
  simp only [Option.bind_some, if_true, h]
  have hz2 : (nI z).toInt = z := nI_toInt (by omega)
  have h0 : (0 : Int32).toInt = 0 := rfl
  by_cases c : inb x z = true
  · rw [if_pos c]
    rw [inb_iff] at c
    rw [if_neg (by rw [i32_lt, h0]; omega), if_pos (by rw [i32_lt, hz2]; omega)]
  · rw [if_neg c]
    rw [inb_iff] at c
    by_cases c1 : x < 0
    · rw [if_pos c1]
    · rw [i32_lt, h0] at c1
      rw [if_neg (by rw [i32_lt, h0]; omega), if_neg (by rw [i32_lt, hz2]; omega)]
theorem p_none_31 {μ : Mem} (h : μ.1 31 1 = -1) : f_X6_isNothing_31 μ = some (1, μ) := by
  unfold f_X6_isNothing_31
  rw [h, if_neg (by decide)]
theorem p_fnone_31 {μ : Mem} (h : μ.1 31 1 = -1) (x : Int32) : f_X6_faultAt_31 x μ = some (1, μ) := by
  unfold f_X6_faultAt_31
  rw [p_none_31 h]
  rfl
theorem p_put_31 {μ : Mem} {l i : Nat} (hl : l < 3) (hi : i < 40) (h : μ.1 31 0 = nI l) (v : Int32) : f_X6_put_31 (nI i) v μ = some (pI μ 32 i (nar l v)) := by
  unfold f_X6_put_31 f_X6_put_31_J37 nar
  rw [h, inb_nI (by omega) (by omega), nI_clamp (by omega)]
  rcases (show l = 0 ∨ l = 1 ∨ l = 2 by omega) with rfl | rfl | rfl <;> rfl

theorem p_fault_33 {μ : Mem} {z : Nat} (hz : z ≤ 40) (h : μ.1 33 1 = nI z) (x : Int32) : f_X6_faultAt_33 x μ = some ((if inb x z = true then (0 : Int32) else 2), μ) := by
  have e0 : f_X6_isNothing_33 μ = some (0, μ) := by
    unfold f_X6_isNothing_33
    rw [h, if_pos (nI_pos' (by omega))]
  unfold f_X6_faultAt_33 f_X6_faultAt_33_J21
  rw [e0]
  simp only [Option.bind_some, if_true, h]
  have hz2 : (nI z).toInt = z := nI_toInt (by omega)
  have h0 : (0 : Int32).toInt = 0 := rfl
  by_cases c : inb x z = true
  · rw [if_pos c]
    rw [inb_iff] at c
    rw [if_neg (by rw [i32_lt, h0]; omega), if_pos (by rw [i32_lt, hz2]; omega)]
  · rw [if_neg c]
    rw [inb_iff] at c
    by_cases c1 : x < 0
    · rw [if_pos c1]
    · rw [i32_lt, h0] at c1
      rw [if_neg (by rw [i32_lt, h0]; omega), if_neg (by rw [i32_lt, hz2]; omega)]
theorem p_none_33 {μ : Mem} (h : μ.1 33 1 = -1) : f_X6_isNothing_33 μ = some (1, μ) := by
  unfold f_X6_isNothing_33
  rw [h, if_neg (by decide)]
theorem p_fnone_33 {μ : Mem} (h : μ.1 33 1 = -1) (x : Int32) : f_X6_faultAt_33 x μ = some (1, μ) := by
  unfold f_X6_faultAt_33
  rw [p_none_33 h]
  rfl
theorem p_put_33 {μ : Mem} {l i : Nat} (hl : l < 3) (hi : i < 40) (h : μ.1 33 0 = nI l) (v : Int32) : f_X6_put_33 (nI i) v μ = some (pI μ 34 i (nar l v)) := by
  unfold f_X6_put_33 f_X6_put_33_J37 nar
  rw [h, inb_nI (by omega) (by omega), nI_clamp (by omega)]
  rcases (show l = 0 ∨ l = 1 ∨ l = 2 by omega) with rfl | rfl | rfl <;> rfl

set_option maxRecDepth 100000 in
theorem s_lay (a0 a1 a2 : Int32) : PStp (f_X9_lay_0 a0 a1 a2) (f_X10_lay_62 a0 a1 a2) := by
  intro μ hI0
  obtain ⟨n, Q, hC⟩ := hI0
  have hC0 := hC
  obtain ⟨⟨hn, hQ1, hQ6, e10, e622, e624, e11, e623, hk, hs⟩, hP, hI, hS, hT, hR⟩ := hC
  have h27 := p3 hn
  have i03 : inb (0 : Int32) 3 = true := by decide
  cases h1 : inb a0 4 with
  | false =>
    refine ⟨-1, μ, μ, ?_, ?_, n, Q, hC0⟩
    · unfold f_X9_lay_0
      simp only [p_isSheet, Option.bind_some, b2i_z, h1, if_true]
    · unfold f_X10_lay_62
      simp only [m_isSheet, Option.bind_some, b2i_z, h1, if_true, Bool.false_and]
  | true =>
    have h1' := h1
    obtain ⟨j, hj, rfl⟩ := inb_of h1 (by omega)
    rcases (show j = 0 ∨ j = 1 ∨ j = 2 ∨ j = 3 by omega) with rfl | rfl | rfl | rfl
    · rcases hS 0 (by omega) with ⟨g1, g2⟩ | ⟨l, z, hl, hz, g3, g4, g5, g6, g7⟩
      · refine ⟨-11, μ, μ, ?_, ?_, n, Q, hC0⟩
        · unfold f_X9_lay_0
          simp only [p_isSheet, Option.bind_some, b2i_z, h1', Bool.true_eq_false, if_false]
          rw [if_pos (show nI 0 = 0 from rfl), p_fnone_27 g1]
          simp only [Option.bind_some]
          rw [if_neg (show ¬ (1 : Int32) = 0 by decide), show (-10 : Int32) - 1 = -11 by decide]
        · unfold f_X10_lay_62
          simp only [m_isSheet, Option.bind_some, b2i_z, h1', i03, Bool.true_eq_false, if_false, Bool.and_self]
          rw [nI_clamp (by omega), g2]
          rfl
      · have hne : ¬ nI l = -4 := by rcases (show l = 0 ∨ l = 1 ∨ l = 2 by omega) with rfl | rfl | rfl <;> decide
        cases h2 : inb a1 z with
        | false =>
          refine ⟨-12, μ, μ, ?_, ?_, n, Q, hC0⟩
          · unfold f_X9_lay_0
            simp only [p_isSheet, Option.bind_some, b2i_z, h1', Bool.true_eq_false, if_false]
            rw [if_pos (show nI 0 = 0 from rfl), p_fault_27 hz g5, h2]
            simp only [Option.bind_some, Bool.false_eq_true, if_false]
            rw [if_neg (show ¬ (2 : Int32) = 0 by decide), show (-10 : Int32) - 2 = -12 by decide]
          · unfold f_X10_lay_62
            simp only [m_isSheet, Option.bind_some, b2i_z, h1', i03, Bool.true_eq_false, if_false, Bool.and_self]
            rw [nI_clamp (by omega), g4, if_neg hne, p_in, g6, inL_inb (n := z) (nI_m1 (by omega)), h2]
            rfl
        | true =>
          have h2' := h2
          obtain ⟨i, hi, rfl⟩ := inb_of h2 (by omega)
          obtain ⟨μ1, hμ1⟩ : ∃ μ1, μ1 = pI μ 28 i (nar l a2) := ⟨_, rfl⟩
          refine ⟨1, μ1, pI μ1 78 (40 * 0 + i) (nar l a2), ?_, ?_, n, Q, ?_⟩
          · unfold f_X9_lay_0
            simp only [p_isSheet, Option.bind_some, b2i_z, h1', Bool.true_eq_false, if_false]
            rw [if_pos (show nI 0 = 0 from rfl), p_fault_27 hz g5, h2']
            simp only [Option.bind_some, if_true]
            rw [p_put_27 hl (by omega) g3, hμ1]
            rfl
          · have f4 : μ1.1 76 0 = nI l := by rw [hμ1, rd_p (by omega)]; exact g4
            have f6 : μ1.1 77 0 = nI z := by rw [hμ1, rd_p (by omega)]; exact g6
            unfold f_X10_lay_62 f_X10_lay_62_J85
            simp only [m_isSheet, Option.bind_some, b2i_z, h1', i03, Bool.true_eq_false, if_false, Bool.and_self]
            rw [nI_clamp (by omega), f4, if_neg hne, p_in, f6, inL_inb (n := z) (nI_m1 (by omega)), h2']
            simp only [Option.bind_some, b2i_z, Bool.true_eq_false, if_false]
            rw [f4, lm40, nI_add, inb_nI (by omega) (by omega), nI_clamp (by omega)]
            unfold nar
            rcases (show l = 0 ∨ l = 1 ∨ l = 2 by omega) with rfl | rfl | rfl <;> rfl
          · have hr : ∀ r k, ¬ (r = 28 ∧ k = i) → ¬ (r = 78 ∧ k = 40 * 0 + i) → (pI μ1 78 (40 * 0 + i) (nar l a2)).1 r k = μ.1 r k := by
              intro r k b1 b2
              by_cases h78 : r = 78
              · subst h78
                rw [rd_i (by omega), hμ1, rd_p (by omega)]
              · rw [rd_p h78, hμ1]
                by_cases hs1 : r = 28
                · subst hs1
                  rw [rd_i (by omega)]
                · rw [rd_p hs1]
            refine Core.sheets (fun r k b1 b2 b3 b4 b5 b6 => hr r k (by omega) (by omega)) (fun k hk4 => ?_) ?_ hC0
            · by_cases hkj : k = 0
              · subst hkj
                refine Or.inr ⟨l, z, hl, hz, by rw [hr _ _ (by omega) (by omega)]; exact g3, by rw [hr _ _ (by omega) (by omega)]; exact g4, by rw [hr _ _ (by omega) (by omega)]; exact g5, by rw [hr _ _ (by omega) (by omega)]; exact g6, fun i' hi' => ?_⟩
                by_cases hii : i' = i
                · subst hii
                  rw [rd_s, rd_p (by omega), hμ1]
                  exact rd_s
                · rw [hr _ _ (by omega) (by omega), hr _ _ (by omega) (by omega)]
                  exact g7 i' hi'
              · exact (hS k hk4).fr (fun i => hr _ _ (by omega) (by omega)) (fun i => hr _ _ (by omega) (by omega)) (hr _ _ (by omega) (by omega)) (hr _ _ (by omega) (by omega)) (fun i hi => hr _ _ (by omega) (by omega))
            · rw [hr 0 5 (by omega) (by omega), hr 62 38 (by omega) (by omega)]
              exact hR.2.1
    · rcases hS 1 (by omega) with ⟨g1, g2⟩ | ⟨l, z, hl, hz, g3, g4, g5, g6, g7⟩
      · refine ⟨-11, μ, μ, ?_, ?_, n, Q, hC0⟩
        · unfold f_X9_lay_0
          simp only [p_isSheet, Option.bind_some, b2i_z, h1', Bool.true_eq_false, if_false]
          rw [if_neg (show ¬ nI 1 = 0 by decide), if_pos (show nI 1 = 1 from rfl), p_fnone_29 g1]
          simp only [Option.bind_some]
          rw [if_neg (show ¬ (1 : Int32) = 0 by decide), show (-10 : Int32) - 1 = -11 by decide]
        · unfold f_X10_lay_62
          simp only [m_isSheet, Option.bind_some, b2i_z, h1', i03, Bool.true_eq_false, if_false, Bool.and_self]
          rw [nI_clamp (by omega), g2]
          rfl
      · have hne : ¬ nI l = -4 := by rcases (show l = 0 ∨ l = 1 ∨ l = 2 by omega) with rfl | rfl | rfl <;> decide
        cases h2 : inb a1 z with
        | false =>
          refine ⟨-12, μ, μ, ?_, ?_, n, Q, hC0⟩
          · unfold f_X9_lay_0
            simp only [p_isSheet, Option.bind_some, b2i_z, h1', Bool.true_eq_false, if_false]
            rw [if_neg (show ¬ nI 1 = 0 by decide), if_pos (show nI 1 = 1 from rfl), p_fault_29 hz g5, h2]
            simp only [Option.bind_some, Bool.false_eq_true, if_false]
            rw [if_neg (show ¬ (2 : Int32) = 0 by decide), show (-10 : Int32) - 2 = -12 by decide]
          · unfold f_X10_lay_62
            simp only [m_isSheet, Option.bind_some, b2i_z, h1', i03, Bool.true_eq_false, if_false, Bool.and_self]
            rw [nI_clamp (by omega), g4, if_neg hne, p_in, g6, inL_inb (n := z) (nI_m1 (by omega)), h2]
            rfl
        | true =>
          have h2' := h2
          obtain ⟨i, hi, rfl⟩ := inb_of h2 (by omega)
          obtain ⟨μ1, hμ1⟩ : ∃ μ1, μ1 = pI μ 30 i (nar l a2) := ⟨_, rfl⟩
          refine ⟨1, μ1, pI μ1 78 (40 * 1 + i) (nar l a2), ?_, ?_, n, Q, ?_⟩
          · unfold f_X9_lay_0
            simp only [p_isSheet, Option.bind_some, b2i_z, h1', Bool.true_eq_false, if_false]
            rw [if_neg (show ¬ nI 1 = 0 by decide), if_pos (show nI 1 = 1 from rfl), p_fault_29 hz g5, h2']
            simp only [Option.bind_some, if_true]
            rw [p_put_29 hl (by omega) g3, hμ1]
            rfl
          · have f4 : μ1.1 76 1 = nI l := by rw [hμ1, rd_p (by omega)]; exact g4
            have f6 : μ1.1 77 1 = nI z := by rw [hμ1, rd_p (by omega)]; exact g6
            unfold f_X10_lay_62 f_X10_lay_62_J85
            simp only [m_isSheet, Option.bind_some, b2i_z, h1', i03, Bool.true_eq_false, if_false, Bool.and_self]
            rw [nI_clamp (by omega), f4, if_neg hne, p_in, f6, inL_inb (n := z) (nI_m1 (by omega)), h2']
            simp only [Option.bind_some, b2i_z, Bool.true_eq_false, if_false]
            rw [f4, lm40, nI_add, inb_nI (by omega) (by omega), nI_clamp (by omega)]
            unfold nar
            rcases (show l = 0 ∨ l = 1 ∨ l = 2 by omega) with rfl | rfl | rfl <;> rfl
          · have hr : ∀ r k, ¬ (r = 30 ∧ k = i) → ¬ (r = 78 ∧ k = 40 * 1 + i) → (pI μ1 78 (40 * 1 + i) (nar l a2)).1 r k = μ.1 r k := by
              intro r k b1 b2
              by_cases h78 : r = 78
              · subst h78
                rw [rd_i (by omega), hμ1, rd_p (by omega)]
              · rw [rd_p h78, hμ1]
                by_cases hs1 : r = 30
                · subst hs1
                  rw [rd_i (by omega)]
                · rw [rd_p hs1]
            refine Core.sheets (fun r k b1 b2 b3 b4 b5 b6 => hr r k (by omega) (by omega)) (fun k hk4 => ?_) ?_ hC0
            · by_cases hkj : k = 1
              · subst hkj
                refine Or.inr ⟨l, z, hl, hz, by rw [hr _ _ (by omega) (by omega)]; exact g3, by rw [hr _ _ (by omega) (by omega)]; exact g4, by rw [hr _ _ (by omega) (by omega)]; exact g5, by rw [hr _ _ (by omega) (by omega)]; exact g6, fun i' hi' => ?_⟩
                by_cases hii : i' = i
                · subst hii
                  rw [rd_s, rd_p (by omega), hμ1]
                  exact rd_s
                · rw [hr _ _ (by omega) (by omega), hr _ _ (by omega) (by omega)]
                  exact g7 i' hi'
              · exact (hS k hk4).fr (fun i => hr _ _ (by omega) (by omega)) (fun i => hr _ _ (by omega) (by omega)) (hr _ _ (by omega) (by omega)) (hr _ _ (by omega) (by omega)) (fun i hi => hr _ _ (by omega) (by omega))
            · rw [hr 0 5 (by omega) (by omega), hr 62 38 (by omega) (by omega)]
              exact hR.2.1
    · rcases hS 2 (by omega) with ⟨g1, g2⟩ | ⟨l, z, hl, hz, g3, g4, g5, g6, g7⟩
      · refine ⟨-11, μ, μ, ?_, ?_, n, Q, hC0⟩
        · unfold f_X9_lay_0
          simp only [p_isSheet, Option.bind_some, b2i_z, h1', Bool.true_eq_false, if_false]
          rw [if_neg (show ¬ nI 2 = 0 by decide), if_neg (show ¬ nI 2 = 1 by decide), if_pos (show nI 2 = 2 from rfl), p_fnone_31 g1]
          simp only [Option.bind_some]
          rw [if_neg (show ¬ (1 : Int32) = 0 by decide), show (-10 : Int32) - 1 = -11 by decide]
        · unfold f_X10_lay_62
          simp only [m_isSheet, Option.bind_some, b2i_z, h1', i03, Bool.true_eq_false, if_false, Bool.and_self]
          rw [nI_clamp (by omega), g2]
          rfl
      · have hne : ¬ nI l = -4 := by rcases (show l = 0 ∨ l = 1 ∨ l = 2 by omega) with rfl | rfl | rfl <;> decide
        cases h2 : inb a1 z with
        | false =>
          refine ⟨-12, μ, μ, ?_, ?_, n, Q, hC0⟩
          · unfold f_X9_lay_0
            simp only [p_isSheet, Option.bind_some, b2i_z, h1', Bool.true_eq_false, if_false]
            rw [if_neg (show ¬ nI 2 = 0 by decide), if_neg (show ¬ nI 2 = 1 by decide), if_pos (show nI 2 = 2 from rfl), p_fault_31 hz g5, h2]
            simp only [Option.bind_some, Bool.false_eq_true, if_false]
            rw [if_neg (show ¬ (2 : Int32) = 0 by decide), show (-10 : Int32) - 2 = -12 by decide]
          · unfold f_X10_lay_62
            simp only [m_isSheet, Option.bind_some, b2i_z, h1', i03, Bool.true_eq_false, if_false, Bool.and_self]
            rw [nI_clamp (by omega), g4, if_neg hne, p_in, g6, inL_inb (n := z) (nI_m1 (by omega)), h2]
            rfl
        | true =>
          have h2' := h2
          obtain ⟨i, hi, rfl⟩ := inb_of h2 (by omega)
          obtain ⟨μ1, hμ1⟩ : ∃ μ1, μ1 = pI μ 32 i (nar l a2) := ⟨_, rfl⟩
          refine ⟨1, μ1, pI μ1 78 (40 * 2 + i) (nar l a2), ?_, ?_, n, Q, ?_⟩
          · unfold f_X9_lay_0
            simp only [p_isSheet, Option.bind_some, b2i_z, h1', Bool.true_eq_false, if_false]
            rw [if_neg (show ¬ nI 2 = 0 by decide), if_neg (show ¬ nI 2 = 1 by decide), if_pos (show nI 2 = 2 from rfl), p_fault_31 hz g5, h2']
            simp only [Option.bind_some, if_true]
            rw [p_put_31 hl (by omega) g3, hμ1]
            rfl
          · have f4 : μ1.1 76 2 = nI l := by rw [hμ1, rd_p (by omega)]; exact g4
            have f6 : μ1.1 77 2 = nI z := by rw [hμ1, rd_p (by omega)]; exact g6
            unfold f_X10_lay_62 f_X10_lay_62_J85
            simp only [m_isSheet, Option.bind_some, b2i_z, h1', i03, Bool.true_eq_false, if_false, Bool.and_self]
            rw [nI_clamp (by omega), f4, if_neg hne, p_in, f6, inL_inb (n := z) (nI_m1 (by omega)), h2']
            simp only [Option.bind_some, b2i_z, Bool.true_eq_false, if_false]
            rw [f4, lm40, nI_add, inb_nI (by omega) (by omega), nI_clamp (by omega)]
            unfold nar
            rcases (show l = 0 ∨ l = 1 ∨ l = 2 by omega) with rfl | rfl | rfl <;> rfl
          · have hr : ∀ r k, ¬ (r = 32 ∧ k = i) → ¬ (r = 78 ∧ k = 40 * 2 + i) → (pI μ1 78 (40 * 2 + i) (nar l a2)).1 r k = μ.1 r k := by
              intro r k b1 b2
              by_cases h78 : r = 78
              · subst h78
                rw [rd_i (by omega), hμ1, rd_p (by omega)]
              · rw [rd_p h78, hμ1]
                by_cases hs1 : r = 32
                · subst hs1
                  rw [rd_i (by omega)]
                · rw [rd_p hs1]
            refine Core.sheets (fun r k b1 b2 b3 b4 b5 b6 => hr r k (by omega) (by omega)) (fun k hk4 => ?_) ?_ hC0
            · by_cases hkj : k = 2
              · subst hkj
                refine Or.inr ⟨l, z, hl, hz, by rw [hr _ _ (by omega) (by omega)]; exact g3, by rw [hr _ _ (by omega) (by omega)]; exact g4, by rw [hr _ _ (by omega) (by omega)]; exact g5, by rw [hr _ _ (by omega) (by omega)]; exact g6, fun i' hi' => ?_⟩
                by_cases hii : i' = i
                · subst hii
                  rw [rd_s, rd_p (by omega), hμ1]
                  exact rd_s
                · rw [hr _ _ (by omega) (by omega), hr _ _ (by omega) (by omega)]
                  exact g7 i' hi'
              · exact (hS k hk4).fr (fun i => hr _ _ (by omega) (by omega)) (fun i => hr _ _ (by omega) (by omega)) (hr _ _ (by omega) (by omega)) (hr _ _ (by omega) (by omega)) (fun i hi => hr _ _ (by omega) (by omega))
            · rw [hr 0 5 (by omega) (by omega), hr 62 38 (by omega) (by omega)]
              exact hR.2.1
    · rcases hS 3 (by omega) with ⟨g1, g2⟩ | ⟨l, z, hl, hz, g3, g4, g5, g6, g7⟩
      · refine ⟨-11, μ, μ, ?_, ?_, n, Q, hC0⟩
        · unfold f_X9_lay_0
          simp only [p_isSheet, Option.bind_some, b2i_z, h1', Bool.true_eq_false, if_false]
          rw [if_neg (show ¬ nI 3 = 0 by decide), if_neg (show ¬ nI 3 = 1 by decide), if_neg (show ¬ nI 3 = 2 by decide), if_pos (show nI 3 = 3 from rfl), p_fnone_33 g1]
          simp only [Option.bind_some]
          rw [if_neg (show ¬ (1 : Int32) = 0 by decide), show (-10 : Int32) - 1 = -11 by decide]
        · unfold f_X10_lay_62
          simp only [m_isSheet, Option.bind_some, b2i_z, h1', i03, Bool.true_eq_false, if_false, Bool.and_self]
          rw [nI_clamp (by omega), g2]
          rfl
      · have hne : ¬ nI l = -4 := by rcases (show l = 0 ∨ l = 1 ∨ l = 2 by omega) with rfl | rfl | rfl <;> decide
        cases h2 : inb a1 z with
        | false =>
          refine ⟨-12, μ, μ, ?_, ?_, n, Q, hC0⟩
          · unfold f_X9_lay_0
            simp only [p_isSheet, Option.bind_some, b2i_z, h1', Bool.true_eq_false, if_false]
            rw [if_neg (show ¬ nI 3 = 0 by decide), if_neg (show ¬ nI 3 = 1 by decide), if_neg (show ¬ nI 3 = 2 by decide), if_pos (show nI 3 = 3 from rfl), p_fault_33 hz g5, h2]
            simp only [Option.bind_some, Bool.false_eq_true, if_false]
            rw [if_neg (show ¬ (2 : Int32) = 0 by decide), show (-10 : Int32) - 2 = -12 by decide]
          · unfold f_X10_lay_62
            simp only [m_isSheet, Option.bind_some, b2i_z, h1', i03, Bool.true_eq_false, if_false, Bool.and_self]
            rw [nI_clamp (by omega), g4, if_neg hne, p_in, g6, inL_inb (n := z) (nI_m1 (by omega)), h2]
            rfl
        | true =>
          have h2' := h2
          obtain ⟨i, hi, rfl⟩ := inb_of h2 (by omega)
          obtain ⟨μ1, hμ1⟩ : ∃ μ1, μ1 = pI μ 34 i (nar l a2) := ⟨_, rfl⟩
          refine ⟨1, μ1, pI μ1 78 (40 * 3 + i) (nar l a2), ?_, ?_, n, Q, ?_⟩
          · unfold f_X9_lay_0
            simp only [p_isSheet, Option.bind_some, b2i_z, h1', Bool.true_eq_false, if_false]
            rw [if_neg (show ¬ nI 3 = 0 by decide), if_neg (show ¬ nI 3 = 1 by decide), if_neg (show ¬ nI 3 = 2 by decide), if_pos (show nI 3 = 3 from rfl), p_fault_33 hz g5, h2']
            simp only [Option.bind_some, if_true]
            rw [p_put_33 hl (by omega) g3, hμ1]
            rfl
          · have f4 : μ1.1 76 3 = nI l := by rw [hμ1, rd_p (by omega)]; exact g4
            have f6 : μ1.1 77 3 = nI z := by rw [hμ1, rd_p (by omega)]; exact g6
            unfold f_X10_lay_62 f_X10_lay_62_J85
            simp only [m_isSheet, Option.bind_some, b2i_z, h1', i03, Bool.true_eq_false, if_false, Bool.and_self]
            rw [nI_clamp (by omega), f4, if_neg hne, p_in, f6, inL_inb (n := z) (nI_m1 (by omega)), h2']
            simp only [Option.bind_some, b2i_z, Bool.true_eq_false, if_false]
            rw [f4, lm40, nI_add, inb_nI (by omega) (by omega), nI_clamp (by omega)]
            unfold nar
            rcases (show l = 0 ∨ l = 1 ∨ l = 2 by omega) with rfl | rfl | rfl <;> rfl
          · have hr : ∀ r k, ¬ (r = 34 ∧ k = i) → ¬ (r = 78 ∧ k = 40 * 3 + i) → (pI μ1 78 (40 * 3 + i) (nar l a2)).1 r k = μ.1 r k := by
              intro r k b1 b2
              by_cases h78 : r = 78
              · subst h78
                rw [rd_i (by omega), hμ1, rd_p (by omega)]
              · rw [rd_p h78, hμ1]
                by_cases hs1 : r = 34
                · subst hs1
                  rw [rd_i (by omega)]
                · rw [rd_p hs1]
            refine Core.sheets (fun r k b1 b2 b3 b4 b5 b6 => hr r k (by omega) (by omega)) (fun k hk4 => ?_) ?_ hC0
            · by_cases hkj : k = 3
              · subst hkj
                refine Or.inr ⟨l, z, hl, hz, by rw [hr _ _ (by omega) (by omega)]; exact g3, by rw [hr _ _ (by omega) (by omega)]; exact g4, by rw [hr _ _ (by omega) (by omega)]; exact g5, by rw [hr _ _ (by omega) (by omega)]; exact g6, fun i' hi' => ?_⟩
                by_cases hii : i' = i
                · subst hii
                  rw [rd_s, rd_p (by omega), hμ1]
                  exact rd_s
                · rw [hr _ _ (by omega) (by omega), hr _ _ (by omega) (by omega)]
                  exact g7 i' hi'
              · exact (hS k hk4).fr (fun i => hr _ _ (by omega) (by omega)) (fun i => hr _ _ (by omega) (by omega)) (hr _ _ (by omega) (by omega)) (hr _ _ (by omega) (by omega)) (fun i hi => hr _ _ (by omega) (by omega))
            · rw [hr 0 5 (by omega) (by omega), hr 62 38 (by omega) (by omega)]
              exact hR.2.1
