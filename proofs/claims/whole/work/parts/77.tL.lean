/-! PURE: the start, and the law -/
theorem m_firstD (μ : Mem) : ∃ ν, f_X10_firstDraft_62 μ = some ν ∧ MRd d0 ν ∧ (∀ q k, q ≠ 67 → ¬ (q = 62 ∧ 8 ≤ k ∧ k < 18) → ν.1 q k = μ.1 q k) := by
  have hz : ∀ j, j ≠ 1 → nI (d0 j) = 0 := fun j hj => by rw [d0_n hj]; rfl
  unfold f_X10_firstDraft_62
  refine for_rel (ρ := Mem) (body := f_X10_firstDraft_62_L2) nI 54 (fun i ω => (∀ q k, q ≠ 67 → ¬ (q = 62 ∧ 8 ≤ k ∧ k < 18) → ω.1 q k = μ.1 q k) ∧ ∀ k, k < i → ω.1 67 k = 0) (fun ν => MRd d0 ν ∧ (∀ q k, q ≠ 67 → ¬ (q = 62 ∧ 8 ≤ k ∧ k < 18) → ν.1 q k = μ.1 q k)) (fun k i ω hi hP => ?_) (fun k ω hP => ?_) FU 0 _ (by omega) (fu_gt (by omega)) ⟨fun _ _ _ _ => rfl, fun k hk => by omega⟩
  · obtain ⟨q1, q4⟩ := hP
    unfold f_X10_firstDraft_62_L2
    rw [if_neg (show ¬ (54 : Int32) ≤ nI i from nI_ge (b := 54) hi (by omega)), inb_nI (by omega) (by omega), if_neg (show ¬ true = false by decide), nI_clamp (by omega), al1]
    refine ⟨_, rfl, fun q j h1 h2 => by rw [rd_p h1]; exact q1 q j h1 h2, fun j hj => ?_⟩
    by_cases hji : j = i
    · rw [hji, rd_s]
    · rw [rd_i hji]
      exact q4 j (by omega)
  · obtain ⟨q1, q4⟩ := hP
    unfold f_X10_firstDraft_62_L2
    rw [if_pos (show (54 : Int32) ≤ nI 54 from by decide)]
    have g : ∀ k, k < 54 → (pI (pI (pI (pI (pI (pI (pI (pI ω 62 8 (0 : Int32)) 62 9 (4 : Int32)) 62 12 (0 : Int32)) 62 13 (0 : Int32)) 62 14 (0 : Int32)) 62 15 (0 : Int32)) 62 16 (-4 : Int32)) 62 17 (-4 : Int32)).1 67 k = 0 := fun k hk => by
      simp (disch := omega) only [rd_p]
      exact q4 k hk
    refine ⟨_, rfl, ⟨?_, ?_, ?_, ?_, ?_, ?_, ?_, ?_, fun s hs => absurd hs (Nat.not_lt_zero s), fun e he => absurd he (Nat.not_lt_zero e), fun s hs => ?_, fun e he => ?_, fun d hd => ?_, fun q hq => ?_, fun q hq => ?_, g 29 (by omega)⟩, ?_⟩
    · simp (disch := omega) only [rd_i, rd_s]; rfl
    · simp (disch := omega) only [rd_i, rd_s]; rfl
    · simp (disch := omega) only [rd_i, rd_s]; rfl
    · simp (disch := omega) only [rd_i, rd_s]; rfl
    · simp (disch := omega) only [rd_i, rd_s]; rfl
    · simp (disch := omega) only [rd_i, rd_s]; rfl
    · simp (disch := omega) only [rd_i, rd_s]; decide
    · simp (disch := omega) only [rd_i, rd_s]; decide
    · rw [g s (by omega), hz _ (by omega)]
    · rw [g (3 + e) (by omega), hz _ (by omega)]
    · rw [g (9 + d) (by omega), hz _ (by omega)]
    · rw [g (13 + q) (by omega), hz _ (by omega)]
    · rw [g (21 + q) (by omega), hz _ (by omega)]
    · intro q k h1 h2
      rw [← q1 q k h1 h2]
      by_cases hq : q = 62
      · subst hq
        simp (disch := omega) only [rd_i]
      · simp (disch := assumption) only [rd_p]
theorem mu0_z {p k : Nat} (h : p ≠ 1 ∧ p ≠ 27 ∧ p ≠ 29 ∧ p ≠ 31 ∧ p ≠ 33 ∧ p ≠ 37 ∧ p ≠ 51) : mu0.1 p k = 0 := by
  unfold mu0
  dsimp only
  rw [if_neg h.1, if_neg h.2.1, if_neg h.2.2.1, if_neg h.2.2.2.1, if_neg h.2.2.2.2.1, if_neg h.2.2.2.2.2.1, if_neg h.2.2.2.2.2.2]
theorem pu_start {μ r : Mem} (hfr : ∀ q k, ¬ (63 ≤ q ∧ q ≤ 69) → q ≠ 76 → ¬ (q = 62 ∧ ((2 ≤ k ∧ k ≤ 4) ∨ (8 ≤ k ∧ k < 18))) → r.1 q k = mu0.1 q k) (hr76 : ∀ k, k < 4 → r.1 76 k = -4) (hK : KD d0 μ r) : INV r := by
  obtain ⟨d1, d2, d3, d4, d5, d6, d7, d8, d9, d10, d11, d12, d13, d14⟩ := hK
  have hd : ∀ j, j ≠ 1 → d0 j = 0 := fun j hj => d0_n hj
  have hz : ∀ j, j ≠ 1 → nI (d0 j) = 0 := fun j hj => by rw [d0_n hj]; rfl
  have z : ∀ p k, p ≠ 1 → p < 27 → r.1 p k = nI 0 := fun p k h1 h2 => by
    rw [hfr p k (by omega) (by omega) (by omega), mu0_z ⟨h1, by omega, by omega, by omega, by omega, by omega, by omega⟩]
    rfl
  refine ⟨0, 4, ⟨by omega, by omega, by omega, ?_, d2, d4, ?_, d3, fun s hs => by omega, fun e he => by omega⟩, ⟨fun s hs => ?_, fun e he => ?_, fun d hd => ?_, fun q hq => ?_, fun q hq => ?_, 0, by omega, z 4 6 (by omega) (by omega), d14, fun i hi => by omega⟩, ⟨false, false, z 0 3 (by omega) (by omega), d5, d6, fun h => absurd h (by decide), fun h => absurd h (by decide)⟩, fun k hk => Or.inl ⟨?_, hr76 k hk⟩, ⟨0, by omega, ?_, ?_, fun i hi => by omega⟩, ?_, ?_, ?_⟩
  · rw [hfr 1 0 (by omega) (by omega) (by omega)]; rfl
  · rw [hfr 1 1 (by omega) (by omega) (by omega)]; rfl
  · exact ⟨0, by omega, z _ _ (by omega) (by omega), by rw [Nat.zero_add, d9 s hs, hd _ (by omega)]⟩
  · refine ⟨0, by omega, z _ _ (by omega) (by omega), ?_, fun _ _ _ => rfl⟩
    rw [Nat.zero_add]
    refine (d10 e he).trans ?_
    rw [if_neg (fun hh => absurd hh.1 (by rw [hd 0 (by omega)]; omega)), hd _ (by omega)]
  · exact ⟨0, by omega, z _ _ (by omega) (by omega), by rw [show 0 + 9 + d = 9 + d by omega, d11 d hd, d0_n (by omega)]⟩
  · exact ⟨0, by omega, z _ _ (by omega) (by omega), by rw [show 0 + 13 + q = 13 + q by omega, d12 q hq, hd _ (by omega)], fun _ => rfl⟩
  · exact ⟨0, by decide, z _ _ (by omega) (by omega), by rw [show 0 + 21 + q = 21 + q by omega, d13 q hq, hd _ (by omega)]⟩
  · rw [hfr _ _ (by omega) (by omega) (by omega)]
    have hc : k = 0 ∨ k = 1 ∨ k = 2 ∨ k = 3 := by omega
    rcases hc with rfl | rfl | rfl | rfl <;> rfl
  · rw [hfr 35 1 (by omega) (by omega) (by omega)]; rfl
  · rw [hfr 62 19 (by omega) (by omega) (by omega)]; rfl
  · rw [hfr 35 2 (by omega) (by omega) (by omega), hfr 62 24 (by omega) (by omega) (by omega)]; rfl
  · rw [hfr 0 5 (by omega) (by omega) (by omega), hfr 62 38 (by omega) (by omega) (by omega)]; rfl
  · rw [hfr 62 26 (by omega) (by omega) (by omega)]; rfl
theorem pu_ini : ∃ μ1, f_X10_initR mu0 = some μ1 ∧ INV μ1 := by
  unfold f_X10_initR
  refine for_rel (ρ := Mem) (body := f_X10_init_L141) nI 4 (fun i ω => (∀ q k, q ≠ 76 → ω.1 q k = mu0.1 q k) ∧ ∀ k, k < i → ω.1 76 k = -4) (fun r => INV r) (fun k i ω hi hP => ?_) (fun k ω hP => ?_) FU 0 _ (by omega) (fu_gt (by omega)) ⟨fun _ _ _ => rfl, fun k hk => by omega⟩
  · obtain ⟨q1, q2⟩ := hP
    unfold f_X10_init_L141
    rw [if_neg (show ¬ (4 : Int32) ≤ nI i from nI_ge (b := 4) hi (by omega)), inb_nI (by omega) (by omega), if_neg (show ¬ true = false by decide), nI_clamp (by omega), al1]
    refine ⟨_, rfl, fun q j hq => ?_, fun j hj => ?_⟩
    · rw [rd_p hq]
      exact q1 q j hq
    · by_cases hji : j = i
      · rw [hji, rd_s]
      · rw [rd_i hji]
        exact q2 j (by omega)
  · obtain ⟨q1, q2⟩ := hP
    unfold f_X10_init_L141
    obtain ⟨ν, n1, n2, n3⟩ := m_firstD ω
    obtain ⟨r, r1, r2⟩ := m_keepDraft d0_DW n2
    rw [if_pos (show (4 : Int32) ≤ nI 4 from by decide), bnd n1, bnd r1]
    refine ⟨r, rfl, pu_start (fun q k h1 h2 h3 => ?_) (fun k hk => ?_) r2⟩
    · rw [r2.1 q k (by omega) (by omega) (by omega) (by omega) (by omega), n3 q k (by omega) (by omega)]
      exact q1 q k h2
    · rw [r2.1 76 k (by omega) (by omega) (by omega) (by omega) (by omega), n3 76 k (by omega) (by omega)]
      exact q2 k hk
theorem pu_law {μ1 : Mem} (h : INV μ1) (xs : Nat → Int32) (L : Nat) (hL : L ≤ 2560) : ∃ μ2 : Mem, f_L_lawR xs L μ1 = some (1, μ2) := by
  unfold f_L_lawR
  exact law_loop s_feed s_end s_text s_fault s_rule s_sister s_eye s_needed s_watch s_tell s_need s_storm s_turn s_tire s_sees s_lawful s_asleep s_tired s_open s_missed s_wreck s_rest s_round s_best s_without s_beds s_late s_odds s_mean s_hear s_forget s_fits s_keep s_back s_sheet s_lay s_read s_torn s_count hL FU 0 μ1 (Nat.zero_le _) (fu_gt (by omega)) h
