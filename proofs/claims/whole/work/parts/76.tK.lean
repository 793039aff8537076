/-! PURE: the reading of a text, class and model -/
def d0 : Nat → Nat := fun j => if j = 1 then 4 else 0
theorem d0_n {j : Nat} (h : j ≠ 1) : d0 j = 0 := if_neg h
theorem d0_DW : DW d0 := by
  refine ⟨by decide, by decide, by decide, by decide, by decide, by decide, by decide, by decide, fun s _ => ?_, fun e _ => ?_, fun d _ => ?_, fun q _ => ?_⟩
  · rw [d0_n (by omega), d0_n (by omega)]; omega
  · rw [d0_n (by omega), d0_n (by omega)]; omega
  · rw [d0_n (by omega)]; omega
  · rw [d0_n (by omega), d0_n (by omega)]; omega
theorem p_beginT {T : Nat} {t : Nat → Nat} {μ : Mem} (hT : TPc T t μ) : ∃ ν, f_X5_begin_35 μ = some ν ∧ CS T t d0 0 ν ∧ ν.1 35 4 = nI 0 ∧ ν.1 40 6 = 0 ∧ ∀ q k, ¬ (37 ≤ q ∧ q ≤ 45) → ¬ (q = 35 ∧ k ≠ 1) → ν.1 q k = μ.1 q k := by
  obtain ⟨a1, e1, s1⟩ := p_fill_38 0 (pI (pI μ 37 0 0) 37 1 4)
  obtain ⟨a2, e2, s2⟩ := p_fill_39 0 a1
  have hE1 : f_X1_empty_37 μ = some a2 := by
    unfold f_X1_empty_37
    rw [bnd e1, bnd e2]
  obtain ⟨a3, e3, s3⟩ := p_fill_41 0 a2
  obtain ⟨a4, e4, s4⟩ := p_fill_42 0 a3
  obtain ⟨a5, e5, s5⟩ := p_fill_43 0 a4
  obtain ⟨a6, e6, s6⟩ := p_fill_44 0 a5
  obtain ⟨a7, e7, s7⟩ := p_fill_45 0 a6
  have hE2 : f_X4_empty_40 a2 = some (pI a7 40 6 0) := by
    unfold f_X4_empty_40
    rw [bnd e3, bnd e4, bnd e5, bnd e6, bnd e7]
  have F : ∀ q k, ¬ (37 ≤ q ∧ q ≤ 45) → a7.1 q k = μ.1 q k := fun q k h => by
    rw [s7.1 q k (by omega), s6.1 q k (by omega), s5.1 q k (by omega), s4.1 q k (by omega), s3.1 q k (by omega), s2.1 q k (by omega), s1.1 q k (by omega), rd_p (by omega), rd_p (by omega)]
  have v0 : a7.1 37 0 = 0 := by
    rw [s7.1 _ _ (by omega), s6.1 _ _ (by omega), s5.1 _ _ (by omega), s4.1 _ _ (by omega), s3.1 _ _ (by omega), s2.1 _ _ (by omega), s1.1 _ _ (by omega), rd_i (by omega), rd_s]
  have v1 : a7.1 37 1 = 4 := by
    rw [s7.1 _ _ (by omega), s6.1 _ _ (by omega), s5.1 _ _ (by omega), s4.1 _ _ (by omega), s3.1 _ _ (by omega), s2.1 _ _ (by omega), s1.1 _ _ (by omega), rd_s]
  have z : ∀ k, 0 + k = k := fun k => Nat.zero_add k
  have v38 : ∀ k, k < 3 → a7.1 38 k = 0 := fun k hk => by
    rw [s7.1 _ _ (by omega), s6.1 _ _ (by omega), s5.1 _ _ (by omega), s4.1 _ _ (by omega), s3.1 _ _ (by omega), s2.1 _ _ (by omega), ← z k, s1.2.1 k hk]
  have v39 : ∀ k, k < 6 → a7.1 39 k = 0 := fun k hk => by
    rw [s7.1 _ _ (by omega), s6.1 _ _ (by omega), s5.1 _ _ (by omega), s4.1 _ _ (by omega), s3.1 _ _ (by omega), ← z k, s2.2.1 k hk]
  have v41 : ∀ k, k < 3 → a7.1 41 k = 0 := fun k hk => by
    rw [s7.1 _ _ (by omega), s6.1 _ _ (by omega), s5.1 _ _ (by omega), s4.1 _ _ (by omega), ← z k, s3.2.1 k hk]
  have v42 : ∀ k, k < 6 → a7.1 42 k = 0 := fun k hk => by
    rw [s7.1 _ _ (by omega), s6.1 _ _ (by omega), s5.1 _ _ (by omega), ← z k, s4.2.1 k hk]
  have v43 : ∀ k, k < 4 → a7.1 43 k = 0 := fun k hk => by
    rw [s7.1 _ _ (by omega), s6.1 _ _ (by omega), ← z k, s5.2.1 k hk]
  have v44 : ∀ k, k < 6 → a7.1 44 k = 0 := fun k hk => by
    rw [s7.1 _ _ (by omega), ← z k, s6.2.1 k hk]
  have v45 : ∀ k, k < 6 → a7.1 45 k = 0 := fun k hk => by
    rw [← z k, s7.2.1 k hk]
  have hz : ∀ j, j ≠ 1 → nI (d0 j) = 0 := fun j hj => by rw [d0_n hj]; rfl
  unfold f_X5_begin_35
  rw [bnd hE1, bnd hE2]
  have g1 : ∀ q k, q ≠ 35 → q ≠ 40 → (pI (pI (pI (pI (pI (pI (pI (pI (pI a7 40 6 0) 35 2 (0 : Int32)) 35 3 (0 : Int32)) 35 4 (0 : Int32)) 35 10 (0 : Int32)) 35 11 (0 : Int32)) 35 12 (0 : Int32)) 35 13 (0 : Int32)) 35 14 (0 : Int32)).1 q k = a7.1 q k := fun q k h1 h2 => by
    simp (disch := assumption) only [rd_p]
  refine ⟨_, rfl, ⟨⟨hT.1, ?_, fun i hi => ⟨(hT.2.2 i hi).1, ?_⟩⟩, ⟨?_, ?_, ?_, ?_, ?_, ?_, fun s hs => ?_, fun e he => ?_, fun s hs => ?_, fun e he => ?_, fun d hd => ?_, fun q hq => ?_, fun q hq => ?_⟩, ?_, Nat.zero_le T, ?_⟩, ?_, ?_, fun q k h1 h2 => ?_⟩
  · simp (disch := omega) only [rd_p, rd_i]
    rw [F 35 1 (by omega)]
    exact hT.2.1
  · rw [g1 36 i (by omega) (by omega), F 36 i (by omega)]
    exact (hT.2.2 i hi).2
  · rw [g1 37 0 (by omega) (by omega), v0]; rfl
  · rw [g1 37 1 (by omega) (by omega), v1]; rfl
  · simp (disch := omega) only [rd_p, rd_i, rd_s]; rfl
  · simp (disch := omega) only [rd_p, rd_i, rd_s]; rfl
  · simp (disch := omega) only [rd_p, rd_i, rd_s]; rfl
  · simp (disch := omega) only [rd_p, rd_i, rd_s]; rfl
  · rw [g1 38 s (by omega) (by omega), v38 s hs, hz _ (by omega)]
  · rw [g1 39 e (by omega) (by omega), v39 e he, hz _ (by omega)]
  · rw [g1 41 s (by omega) (by omega), v41 s hs, hz _ (by omega)]
  · rw [g1 42 e (by omega) (by omega), v42 e he, hz (40 + e) (by omega)]
    split <;> rfl
  · rw [g1 43 d (by omega) (by omega), v43 d hd, hz _ (by omega)]
  · rw [g1 44 q (by omega) (by omega), v44 q hq, hz _ (by omega)]
  · rw [g1 45 q (by omega) (by omega), v45 q hq, hz _ (by omega)]
  · simp (disch := omega) only [rd_p, rd_i, rd_s]; rfl
  · simp (disch := omega) only [rd_p, rd_i, rd_s]
  · simp (disch := omega) only [rd_p, rd_i, rd_s]; rfl
  · simp (disch := omega) only [rd_p, rd_i, rd_s]
  · by_cases hq : q = 35
    · subst hq
      have hk : k = 1 := by omega
      subst hk
      simp (disch := omega) only [rd_p, rd_i]
      exact F 35 1 (by omega)
    · rw [g1 q k hq (by omega), F q k h1]
/-- the class's answer to a text -/
def PT (X : XT) (μ0 : Mem) (r : Int32 × Mem) : Prop := r.2.1 35 1 = 0 ∧ (∀ f w, X = xf f w → r.1 = -10 - nI w ∧ r.2.1 35 2 = nI f ∧ ∀ q k, ¬ (37 ≤ q ∧ q ≤ 45) → q ≠ 35 → r.2.1 q k = μ0.1 q k) ∧ (∀ D l, X = xd D l → r.1 = nI l ∧ DW D ∧ D 7 ≤ D 1 ∧ wkB D = true ∧ r.2.1 35 2 = 0 ∧ r.2.1 1 0 = nI (D 0) ∧ r.2.1 1 1 = nI (D 1) ∧ (∀ s, s < 3 → r.2.1 2 s = nI (D (10 + s))) ∧ (∀ e, e < 6 → r.2.1 3 e = nI (D (20 + e))) ∧ (∀ s, s < 3 → r.2.1 5 s = nI (D (30 + s))) ∧ (∀ e, e < 6 → r.2.1 6 e = if e % 2 = 0 ∧ D (10 + e / 2) = 1 then 0 else nI (D (40 + e))) ∧ (∀ d, d < 4 → r.2.1 7 d = nI (D (50 + d))) ∧ (∀ q, q < 6 → r.2.1 8 q = nI (D (60 + q))) ∧ (∀ q, q < 6 → r.2.1 9 q = nI (D (70 + q))) ∧ r.2.1 4 6 = 0 ∧ r.2.1 0 3 = 0 ∧ ∀ q k, ¬ (37 ≤ q ∧ q ≤ 45) → q ≠ 35 → ¬ (1 ≤ q ∧ q ≤ 10) → ¬ (q = 0 ∧ k = 3) → r.2.1 q k = μ0.1 q k)
theorem p_text {T : Nat} {t : Nat → Nat} {μ : Mem} (hT : TPc T t μ) : ∃ r, f_X9_text_0 μ = some r ∧ PT (runS T t 322 d0 0 0) μ r := by
  obtain ⟨ν, b1, b2, b3, b4, b5⟩ := p_beginT hT
  have hFU : FU = 322 + 999678 := rfl
  obtain ⟨r, r1, r2, r3, r4⟩ := p_run (T := T) (t := t) (μ0 := ν) 999678 322 0 d0 0 0 ν (by omega) (by omega) d0_DW b2 b3 (fun _ _ _ _ => rfl)
  have hR : f_X5_readAll_35 μ = some r := by
    unfold f_X5_readAll_35
    rw [bnd b1, hFU]
    exact r1
  have hfr : ∀ q k, ¬ (37 ≤ q ∧ q ≤ 45) → q ≠ 35 → (pI r.2 35 1 0).1 q k = μ.1 q k := fun q k h1 h2 => by
    rw [rd_p h2, r2 q k (by omega) (by omega), b5 q k h1 (by omega)]
  have h406 : (pI r.2 35 1 0).1 40 6 = 0 := by rw [rd_p (by omega), r2 40 6 (by omega) (by omega), b4]
  unfold f_X9_text_0
  rw [bnd hR]
  rcases XT.cs (runS T t 322 d0 0 0) with ⟨f, w, hx⟩ | ⟨D, l, hx⟩
  · obtain ⟨g1, g2, g3⟩ := r3 f w hx
    rw [if_pos g1, g3]
    refine ⟨_, rfl, rd_s, fun f' w' hx' => ?_, fun D l hx' => (xf_xd (hx.symm.trans hx')).elim⟩
    obtain ⟨rfl, rfl⟩ := xf_inj (hx.symm.trans hx')
    refine ⟨rfl, ?_, hfr⟩
    show (pI r.2 35 1 0).1 35 2 = nI f
    rw [pI_35 (by omega)]
    exact g2
  · obtain ⟨g1, g2, g3, g4, g5, g6, g7, g8⟩ := r4 D l hx
    rw [if_neg (show ¬ r.1 = 0 by rw [g1]; decide)]
    have g2 : CRd D (pI r.2 35 1 0) := by
      unfold CRd at g2 ⊢
      simp (disch := omega) only [rd_p, rd_i]
      exact g2
    have g7 : (pI r.2 35 1 0).1 35 4 = nI l := by rw [pI_35 (by omega)]; exact g7
    have g8 : (pI r.2 35 1 0).1 35 2 = 0 := by rw [pI_35 (by omega)]; exact g8
    have g9 : (pI r.2 35 1 0).1 35 1 = 0 := rd_s
    generalize pI r.2 35 1 0 = ξ at hfr h406 g2 g7 g8 g9
    obtain ⟨c0, c1, -, -, -, -, c6, c7, c8, c9, c10, c11, c12⟩ := g2
    have hB : f_X1_become_1_37 ξ = some (cpI (cpI (pI (pI ξ 1 0 (ξ.1 37 0)) 1 1 (ξ.1 37 1)) 38 2 3) 39 3 6) := rfl
    rw [bnd hB]
    have k0 : ∀ q k, ¬ (1 ≤ q ∧ q ≤ 3) → (cpI (cpI (pI (pI ξ 1 0 (ξ.1 37 0)) 1 1 (ξ.1 37 1)) 38 2 3) 39 3 6).1 q k = ξ.1 q k := fun q k h => by
      rw [rdC_p (by omega), rdC_p (by omega), rd_p (by omega), rd_p (by omega)]
    have k1 : (cpI (cpI (pI (pI ξ 1 0 (ξ.1 37 0)) 1 1 (ξ.1 37 1)) 38 2 3) 39 3 6).1 1 0 = nI (D 0) := by
      rw [rdC_p (by omega), rdC_p (by omega), rd_i (by omega), rd_s, c0]
    have k2 : (cpI (cpI (pI (pI ξ 1 0 (ξ.1 37 0)) 1 1 (ξ.1 37 1)) 38 2 3) 39 3 6).1 1 1 = nI (D 1) := by
      rw [rdC_p (by omega), rdC_p (by omega), rd_s, c1]
    have k3 : ∀ s, s < 3 → (cpI (cpI (pI (pI ξ 1 0 (ξ.1 37 0)) 1 1 (ξ.1 37 1)) 38 2 3) 39 3 6).1 2 s = nI (D (10 + s)) := fun s hs => by
      rw [rdC_p (by omega), rdC_in hs, rd_p (by omega), rd_p (by omega), c6 s hs]
    have k4 : ∀ e, e < 6 → (cpI (cpI (pI (pI ξ 1 0 (ξ.1 37 0)) 1 1 (ξ.1 37 1)) 38 2 3) 39 3 6).1 3 e = nI (D (20 + e)) := fun e he => by
      rw [rdC_in he, rdC_p (by omega), rd_p (by omega), rd_p (by omega), c7 e he]
    generalize cpI (cpI (pI (pI ξ 1 0 (ξ.1 37 0)) 1 1 (ξ.1 37 1)) 38 2 3) 39 3 6 = ζ at k0 k1 k2 k3 k4
    obtain ⟨η, q1, q2, q3, q4, q5, q6, q7, q8, q9, q10⟩ := p_become_4_40 ζ
    rw [bnd q1]
    refine ⟨_, rfl, ?_, fun f w hx' => (xf_xd (hx'.symm.trans hx)).elim, fun D' l' hx' => ?_⟩
    · show (pI η 0 3 0).1 35 1 = 0
      rw [rd_p (by omega), q2 35 1 (by omega), k0 35 1 (by omega), g9]
    obtain ⟨rfl, rfl⟩ := xd_inj (hx.symm.trans hx')
    have w : ∀ q k, q ≠ 0 → (pI η 0 3 0).1 q k = η.1 q k := fun q k h => rd_p h
    refine ⟨?_, g3, g5, g6, ?_, ?_, ?_, fun s hs => ?_, fun e he => ?_, fun s hs => ?_, fun e he => ?_, fun d hd => ?_, fun q hq => ?_, fun q hq => ?_, ?_, rd_s, fun q k h1 h2 h3 h4 => ?_⟩
    · show η.1 35 4 = nI l
      rw [q2 35 4 (by omega), k0 35 4 (by omega), g7]
    · show (pI η 0 3 0).1 35 2 = 0
      rw [w _ _ (by omega), q2 35 2 (by omega), k0 35 2 (by omega), g8]
    · show (pI η 0 3 0).1 1 0 = _
      rw [w _ _ (by omega), q2 1 0 (by omega), k1]
    · show (pI η 0 3 0).1 1 1 = _
      rw [w _ _ (by omega), q2 1 1 (by omega), k2]
    · show (pI η 0 3 0).1 2 s = _
      rw [w _ _ (by omega), q2 2 s (by omega), k3 s hs]
    · show (pI η 0 3 0).1 3 e = _
      rw [w _ _ (by omega), q2 3 e (by omega), k4 e he]
    · show (pI η 0 3 0).1 5 s = _
      rw [w _ _ (by omega), q3 s hs, k0 41 s (by omega), c8 s hs]
    · show (pI η 0 3 0).1 6 e = _
      rw [w _ _ (by omega), q4 e he, k0 42 e (by omega), c9 e he]
    · show (pI η 0 3 0).1 7 d = _
      rw [w _ _ (by omega), q5 d hd, k0 43 d (by omega), c10 d hd]
    · show (pI η 0 3 0).1 8 q = _
      rw [w _ _ (by omega), q6 q hq, k0 44 q (by omega), c11 q hq]
    · show (pI η 0 3 0).1 9 q = _
      rw [w _ _ (by omega), q7 q hq, k0 45 q (by omega), c12 q hq]
    · show (pI η 0 3 0).1 4 6 = 0
      rw [w _ _ (by omega), q9, k0 40 6 (by omega), h406]
    · show (pI η 0 3 0).1 q k = μ.1 q k
      rw [← hfr q k h1 h2, ← k0 q k (by omega), ← q2 q k (by omega)]
      by_cases h0 : q = 0
      · subst h0
        exact rd_i (by omega)
      · exact rd_p h0
theorem m_text {T : Nat} {t : Nat → Nat} {μ : Mem} (hT : TPm T t μ) : ∃ r, f_X10_text_62 μ = some r ∧ RRm (runS T t 322 d0 0 0) μ r := by
  have hz : ∀ j, j ≠ 1 → nI (d0 j) = 0 := fun j hj => by rw [d0_n hj]; rfl
  have hfd : ∃ ν, f_X10_firstDraft_62 (pI (pI μ 62 24 (0 : Int32)) 62 20 (0 : Int32)) = some ν ∧ MRd d0 ν ∧ MFr μ ν ∧ ν.1 62 20 = nI 0 ∧ ν.1 62 24 = 0 := by
    unfold f_X10_firstDraft_62
    refine for_rel (ρ := Mem) (body := f_X10_firstDraft_62_L2) nI 54 (fun i ω => MFr μ ω ∧ ω.1 62 20 = nI 0 ∧ ω.1 62 24 = 0 ∧ ∀ k, k < i → ω.1 67 k = 0) (fun ν => MRd d0 ν ∧ MFr μ ν ∧ ν.1 62 20 = nI 0 ∧ ν.1 62 24 = 0) (fun k i ω hi hP => ?_) (fun k ω hP => ?_) FU 0 _ (by omega) (fu_gt (by omega)) ⟨((MFr.rf μ).w (by omega)).w (by omega), rd_s, ?_, fun k hk => by omega⟩
    · obtain ⟨q1, q2, q3, q4⟩ := hP
      unfold f_X10_firstDraft_62_L2
      rw [if_neg (show ¬ (54 : Int32) ≤ nI i from nI_ge (b := 54) hi (by omega)), inb_nI (by omega) (by omega), if_neg (show ¬ true = false by decide), nI_clamp (by omega), al1]
      refine ⟨_, rfl, q1.w (by omega), ?_, ?_, fun j hj => ?_⟩
      · rw [rd_p (by omega)]; exact q2
      · rw [rd_p (by omega)]; exact q3
      · by_cases hji : j = i
        · rw [hji, rd_s]
        · rw [rd_i hji]
          exact q4 j (by omega)
    · obtain ⟨q1, q2, q3, q4⟩ := hP
      unfold f_X10_firstDraft_62_L2
      rw [if_pos (show (54 : Int32) ≤ nI 54 from by decide)]
      have g : ∀ k, k < 54 → (pI (pI (pI (pI (pI (pI (pI (pI ω 62 8 (0 : Int32)) 62 9 (4 : Int32)) 62 12 (0 : Int32)) 62 13 (0 : Int32)) 62 14 (0 : Int32)) 62 15 (0 : Int32)) 62 16 (-4 : Int32)) 62 17 (-4 : Int32)).1 67 k = 0 := fun k hk => by
        simp (disch := omega) only [rd_p]
        exact q4 k hk
      refine ⟨_, rfl, ⟨?_, ?_, ?_, ?_, ?_, ?_, ?_, ?_, fun s hs => absurd hs (Nat.not_lt_zero s), fun e he => absurd he (Nat.not_lt_zero e), fun s hs => ?_, fun e he => ?_, fun d hd => ?_, fun q hq => ?_, fun q hq => ?_, g 29 (by omega)⟩, ?_, ?_, ?_⟩
      · simp (disch := omega) only [rd_i, rd_s]; rfl
      · simp (disch := omega) only [rd_i, rd_s]; rfl
      · simp (disch := omega) only [rd_i, rd_s]; rfl
      · simp (disch := omega) only [rd_i, rd_s]; rfl
      · simp (disch := omega) only [rd_i, rd_s]; rfl
      · simp (disch := omega) only [rd_i, rd_s]; rfl
      · simp (disch := omega) only [rd_i, rd_s]; decide
      · simp (disch := omega) only [rd_i, rd_s]; decide
      · rw [g s (by omega), hz _ (by omega)]
      · rw [g (3 + e) (by omega), hz _ (by omega)]
      · rw [g (9 + d) (by omega), hz _ (by omega)]
      · rw [g (13 + q) (by omega), hz _ (by omega)]
      · rw [g (21 + q) (by omega), hz _ (by omega)]
      · exact (((((((q1.w (by omega)).w (by omega)).w (by omega)).w (by omega)).w (by omega)).w (by omega)).w (by omega)).w (by omega)
      · simp (disch := omega) only [rd_i]; exact q2
      · simp (disch := omega) only [rd_i]; exact q3
    · rw [rd_i (by omega), rd_s]
  obtain ⟨ν, n1, n2, n3, n4, n5⟩ := hfd
  obtain ⟨ξ, x1, x2, x3⟩ := m_next (hT.mf n3) (Nat.zero_le T) n4 n5
  have hFU : FU = 322 + (999677 + 1) := rfl
  obtain ⟨r, r1, r2⟩ := m_run (T := T) (t := t) (μ0 := μ) 999677 322 0 d0 0 0 ξ (by omega) (by omega) d0_DW ⟨(hT.mf n3).fr x2, n2.ny x2, x3, Nat.zero_le T⟩ (n3.tr x2.mf)
  refine ⟨r, ?_, r2⟩
  unfold f_X10_text_62
  rw [bnd n1, bnd x1, hFU]
  exact r1
theorem bl_mk6T : ∀ a b c d e g : Bool, ∀ q, q < 6 → blN (a.toNat + 2 * b.toNat + 4 * c.toNat + 8 * d.toNat + 16 * e.toNat + 32 * g.toNat) ≤ q → (if q = 0 then a else if q = 1 then b else if q = 2 then c else if q = 3 then d else if q = 4 then e else g) = false := by decide +kernel
theorem bl_q {f : Nat → Bool} {q : Nat} (hq : q < 6) (h : blN (mk6 f) ≤ q) : f q = false := by
  have := bl_mk6T (f 0) (f 1) (f 2) (f 3) (f 4) (f 5) q hq h
  have hc : q = 0 ∨ q = 1 ∨ q = 2 ∨ q = 3 ∨ q = 4 ∨ q = 5 := by omega
  rcases hc with rfl | rfl | rfl | rfl | rfl | rfl <;> exact this
theorem s_text : PStp f_X9_text_0 f_X10_text_62 := by
  intro μ hI
  obtain ⟨n, Q, hH, hP, hG, hS, hTp, hRs⟩ := hI
  obtain ⟨T, t1, t2, t3, t4⟩ := hTp
  have t5 : ∀ i, i < T → (μ.1 70 i).toNatClampNeg < 256 ∧ μ.1 70 i = nI (μ.1 70 i).toNatClampNeg ∧ μ.1 36 i = cb (μ.1 70 i).toNatClampNeg := fun i hi => by
    obtain ⟨c, u1, u2, u3⟩ := t4 i hi
    rw [u2, nI_clamp (by omega)]
    exact ⟨u1, rfl, u3⟩
  generalize ht : (fun i => (μ.1 70 i).toNatClampNeg) = t at t5
  have t5 : ∀ i, i < T → t i < 256 ∧ μ.1 70 i = nI (t i) ∧ μ.1 36 i = cb (t i) := fun i hi => by
    rw [← ht]
    exact t5 i hi
  obtain ⟨r, r1, r2, r3, r4⟩ := p_text (T := T) (t := t) (μ := μ) ⟨t1, t2, fun i hi => ⟨(t5 i hi).1, (t5 i hi).2.2⟩⟩
  rcases XT.cs (runS T t 322 d0 0 0) with ⟨f, w, hx⟩ | ⟨D, l, hx⟩
  · obtain ⟨g1, g2, g3⟩ := r3 f w hx
    obtain ⟨v, v1, v2, -⟩ := m_text (T := T) (t := t) (μ := r.2) ⟨t1, by rw [g3 62 19 (by omega) (by omega)]; exact t3, fun i hi => ⟨(t5 i hi).1, by rw [g3 70 i (by omega) (by omega)]; exact (t5 i hi).2.1⟩⟩
    obtain ⟨e1, e2, e3, e4⟩ := v2 f w hx
    have hF : ∀ q k, ¬ (37 ≤ q ∧ q ≤ 45) → q ≠ 35 → ¬ (67 ≤ q ∧ q ≤ 69) → ¬ (q = 62 ∧ 8 ≤ k ∧ k < 26) → v.2.1 q k = μ.1 q k := fun q k h1 h2 h3 h4 => by
      rw [e4 q k h3 h4, g3 q k h1 h2]
    refine ⟨r.1, r.2, v.2, r1, ?_, n, Q, hH.fr (fun p k hp => hF p k (by omega) (by omega) (by omega) (by omega)) (fun k hk => hF _ _ (by omega) (by omega) (by omega) (by omega)),
      hP.fr (fun j k hj => hF _ _ (by omega) (by omega) (by omega) (by omega)) (fun k => hF _ _ (by omega) (by omega) (by omega) (by omega)) (fun k _ _ => hF _ _ (by omega) (by omega) (by omega) (by omega)),
      hG.fr (fun p k _ _ => hF _ _ (by omega) (by omega) (by omega) (by omega)) (fun k => hF _ _ (by omega) (by omega) (by omega) (by omega)) (fun k _ => hF _ _ (by omega) (by omega) (by omega) (by omega)) (hF _ _ (by omega) (by omega) (by omega) (by omega)) (fun k => hF _ _ (by omega) (by omega) (by omega) (by omega)),
      fun k hk => (hS k hk).fr (fun i => hF _ _ (by omega) (by omega) (by omega) (by omega)) (fun i => hF _ _ (by omega) (by omega) (by omega) (by omega)) (hF _ _ (by omega) (by omega) (by omega) (by omega)) (hF _ _ (by omega) (by omega) (by omega) (by omega)) (fun i _ => hF _ _ (by omega) (by omega) (by omega) (by omega)),
      ⟨0, by omega, ?_, ?_, fun i hi => by omega⟩, ?_, ?_, ?_⟩
    · rw [v1, g1, ← e1]
    · rw [e4 35 1 (by omega) (by omega)]; exact r2
    · exact e3
    · rw [e4 35 2 (by omega) (by omega), g2, e2]
    · rw [hF 0 5 (by omega) (by omega) (by omega) (by omega), hF 62 38 (by omega) (by omega) (by omega) (by omega)]; exact hRs.2.1
    · rw [hF 62 26 (by omega) (by omega) (by omega) (by omega)]; exact hRs.2.2
  · obtain ⟨g1, hD, g5, g6, g7, k10, k11, k2, k3, k5, k6, k7, k8, k9, k46, k03, g3⟩ := r4 D l hx
    obtain ⟨v, v1, -, v2⟩ := m_text (T := T) (t := t) (μ := r.2) ⟨t1, by rw [g3 62 19 (by omega) (by omega) (by omega) (by omega)]; exact t3, fun i hi => ⟨(t5 i hi).1, by rw [g3 70 i (by omega) (by omega) (by omega) (by omega)]; exact (t5 i hi).2.1⟩⟩
    obtain ⟨e1, ν, e2, e3, d1, d2, d3, d4, d5, d6, d7, d8, d9, d10, d11, d12, d13, d14⟩ := v2 D l hx
    have w0 := hD.1
    have w1 := hD.2.1
    have w7 := hD.2.2.2.2.2.2.2.1
    have w8 := hD.2.2.2.2.2.2.2.2.1
    have w9 := hD.2.2.2.2.2.2.2.2.2.1
    have w10 := hD.2.2.2.2.2.2.2.2.2.2.1
    have w11 := hD.2.2.2.2.2.2.2.2.2.2.2
    have hM : ∀ q k, ¬ (q = 63 ∧ k < 54) → ¬ (64 ≤ q ∧ q ≤ 69) → ¬ (q = 62 ∧ ((2 ≤ k ∧ k ≤ 4) ∨ (8 ≤ k ∧ k < 26))) → v.2.1 q k = r.2.1 q k := fun q k h1 h2 h3 => by
      rw [d1 q k h1 (by omega) (by omega) (by omega) (by omega), ← e2 q k (by omega) (by omega)]
      by_cases hq : q = 62
      · subst hq
        exact rd_i (by omega)
      · exact rd_p hq
    have hF : ∀ q k, ¬ (q = 63 ∧ k < 54) → ¬ (64 ≤ q ∧ q ≤ 69) → ¬ (q = 62 ∧ ((2 ≤ k ∧ k ≤ 4) ∨ (8 ≤ k ∧ k < 26))) → ¬ (37 ≤ q ∧ q ≤ 45) → q ≠ 35 → ¬ (1 ≤ q ∧ q ≤ 10) → ¬ (q = 0 ∧ k = 3) → v.2.1 q k = μ.1 q k := fun q k h1 h2 h3 h4 h5 h6 h7 => by
      rw [hM q k h1 h2 h3, g3 q k h4 h5 h6 h7]
    have hL : ∀ q k, q < 62 → v.2.1 q k = r.2.1 q k := fun q k h => hM q k (by omega) (by omega) (by omega)
    have e19 : v.2.1 62 19 = 0 := by
      rw [d1 62 19 (by omega) (by omega) (by omega) (by omega) (by omega), rd_s]
    have e24 : v.2.1 62 24 = 0 := by
      rw [d1 62 24 (by omega) (by omega) (by omega) (by omega) (by omega), pI_62 (by omega), e3]
    refine ⟨r.1, r.2, v.2, r1, ?_, D 0, D 1, ⟨w0, w1.1, w1.2, ?_, d2, d4, ?_, d3, fun s hs => ?_, fun e he => ?_⟩, ⟨fun s hs => ?_, fun e he => ?_, fun d hd => ?_, fun q hq => ?_, fun q hq => ?_, 0, by omega, ?_, d14, fun i hi => by omega⟩, ⟨false, false, ?_, d5, d6, fun h => absurd h (by decide), fun h => absurd h (by decide)⟩,
      fun k hk => (hS k hk).fr (fun i => hF _ _ (by omega) (by omega) (by omega) (by omega) (by omega) (by omega) (by omega)) (fun i => hF _ _ (by omega) (by omega) (by omega) (by omega) (by omega) (by omega) (by omega)) (hF _ _ (by omega) (by omega) (by omega) (by omega) (by omega) (by omega) (by omega)) (hF _ _ (by omega) (by omega) (by omega) (by omega) (by omega) (by omega) (by omega)) (fun i _ => hF _ _ (by omega) (by omega) (by omega) (by omega) (by omega) (by omega) (by omega)),
      ⟨0, by omega, ?_, e19, fun i hi => by omega⟩, ?_, ?_, ?_⟩
    · rw [v1, g1, ← e1]
    · rw [hL 1 0 (by omega), k10]
    · rw [hL 1 1 (by omega), k11]
    · exact ⟨D (10 + s), (w8 s (by omega)).1, by rw [hL 2 s (by omega), k2 s (by omega)], d7 s hs⟩
    · refine ⟨D (20 + e), (w9 e (by omega)).1, by rw [hL 3 e (by omega), k3 e (by omega)], ?_⟩
      rw [d8 e he, hL 2 (e / 2) (by omega), k2 (e / 2) (by omega)]
      have hk := (w8 (e / 2) (by omega)).1
      by_cases hc : e % 2 = 0 ∧ D (10 + e / 2) = 1
      · rw [if_pos hc, if_pos ⟨hc.1, by rw [hc.2]; rfl⟩]
      · rw [if_neg hc, if_neg (fun hh => hc ⟨hh.1, (nI_eq (b := 1) (by omega) (by omega)).mp hh.2⟩)]
    · exact ⟨D (30 + s), (w8 s hs).2, by rw [hL _ _ (by omega)]; exact k5 s hs, by rw [Nat.zero_add]; exact d9 s hs⟩
    · have w9e := w9 e he
      refine ⟨if e % 2 = 0 ∧ D (10 + e / 2) = 1 then 0 else D (40 + e), ?_, ?_, ?_, fun h1 h2 h3 => ?_⟩
      · split <;> omega
      · rw [hL _ _ (by omega)]
        refine (k6 e he).trans ?_
        split <;> rfl
      · rw [Nat.zero_add]
        refine (d10 e he).trans ?_
        by_cases hc : e % 2 = 0 ∧ D (10 + e / 2) = 1
        · rw [if_pos hc]
          by_cases hn : e < 2 * D 0
          · rw [if_pos ⟨hn, hc⟩]; rfl
          · rw [if_neg (fun hh => hn hh.1), w9e.2.2 (by omega)]
        · rw [if_neg hc, if_neg (fun hh => hc hh.2)]
      · rw [hL 2 (e / 2) (by omega), k2 (e / 2) (by omega)] at h3
        have hk := (w8 (e / 2) (by omega)).1
        rw [if_pos ⟨h1, (nI_eq (b := 1) (by omega) (by omega)).mp h3⟩]
    · exact ⟨D (50 + d), w10 d hd, by rw [hL _ _ (by omega)]; exact k7 d hd, by rw [show 0 + 9 + d = 9 + d by omega]; exact d11 d hd⟩
    · refine ⟨D (60 + q), (w11 q hq).1, by rw [hL _ _ (by omega)]; exact k8 q hq, by rw [show 0 + 13 + q = 13 + q by omega]; exact d12 q hq, fun hQ => ?_⟩
      have hb : qmB D q = false := bl_q hq (by rw [← w7]; omega)
      unfold qmB at hb
      rw [Bool.or_eq_false_iff] at hb
      have := of_decide_eq_false hb.1
      omega
    · have hw : D (70 + q) < 3 ^ D 0 := by
        cases hc : decide (D (70 + q) < 3 ^ D 0) with
        | true => exact of_decide_eq_true hc
        | false =>
          have hf : wkB D = false := alB_f (f := fun q => decide (D (70 + q) < 3 ^ D 0)) hc 6 hq
          rw [g6] at hf
          cases hf
      exact ⟨D (70 + q), hw, by rw [hL _ _ (by omega)]; exact k9 q hq, by rw [show 0 + 21 + q = 21 + q by omega]; exact d13 q hq⟩
    · rw [hL 4 6 (by omega), k46]; rfl
    · rw [hL 0 3 (by omega), k03]; rfl
    · rw [hL 35 1 (by omega), r2]; rfl
    · rw [hL 35 2 (by omega), g7, e24]
    · rw [hF 0 5 (by omega) (by omega) (by omega) (by omega) (by omega) (by omega) (by omega), hF 62 38 (by omega) (by omega) (by omega) (by omega) (by omega) (by omega) (by omega)]; exact hRs.2.1
    · rw [hF 62 26 (by omega) (by omega) (by omega) (by omega) (by omega) (by omega) (by omega)]; exact hRs.2.2
