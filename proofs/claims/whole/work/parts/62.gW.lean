/-! PURE: rounds, the best -/
theorem sub_out : ∀ n, n < 4 → ∀ x, x < 4 → ∀ w, w < 27 → 3 ^ n ≤ w → subQ n x w = false := by decide +kernel
theorem sub_3 : ∀ n, n < 4 → ∀ w, w < 27 → w < 3 ^ n → subQ n 3 w = true := by decide +kernel
theorem sub_x : ∀ n, n < 4 → ∀ x, x < 3 → ∀ w, w < 27 → w < 3 ^ n → (((nI (mk6 (shut w)) >>> (((2 : Int32) * nI x) &&& 31)) &&& (3 : Int32) = 0) ↔ subQ n x w = true) := by decide +kernel
def MM (n x Q : Nat) (K S F N G : Nat → Nat) (μ : Mem) : Prop := HV n K S μ ∧ (∀ s, s < n → F s < 4 ∧ μ.1 63 s = nI (F s)) ∧ (∀ d, d < 4 → N d < 7 ∧ μ.1 63 (9 + d) = nI (N d)) ∧ (∀ q, q < 6 → G q < 16 ∧ μ.1 63 (13 + q) = nI (G q)) ∧ μ.1 62 3 = nI Q ∧ AbsR x μ
theorem MM.fr {n x Q : Nat} {K S F N G : Nat → Nat} {μ ν : Mem} (h : MM n x Q K S F N G μ) (hs : MF μ ν) : MM n x Q K S F N G ν := by
  obtain ⟨h1, h2, h3, h4, h5, h6⟩ := h
  refine ⟨h1.sm hs.sm, fun s hs' => ?_, fun d hd => ?_, fun q hq => ?_, ?_, h6.fr (hs 62 26 (by omega) (by omega) (by omega) (by omega))⟩
  · rw [hs 63 _ (by omega) (by omega) (by omega) (by omega)]; exact h2 s hs'
  · rw [hs 63 _ (by omega) (by omega) (by omega) (by omega)]; exact h3 d hd
  · rw [hs 63 _ (by omega) (by omega) (by omega) (by omega)]; exact h4 q hq
  · rw [hs 62 3 (by omega) (by omega) (by omega) (by omega)]; exact h5
theorem m_isLawfulM {n x Q w q : Nat} {K S F N G : Nat → Nat} {μ : Mem} (h : MM n x Q K S F N G μ) (hw : w < 3 ^ n) (hq : q < 6) : f_X10_isLawful_62 (nI q) (nI w) μ = some (b2i (decide (LKS n x K S F N (shut w) (G q) = 0)), μ) := by
  obtain ⟨h1, h2, h3, h4, h5, h6⟩ := h
  obtain ⟨g1, g2⟩ := h4 q hq
  unfold f_X10_isLawful_62
  rw [bnd (m_shutBy h1.2.2.1 h1.1 hw)]
  dsimp only
  rw [bnd (m_missedBy h1 h2 h6 h3 hq g1 g2)]
  dsimp only
  have := mk6_z _ (LKS_lt (n := n) (x := x) (K := K) (S := S) (F := F) (N := N) (q := shut w) (st := G q))
  by_cases hz : LKS n x K S F N (shut w) (G q) = 0
  · rw [if_pos (this.mpr hz), decide_eq_true hz]
    rfl
  · rw [if_neg (fun h => hz (this.mp h)), decide_eq_false hz]
    rfl
theorem m_mostTwo {C : Nat → Bool} {Q : Nat} {μ : Mem} (hQ : Q ≤ 6) (h3 : μ.1 62 3 = nI Q) (h28 : μ.1 62 28 = nI (cnC C 6)) (h72 : ∀ k, k < cnC C 6 → μ.1 72 k = nI (evC C 6 k)) (h0 : cnC C 6 ≠ 0) : f_X10_mostTwo_62 μ = some (nI (clC C Q), μ) := by
  have hc6 : cnC C 6 ≤ 6 := cnC_le 6
  unfold f_X10_mostTwo_62
  refine for_accG (body := f_X10_mostTwo_62_L4 μ) (fun i => nI (1 + i)) (cnC C 6 - 1) (fun i => b2i (anyB (fun k => decide (1 ≤ k) && decide (evC C 6 k / 2 = evC C 6 (k - 1) / 2)) (1 + i))) _ (fun k i hi => ?_) (fun k => ?_) FU 0 (by omega) (fu_gt (by omega))
  · have e1 := (evC_ok (C := C) 6 (1 + i) (by omega)).1
    have e2 := (evC_ok (C := C) 6 i (by omega)).1
    show f_X10_mostTwo_62_L4 μ k (b2i (anyB (fun k => decide (1 ≤ k) && decide (evC C 6 k / 2 = evC C 6 (k - 1) / 2)) (1 + i))) (nI (1 + i)) = k (b2i (anyB (fun k => decide (1 ≤ k) && decide (evC C 6 k / 2 = evC C 6 (k - 1) / 2)) (1 + (i + 1)))) (nI (1 + (i + 1)))
    have hs : anyB (fun k => decide (1 ≤ k) && decide (evC C 6 k / 2 = evC C 6 (k - 1) / 2)) (1 + (i + 1)) = (anyB (fun k => decide (1 ≤ k) && decide (evC C 6 k / 2 = evC C 6 (k - 1) / 2)) (1 + i) || decide (evC C 6 (1 + i) / 2 = evC C 6 i / 2)) := by
      show (anyB (fun k => decide (1 ≤ k) && decide (evC C 6 k / 2 = evC C 6 (k - 1) / 2)) (1 + i) || (decide (1 ≤ 1 + i) && decide (evC C 6 (1 + i) / 2 = evC C 6 (1 + i - 1) / 2))) = _
      rw [decide_eq_true (show 1 ≤ 1 + i by omega), Bool.true_and, show 1 + i - 1 = i by omega]
    rw [hs]
    unfold f_X10_mostTwo_62_L4 f_X10_mostTwo_62_J37 f_X10_mostTwo_62_J42
    rw [h28, if_neg (nI_ge (by omega) (by omega)), inb_nI (by omega) (by omega), if_neg (show ¬ (true = false) by decide), show nI (1 + i) - (1 : Int32) = nI i by rw [Nat.add_comm, nI_pred], inb_nI (by omega) (by omega), if_neg (show ¬ (true = false) by decide), nI_clamp (by omega), nI_clamp (by omega), h72 _ (by omega), h72 _ (by omega), nI_div2 (by omega), nI_div2 (by omega), al1]
    cases anyB (fun k => decide (1 ≤ k) && decide (evC C 6 k / 2 = evC C 6 (k - 1) / 2)) (1 + i) with
    | true => rw [if_neg (show ¬ b2i true = 0 by decide)]; rfl
    | false =>
      rw [if_pos (show b2i false = 0 from rfl)]
      by_cases he : evC C 6 (1 + i) / 2 = evC C 6 i / 2
      · rw [if_pos ((nI_eq (by omega) (by omega)).mpr he), decide_eq_true he]; rfl
      · rw [if_neg (fun h => he ((nI_eq (by omega) (by omega)).mp h)), decide_eq_false he]; rfl
  · show f_X10_mostTwo_62_L4 μ k (b2i (anyB (fun k => decide (1 ≤ k) && decide (evC C 6 k / 2 = evC C 6 (k - 1) / 2)) (1 + (cnC C 6 - 1)))) (nI (1 + (cnC C 6 - 1))) = _
    rw [show 1 + (cnC C 6 - 1) = cnC C 6 by omega, pr_ev]
    unfold f_X10_mostTwo_62_L4 clC
    rw [h28, if_pos (nI_le (Nat.le_refl _) (by omega)), h3, nI_div2 (by omega)]
    cases prC C with
    | true => rw [if_neg (show ¬ b2i true = 0 by decide), if_pos rfl]
    | false => rw [if_pos (show b2i false = 0 from rfl), if_neg (by decide)]
def brA (A : Nat → Nat → Bool) (C : Nat → Bool) (Q : Nat) : Int32 := if UQ A C Q = 0 then -4 else pm (UQ A C Q)
theorem cn_0 {C : Nat → Bool} (h : cnC C 6 = 0) : ∀ e, e < 6 → ¬ C e = true := by
  intro e he hC
  have h1 := cnC_mono (C := C) (a := e + 1) 6 (by omega)
  rw [cnC_t hC] at h1
  omega
theorem pr_0 {C : Nat → Bool} (h : cnC C 6 = 0) : prC C = false := by
  have hf : ∀ e, e < 6 → C e = false := fun e he => by
    cases hc : C e with
    | false => rfl
    | true => exact absurd hc (cn_0 h e he)
  unfold prC
  rw [hf 0 (by omega), hf 2 (by omega), hf 4 (by omega)]
  rfl
theorem UQ_0 {A : Nat → Nat → Bool} {C : Nat → Bool} {Q : Nat} (h : cnC C 6 = 0) : UQ A C Q = if cvQ A C Q 0 (fun _ => 0) = true then Q + 1 else 0 := by
  have hcl : clC C Q = Q := by unfold clC; rw [pr_0 h]; rfl
  have hall : ∀ t, cvQ A C Q 0 (fun _ => t) = cvQ A C Q 0 (fun _ => 0) := fun t => cv_congr (fun e he hC => absurd hC (cn_0 h e he))
  obtain ⟨g1, g2, g3⟩ := grU_ok (fun t => cvQ A C Q 0 (fun _ => t)) (clC C Q + 1)
  rw [hcl] at g1 g2 g3
  unfold UQ
  rw [hcl]
  by_cases h0 : cvQ A C Q 0 (fun _ => 0) = true
  · rw [if_pos h0]
    by_cases hlt : grU (fun t => cvQ A C Q 0 (fun _ => t)) (Q + 1) < Q + 1
    · have := g3 hlt
      have this : cvQ A C Q 0 (fun _ => grU (fun t => cvQ A C Q 0 (fun _ => t)) (Q + 1)) = false := this
      rw [hall, h0] at this
      cases this
    · omega
  · rw [if_neg h0]
    by_cases hp : 0 < grU (fun t => cvQ A C Q 0 (fun _ => t)) (Q + 1)
    · exact absurd (g2 0 hp) h0
    · omega
def BR (A : Nat → Nat → Bool) (C : Nat → Bool) (n Q : Nat) (μ : Mem) : Prop := MX A C n Q μ ∧ ∃ ρ, (cnC C 6 = 0 → ρ = 0) ∧ (cnC C 6 ≠ 0 → ρ + 1 = UQ A C Q) ∧ μ.1 62 32 = nI (ρ + 1) ∧ μ.1 62 33 = nI (wtC C (ρ + 1) 6) ∧ (∀ q, q ≤ Q → TBQ A C (ρ + 1) Q μ q) ∧ cvQ A C Q 0 (fun _ => ρ) = true ∧ ρ ≤ clC C Q
theorem m_bestRest {n x Q : Nat} {K S F N G : Nat → Nat} {μ : Mem} (h : MM n x Q K S F N G μ) (hx3 : x ≤ 3) (hQ1 : 1 ≤ Q) (hQ : Q ≤ 6) :
    ∃ μ', f_X10_bestRest_62 μ = some (brA (lwQ n x K S F N G) (ctQ n x K) Q, μ') ∧ MF μ μ' ∧ (UQ (lwQ n x K S F N G) (ctQ n x K) Q ≠ 0 → BR (lwQ n x K S F N G) (ctQ n x K) n Q μ') := by
  have hn := h.1.1
  have h27 := p3 hn
  have hAout : ∀ q w, 3 ^ n ≤ w → w < 27 → lwQ n x K S F N G q w = false := by
    intro q w h1 h2
    unfold lwQ
    rw [sub_out n (by omega) x (by omega) w h2 h1]
    rfl
  obtain ⟨μ0, e1, e2, e3, e4⟩ := m_findEyes h.1 h.2.2.2.2.2
  unfold f_X10_bestRest_62
  rw [bnd e1]
  have hcl := clC_le (ctQ n x K) Q
  have hrow : ∀ (k6 k16 : Int32 → Mem → Option (Int32 × Mem)) (q w : Nat) (ν : Mem), q < 6 → w < 3 ^ n → MM n x Q K S F N G ν → f_X10_bestRest_62_L16 (nI q) k6 k16 (nI w) ν = k16 (nI (w + 1)) (pI ν 73 (27 * q + w) (b2i (lwQ n x K S F N G q w))) := by
    intro k6 k16 q w ν hq hw hM
    obtain ⟨h1, h2, h3, h4, h5, h6⟩ := hM
    have hM : MM n x Q K S F N G ν := ⟨h1, h2, h3, h4, h5, h6⟩
    unfold f_X10_bestRest_62_L16 f_X10_bestRest_62_J56 f_X10_bestRest_62_J57 f_X10_bestRest_62_J87 f_X10_bestRest_62_J88
    rw [h1.2.2.2.1, if_neg (nI_ge hw (by omega)), bnd (m_shutBy h1.2.2.1 hn hw)]
    dsimp only
    rw [lm27, nI_add, inb_nI (by omega) (by omega), if_neg (show ¬ (true = false) by decide), nI_clamp (by omega), al1, show zb (0 : Int32) = true from by decide, if_neg (show ¬ (true = false) by decide)]
    have zb1 : zb (1 : Int32) = true := by decide
    rcases h6 with ⟨rfl, h26⟩ | ⟨hx, h26⟩
    · rw [h26, if_pos (show (0 : Int32) ≤ 0 by decide), if_pos (show (0 : Int32) = 0 from rfl)]
      rw [bnd (m_isLawfulM hM hw hq)]
      simp only [zb1, Bool.true_eq_false, if_false]
      unfold lwQ
      rw [sub_3 n (by omega) w (by omega) hw, Bool.true_and]
      cases decide (LKS n 3 K S F N (shut w) (G q) = 0) with
      | false => rfl
      | true => rfl
    · rw [h26, if_neg (nI_nle (by omega) (by omega)), nI_pred]
      have hsx := sub_x n (by omega) x hx w (by omega) hw
      by_cases hs : subQ n x w = true
      · rw [if_pos (hsx.mpr hs), if_pos (show (0 : Int32) = 0 from rfl)]
        rw [bnd (m_isLawfulM hM hw hq)]
        simp only [zb1, Bool.true_eq_false, if_false]
        unfold lwQ
        rw [hs, Bool.true_and]
        cases decide (LKS n x K S F N (shut w) (G q) = 0) with
        | false => rfl
        | true => rfl
      · rw [if_neg (fun hh => hs (hsx.mp hh)), if_neg (show ¬ (1 : Int32) = 0 by decide)]
        have hsf : subQ n x w = false := by cases hc : subQ n x w <;> simp [hc] at hs ⊢
        unfold lwQ
        rw [hsf]
        rfl
  have := for_rel (body := f_X10_bestRest_62_L6) nI Q (fun q ν => MF μ ν ∧ ν.1 62 28 = nI (cnC (ctQ n x K) 6) ∧ (∀ k, k < cnC (ctQ n x K) 6 → ν.1 72 k = nI (evC (ctQ n x K) 6 k)) ∧ ∀ q', q' < q → ∀ w, w < 3 ^ n → ν.1 73 (27 * q' + w) = b2i (lwQ n x K S F N G q' w)) (fun r => r.1 = brA (lwQ n x K S F N G) (ctQ n x K) Q ∧ MF μ r.2 ∧ (UQ (lwQ n x K S F N G) (ctQ n x K) Q ≠ 0 → BR (lwQ n x K S F N G) (ctQ n x K) n Q r.2)) (fun k q ν hq hP => by
    obtain ⟨q1, q2, q3, q4⟩ := hP
    have hM := h.fr q1
    unfold f_X10_bestRest_62_L6
    rw [hM.2.2.2.2.1, if_neg (nI_ge hq (by omega))]
    exact for_con (body := f_X10_bestRest_62_L16 (nI q) k) nI (3 ^ n) (fun w ξ => MF μ ξ ∧ ξ.1 62 28 = nI (cnC (ctQ n x K) 6) ∧ (∀ k, k < cnC (ctQ n x K) 6 → ξ.1 72 k = nI (evC (ctQ n x K) 6 k)) ∧ (∀ q', q' < q → ∀ w, w < 3 ^ n → ξ.1 73 (27 * q' + w) = b2i (lwQ n x K S F N G q' w)) ∧ ∀ w', w' < w → ξ.1 73 (27 * q + w') = b2i (lwQ n x K S F N G q w')) (fun ξ => k (nI (q + 1)) ξ) (fun ξ => MF μ ξ ∧ ξ.1 62 28 = nI (cnC (ctQ n x K) 6) ∧ (∀ k, k < cnC (ctQ n x K) 6 → ξ.1 72 k = nI (evC (ctQ n x K) 6 k)) ∧ ∀ q', q' < q + 1 → ∀ w, w < 3 ^ n → ξ.1 73 (27 * q' + w) = b2i (lwQ n x K S F N G q' w)) (fun kk w ξ hw hR => by
      obtain ⟨r1, r2, r3, r4, r5⟩ := hR
      rw [hrow k kk q w ξ (by omega) hw (h.fr r1)]
      refine ⟨_, rfl, fun p i p1 p2 p3 p4 => by rw [rd_p p2]; exact r1 p i p1 p2 p3 p4, by rw [rd_p (by omega)]; exact r2, fun k hk => by rw [rd_p (by omega)]; exact r3 k hk, fun q' hq' w' hw' => by rw [rd_i (by omega)]; exact r4 q' hq' w' hw', fun w' hw' => ?_⟩
      by_cases hww : w' = w
      · rw [hww, rd_s]
      · rw [rd_i (by omega)]
        exact r5 w' (by omega)) (fun kk ξ hR => by
      obtain ⟨r1, r2, r3, r4, r5⟩ := hR
      unfold f_X10_bestRest_62_L16
      rw [(h.fr r1).1.2.2.2.1, if_pos (nI_le (Nat.le_refl _) (by omega)), al1]
      refine ⟨ξ, rfl, r1, r2, r3, fun q' hq' w hw => ?_⟩
      by_cases hqq : q' = q
      · rw [hqq]; exact r5 w hw
      · exact r4 q' (by omega) w hw) FU 0 ν (by omega) (fu_gt (by omega)) ⟨q1, q2, q3, q4, fun w' hw' => by omega⟩) (fun k ν hP => by
    obtain ⟨q1, q2, q3, q4⟩ := hP
    have hM := h.fr q1
    have hX : MX (lwQ n x K S F N G) (ctQ n x K) n Q ν := ⟨hM.1.2.2.1, hM.1.2.2.2.1, q2, q3, q4⟩
    have hc6 : cnC (ctQ n x K) 6 ≤ 6 := cnC_le 6
    unfold f_X10_bestRest_62_L6
    rw [hM.2.2.2.2.1, if_pos (nI_le (Nat.le_refl _) (by omega)), q2]
    by_cases h0 : cnC (ctQ n x K) 6 = 0
    · rw [if_pos ((nI_z (by omega)).mpr h0)]
      obtain ⟨ξ, c1, c2, c3⟩ := m_canRest (r := 0) hX hn (by omega) (wt_cap hQ (by omega)) hQ1 hQ hAout
      have c1 : f_X10_canRest_62 (nI Q) (0 : Int32) ν = some (b2i (cvQ (lwQ n x K S F N G) (ctQ n x K) Q 0 (fun _ => 0)), ξ) := c1
      have hMξ := hM.fr c2.1.mf
      have hU := UQ_0 (A := lwQ n x K S F N G) (Q := Q) h0
      rw [bnd c1]
      dsimp only
      unfold brA
      rw [hU, hMξ.2.2.2.2.1]
      cases hcv : cvQ (lwQ n x K S F N G) (ctQ n x K) Q 0 (fun _ => 0) with
      | false =>
        rw [if_pos (show b2i false = 0 from rfl), if_neg (show ¬ (false = true) by decide), if_pos (show (0 : Nat) = 0 from rfl)]
        exact ⟨_, rfl, rfl, q1.tr c2.1.mf, fun hh => absurd rfl hh⟩
      | true =>
        rw [if_neg (show ¬ b2i true = 0 by decide), if_pos (show true = true from rfl), if_neg (show ¬ Q + 1 = 0 by omega), pm_s]
        exact ⟨_, rfl, rfl, q1.tr c2.1.mf, fun _ => ⟨hX.fr c2.1, 0, fun _ => rfl, fun hh => absurd h0 hh, c2.2.1, c2.2.2, c3, hcv, Nat.zero_le _⟩⟩
    · rw [if_neg (fun hh => h0 ((nI_z (by omega)).mp hh)), bnd (m_mostTwo hQ hM.2.2.2.2.1 q2 q3 h0)]
      dsimp only
      have hUle := UQ_le (lwQ n x K S F N G) (ctQ n x K) Q
      have hJ : ∀ (r : Int32) ζ, f_X10_bestRest_62_J157 r ζ = if 0 ≤ r then some (r, ζ) else some (-4, ζ) := fun _ _ => rfl
      rw [← pm_s]
      exact for_ex (body := f_X10_bestRest_62_L135) (fun i => pm (clC (ctQ n x K) Q + 1 - i)) (clC (ctQ n x K) Q + 1 - UQ (lwQ n x K S F N G) (ctQ n x K) Q) (fun i ξ => CFQ ν ξ) (fun r => r.1 = brA (lwQ n x K S F N G) (ctQ n x K) Q ∧ MF μ r.2 ∧ (UQ (lwQ n x K S F N G) (ctQ n x K) Q ≠ 0 → BR (lwQ n x K S F N G) (ctQ n x K) n Q r.2)) (fun kk i ξ hi hR => by
        right
        obtain ⟨u, hu⟩ : ∃ u, clC (ctQ n x K) Q + 1 - i = u + 1 := ⟨clC (ctQ n x K) Q - i, by omega⟩
        have hXξ := hX.fr hR
        have hMξ := hM.fr hR.mf
        obtain ⟨ζ, c1, c2, c3⟩ := m_canRest (r := u) hXξ hn (by omega) (wt_cap hQ (by omega)) hQ1 hQ hAout
        rw [UQ_anti (show UQ (lwQ n x K S F N G) (ctQ n x K) Q ≤ u by omega) (by omega)] at c1
        show ∃ μ', f_X10_bestRest_62_L135 kk (pm (clC (ctQ n x K) Q + 1 - i)) ξ = kk (pm (clC (ctQ n x K) Q + 1 - (i + 1))) μ' ∧ CFQ ν μ'
        rw [show clC (ctQ n x K) Q + 1 - (i + 1) = u by omega, hu, pm_s]
        unfold f_X10_bestRest_62_L135
        rw [if_neg (nI_pos (by omega)), hMξ.2.2.2.2.1, bnd c1]
        exact ⟨ζ, rfl, hR.tr c2.1⟩) (fun kk ξ hR => by
        have hXξ := hX.fr hR
        have hMξ := hM.fr hR.mf
        show ∃ r, f_X10_bestRest_62_L135 kk (pm (clC (ctQ n x K) Q + 1 - (clC (ctQ n x K) Q + 1 - UQ (lwQ n x K S F N G) (ctQ n x K) Q))) ξ = some r ∧ _
        rw [show clC (ctQ n x K) Q + 1 - (clC (ctQ n x K) Q + 1 - UQ (lwQ n x K S F N G) (ctQ n x K) Q) = UQ (lwQ n x K S F N G) (ctQ n x K) Q by omega]
        unfold f_X10_bestRest_62_L135 brA
        by_cases hU0 : UQ (lwQ n x K S F N G) (ctQ n x K) Q = 0
        · rw [hU0, if_pos (show pm 0 < 0 by decide), hJ, if_neg (show ¬ 0 ≤ pm 0 by decide), if_pos rfl]
          exact ⟨_, rfl, rfl, q1.tr hR.mf, fun hh => absurd rfl hh⟩
        · obtain ⟨u, hu⟩ : ∃ u, UQ (lwQ n x K S F N G) (ctQ n x K) Q = u + 1 := ⟨UQ (lwQ n x K S F N G) (ctQ n x K) Q - 1, by omega⟩
          have hcv := UQ_t (A := lwQ n x K S F N G) (C := ctQ n x K) (Q := Q) (u := u) (by omega)
          obtain ⟨ζ, c1, c2, c3⟩ := m_canRest (r := u) hXξ hn (by omega) (wt_cap hQ (by omega)) hQ1 hQ hAout
          rw [hcv] at c1
          rw [hu, pm_s, if_neg (nI_pos (by omega)), hMξ.2.2.2.2.1, bnd c1]
          dsimp only
          rw [if_neg (show ¬ b2i true = 0 by decide), hJ, if_pos (nI_pos' (by omega)), if_neg (by omega)]
          exact ⟨_, rfl, rfl, (q1.tr hR.mf).tr c2.1.mf, fun _ => ⟨hXξ.fr c2.1, u, fun hh => absurd hh h0, fun _ => hu.symm, c2.2.1, c2.2.2, c3, hcv, by omega⟩⟩) FU 0 ν (by omega) (fu_gt (by omega)) (fun _ _ _ _ => rfl)) FU 0 μ0 (by omega) (fu_gt (by omega)) ⟨e2, e3, e4, fun q' hq' => by omega⟩
  obtain ⟨r, r1, r2, r3⟩ := this
  exact ⟨r.2, by rw [← r2]; exact r1, r3⟩
