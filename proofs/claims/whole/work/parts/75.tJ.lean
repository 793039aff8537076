/-! PURE: the model's reading of a text, to its end -/
theorem m_areWatches {D : Nat → Nat} {μ : Mem} (hD : DW D) (h : MRd D μ) : f_X10_areWatches_62 μ = some (b2i (wkB D), μ) := by
  have w0 := hD.1
  have w11 := hD.2.2.2.2.2.2.2.2.2.2.2
  have h27 := p3 w0
  unfold f_X10_areWatches_62 wkB
  have := for_accGm (body := f_X10_areWatches_62_L4) nI 6 (fun i => b2i (alB (fun q => decide (D (70 + q) < 3 ^ D 0)) i)) (fun _ ν => ν = μ) (fun r => r = (b2i (alB (fun q => decide (D (70 + q) < 3 ^ D 0)) 6), μ)) (fun k i ν hi hP => by
    subst hP
    refine ⟨ν, ?_, rfl⟩
    have hs : alB (fun q => decide (D (70 + q) < 3 ^ D 0)) (i + 1) = (alB (fun q => decide (D (70 + q) < 3 ^ D 0)) i && decide (D (70 + i) < 3 ^ D 0)) := rfl
    have hle := (w11 i hi).2
    rw [hs]
    unfold f_X10_areWatches_62_L4 f_X10_areWatches_62_J38 f_X10_areWatches_62_J39
    rw [if_neg (show ¬ (6 : Int32) ≤ nI i from nI_ge (b := 6) hi (by omega)), al1]
    cases alB (fun q => decide (D (70 + q) < 3 ^ D 0)) i with
    | false => rw [if_pos (show b2i false = 0 from rfl)]; rfl
    | true =>
      rw [if_neg (show ¬ b2i true = 0 by decide), la21, inb_nI (by omega) (by omega), if_neg (show ¬ true = false by decide), h.1, show (3 : Int32) = nI 3 from rfl, bnd (m_power (b := 3) (k := D 0) (by omega))]
      dsimp only
      rw [nI_clamp (by omega), h.2.2.2.2.2.2.2.2.2.2.2.2.2.2.1 i hi]
      by_cases hc : D (70 + i) < 3 ^ D 0
      · rw [if_neg (nI_ge hc (by omega)), decide_eq_true hc]; rfl
      · rw [if_pos (nI_le (by omega) (by omega)), decide_eq_false hc]; rfl) (fun k ν hP => by
    subst hP
    unfold f_X10_areWatches_62_L4
    rw [if_pos (show (6 : Int32) ≤ nI 6 from by decide), b2i_zb, if_neg (show ¬ true = false by decide)]
    exact ⟨_, rfl, rfl⟩) FU 0 μ (by omega) (fu_gt (by omega)) rfl
  obtain ⟨r, r1, rfl⟩ := this
  exact r1
def KD (D : Nat → Nat) (ν r : Mem) : Prop := (∀ q k, ¬ (q = 63 ∧ k < 54) → q ≠ 64 → q ≠ 65 → q ≠ 66 → ¬ (q = 62 ∧ (k = 2 ∨ k = 3 ∨ k = 4)) → r.1 q k = ν.1 q k) ∧ r.1 62 2 = nI (D 0) ∧ r.1 62 3 = nI (D 1) ∧ r.1 62 4 = nI (3 ^ D 0) ∧ r.1 64 0 = 0 ∧ r.1 64 1 = 0 ∧ (∀ s, s < D 0 → r.1 65 s = nI (D (10 + s))) ∧ (∀ e, e < 2 * D 0 → r.1 66 e = if e % 2 = 0 ∧ D (10 + e / 2) = 1 then 0 else nI (D (20 + e))) ∧ (∀ s, s < 3 → r.1 63 s = nI (D (30 + s))) ∧ (∀ e, e < 6 → r.1 63 (3 + e) = if e < 2 * D 0 ∧ e % 2 = 0 ∧ D (10 + e / 2) = 1 then 0 else nI (D (40 + e))) ∧ (∀ d, d < 4 → r.1 63 (9 + d) = nI (D (50 + d))) ∧ (∀ q, q < 6 → r.1 63 (13 + q) = nI (D (60 + q))) ∧ (∀ q, q < 6 → r.1 63 (21 + q) = nI (D (70 + q))) ∧ r.1 63 29 = 0
theorem m_kd2 {s ks : Nat} {k56 : Int32 → Mem → Option Mem} {ω : Mem} (hs : s < 3) (hk : ks < 4) (h65 : ω.1 65 s = nI ks) : it2 (f_X10_keepDraft_62_L78 (nI s) k56) FU (0 : Int32) ω = k56 (nI (s + 1)) (pI (pI (pI (pI ω 66 (2 * s) (if ks = 1 then 0 else ω.1 69 (2 * s))) 63 (3 + 2 * s) (if ks = 1 then 0 else ω.1 63 (3 + 2 * s))) 66 (2 * s + 1) (ω.1 69 (2 * s + 1))) 63 (3 + 2 * s + 1) (ω.1 63 (3 + 2 * s + 1))) := by
  obtain ⟨NN, hN⟩ : ∃ NN, FU = NN + 1 + 1 + 1 := ⟨999997, rfl⟩
  have hz : ∀ x : Int32, x + 0 = x := fun x => Int32.add_zero x
  have h0 : ∀ kk : Int32 → Mem → Option Mem, f_X10_keepDraft_62_L78 (nI s) k56 kk (0 : Int32) ω = kk (nI 1) (pI (pI ω 66 (2 * s) (if ks = 1 then 0 else ω.1 69 (2 * s))) 63 (3 + 2 * s) (if ks = 1 then 0 else ω.1 63 (3 + 2 * s))) := by
    intro kk
    unfold f_X10_keepDraft_62_L78 f_X10_keepDraft_62_J101 f_X10_keepDraft_62_J102 f_X10_keepDraft_62_J130 f_X10_keepDraft_62_J162
    rw [if_neg (show ¬ (2 : Int32) ≤ 0 by decide), if_pos (show (0 : Int32) = 0 from rfl), inb_nI (by omega) (by omega), if_neg (show ¬ true = false by decide), nI_clamp (by omega), h65, lm2, hz, la3, hz, inb_nI (by omega) (by omega), inb_nI (by omega) (by omega), nI_clamp (by omega), nI_clamp (by omega), show (0 : Int32) + 1 = nI 1 from rfl]
    by_cases hc : ks = 1
    · rw [if_pos (show nI ks = (1 : Int32) by rw [hc]; rfl), if_neg (show ¬ (1 : Int32) = 0 by decide), if_neg (show ¬ true = false by decide), if_neg (show ¬ (1 : Int32) = 0 by decide), if_neg (show ¬ true = false by decide), if_pos hc, if_pos hc]
    · rw [if_neg (show ¬ nI ks = (1 : Int32) from fun hh => hc ((nI_eq (b := 1) (by omega) (by omega)).mp hh)), if_pos (show (0 : Int32) = 0 from rfl), if_neg (show ¬ true = false by decide), if_neg (show ¬ true = false by decide), if_pos (show (0 : Int32) = 0 from rfl), if_neg (show ¬ true = false by decide), if_neg (show ¬ true = false by decide), if_neg hc, if_neg hc]
  have h1 : ∀ (kk : Int32 → Mem → Option Mem) (ξ : Mem), f_X10_keepDraft_62_L78 (nI s) k56 kk (nI 1) ξ = kk (nI 2) (pI (pI ξ 66 (2 * s + 1) (ξ.1 69 (2 * s + 1))) 63 (3 + 2 * s + 1) (ξ.1 63 (3 + 2 * s + 1))) := by
    intro kk ξ
    unfold f_X10_keepDraft_62_L78 f_X10_keepDraft_62_J101 f_X10_keepDraft_62_J102 f_X10_keepDraft_62_J130 f_X10_keepDraft_62_J162
    rw [if_neg (show ¬ (2 : Int32) ≤ nI 1 by decide), if_neg (show ¬ nI 1 = 0 by decide), if_pos (show (0 : Int32) = 0 from rfl), lm2, la3, nI_add, nI_add, inb_nI (by omega) (by omega), inb_nI (by omega) (by omega), if_neg (show ¬ true = false by decide), if_neg (show ¬ true = false by decide), if_pos (show (0 : Int32) = 0 from rfl), if_neg (show ¬ true = false by decide), if_neg (show ¬ true = false by decide), nI_clamp (by omega), nI_clamp (by omega), al1]
  have h2 : ∀ (kk : Int32 → Mem → Option Mem) (ξ : Mem), f_X10_keepDraft_62_L78 (nI s) k56 kk (nI 2) ξ = k56 (nI (s + 1)) ξ := by
    intro kk ξ
    unfold f_X10_keepDraft_62_L78
    rw [if_pos (show (2 : Int32) ≤ nI 2 by decide), al1]
  rw [hN, it2_s, h0, it2_s, h1, it2_s, h2]
  simp (disch := omega) only [rd_p, rd_i]
theorem m_keepDraft {D : Nat → Nat} {ν : Mem} (hD : DW D) (h : MRd D ν) : ∃ r, f_X10_keepDraft_62 ν = some r ∧ KD D ν r := by
  obtain ⟨c0, c1, c2, c3, c4, c5, c6, c7, c8, c9, c10, c11, c12, c13, c14, c15⟩ := h
  have w0 := hD.1
  have w8 := hD.2.2.2.2.2.2.2.2.1
  have h27 := p3 w0
  unfold f_X10_keepDraft_62
  refine for_rel (ρ := Mem) (body := f_X10_keepDraft_62_L2) nI 54 (fun i ω => (∀ q k, ¬ (q = 63 ∧ k < 54) → ω.1 q k = ν.1 q k) ∧ ∀ k, k < i → ω.1 63 k = ν.1 67 k) (fun r => KD D ν r) (fun k i ω hi hP => ?_) (fun k ω hP => ?_) FU 0 ν (by omega) (fu_gt (by omega)) ⟨fun _ _ _ => rfl, fun k hk => by omega⟩
  · obtain ⟨q1, q2⟩ := hP
    unfold f_X10_keepDraft_62_L2
    rw [if_neg (show ¬ (54 : Int32) ≤ nI i from nI_ge (b := 54) hi (by omega)), inb_nI (by omega) (by omega), if_neg (show ¬ true = false by decide), inb_nI (by omega) (by omega), if_neg (show ¬ true = false by decide), nI_clamp (by omega), q1 67 i (by omega), al1]
    refine ⟨_, rfl, fun q j hq => ?_, fun j hj => ?_⟩
    · rw [← q1 q j hq]
      by_cases h63 : q = 63
      · subst h63
        exact rd_i (by omega)
      · exact rd_p h63
    · by_cases hji : j = i
      · rw [hji, rd_s]
      · rw [rd_i hji]
        exact q2 j (by omega)
  · obtain ⟨q1, q2⟩ := hP
    unfold f_X10_keepDraft_62_L2
    rw [if_pos (show (54 : Int32) ≤ nI 54 from by decide), q1 62 8 (by omega), q1 62 9 (by omega), c0, c1, show (3 : Int32) = nI 3 from rfl, bnd (m_power (b := 3) (k := D 0) (by omega))]
    dsimp only
    have b1 : ∀ q j, ¬ (q = 63 ∧ j < 54) → ¬ (q = 62 ∧ (j = 2 ∨ j = 3 ∨ j = 4)) → (pI (pI (pI ω 62 2 (nI (D 0))) 62 3 (nI (D 1))) 62 4 (nI (3 ^ D 0))).1 q j = ν.1 q j := by
      intro q j h1 h2
      rw [← q1 q j h1]
      by_cases hq : q = 62
      · subst hq
        rw [rd_i (by omega), rd_i (by omega), rd_i (by omega)]
      · rw [rd_p hq, rd_p hq, rd_p hq]
    have b2 : (pI (pI (pI ω 62 2 (nI (D 0))) 62 3 (nI (D 1))) 62 4 (nI (3 ^ D 0))).1 62 2 = nI (D 0) := by rw [rd_i (by omega), rd_i (by omega), rd_s]
    have b3 : (pI (pI (pI ω 62 2 (nI (D 0))) 62 3 (nI (D 1))) 62 4 (nI (3 ^ D 0))).1 62 3 = nI (D 1) := by rw [rd_i (by omega), rd_s]
    have b4 : (pI (pI (pI ω 62 2 (nI (D 0))) 62 3 (nI (D 1))) 62 4 (nI (3 ^ D 0))).1 62 4 = nI (3 ^ D 0) := rd_s
    have b5 : ∀ j, j < 54 → (pI (pI (pI ω 62 2 (nI (D 0))) 62 3 (nI (D 1))) 62 4 (nI (3 ^ D 0))).1 63 j = ν.1 67 j := fun j hj => by rw [rd_p (by omega), rd_p (by omega), rd_p (by omega)]; exact q2 j hj
    generalize pI (pI (pI ω 62 2 (nI (D 0))) 62 3 (nI (D 1))) 62 4 (nI (3 ^ D 0)) = ω1 at b1 b2 b3 b4 b5
    refine for_rel (ρ := Mem) (body := f_X10_keepDraft_62_L56) nI (D 0) (fun s ξ => (∀ q j, ¬ (q = 63 ∧ 3 ≤ j ∧ j < 9) → q ≠ 65 → q ≠ 66 → ξ.1 q j = ω1.1 q j) ∧ (∀ s', s' < s → ξ.1 65 s' = nI (D (10 + s'))) ∧ (∀ e, e < 2 * s → ξ.1 66 e = if e % 2 = 0 ∧ D (10 + e / 2) = 1 then 0 else nI (D (20 + e))) ∧ (∀ e, e < 6 → ξ.1 63 (3 + e) = if e < 2 * s ∧ e % 2 = 0 ∧ D (10 + e / 2) = 1 then 0 else nI (D (40 + e)))) (fun r => KD D ν r) (fun k s ξ hs hR => ?_) (fun k ξ hR => ?_) FU 0 ω1 (by omega) (fu_gt (by omega)) ⟨fun _ _ _ _ _ => rfl, fun s' hs' => by omega, fun e he => by omega, fun e he => by rw [if_neg (fun hh => absurd hh.1 (by omega)), b5 _ (by omega)]; exact c11 e he⟩
    · obtain ⟨r1, r2, r3, r4⟩ := hR
      unfold f_X10_keepDraft_62_L56
      rw [r1 62 2 (by omega) (by omega) (by omega), b2, if_neg (nI_ge hs (by omega)), inb_nI (by omega) (by omega), if_neg (show ¬ true = false by decide), if_neg (show ¬ true = false by decide), nI_clamp (by omega), r1 68 s (by omega) (by omega) (by omega), b1 68 s (by omega) (by omega), c8 s hs, m_kd2 (ks := D (10 + s)) (by omega) (w8 s (by omega)).1 rd_s]
      have g69 : ∀ e, e < 2 * D 0 → (pI ξ 65 s (nI (D (10 + s)))).1 69 e = nI (D (20 + e)) := fun e he => by rw [rd_p (by omega), r1 69 e (by omega) (by omega) (by omega), b1 69 e (by omega) (by omega)]; exact c9 e he
      have g63 : ∀ e, 2 * s ≤ e → e < 6 → (pI ξ 65 s (nI (D (10 + s)))).1 63 (3 + e) = nI (D (40 + e)) := fun e h1 h2 => by rw [rd_p (by omega), r4 e h2, if_neg (fun hh => absurd hh.1 (by omega))]
      rw [g69 (2 * s) (by omega), g69 (2 * s + 1) (by omega), g63 (2 * s) (by omega) (by omega), show 3 + 2 * s + 1 = 3 + (2 * s + 1) by omega, g63 (2 * s + 1) (by omega) (by omega)]
      refine ⟨_, rfl, fun q j h1 h2 h3 => ?_, fun s' hs' => ?_, fun e he => ?_, fun e he => ?_⟩
      · rw [← r1 q j h1 h2 h3]
        by_cases h63 : q = 63
        · subst h63
          rw [rd_i (by omega), rd_p (by omega), rd_i (by omega), rd_p (by omega), rd_p (by omega)]
        · rw [rd_p h63, rd_p h3, rd_p h63, rd_p h3, rd_p h2]
      · rw [rd_p (by omega), rd_p (by omega), rd_p (by omega), rd_p (by omega)]
        by_cases hss : s' = s
        · rw [hss, rd_s]
        · rw [rd_i hss]
          exact r2 s' (by omega)
      · rw [rd_p (by omega)]
        by_cases he1 : e = 2 * s + 1
        · subst he1
          rw [rd_s, if_neg (fun hh => absurd hh.1 (by omega))]
        · rw [rd_i he1, rd_p (by omega)]
          by_cases he0 : e = 2 * s
          · subst he0
            rw [rd_s, show 10 + 2 * s / 2 = 10 + s by omega]
            by_cases hc : D (10 + s) = 1
            · rw [if_pos hc, if_pos ⟨by omega, hc⟩]
            · rw [if_neg hc, if_neg (fun hh => hc hh.2)]
          · rw [rd_i he0, rd_p (by omega)]
            exact r3 e (by omega)
      · by_cases he1 : e = 2 * s + 1
        · subst he1
          rw [rd_s, if_neg (fun hh => absurd hh.2.1 (by omega))]
        · rw [rd_i (by omega), rd_p (by omega)]
          by_cases he0 : e = 2 * s
          · subst he0
            rw [rd_s, show 10 + 2 * s / 2 = 10 + s by omega]
            by_cases hc : D (10 + s) = 1
            · rw [if_pos hc, if_pos ⟨by omega, by omega, hc⟩]
            · rw [if_neg hc, if_neg (fun hh => hc hh.2.2)]
          · rw [rd_i (by omega), rd_p (by omega), rd_p (by omega), r4 e he]
            by_cases hl : e < 2 * s
            · by_cases hq : e % 2 = 0 ∧ D (10 + e / 2) = 1
              · rw [if_pos ⟨hl, hq⟩, if_pos ⟨by omega, hq⟩]
              · rw [if_neg (fun hh => hq hh.2), if_neg (fun hh => hq hh.2)]
            · rw [if_neg (fun hh => hl hh.1), if_neg (fun hh => absurd hh.1 (by omega))]
    · obtain ⟨r1, r2, r3, r4⟩ := hR
      unfold f_X10_keepDraft_62_L56
      rw [r1 62 2 (by omega) (by omega) (by omega), b2, if_pos (nI_le (Nat.le_refl _) (by omega))]
      have g : ∀ q j, ¬ (q = 63 ∧ 3 ≤ j ∧ j < 9) → q ≠ 65 → q ≠ 66 → q ≠ 64 → (pI (pI ξ 64 0 0) 64 1 0).1 q j = ω1.1 q j := fun q j h1 h2 h3 h4 => by rw [rd_p h4, rd_p h4]; exact r1 q j h1 h2 h3
      have g2 : ∀ q j, q ≠ 64 → (pI (pI ξ 64 0 0) 64 1 0).1 q j = ξ.1 q j := fun q j h4 => by rw [rd_p h4, rd_p h4]
      refine ⟨_, rfl, fun q j h1 h2 h3 h4 h5 => ?_, ?_, ?_, ?_, ?_, rd_s, fun s hs => ?_, fun e he => ?_, fun s hs => ?_, fun e he => ?_, fun d hd => ?_, fun q hq => ?_, fun q hq => ?_, ?_⟩
      · rw [g q j (by omega) h3 h4 h2]; exact b1 q j h1 h5
      · rw [g 62 2 (by omega) (by omega) (by omega) (by omega)]; exact b2
      · rw [g 62 3 (by omega) (by omega) (by omega) (by omega)]; exact b3
      · rw [g 62 4 (by omega) (by omega) (by omega) (by omega)]; exact b4
      · rw [rd_i (by omega), rd_s]
      · rw [g2 65 s (by omega)]; exact r2 s hs
      · rw [g2 66 e (by omega)]; exact r3 e he
      · rw [g 63 s (by omega) (by omega) (by omega) (by omega), b5 s (by omega)]; exact c10 s hs
      · rw [g2 63 _ (by omega)]; exact r4 e he
      · rw [g 63 _ (by omega) (by omega) (by omega) (by omega), b5 _ (by omega)]; exact c12 d hd
      · rw [g 63 _ (by omega) (by omega) (by omega) (by omega), b5 _ (by omega)]; exact c13 q hq
      · rw [g 63 _ (by omega) (by omega) (by omega) (by omega), b5 _ (by omega)]; exact c14 q hq
      · rw [g 63 29 (by omega) (by omega) (by omega) (by omega), b5 29 (by omega)]; exact c15
/-- the end of the model's reading -/
def RRm (X : XT) (μ0 : Mem) (r : Int32 × Mem) : Prop := (∀ f w, X = xf f w → r.1 = -10 - nI w ∧ r.2.1 62 24 = nI f ∧ r.2.1 62 19 = 0 ∧ ∀ q k, ¬ (67 ≤ q ∧ q ≤ 69) → ¬ (q = 62 ∧ 8 ≤ k ∧ k < 26) → r.2.1 q k = μ0.1 q k) ∧ (∀ D l, X = xd D l → r.1 = nI l ∧ ∃ ν, MFr μ0 ν ∧ ν.1 62 24 = 0 ∧ KD D (pI ν 62 19 0) r.2)
theorem fl_J44 {f w : Nat} {a : Int32} {μ0 μ : Mem} (h : FL f w μ) (hF : MFr μ0 μ) : ∃ r, f_X10_text_62_J94 a μ = some r ∧ RRm (xf f w) μ0 r := by
  unfold f_X10_text_62_J94
  rw [h.2.2.1, if_neg (nI_nle h.1 (by have := h.2.1; omega)), h.2.2.2]
  refine ⟨_, rfl, fun f' w' hx => ?_, fun D l hx => (xf_xd hx).elim⟩
  obtain ⟨rfl, rfl⟩ := xf_inj hx
  refine ⟨rfl, by show (pI μ 62 19 0).1 62 24 = nI f; rw [pI_62 (by omega)]; exact h.2.2.1, rd_s, fun q k h1 h2 => ?_⟩
  show (pI μ 62 19 0).1 q k = μ0.1 q k
  rw [← hF q k h1 (by omega)]
  by_cases hq : q = 62
  · subst hq
    exact rd_i (by omega)
  · exact rd_p hq
theorem m_run {T : Nat} {t : Nat → Nat} {μ0 : Mem} (G : Nat) : ∀ k i D p l μ, i + k = 322 → i ≤ p → DW D → MS T t D p μ → MFr μ0 μ → ∃ r, it2 f_X10_text_62_L20 (k + (G + 1)) (nI l) μ = some r ∧ RRm (runS T t k D p l) μ0 r := by
  intro k
  induction k with
  | zero =>
    intro i D p l μ hik hip hD h hF
    have := h.2.2.2
    have := h.1.1
    omega
  | succ k ih =>
    intro i D p l μ hik hip hD h hF
    have hpT := h.2.2.2
    have hT3 := h.1.1
    rw [Nat.add_right_comm k 1 (G + 1), it2_s]
    generalize hkk : it2 f_X10_text_62_L20 (k + (G + 1)) = kk
    unfold f_X10_text_62_L20
    cases hO : tO T t p with
    | false =>
      have hf := h.bad hO
      unfold f_X10_text_62_J44
      rw [if_neg hf.ne, if_neg hf.ne, runS_1 hO]
      exact fl_J44 hf hF
    | true =>
      obtain ⟨e24, e21, e22, e20, e23⟩ := h.2.2.1.1 hO
      have hk4 := tK_le T t p
      have w0 := hD.1
      have w1 := hD.2.1.2
      have w6 : D 6 < 8 := by
        rw [hD.2.2.2.2.2.2.1]
        have := blN_le (D 5) (by have := hD.2.2.2.2.2.1; omega)
        omega
      have w7 : D 7 < 8 := by
        rw [hD.2.2.2.2.2.2.2.1]
        have := blN_le (mk6 (qmB D)) (mk6_lt _)
        omega
      rw [if_pos e24, e22]
      by_cases hK : tK T t p = 0
      · have hTA : tA T t p = T := by
          have h1 := (tA_le (t := t) hpT).2
          by_cases hc : T ≤ tA T t p
          · omega
          · unfold tK at hK
            rw [if_neg hc] at hK
            split at hK
            · omega
            · split at hK
              · omega
              · split at hK <;> omega
        rw [if_pos ((nI_z (by omega)).mpr hK), runS_0 hO hK]
        have h6 : ∃ r, f_X10_text_62_J78 (nI l) μ = some r ∧ RRm (xf 6 T) μ0 r := by
          obtain ⟨ν, g1, g2, g3⟩ := m_needs0 (f := 6) e24 e21 (by omega) (by omega)
          have g1 : f_X10_needs_62 0 6 μ = some ν := g1
          unfold f_X10_text_62_J78 f_X10_text_62_J79
          rw [bnd g1, bnd (m_areWatches hD (h.2.1.ny g3))]
          dsimp only
          rw [bnd (fl_needs g2 _ _), ← hTA]
          exact fl_J44 g2 (hF.tr g3.mf)
        have b6 := bm_le (D 0) (by omega) (D 6) w6
        have b7 := bm_le (D 1) (by omega) (D 7) w7
        unfold f_X10_text_62_J44 endS
        rw [if_pos e24, h.2.1.1, h.2.1.2.1, h.2.1.2.2.2.2.2.2.1, h.2.1.2.2.2.2.2.2.2.1]
        by_cases c0 : D 0 < D 6
        · rw [if_pos (b6.mpr c0), if_pos (Or.inl c0)]
          exact h6
        · rw [if_neg (fun hh => c0 (b6.mp hh))]
          by_cases c1 : D 1 < D 7
          · rw [if_pos (b7.mpr c1), if_pos (Or.inr c1)]
            exact h6
          · rw [if_neg (fun hh => c1 (b7.mp hh)), if_neg (by omega)]
            unfold f_X10_text_62_J79
            rw [bnd (m_needs1 _ μ), bnd (m_areWatches hD h.2.1)]
            dsimp only
            cases hw : wkB D with
            | false =>
              obtain ⟨ν, g1, g2, g3⟩ := m_needs0 (f := 7) e24 e21 (by omega) (by omega)
              have g1 : f_X10_needs_62 0 7 μ = some ν := g1
              rw [show b2i false = 0 from rfl, bnd g1, if_pos (show false = false from rfl), ← hTA]
              exact fl_J44 g2 (hF.tr g3.mf)
            | true =>
              rw [show b2i true = 1 from rfl, bnd (m_needs1 _ μ), if_neg (show ¬ true = false by decide)]
              unfold f_X10_text_62_J94
              rw [e24, if_pos (show (0 : Int32) ≤ 0 by decide)]
              have hR : MRd D (pI μ 62 19 0) := by
                have hm := h.2.1
                unfold MRd at hm ⊢
                simp (disch := omega) only [rd_p, rd_i]
                exact hm
              obtain ⟨r, r1, r2⟩ := m_keepDraft hD hR
              rw [bnd r1]
              refine ⟨_, rfl, fun f w hx => (xf_xd hx.symm).elim, fun D' l' hx => ?_⟩
              obtain ⟨rfl, rfl⟩ := xd_inj hx
              exact ⟨rfl, μ, hF, e24, r2⟩
      · rw [if_neg (fun hh => hK ((nI_z (by omega)).mp hh))]
        obtain ⟨r, g1, g2, g3, g4⟩ := m_readLine hD hO h
        rw [bnd g1, al1]
        rcases XT.cs (lineS T t D p) with ⟨f, w, hx⟩ | ⟨D', p', hx⟩
        · have hf := g3 f w hx
          rw [runS_f hO hK hx, ← hkk, ← Nat.add_assoc, it2_s]
          generalize it2 f_X10_text_62_L20 (k + G) = kk2
          unfold f_X10_text_62_L20 f_X10_text_62_J44
          rw [if_neg hf.ne, if_neg hf.ne]
          exact fl_J44 hf (hF.tr g2)
        · have hm := g4 D' p' hx
          obtain ⟨d1, d2, d3⟩ := dw_line hD hpT hK hx
          rw [runS_d hO hK hx, ← hkk]
          exact ih (i + 1) D' p' (l + 1) r (by omega) (by omega) d1 hm (hF.tr g2)
