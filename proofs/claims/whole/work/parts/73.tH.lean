/-! PURE: the model's lines -/
theorem MS.mr {T : Nat} {t D D' : Nat → Nat} {p : Nat} {μ ν : Mem} (h : MS T t D p μ) (hF : MFr μ ν) (hk : ∀ k, 20 ≤ k → k ≤ 25 → ν.1 62 k = μ.1 62 k) (hR : MRd D' ν) : MS T t D' p ν := by
  refine ⟨h.1.mf hF, hR, ?_, h.2.2.2⟩
  have hm := h.2.2.1
  unfold MT at hm ⊢
  rw [hk 24 (by omega) (by omega), hk 21 (by omega) (by omega), hk 22 (by omega) (by omega), hk 20 (by omega) (by omega), hk 23 (by omega) (by omega), hk 25 (by omega) (by omega)]
  exact hm
theorem bm_le : ∀ a, a < 8 → ∀ u, u < 8 → (nI a ≤ bmQ u ↔ a + 1 ≤ u) := by decide +kernel
theorem bm_max : ∀ a, a < 7 → ∀ u, u < 8 → (if nI a ≤ bmQ u then bmQ u else nI a) = bmQ (max u (a + 1)) := by decide +kernel
theorem blN_le : ∀ v, v < 64 → blN v ≤ 6 := by decide +kernel
theorem m_needL {T : Nat} {t D : Nat → Nat} {p : Nat} {μ0 μ : Mem} (hD : DW D) (h : MS T t D p μ) (hF : MFr μ0 μ) : ∃ r, f_X10_readLineOf_62 2 μ = some r ∧ MLr T t (needS T t D p) μ0 r := by
  have w0 := hD.1
  have w3 := hD.2.2.2.1
  unfold f_X10_readLineOf_62 needS
  rw [if_neg (show ¬ (2 : Int32) = 0 by decide), if_neg (show ¬ (2 : Int32) = 1 by decide), if_pos (show (2 : Int32) = 2 from rfl), h.2.1.2.2.2.1]
  refine m_newK (hi := 3) (tv := D 3) (K := fun d e => nbS T t e 0 6 fun v e2 => xd (ud (ud D 3 (D 3 + 2 ^ d)) (50 + d) v) e2) h hF (by omega) (by omega) (fun f w u ν hu g1 g2 g3 => ?_) (fun ν g1 g2 ghi gb => ?_)
  · dsimp only
    have k1 : FL f w (pI ν 62 13 ((ν.1 62 13) ||| ((1 : Int32) <<< (nI u &&& 31)))) := g1.w (by omega)
    rw [bnd (fl_number k1 _ _)]
    dsimp only
    rw [la9, inb_nI (by omega) (by omega), if_neg (show ¬ true = false by decide), nI_clamp (by omega)]
    exact ⟨_, rfl, (g3.w (by omega)).w (by omega), k1.w (by omega)⟩
  · dsimp only
    obtain ⟨-, b2⟩ := or_bit (D 3) (by omega) (tV T t p) (by omega)
    have hR : MS T t (ud D 3 (D 3 + 2 ^ tV T t p)) (tE T t p) (pI ν 62 13 (nI (D 3 + 2 ^ tV T t p))) := by
      refine g1.mr ((MFr.rf ν).w (by omega)) (fun k _ _ => by rw [rd_i (by omega)]) ?_
      obtain ⟨c0, c1, c2, c3, c4, c5, c6, c7, c8, c9, c10, c11, c12, c13, c14, c15⟩ := g1.2.1
      refine ⟨?_, ?_, ?_, ?_, ?_, ?_, ?_, ?_, fun s hs => ?_, fun s hs => ?_, fun s hs => ?_, fun s hs => ?_, fun s hs => ?_, fun s hs => ?_, fun s hs => ?_, ?_⟩
      · have hz := c0
        try simp (disch := omega) only [ud_n] at hz
        simp (disch := omega) only [rd_p, rd_i, ud_n]; exact hz
      · have hz := c1
        try simp (disch := omega) only [ud_n] at hz
        simp (disch := omega) only [rd_p, rd_i, ud_n]; exact hz
      · have hz := c2
        try simp (disch := omega) only [ud_n] at hz
        simp (disch := omega) only [rd_p, rd_i, ud_n]; exact hz
      · rw [rd_s, ud_s]
      · have hz := c4
        try simp (disch := omega) only [ud_n] at hz
        simp (disch := omega) only [rd_p, rd_i, ud_n]; exact hz
      · have hz := c5
        try simp (disch := omega) only [ud_n] at hz
        simp (disch := omega) only [rd_p, rd_i, ud_n]; exact hz
      · have hz := c6
        try simp (disch := omega) only [ud_n] at hz
        simp (disch := omega) only [rd_p, rd_i, ud_n]; exact hz
      · have hz := c7
        try simp (disch := omega) only [ud_n] at hz
        simp (disch := omega) only [rd_p, rd_i, ud_n]; exact hz
      · have hs : s < D 0 := by first | exact hs | (simp (disch := omega) only [ud_n] at hs; exact hs)
        have hz := c8 s (by first | exact hs | (simp (disch := omega) only [ud_n]; exact hs))
        try simp (disch := omega) only [ud_n] at hz
        simp (disch := omega) only [rd_p, rd_i, ud_n]; exact hz
      · have hs : s < 2 * D 0 := by first | exact hs | (simp (disch := omega) only [ud_n] at hs; exact hs)
        have hz := c9 s (by first | exact hs | (simp (disch := omega) only [ud_n]; exact hs))
        try simp (disch := omega) only [ud_n] at hz
        simp (disch := omega) only [rd_p, rd_i, ud_n]; exact hz
      · have hz := c10 s hs
        try simp (disch := omega) only [ud_n] at hz
        simp (disch := omega) only [rd_p, rd_i, ud_n]; exact hz
      · have hz := c11 s hs
        try simp (disch := omega) only [ud_n] at hz
        simp (disch := omega) only [rd_p, rd_i, ud_n]; exact hz
      · have hz := c12 s hs
        try simp (disch := omega) only [ud_n] at hz
        simp (disch := omega) only [rd_p, rd_i, ud_n]; exact hz
      · have hz := c13 s hs
        try simp (disch := omega) only [ud_n] at hz
        simp (disch := omega) only [rd_p, rd_i, ud_n]; exact hz
      · have hz := c14 s hs
        try simp (disch := omega) only [ud_n] at hz
        simp (disch := omega) only [rd_p, rd_i, ud_n]; exact hz
      · have hz := c15
        try simp (disch := omega) only [ud_n] at hz
        simp (disch := omega) only [rd_p, rd_i, ud_n]; exact hz
    rw [g1.2.1.2.2.2.1, b2 gb]
    refine m_numK (lo := 0) (hi := 6) (K := fun v e2 => xd (ud (ud D 3 (D 3 + 2 ^ tV T t p)) (50 + tV T t p) v) e2) hR (g2.w (by omega)) (by omega) (by omega) (fun f w ξ k1 k2 k3 => ?_) (fun ξ k1 k2 klo khi => ?_)
    · dsimp only
      rw [la9, inb_nI (by omega) (by omega), if_neg (show ¬ true = false by decide), nI_clamp (by omega)]
      exact ⟨_, rfl, k3.w (by omega), k1.w (by omega)⟩
    · dsimp only
      rw [la9, inb_nI (by omega) (by omega), if_neg (show ¬ true = false by decide), nI_clamp (by omega)]
      refine ⟨_, rfl, MLr.d (k2.w (by omega)) (k1.mr ((MFr.rf ξ).w (by omega)) (fun k _ _ => by rw [rd_p (by omega)]) ?_)⟩
      obtain ⟨c0, c1, c2, c3, c4, c5, c6, c7, c8, c9, c10, c11, c12, c13, c14, c15⟩ := k1.2.1
      refine ⟨?_, ?_, ?_, ?_, ?_, ?_, ?_, ?_, fun s hs => ?_, fun s hs => ?_, fun s hs => ?_, fun s hs => ?_, fun s hs => ?_, fun s hs => ?_, fun s hs => ?_, ?_⟩
      · have hz := c0
        try simp (disch := omega) only [ud_n] at hz
        simp (disch := omega) only [rd_p, rd_i, ud_n]; exact hz
      · have hz := c1
        try simp (disch := omega) only [ud_n] at hz
        simp (disch := omega) only [rd_p, rd_i, ud_n]; exact hz
      · have hz := c2
        try simp (disch := omega) only [ud_n] at hz
        simp (disch := omega) only [rd_p, rd_i, ud_n]; exact hz
      · have hz := c3
        try simp (disch := omega) only [ud_n] at hz
        simp (disch := omega) only [rd_p, rd_i, ud_n]; exact hz
      · have hz := c4
        try simp (disch := omega) only [ud_n] at hz
        simp (disch := omega) only [rd_p, rd_i, ud_n]; exact hz
      · have hz := c5
        try simp (disch := omega) only [ud_n] at hz
        simp (disch := omega) only [rd_p, rd_i, ud_n]; exact hz
      · have hz := c6
        try simp (disch := omega) only [ud_n] at hz
        simp (disch := omega) only [rd_p, rd_i, ud_n]; exact hz
      · have hz := c7
        try simp (disch := omega) only [ud_n] at hz
        simp (disch := omega) only [rd_p, rd_i, ud_n]; exact hz
      · have hs : s < D 0 := by first | exact hs | (simp (disch := omega) only [ud_n] at hs; exact hs)
        have hz := c8 s (by first | exact hs | (simp (disch := omega) only [ud_n]; exact hs))
        try simp (disch := omega) only [ud_n] at hz
        simp (disch := omega) only [rd_p, rd_i, ud_n]; exact hz
      · have hs : s < 2 * D 0 := by first | exact hs | (simp (disch := omega) only [ud_n] at hs; exact hs)
        have hz := c9 s (by first | exact hs | (simp (disch := omega) only [ud_n]; exact hs))
        try simp (disch := omega) only [ud_n] at hz
        simp (disch := omega) only [rd_p, rd_i, ud_n]; exact hz
      · have hz := c10 s hs
        try simp (disch := omega) only [ud_n] at hz
        simp (disch := omega) only [rd_p, rd_i, ud_n]; exact hz
      · have hz := c11 s hs
        try simp (disch := omega) only [ud_n] at hz
        simp (disch := omega) only [rd_p, rd_i, ud_n]; exact hz
      · by_cases hsd : s = tV T t p
        · subst hsd
          rw [rd_s, ud_s]
        · rw [rd_i (by omega), show ud (ud D 3 (D 3 + 2 ^ tV T t p)) (50 + tV T t p) (tV T t (tE T t p)) (50 + s) = ud D 3 (D 3 + 2 ^ tV T t p) (50 + s) from ud_n (by omega)]; exact c12 s hs
      · have hz := c13 s hs
        try simp (disch := omega) only [ud_n] at hz
        simp (disch := omega) only [rd_p, rd_i, ud_n]; exact hz
      · have hz := c14 s hs
        try simp (disch := omega) only [ud_n] at hz
        simp (disch := omega) only [rd_p, rd_i, ud_n]; exact hz
      · have hz := c15
        try simp (disch := omega) only [ud_n] at hz
        simp (disch := omega) only [rd_p, rd_i, ud_n]; exact hz
theorem m_quartersL {T : Nat} {t D : Nat → Nat} {p a : Nat} {μ0 μ : Mem} (w0 : D 0 ≤ 3) (hD2 : D 2 ≠ 1) (h : MS T t D p μ) (hF : MFr μ0 μ) : ∃ r, f_X10_readLineOf_62 1 μ = some r ∧ MLr T t (quartersS T t D p a) μ0 r := by
  unfold f_X10_readLineOf_62 quartersS
  rw [if_neg (show ¬ (1 : Int32) = 0 by decide), if_pos (show (1 : Int32) = 1 from rfl), if_neg hD2]
  have hR : MS T t (ud D 2 1) p (pI μ 62 12 1) := by
    refine h.mr ((MFr.rf μ).w (by omega)) (fun k _ _ => by rw [rd_i (by omega)]) ?_
    obtain ⟨c0, c1, c2, c3, c4, c5, c6, c7, c8, c9, c10, c11, c12, c13, c14, c15⟩ := h.2.1
    refine ⟨?_, ?_, ?_, ?_, ?_, ?_, ?_, ?_, fun s hs => ?_, fun s hs => ?_, fun s hs => ?_, fun s hs => ?_, fun s hs => ?_, fun s hs => ?_, fun s hs => ?_, ?_⟩
    · have hz := c0
      try simp (disch := omega) only [ud_n] at hz
      simp (disch := omega) only [rd_p, rd_i, ud_n]; exact hz
    · have hz := c1
      try simp (disch := omega) only [ud_n] at hz
      simp (disch := omega) only [rd_p, rd_i, ud_n]; exact hz
    · rw [rd_s, ud_s]; rfl
    · have hz := c3
      try simp (disch := omega) only [ud_n] at hz
      simp (disch := omega) only [rd_p, rd_i, ud_n]; exact hz
    · have hz := c4
      try simp (disch := omega) only [ud_n] at hz
      simp (disch := omega) only [rd_p, rd_i, ud_n]; exact hz
    · have hz := c5
      try simp (disch := omega) only [ud_n] at hz
      simp (disch := omega) only [rd_p, rd_i, ud_n]; exact hz
    · have hz := c6
      try simp (disch := omega) only [ud_n] at hz
      simp (disch := omega) only [rd_p, rd_i, ud_n]; exact hz
    · have hz := c7
      try simp (disch := omega) only [ud_n] at hz
      simp (disch := omega) only [rd_p, rd_i, ud_n]; exact hz
    · have hs : s < D 0 := by first | exact hs | (simp (disch := omega) only [ud_n] at hs; exact hs)
      have hz := c8 s (by first | exact hs | (simp (disch := omega) only [ud_n]; exact hs))
      try simp (disch := omega) only [ud_n] at hz
      simp (disch := omega) only [rd_p, rd_i, ud_n]; exact hz
    · have hs : s < 2 * D 0 := by first | exact hs | (simp (disch := omega) only [ud_n] at hs; exact hs)
      have hz := c9 s (by first | exact hs | (simp (disch := omega) only [ud_n]; exact hs))
      try simp (disch := omega) only [ud_n] at hz
      simp (disch := omega) only [rd_p, rd_i, ud_n]; exact hz
    · have hz := c10 s hs
      try simp (disch := omega) only [ud_n] at hz
      simp (disch := omega) only [rd_p, rd_i, ud_n]; exact hz
    · have hz := c11 s hs
      try simp (disch := omega) only [ud_n] at hz
      simp (disch := omega) only [rd_p, rd_i, ud_n]; exact hz
    · have hz := c12 s hs
      try simp (disch := omega) only [ud_n] at hz
      simp (disch := omega) only [rd_p, rd_i, ud_n]; exact hz
    · have hz := c13 s hs
      try simp (disch := omega) only [ud_n] at hz
      simp (disch := omega) only [rd_p, rd_i, ud_n]; exact hz
    · have hz := c14 s hs
      try simp (disch := omega) only [ud_n] at hz
      simp (disch := omega) only [rd_p, rd_i, ud_n]; exact hz
    · have hz := c15
      try simp (disch := omega) only [ud_n] at hz
      simp (disch := omega) only [rd_p, rd_i, ud_n]; exact hz
  refine m_numK (lo := 1) (hi := 6) (K := fun v e => xd (ud (ud D 2 1) 1 v) e) hR (hF.w (by omega)) (by omega) (by omega) (fun f w ξ k1 k2 k3 => ?_) (fun ξ k1 k2 klo khi => ?_)
  · exact ⟨_, rfl, k3.w (by omega), k1.w (by omega)⟩
  · refine ⟨_, rfl, MLr.d (k2.w (by omega)) (k1.mr ((MFr.rf ξ).w (by omega)) (fun k _ _ => by rw [rd_i (by omega)]) ?_)⟩
    obtain ⟨c0, c1, c2, c3, c4, c5, c6, c7, c8, c9, c10, c11, c12, c13, c14, c15⟩ := k1.2.1
    refine ⟨?_, ?_, ?_, ?_, ?_, ?_, ?_, ?_, fun s hs => ?_, fun s hs => ?_, fun s hs => ?_, fun s hs => ?_, fun s hs => ?_, fun s hs => ?_, fun s hs => ?_, ?_⟩
    · have hz := c0
      try simp (disch := omega) only [ud_n] at hz
      simp (disch := omega) only [rd_p, rd_i, ud_n]; exact hz
    · rw [rd_s, ud_s]
    · have hz := c2
      try simp (disch := omega) only [ud_n] at hz
      simp (disch := omega) only [rd_p, rd_i, ud_n]; exact hz
    · have hz := c3
      try simp (disch := omega) only [ud_n] at hz
      simp (disch := omega) only [rd_p, rd_i, ud_n]; exact hz
    · have hz := c4
      try simp (disch := omega) only [ud_n] at hz
      simp (disch := omega) only [rd_p, rd_i, ud_n]; exact hz
    · have hz := c5
      try simp (disch := omega) only [ud_n] at hz
      simp (disch := omega) only [rd_p, rd_i, ud_n]; exact hz
    · have hz := c6
      try simp (disch := omega) only [ud_n] at hz
      simp (disch := omega) only [rd_p, rd_i, ud_n]; exact hz
    · have hz := c7
      try simp (disch := omega) only [ud_n] at hz
      simp (disch := omega) only [rd_p, rd_i, ud_n]; exact hz
    · have hs : s < D 0 := by first | exact hs | (simp (disch := omega) only [ud_n] at hs; exact hs)
      have hz := c8 s (by first | exact hs | (simp (disch := omega) only [ud_n]; exact hs))
      try simp (disch := omega) only [ud_n] at hz
      simp (disch := omega) only [rd_p, rd_i, ud_n]; exact hz
    · have hs : s < 2 * D 0 := by first | exact hs | (simp (disch := omega) only [ud_n] at hs; exact hs)
      have hz := c9 s (by first | exact hs | (simp (disch := omega) only [ud_n]; exact hs))
      try simp (disch := omega) only [ud_n] at hz
      simp (disch := omega) only [rd_p, rd_i, ud_n]; exact hz
    · have hz := c10 s hs
      try simp (disch := omega) only [ud_n] at hz
      simp (disch := omega) only [rd_p, rd_i, ud_n]; exact hz
    · have hz := c11 s hs
      try simp (disch := omega) only [ud_n] at hz
      simp (disch := omega) only [rd_p, rd_i, ud_n]; exact hz
    · have hz := c12 s hs
      try simp (disch := omega) only [ud_n] at hz
      simp (disch := omega) only [rd_p, rd_i, ud_n]; exact hz
    · have hz := c13 s hs
      try simp (disch := omega) only [ud_n] at hz
      simp (disch := omega) only [rd_p, rd_i, ud_n]; exact hz
    · have hz := c14 s hs
      try simp (disch := omega) only [ud_n] at hz
      simp (disch := omega) only [rd_p, rd_i, ud_n]; exact hz
    · have hz := c15
      try simp (disch := omega) only [ud_n] at hz
      simp (disch := omega) only [rd_p, rd_i, ud_n]; exact hz
theorem m_saw {q : Nat} {u : Nat} {μ : Mem} (hq : q < 7) (hu : u < 8) (h17 : μ.1 62 17 = bmQ u) : f_X10_sawQuarter_62 (nI q) μ = some (pI μ 62 17 (bmQ (max u (q + 1)))) := by
  unfold f_X10_sawQuarter_62 f_X10_sawQuarter_62_J17
  rw [h17, ← bm_max q hq u hu]
  by_cases hc : nI q ≤ bmQ u
  · rw [if_pos hc, if_pos hc]
  · rw [if_neg hc, if_neg hc]
theorem m_saw0 (x : Int32) (μ : Mem) : ∃ v, f_X10_sawQuarter_62 x μ = some (pI μ 62 17 v) := by
  unfold f_X10_sawQuarter_62 f_X10_sawQuarter_62_J17
  split
  · exact ⟨_, rfl⟩
  · exact ⟨_, rfl⟩
theorem m_stormL {T : Nat} {t D : Nat → Nat} {p : Nat} {μ0 μ : Mem} (hD : DW D) (h : MS T t D p μ) (hF : MFr μ0 μ) : ∃ r, f_X10_readLineOf_62 3 μ = some r ∧ MLr T t (stormS T t D p) μ0 r := by
  have w0 := hD.1
  have w7 : D 7 < 8 := by
    rw [hD.2.2.2.2.2.2.2.1]
    have := blN_le (mk6 (qmB D)) (mk6_lt _)
    omega
  unfold f_X10_readLineOf_62 stormS
  rw [if_neg (show ¬ (3 : Int32) = 0 by decide), if_neg (show ¬ (3 : Int32) = 1 by decide), if_neg (show ¬ (3 : Int32) = 2 by decide), if_pos (show (3 : Int32) = 3 from rfl)]
  refine m_numK (lo := 0) (hi := 5) (K := fun q e => nbS T t e 0 3 fun d e2 => if D (60 + q) / 2 ^ d % 2 = 1 then xf 4 (tA T t e) else xd (ud (ud D (60 + q) (D (60 + q) + 2 ^ d)) 7 (max (D 7) (q + 1))) e2) h hF (by omega) (by omega) (fun f w ν g1 g2 g3 => ?_) (fun ν g1 g2 glo ghi => ?_)
  · dsimp only
    obtain ⟨v, hv⟩ := m_saw0 0 ν
    have k1 : FL f w (pI ν 62 17 v) := g1.w (by omega)
    rw [bnd hv, show (13 : Int32) + 0 = nI 13 from by decide, inb_nI (by omega) (by omega), if_neg (show ¬ true = false by decide), bnd (fl_new k1 _ _)]
    dsimp only
    rw [if_neg (show ¬ true = false by decide), if_neg (show ¬ true = false by decide)]
    exact ⟨_, rfl, (g3.w (by omega)).w (by rw [nI_clamp (by omega)]; omega), k1.w (by omega)⟩
  · dsimp only
    have w60 := (hD.2.2.2.2.2.2.2.2.2.2.2 (tV T t p) (by omega)).1
    rw [bnd (m_saw (by omega) w7 g1.2.1.2.2.2.2.2.2.2.1), la13, inb_nI (by omega) (by omega), if_neg (show ¬ true = false by decide), nI_clamp (by omega), rd_p (by omega), g1.2.1.2.2.2.2.2.2.2.2.2.2.2.2.2.1 (tV T t p) (by omega)]
    have hR : MS T t (ud D 7 (max (D 7) (tV T t p + 1))) (tE T t p) (pI ν 62 17 (bmQ (max (D 7) (tV T t p + 1)))) := by
      refine g1.mr ((MFr.rf ν).w (by omega)) (fun k _ _ => by rw [rd_i (by omega)]) ?_
      obtain ⟨c0, c1, c2, c3, c4, c5, c6, c7, c8, c9, c10, c11, c12, c13, c14, c15⟩ := g1.2.1
      refine ⟨?_, ?_, ?_, ?_, ?_, ?_, ?_, ?_, fun s hs => ?_, fun s hs => ?_, fun s hs => ?_, fun s hs => ?_, fun s hs => ?_, fun s hs => ?_, fun s hs => ?_, ?_⟩
      · have hz := c0
        try simp (disch := omega) only [ud_n] at hz
        simp (disch := omega) only [rd_p, rd_i, ud_n]; exact hz
      · have hz := c1
        try simp (disch := omega) only [ud_n] at hz
        simp (disch := omega) only [rd_p, rd_i, ud_n]; exact hz
      · have hz := c2
        try simp (disch := omega) only [ud_n] at hz
        simp (disch := omega) only [rd_p, rd_i, ud_n]; exact hz
      · have hz := c3
        try simp (disch := omega) only [ud_n] at hz
        simp (disch := omega) only [rd_p, rd_i, ud_n]; exact hz
      · have hz := c4
        try simp (disch := omega) only [ud_n] at hz
        simp (disch := omega) only [rd_p, rd_i, ud_n]; exact hz
      · have hz := c5
        try simp (disch := omega) only [ud_n] at hz
        simp (disch := omega) only [rd_p, rd_i, ud_n]; exact hz
      · have hz := c6
        try simp (disch := omega) only [ud_n] at hz
        simp (disch := omega) only [rd_p, rd_i, ud_n]; exact hz
      · rw [rd_s, ud_s]
      · have hs : s < D 0 := by first | exact hs | (simp (disch := omega) only [ud_n] at hs; exact hs)
        have hz := c8 s (by first | exact hs | (simp (disch := omega) only [ud_n]; exact hs))
        try simp (disch := omega) only [ud_n] at hz
        simp (disch := omega) only [rd_p, rd_i, ud_n]; exact hz
      · have hs : s < 2 * D 0 := by first | exact hs | (simp (disch := omega) only [ud_n] at hs; exact hs)
        have hz := c9 s (by first | exact hs | (simp (disch := omega) only [ud_n]; exact hs))
        try simp (disch := omega) only [ud_n] at hz
        simp (disch := omega) only [rd_p, rd_i, ud_n]; exact hz
      · have hz := c10 s hs
        try simp (disch := omega) only [ud_n] at hz
        simp (disch := omega) only [rd_p, rd_i, ud_n]; exact hz
      · have hz := c11 s hs
        try simp (disch := omega) only [ud_n] at hz
        simp (disch := omega) only [rd_p, rd_i, ud_n]; exact hz
      · have hz := c12 s hs
        try simp (disch := omega) only [ud_n] at hz
        simp (disch := omega) only [rd_p, rd_i, ud_n]; exact hz
      · have hz := c13 s hs
        try simp (disch := omega) only [ud_n] at hz
        simp (disch := omega) only [rd_p, rd_i, ud_n]; exact hz
      · have hz := c14 s hs
        try simp (disch := omega) only [ud_n] at hz
        simp (disch := omega) only [rd_p, rd_i, ud_n]; exact hz
      · have hz := c15
        try simp (disch := omega) only [ud_n] at hz
        simp (disch := omega) only [rd_p, rd_i, ud_n]; exact hz
    refine m_newK (hi := 3) (tv := D (60 + tV T t p)) (K := fun d e2 => xd (ud (ud D (60 + tV T t p) (D (60 + tV T t p) + 2 ^ d)) 7 (max (D 7) (tV T t p + 1))) e2) hR (g2.w (by omega)) (by omega) (by omega) (fun f w u ξ hu k1 k2 k3 => ?_) (fun ξ k1 k2 khi kb => ?_)
    · dsimp only
      rw [if_neg (show ¬ true = false by decide), if_neg (show ¬ true = false by decide)]
      exact ⟨_, rfl, k3.w (by omega), k1.w (by omega)⟩
    · dsimp only
      obtain ⟨-, b2⟩ := or_bit (D (60 + tV T t p)) (by omega) (tV T t (tE T t p)) (by omega)
      have e60 := k1.2.1.2.2.2.2.2.2.2.2.2.2.2.2.2.1 (tV T t p) (by omega)
      rw [ud_n (by omega)] at e60
      rw [if_neg (show ¬ true = false by decide), if_neg (show ¬ true = false by decide), e60, b2 kb]
      refine ⟨_, rfl, MLr.d (k2.w (by omega)) (k1.mr ((MFr.rf ξ).w (by omega)) (fun k _ _ => by rw [rd_p (by omega)]) ?_)⟩
      obtain ⟨c0, c1, c2, c3, c4, c5, c6, c7, c8, c9, c10, c11, c12, c13, c14, c15⟩ := k1.2.1
      refine ⟨?_, ?_, ?_, ?_, ?_, ?_, ?_, ?_, fun s hs => ?_, fun s hs => ?_, fun s hs => ?_, fun s hs => ?_, fun s hs => ?_, fun s hs => ?_, fun s hs => ?_, ?_⟩
      · have := c0
        simp (disch := omega) only [ud_n] at this
        simp (disch := omega) only [rd_p, rd_i, ud_n]; exact this
      · have := c1
        simp (disch := omega) only [ud_n] at this
        simp (disch := omega) only [rd_p, rd_i, ud_n]; exact this
      · have := c2
        simp (disch := omega) only [ud_n] at this
        simp (disch := omega) only [rd_p, rd_i, ud_n]; exact this
      · have := c3
        simp (disch := omega) only [ud_n] at this
        simp (disch := omega) only [rd_p, rd_i, ud_n]; exact this
      · have := c4
        simp (disch := omega) only [ud_n] at this
        simp (disch := omega) only [rd_p, rd_i, ud_n]; exact this
      · have := c5
        simp (disch := omega) only [ud_n] at this
        simp (disch := omega) only [rd_p, rd_i, ud_n]; exact this
      · have := c6
        simp (disch := omega) only [ud_n] at this
        simp (disch := omega) only [rd_p, rd_i, ud_n]; exact this
      · rw [ud_s] at c7
        rw [rd_p (by omega), ud_s]; exact c7
      · have hs : s < D 0 := by first | exact hs | (simp (disch := omega) only [ud_n] at hs; exact hs)
        have hz := c8 s (by first | exact hs | (simp (disch := omega) only [ud_n]; exact hs))
        try simp (disch := omega) only [ud_n] at hz
        simp (disch := omega) only [rd_p, rd_i, ud_n]; exact hz
      · have hs : s < 2 * D 0 := by first | exact hs | (simp (disch := omega) only [ud_n] at hs; exact hs)
        have hz := c9 s (by first | exact hs | (simp (disch := omega) only [ud_n]; exact hs))
        try simp (disch := omega) only [ud_n] at hz
        simp (disch := omega) only [rd_p, rd_i, ud_n]; exact hz
      · have := c10 s hs
        simp (disch := omega) only [ud_n] at this
        simp (disch := omega) only [rd_p, rd_i, ud_n]; exact this
      · have := c11 s hs
        simp (disch := omega) only [ud_n] at this
        simp (disch := omega) only [rd_p, rd_i, ud_n]; exact this
      · have := c12 s hs
        simp (disch := omega) only [ud_n] at this
        simp (disch := omega) only [rd_p, rd_i, ud_n]; exact this
      · by_cases hsd : s = tV T t p
        · subst hsd
          rw [rd_s, ud_n (by omega), ud_s]
        · have := c13 s hs
          rw [ud_n (by omega)] at this
          rw [rd_i (by omega), ud_n (by omega), ud_n (by omega)]; exact this
      · have := c14 s hs
        simp (disch := omega) only [ud_n] at this
        simp (disch := omega) only [rd_p, rd_i, ud_n]; exact this
      · rw [rd_i (by omega)]; exact c15
theorem m_watchL {T : Nat} {t D : Nat → Nat} {p : Nat} {μ0 μ : Mem} (hD : DW D) (h : MS T t D p μ) (hF : MFr μ0 μ) : ∃ r, f_X10_readLineOf_62 4 μ = some r ∧ MLr T t (watchS T t D p) μ0 r := by
  have w0 := hD.1
  have w4 := hD.2.2.2.2.1
  have w7 : D 7 < 8 := by
    rw [hD.2.2.2.2.2.2.2.1]
    have := blN_le (mk6 (qmB D)) (mk6_lt _)
    omega
  unfold f_X10_readLineOf_62 watchS
  rw [if_neg (show ¬ (4 : Int32) = 0 by decide), if_neg (show ¬ (4 : Int32) = 1 by decide), if_neg (show ¬ (4 : Int32) = 2 by decide), if_neg (show ¬ (4 : Int32) = 3 by decide), if_pos (show (4 : Int32) = 4 from rfl), h.2.1.2.2.2.2.1]
  refine m_newK (hi := 5) (tv := D 4) (K := fun q e => nbS T t e 0 26 fun v e2 => xd (ud (ud (ud D 4 (D 4 + 2 ^ q)) 7 (max (D 7) (q + 1))) (70 + q) v) e2) h hF (by omega) (by omega) (fun f w u ν hu g1 g2 g3 => ?_) (fun ν g1 g2 ghi gb => ?_)
  · dsimp only
    obtain ⟨v, hv⟩ := m_saw0 (nI u) (pI ν 62 14 ((ν.1 62 14) ||| ((1 : Int32) <<< (nI u &&& 31))))
    have k1 : FL f w (pI (pI ν 62 14 ((ν.1 62 14) ||| ((1 : Int32) <<< (nI u &&& 31)))) 62 17 v) := (g1.w (by omega)).w (by omega)
    rw [bnd hv, bnd (fl_number k1 _ _)]
    dsimp only
    rw [la21, inb_nI (by omega) (by omega), if_neg (show ¬ true = false by decide), nI_clamp (by omega)]
    exact ⟨_, rfl, ((g3.w (by omega)).w (by omega)).w (by omega), k1.w (by omega)⟩
  · dsimp only
    obtain ⟨-, b2⟩ := or_bit (D 4) (by omega) (tV T t p) (by omega)
    rw [g1.2.1.2.2.2.2.1, b2 gb, bnd (m_saw (u := D 7) (by omega) w7 (by rw [rd_i (by omega)]; exact g1.2.1.2.2.2.2.2.2.2.1))]
    have hR : MS T t (ud (ud D 4 (D 4 + 2 ^ tV T t p)) 7 (max (D 7) (tV T t p + 1))) (tE T t p) (pI (pI ν 62 14 (nI (D 4 + 2 ^ tV T t p))) 62 17 (bmQ (max (D 7) (tV T t p + 1)))) := by
      refine g1.mr (((MFr.rf ν).w (by omega)).w (by omega)) (fun k _ _ => by rw [rd_i (by omega), rd_i (by omega)]) ?_
      obtain ⟨c0, c1, c2, c3, c4, c5, c6, c7, c8, c9, c10, c11, c12, c13, c14, c15⟩ := g1.2.1
      refine ⟨?_, ?_, ?_, ?_, ?_, ?_, ?_, ?_, fun s hs => ?_, fun s hs => ?_, fun s hs => ?_, fun s hs => ?_, fun s hs => ?_, fun s hs => ?_, fun s hs => ?_, ?_⟩
      · have hz := c0
        try simp (disch := omega) only [ud_n] at hz
        simp (disch := omega) only [rd_p, rd_i, ud_n]; exact hz
      · have hz := c1
        try simp (disch := omega) only [ud_n] at hz
        simp (disch := omega) only [rd_p, rd_i, ud_n]; exact hz
      · have hz := c2
        try simp (disch := omega) only [ud_n] at hz
        simp (disch := omega) only [rd_p, rd_i, ud_n]; exact hz
      · have hz := c3
        try simp (disch := omega) only [ud_n] at hz
        simp (disch := omega) only [rd_p, rd_i, ud_n]; exact hz
      · rw [rd_i (by omega), rd_s, ud_n (by omega), ud_s]
      · have hz := c5
        try simp (disch := omega) only [ud_n] at hz
        simp (disch := omega) only [rd_p, rd_i, ud_n]; exact hz
      · have hz := c6
        try simp (disch := omega) only [ud_n] at hz
        simp (disch := omega) only [rd_p, rd_i, ud_n]; exact hz
      · rw [rd_s, ud_s]
      · have hs : s < D 0 := by first | exact hs | (simp (disch := omega) only [ud_n] at hs; exact hs)
        have hz := c8 s (by first | exact hs | (simp (disch := omega) only [ud_n]; exact hs))
        try simp (disch := omega) only [ud_n] at hz
        simp (disch := omega) only [rd_p, rd_i, ud_n]; exact hz
      · have hs : s < 2 * D 0 := by first | exact hs | (simp (disch := omega) only [ud_n] at hs; exact hs)
        have hz := c9 s (by first | exact hs | (simp (disch := omega) only [ud_n]; exact hs))
        try simp (disch := omega) only [ud_n] at hz
        simp (disch := omega) only [rd_p, rd_i, ud_n]; exact hz
      · have hz := c10 s hs
        try simp (disch := omega) only [ud_n] at hz
        simp (disch := omega) only [rd_p, rd_i, ud_n]; exact hz
      · have hz := c11 s hs
        try simp (disch := omega) only [ud_n] at hz
        simp (disch := omega) only [rd_p, rd_i, ud_n]; exact hz
      · have hz := c12 s hs
        try simp (disch := omega) only [ud_n] at hz
        simp (disch := omega) only [rd_p, rd_i, ud_n]; exact hz
      · have hz := c13 s hs
        try simp (disch := omega) only [ud_n] at hz
        simp (disch := omega) only [rd_p, rd_i, ud_n]; exact hz
      · have hz := c14 s hs
        try simp (disch := omega) only [ud_n] at hz
        simp (disch := omega) only [rd_p, rd_i, ud_n]; exact hz
      · have hz := c15
        try simp (disch := omega) only [ud_n] at hz
        simp (disch := omega) only [rd_p, rd_i, ud_n]; exact hz
    refine m_numK (lo := 0) (hi := 26) (K := fun v e2 => xd (ud (ud (ud D 4 (D 4 + 2 ^ tV T t p)) 7 (max (D 7) (tV T t p + 1))) (70 + tV T t p) v) e2) hR ((g2.w (by omega)).w (by omega)) (by omega) (by omega) (fun f w ξ k1 k2 k3 => ?_) (fun ξ k1 k2 klo khi => ?_)
    · dsimp only
      rw [la21, inb_nI (by omega) (by omega), if_neg (show ¬ true = false by decide), nI_clamp (by omega)]
      exact ⟨_, rfl, k3.w (by omega), k1.w (by omega)⟩
    · dsimp only
      rw [la21, inb_nI (by omega) (by omega), if_neg (show ¬ true = false by decide), nI_clamp (by omega)]
      refine ⟨_, rfl, MLr.d (k2.w (by omega)) (k1.mr ((MFr.rf ξ).w (by omega)) (fun k _ _ => by rw [rd_p (by omega)]) ?_)⟩
      obtain ⟨c0, c1, c2, c3, c4, c5, c6, c7, c8, c9, c10, c11, c12, c13, c14, c15⟩ := k1.2.1
      refine ⟨?_, ?_, ?_, ?_, ?_, ?_, ?_, ?_, fun s hs => ?_, fun s hs => ?_, fun s hs => ?_, fun s hs => ?_, fun s hs => ?_, fun s hs => ?_, fun s hs => ?_, ?_⟩
      · have hz := c0
        try simp (disch := omega) only [ud_n] at hz
        simp (disch := omega) only [rd_p, rd_i, ud_n]; exact hz
      · have hz := c1
        try simp (disch := omega) only [ud_n] at hz
        simp (disch := omega) only [rd_p, rd_i, ud_n]; exact hz
      · have hz := c2
        try simp (disch := omega) only [ud_n] at hz
        simp (disch := omega) only [rd_p, rd_i, ud_n]; exact hz
      · have hz := c3
        try simp (disch := omega) only [ud_n] at hz
        simp (disch := omega) only [rd_p, rd_i, ud_n]; exact hz
      · have hz := c4
        try simp (disch := omega) only [ud_n] at hz
        simp (disch := omega) only [rd_p, rd_i, ud_n]; exact hz
      · have hz := c5
        try simp (disch := omega) only [ud_n] at hz
        simp (disch := omega) only [rd_p, rd_i, ud_n]; exact hz
      · have hz := c6
        try simp (disch := omega) only [ud_n] at hz
        simp (disch := omega) only [rd_p, rd_i, ud_n]; exact hz
      · have hz := c7
        try simp (disch := omega) only [ud_n] at hz
        simp (disch := omega) only [rd_p, rd_i, ud_n]; exact hz
      · have hs : s < D 0 := by first | exact hs | (simp (disch := omega) only [ud_n] at hs; exact hs)
        have hz := c8 s (by first | exact hs | (simp (disch := omega) only [ud_n]; exact hs))
        try simp (disch := omega) only [ud_n] at hz
        simp (disch := omega) only [rd_p, rd_i, ud_n]; exact hz
      · have hs : s < 2 * D 0 := by first | exact hs | (simp (disch := omega) only [ud_n] at hs; exact hs)
        have hz := c9 s (by first | exact hs | (simp (disch := omega) only [ud_n]; exact hs))
        try simp (disch := omega) only [ud_n] at hz
        simp (disch := omega) only [rd_p, rd_i, ud_n]; exact hz
      · have hz := c10 s hs
        try simp (disch := omega) only [ud_n] at hz
        simp (disch := omega) only [rd_p, rd_i, ud_n]; exact hz
      · have hz := c11 s hs
        try simp (disch := omega) only [ud_n] at hz
        simp (disch := omega) only [rd_p, rd_i, ud_n]; exact hz
      · have hz := c12 s hs
        try simp (disch := omega) only [ud_n] at hz
        simp (disch := omega) only [rd_p, rd_i, ud_n]; exact hz
      · have hz := c13 s hs
        try simp (disch := omega) only [ud_n] at hz
        simp (disch := omega) only [rd_p, rd_i, ud_n]; exact hz
      · by_cases hsd : s = tV T t p
        · subst hsd
          rw [rd_s, ud_s]
        · rw [rd_i (by omega), ud_n (by omega)]; exact c14 s hs
      · have hz := c15
        try simp (disch := omega) only [ud_n] at hz
        simp (disch := omega) only [rd_p, rd_i, ud_n]; exact hz
theorem m_bedL {T : Nat} {t D : Nat → Nat} {p : Nat} {μ0 μ : Mem} (hD : DW D) (h : MS T t D p μ) (hF : MFr μ0 μ) : ∃ r, f_X10_readLineOf_62 5 μ = some r ∧ MLr T t (bedS T t D p) μ0 r := by
  have w0 := hD.1
  have w5 := hD.2.2.2.2.2.1
  have w6 : D 6 < 8 := by
    rw [hD.2.2.2.2.2.2.1]
    have := blN_le (D 5) (by omega)
    omega
  unfold f_X10_readLineOf_62 bedS
  rw [if_neg (show ¬ (5 : Int32) = 0 by decide), if_neg (show ¬ (5 : Int32) = 1 by decide), if_neg (show ¬ (5 : Int32) = 2 by decide), if_neg (show ¬ (5 : Int32) = 3 by decide), if_neg (show ¬ (5 : Int32) = 4 by decide), h.2.1.2.2.2.2.2.1]
  refine m_newK (hi := 2) (tv := D 5) (K := fun s e => nbS T t e 0 3 fun f e2 => xd (ud (ud (ud D 5 (D 5 + 2 ^ s)) 6 (max (D 6) (s + 1))) (30 + s) f) e2) h hF (by omega) (by omega) (fun f w u ν hu g1 g2 g3 => ?_) (fun ν g1 g2 ghi gb => ?_)
  · dsimp only
    have hx : ∀ v : Int32, ∃ r, f_X10_readLineOf_62_J233 (nI u) v (pI ν 62 15 ((ν.1 62 15) ||| ((1 : Int32) <<< (nI u &&& 31)))) = some r ∧ MFr μ0 r ∧ FL f w r := by
      intro v
      unfold f_X10_readLineOf_62_J233
      have k1 : FL f w (pI (pI ν 62 15 ((ν.1 62 15) ||| ((1 : Int32) <<< (nI u &&& 31)))) 62 16 v) := (g1.w (by omega)).w (by omega)
      rw [bnd (fl_number k1 _ _)]
      dsimp only
      rw [la0, inb_nI (by omega) (by omega), if_neg (show ¬ true = false by decide), nI_clamp (by omega)]
      exact ⟨_, rfl, ((g3.w (by omega)).w (by omega)).w (by omega), k1.w (by omega)⟩
    by_cases hc : nI u ≤ ν.1 62 16
    · rw [if_pos hc]; exact hx _
    · rw [if_neg hc]; exact hx _
  · dsimp only
    obtain ⟨-, b2⟩ := or_bit (D 5) (by omega) (tV T t p) (by omega)
    have e16 := g1.2.1.2.2.2.2.2.2.1
    have hmx := bm_max (tV T t p) (by omega) (D 6) w6
    rw [e16, g1.2.1.2.2.2.2.2.1, b2 gb]
    have hJ : (if nI (tV T t p) ≤ bmQ (D 6) then f_X10_readLineOf_62_J233 (nI (tV T t p)) (bmQ (D 6)) (pI ν 62 15 (nI (D 5 + 2 ^ tV T t p))) else f_X10_readLineOf_62_J233 (nI (tV T t p)) (nI (tV T t p)) (pI ν 62 15 (nI (D 5 + 2 ^ tV T t p)))) = f_X10_readLineOf_62_J233 (nI (tV T t p)) (bmQ (max (D 6) (tV T t p + 1))) (pI ν 62 15 (nI (D 5 + 2 ^ tV T t p))) := by
      rw [← hmx]
      by_cases hc : nI (tV T t p) ≤ bmQ (D 6)
      · rw [if_pos hc, if_pos hc]
      · rw [if_neg hc, if_neg hc]
    rw [hJ]
    unfold f_X10_readLineOf_62_J233
    have hR : MS T t (ud (ud D 5 (D 5 + 2 ^ tV T t p)) 6 (max (D 6) (tV T t p + 1))) (tE T t p) (pI (pI ν 62 15 (nI (D 5 + 2 ^ tV T t p))) 62 16 (bmQ (max (D 6) (tV T t p + 1)))) := by
      refine g1.mr (((MFr.rf ν).w (by omega)).w (by omega)) (fun k _ _ => by rw [rd_i (by omega), rd_i (by omega)]) ?_
      obtain ⟨c0, c1, c2, c3, c4, c5, c6, c7, c8, c9, c10, c11, c12, c13, c14, c15⟩ := g1.2.1
      refine ⟨?_, ?_, ?_, ?_, ?_, ?_, ?_, ?_, fun s hs => ?_, fun s hs => ?_, fun s hs => ?_, fun s hs => ?_, fun s hs => ?_, fun s hs => ?_, fun s hs => ?_, ?_⟩
      · have hz := c0
        try simp (disch := omega) only [ud_n] at hz
        simp (disch := omega) only [rd_p, rd_i, ud_n]; exact hz
      · have hz := c1
        try simp (disch := omega) only [ud_n] at hz
        simp (disch := omega) only [rd_p, rd_i, ud_n]; exact hz
      · have hz := c2
        try simp (disch := omega) only [ud_n] at hz
        simp (disch := omega) only [rd_p, rd_i, ud_n]; exact hz
      · have hz := c3
        try simp (disch := omega) only [ud_n] at hz
        simp (disch := omega) only [rd_p, rd_i, ud_n]; exact hz
      · have hz := c4
        try simp (disch := omega) only [ud_n] at hz
        simp (disch := omega) only [rd_p, rd_i, ud_n]; exact hz
      · rw [rd_i (by omega), rd_s, ud_n (by omega), ud_s]
      · rw [rd_s, ud_s]
      · have hz := c7
        try simp (disch := omega) only [ud_n] at hz
        simp (disch := omega) only [rd_p, rd_i, ud_n]; exact hz
      · have hs : s < D 0 := by first | exact hs | (simp (disch := omega) only [ud_n] at hs; exact hs)
        have hz := c8 s (by first | exact hs | (simp (disch := omega) only [ud_n]; exact hs))
        try simp (disch := omega) only [ud_n] at hz
        simp (disch := omega) only [rd_p, rd_i, ud_n]; exact hz
      · have hs : s < 2 * D 0 := by first | exact hs | (simp (disch := omega) only [ud_n] at hs; exact hs)
        have hz := c9 s (by first | exact hs | (simp (disch := omega) only [ud_n]; exact hs))
        try simp (disch := omega) only [ud_n] at hz
        simp (disch := omega) only [rd_p, rd_i, ud_n]; exact hz
      · have hz := c10 s hs
        try simp (disch := omega) only [ud_n] at hz
        simp (disch := omega) only [rd_p, rd_i, ud_n]; exact hz
      · have hz := c11 s hs
        try simp (disch := omega) only [ud_n] at hz
        simp (disch := omega) only [rd_p, rd_i, ud_n]; exact hz
      · have hz := c12 s hs
        try simp (disch := omega) only [ud_n] at hz
        simp (disch := omega) only [rd_p, rd_i, ud_n]; exact hz
      · have hz := c13 s hs
        try simp (disch := omega) only [ud_n] at hz
        simp (disch := omega) only [rd_p, rd_i, ud_n]; exact hz
      · have hz := c14 s hs
        try simp (disch := omega) only [ud_n] at hz
        simp (disch := omega) only [rd_p, rd_i, ud_n]; exact hz
      · have hz := c15
        try simp (disch := omega) only [ud_n] at hz
        simp (disch := omega) only [rd_p, rd_i, ud_n]; exact hz
    refine m_numK (lo := 0) (hi := 3) (K := fun f e2 => xd (ud (ud (ud D 5 (D 5 + 2 ^ tV T t p)) 6 (max (D 6) (tV T t p + 1))) (30 + tV T t p) f) e2) hR ((g2.w (by omega)).w (by omega)) (by omega) (by omega) (fun f w ξ k1 k2 k3 => ?_) (fun ξ k1 k2 klo khi => ?_)
    · dsimp only
      rw [la0, inb_nI (by omega) (by omega), if_neg (show ¬ true = false by decide), nI_clamp (by omega)]
      exact ⟨_, rfl, k3.w (by omega), k1.w (by omega)⟩
    · dsimp only
      rw [la0, inb_nI (by omega) (by omega), if_neg (show ¬ true = false by decide), nI_clamp (by omega)]
      refine ⟨_, rfl, MLr.d (k2.w (by omega)) (k1.mr ((MFr.rf ξ).w (by omega)) (fun k _ _ => by rw [rd_p (by omega)]) ?_)⟩
      obtain ⟨c0, c1, c2, c3, c4, c5, c6, c7, c8, c9, c10, c11, c12, c13, c14, c15⟩ := k1.2.1
      refine ⟨?_, ?_, ?_, ?_, ?_, ?_, ?_, ?_, fun s hs => ?_, fun s hs => ?_, fun s hs => ?_, fun s hs => ?_, fun s hs => ?_, fun s hs => ?_, fun s hs => ?_, ?_⟩
      · have hz := c0
        try simp (disch := omega) only [ud_n] at hz
        simp (disch := omega) only [rd_p, rd_i, ud_n]; exact hz
      · have hz := c1
        try simp (disch := omega) only [ud_n] at hz
        simp (disch := omega) only [rd_p, rd_i, ud_n]; exact hz
      · have hz := c2
        try simp (disch := omega) only [ud_n] at hz
        simp (disch := omega) only [rd_p, rd_i, ud_n]; exact hz
      · have hz := c3
        try simp (disch := omega) only [ud_n] at hz
        simp (disch := omega) only [rd_p, rd_i, ud_n]; exact hz
      · have hz := c4
        try simp (disch := omega) only [ud_n] at hz
        simp (disch := omega) only [rd_p, rd_i, ud_n]; exact hz
      · have hz := c5
        try simp (disch := omega) only [ud_n] at hz
        simp (disch := omega) only [rd_p, rd_i, ud_n]; exact hz
      · have hz := c6
        try simp (disch := omega) only [ud_n] at hz
        simp (disch := omega) only [rd_p, rd_i, ud_n]; exact hz
      · have hz := c7
        try simp (disch := omega) only [ud_n] at hz
        simp (disch := omega) only [rd_p, rd_i, ud_n]; exact hz
      · have hs : s < D 0 := by first | exact hs | (simp (disch := omega) only [ud_n] at hs; exact hs)
        have hz := c8 s (by first | exact hs | (simp (disch := omega) only [ud_n]; exact hs))
        try simp (disch := omega) only [ud_n] at hz
        simp (disch := omega) only [rd_p, rd_i, ud_n]; exact hz
      · have hs : s < 2 * D 0 := by first | exact hs | (simp (disch := omega) only [ud_n] at hs; exact hs)
        have hz := c9 s (by first | exact hs | (simp (disch := omega) only [ud_n]; exact hs))
        try simp (disch := omega) only [ud_n] at hz
        simp (disch := omega) only [rd_p, rd_i, ud_n]; exact hz
      · by_cases hsd : s = tV T t p
        · subst hsd
          rw [rd_s, ud_s]
        · rw [rd_i hsd, ud_n (by omega)]; exact c10 s hs
      · have hz := c11 s hs
        try simp (disch := omega) only [ud_n] at hz
        simp (disch := omega) only [rd_p, rd_i, ud_n]; exact hz
      · have hz := c12 s hs
        try simp (disch := omega) only [ud_n] at hz
        simp (disch := omega) only [rd_p, rd_i, ud_n]; exact hz
      · have hz := c13 s hs
        try simp (disch := omega) only [ud_n] at hz
        simp (disch := omega) only [rd_p, rd_i, ud_n]; exact hz
      · have hz := c14 s hs
        try simp (disch := omega) only [ud_n] at hz
        simp (disch := omega) only [rd_p, rd_i, ud_n]; exact hz
      · have hz := c15
        try simp (disch := omega) only [ud_n] at hz
        simp (disch := omega) only [rd_p, rd_i, ud_n]; exact hz
