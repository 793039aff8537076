/-! PURE: the class's reading of a text -/
theorem XT.cs (X : XT) : (∃ f w, X = xf f w) ∨ (∃ D p, X = xd D p) := by
  cases X with
  | inl a => exact Or.inl ⟨a.1, a.2, rfl⟩
  | inr a => exact Or.inr ⟨a.1, a.2, rfl⟩
theorem p_kindK {T : Nat} {t D : Nat → Nat} {p : Nat} {K : Nat → Nat → XT} {G : Mem → Option (Int32 × Mem)} {μ0 μ : Mem} (h : CS T t D p μ) (hF : CFr μ0 μ) (hG : ∀ ν, CS T t D (tE T t p) ν → CFr μ0 ν → knB t (tA T t p) (tE T t p) < 4 → ν.1 35 9 = nI (knB t (tA T t p) (tE T t p)) → ∃ r, G ν = some r ∧ CLr T t (K (knB t (tA T t p) (tE T t p)) (tE T t p)) μ0 r) : ∃ r, ((f_X5_kindName_35 μ).bind fun q => if q.1 = 0 then some ((0 : Int32), q.2) else G q.2) = some r ∧ CLr T t (if tO T t p = false then xf 1 (tA T t p) else if tK T t p ≠ 1 then xf 2 (tA T t p) else if knB t (tA T t p) (tE T t p) = 4 then xf 2 (tA T t p) else K (knB t (tA T t p) (tE T t p)) (tE T t p)) μ0 r := by
  obtain ⟨h1, h2, h3, h4, h5⟩ := h
  obtain ⟨ν, n1, n2, n3, n4⟩ := p_next h1 h4 h3
  have hle := tE_le (t := t) h4
  have hFν := hF.tr n2.cf
  cases hO : tO T t p with
  | false =>
    obtain ⟨e1, e2⟩ := n4 hO
    have hk : f_X5_kindName_35 μ = some (0, ν) := by
      unfold f_X5_kindName_35
      rw [bnd n1, hO]
      rfl
    rw [bnd hk, if_pos (show false = false from rfl)]
    dsimp only
    rw [if_pos (show (0 : Int32) = 0 from rfl)]
    exact ⟨_, rfl, CLr.f hFν rfl e1 e2⟩
  | true =>
    obtain ⟨e2, e3, e7, e8, e10, e9⟩ := n3 hO
    rw [if_neg (show ¬ true = false by decide)]
    have hk4 := tK_le T t p
    have hTν := h1.fr n2
    have hCν : ∀ v, CS T t D (tE T t p) (pI ν 35 9 v) := fun v => ⟨hTν.cf ((CFr.rf ν).w (by omega)), (h2.nx n2).nx ((nxF.rf ν).w (by omega)), by rw [pI_35 (by omega)]; exact e10, hle.2, by rw [pI_35 (by omega), e2]; exact h5⟩
    by_cases hK : tK T t p = 1
    · rw [if_neg (show ¬ tK T t p ≠ 1 from fun hh => hh hK)]
      have hkn : f_X5_kindName_35 μ = if knB t (tA T t p) (tE T t p) = 4 then some (0, pI (pI ν 35 2 2) 35 3 (nI (tA T t p))) else some (1, pI ν 35 9 (nI (knB t (tA T t p) (tE T t p)))) := by
        unfold f_X5_kindName_35
        rw [bnd n1, hO]
        dsimp only
        rw [if_neg (show ¬ b2i true = 0 by decide), e7, if_pos (show nI (tK T t p) = (1 : Int32) by rw [hK]; rfl), bnd (p_isName_88 hTν hle.1 hle.2 e8 e10)]
        dsimp only
        unfold knB
        cases c6 : nmB t (tA T t p) (tE T t p) 6 with
        | true => rw [if_neg (show ¬ b2i true = 0 by decide)]; rfl
        | false =>
          rw [if_pos (show b2i false = 0 from rfl), bnd (p_isName_89 hTν hle.1 hle.2 e8 e10), if_neg (show ¬ false = true by decide)]
          dsimp only
          cases c7 : nmB t (tA T t p) (tE T t p) 7 with
          | true => rw [if_neg (show ¬ b2i true = 0 by decide)]; rfl
          | false =>
            rw [if_pos (show b2i false = 0 from rfl), bnd (p_isName_90 hTν hle.1 hle.2 e8 e10), if_neg (show ¬ false = true by decide)]
            dsimp only
            cases c8 : nmB t (tA T t p) (tE T t p) 8 with
            | true => rw [if_neg (show ¬ b2i true = 0 by decide)]; rfl
            | false =>
              rw [if_pos (show b2i false = 0 from rfl), bnd (p_isName_91 hTν hle.1 hle.2 e8 e10), if_neg (show ¬ false = true by decide)]
              dsimp only
              cases c9 : nmB t (tA T t p) (tE T t p) 9 with
              | true => rw [if_neg (show ¬ b2i true = 0 by decide)]; rfl
              | false =>
                rw [if_pos (show b2i false = 0 from rfl), if_neg (show ¬ false = true by decide), e8]
                rfl
      rw [hkn]
      by_cases h4' : knB t (tA T t p) (tE T t p) = 4
      · rw [if_pos h4', if_pos h4', Option.bind_some]
        dsimp only
        rw [if_pos (show (0 : Int32) = 0 from rfl)]
        refine ⟨_, rfl, CLr.f ((hFν.w (by omega)).w (by omega)) rfl ?_ rd_s⟩
        show (pI (pI ν 35 2 2) 35 3 (nI (tA T t p))).1 35 2 = nI 2
        rw [pI_35 (by omega), rd_s]
        rfl
      · rw [if_neg h4', if_neg h4', Option.bind_some]
        dsimp only
        rw [if_neg (show ¬ (1 : Int32) = 0 by decide)]
        refine hG _ (hCν _) (hFν.w (by omega)) ?_ rd_s
        have : knB t (tA T t p) (tE T t p) ≤ 4 := by
          unfold knB
          split
          · omega
          · split
            · omega
            · split
              · omega
              · split <;> omega
        omega
    · rw [if_pos hK]
      have hk : f_X5_kindName_35 μ = some (0, pI (pI ν 35 2 2) 35 3 (nI (tA T t p))) := by
        unfold f_X5_kindName_35
        rw [bnd n1, hO]
        dsimp only
        rw [if_neg (show ¬ b2i true = 0 by decide), e7, if_neg (show ¬ nI (tK T t p) = (1 : Int32) from fun hh => hK ((nI_eq (b := 1) (by omega) (by omega)).mp hh)), e8]
        rfl
      rw [bnd hk]
      dsimp only
      rw [if_pos (show (0 : Int32) = 0 from rfl)]
      refine ⟨_, rfl, CLr.f ((hFν.w (by omega)).w (by omega)) rfl ?_ rd_s⟩
      show (pI (pI ν 35 2 2) 35 3 (nI (tA T t p))).1 35 2 = nI 2
      rw [pI_35 (by omega), rd_s]
      rfl
theorem p_glass37 {D : Nat → Nat} {e : Nat} {μ : Mem} (h : ∀ s, s < 3 → μ.1 38 s = nI (D (10 + s))) (he : e < 6) (hk : D (10 + e / 2) < 4) : f_X1_isGlassEye_37 (nI e) μ = some (b2i (decide (e % 2 = 0) && decide (D (10 + e / 2) = 1)), μ) := by
  unfold f_X1_isGlassEye_37
  rw [nI_and1 (by omega), nI_div2 (by omega), inb_nI (by omega) (by omega), if_neg (show ¬ (true = false) by decide), nI_clamp (by omega), h (e / 2) (by omega)]
  by_cases h1 : e % 2 = 0
  · rw [if_pos ((nI_z (by omega)).mpr h1), decide_eq_true h1, Bool.true_and]
    by_cases h2 : D (10 + e / 2) = 1
    · rw [if_pos (show nI (D (10 + e / 2)) = (1 : Int32) by rw [h2]; rfl), decide_eq_true h2]; rfl
    · rw [if_neg (show ¬ nI (D (10 + e / 2)) = (1 : Int32) from fun hh => h2 ((nI_eq (b := 1) (by omega) (by omega)).mp hh)), decide_eq_false h2]; rfl
  · rw [if_neg (fun hh => h1 ((nI_z (by omega)).mp hh)), decide_eq_false h1]; rfl
/-- cells told -/
theorem CS.side {T : Nat} {t D : Nat → Nat} {p e v : Nat} {ν : Mem} (h : CS T t D p ν) (he : e < 6) : CS T t (ud D (20 + e) v) p (pI ν 39 e (nI v)) := by
  have hF2 : CFr ν (pI ν 39 e (nI v)) := (CFr.rf ν).w (by omega)
  refine h.cr hF2 (by rw [rd_p (by omega)]) (by rw [rd_p (by omega)]) ?_
  obtain ⟨c0, c1, c2, c3, c4, c5, c6, c7, c8, c9, c10, c11, c12⟩ := h.2.1
  refine ⟨?_, ?_, ?_, ?_, ?_, ?_, fun s hs => ?_, fun s hs => ?_, fun s hs => ?_, fun s hs => ?_, fun s hs => ?_, fun s hs => ?_, fun s hs => ?_⟩
  · simp (disch := omega) only [rd_p, rd_i, ud_n]; exact c0
  · simp (disch := omega) only [rd_p, rd_i, ud_n]; exact c1
  · simp (disch := omega) only [rd_p, rd_i, ud_n]; exact c2
  · simp (disch := omega) only [rd_p, rd_i, ud_n]; exact c3
  · simp (disch := omega) only [rd_p, rd_i, ud_n]; exact c4
  · simp (disch := omega) only [rd_p, rd_i, ud_n]; exact c5
  · simp (disch := omega) only [rd_p, rd_i, ud_n]; exact c6 s hs
  · by_cases hsd : s = e
    · subst hsd
      rw [rd_s, ud_s]
    · rw [rd_i hsd, ud_n (by omega)]; exact c7 s hs
  · simp (disch := omega) only [rd_p, rd_i, ud_n]; exact c8 s hs
  · simp (disch := omega) only [rd_p, rd_i, ud_n]; exact c9 s hs
  · simp (disch := omega) only [rd_p, rd_i, ud_n]; exact c10 s hs
  · simp (disch := omega) only [rd_p, rd_i, ud_n]; exact c11 s hs
  · simp (disch := omega) only [rd_p, rd_i, ud_n]; exact c12 s hs
theorem CS.tired {T : Nat} {t D : Nat → Nat} {p e v : Nat} {ν : Mem} (h : CS T t D p ν) (he : e < 6) : CS T t (ud D (40 + e) v) p (pI ν 42 e (if e % 2 = 0 ∧ D (10 + e / 2) = 1 then 0 else nI v)) := by
  have hF2 : CFr ν (pI ν 42 e (if e % 2 = 0 ∧ D (10 + e / 2) = 1 then 0 else nI v)) := (CFr.rf ν).w (by omega)
  refine h.cr hF2 (by rw [rd_p (by omega)]) (by rw [rd_p (by omega)]) ?_
  obtain ⟨c0, c1, c2, c3, c4, c5, c6, c7, c8, c9, c10, c11, c12⟩ := h.2.1
  refine ⟨?_, ?_, ?_, ?_, ?_, ?_, fun s hs => ?_, fun s hs => ?_, fun s hs => ?_, fun s hs => ?_, fun s hs => ?_, fun s hs => ?_, fun s hs => ?_⟩
  · simp (disch := omega) only [rd_p, rd_i, ud_n]; exact c0
  · simp (disch := omega) only [rd_p, rd_i, ud_n]; exact c1
  · simp (disch := omega) only [rd_p, rd_i, ud_n]; exact c2
  · simp (disch := omega) only [rd_p, rd_i, ud_n]; exact c3
  · simp (disch := omega) only [rd_p, rd_i, ud_n]; exact c4
  · simp (disch := omega) only [rd_p, rd_i, ud_n]; exact c5
  · simp (disch := omega) only [rd_p, rd_i, ud_n]; exact c6 s hs
  · simp (disch := omega) only [rd_p, rd_i, ud_n]; exact c7 s hs
  · simp (disch := omega) only [rd_p, rd_i, ud_n]; exact c8 s hs
  · by_cases hsd : s = e
    · subst hsd
      rw [rd_s, ud_s, ud_n (by omega)]
    · rw [rd_i hsd, ud_n (by omega), ud_n (by omega)]; exact c9 s hs
  · simp (disch := omega) only [rd_p, rd_i, ud_n]; exact c10 s hs
  · simp (disch := omega) only [rd_p, rd_i, ud_n]; exact c11 s hs
  · simp (disch := omega) only [rd_p, rd_i, ud_n]; exact c12 s hs
theorem CS.kind {T : Nat} {t D : Nat → Nat} {p s0 k : Nat} {ν : Mem} (h : CS T t D p ν) (hs0 : s0 < 3) (hz : D (40 + 2 * s0) = 0) : CS T t (ud D (10 + s0) k) p (pI ν 38 s0 (nI k)) := by
  have hF2 : CFr ν (pI ν 38 s0 (nI k)) := (CFr.rf ν).w (by omega)
  refine h.cr hF2 (by rw [rd_p (by omega)]) (by rw [rd_p (by omega)]) ?_
  obtain ⟨c0, c1, c2, c3, c4, c5, c6, c7, c8, c9, c10, c11, c12⟩ := h.2.1
  refine ⟨?_, ?_, ?_, ?_, ?_, ?_, fun s hs => ?_, fun s hs => ?_, fun s hs => ?_, fun s hs => ?_, fun s hs => ?_, fun s hs => ?_, fun s hs => ?_⟩
  · simp (disch := omega) only [rd_p, rd_i, ud_n]; exact c0
  · simp (disch := omega) only [rd_p, rd_i, ud_n]; exact c1
  · simp (disch := omega) only [rd_p, rd_i, ud_n]; exact c2
  · simp (disch := omega) only [rd_p, rd_i, ud_n]; exact c3
  · simp (disch := omega) only [rd_p, rd_i, ud_n]; exact c4
  · simp (disch := omega) only [rd_p, rd_i, ud_n]; exact c5
  · by_cases hsd : s = s0
    · subst hsd
      rw [rd_s, ud_s]
    · rw [rd_i hsd, ud_n (by omega)]; exact c6 s hs
  · simp (disch := omega) only [rd_p, rd_i, ud_n]; exact c7 s hs
  · simp (disch := omega) only [rd_p, rd_i, ud_n]; exact c8 s hs
  · have e40 : ud D (10 + s0) k (40 + s) = D (40 + s) := ud_n (by omega)
    rw [rd_p (by omega), c9 s hs, e40]
    by_cases hsd : s / 2 = s0
    · by_cases he : s % 2 = 0
      · have hs2 : s = 2 * s0 := by omega
        have this : ∀ (P : Prop) [Decidable P], (if P then (0 : Int32) else nI 0) = 0 := fun P _ => by split <;> rfl
        have hz' : D (40 + s) = 0 := by rw [hs2]; exact hz
        rw [hz', this, this]
      · rw [if_neg (fun hh => he hh.1), if_neg (fun hh => he hh.1)]
    · rw [show ud D (10 + s0) k (10 + s / 2) = D (10 + s / 2) from ud_n (by omega)]
  · simp (disch := omega) only [rd_p, rd_i, ud_n]; exact c10 s hs
  · simp (disch := omega) only [rd_p, rd_i, ud_n]; exact c11 s hs
  · simp (disch := omega) only [rd_p, rd_i, ud_n]; exact c12 s hs
theorem CS.sis {T : Nat} {t D : Nat → Nat} {p v : Nat} {ν : Mem} (h : CS T t D p ν) : CS T t (ud D 0 v) p (pI ν 37 0 (nI v)) := by
  have hF2 : CFr ν (pI ν 37 0 (nI v)) := (CFr.rf ν).w (by omega)
  refine h.cr hF2 (by rw [rd_p (by omega)]) (by rw [rd_p (by omega)]) ?_
  obtain ⟨c0, c1, c2, c3, c4, c5, c6, c7, c8, c9, c10, c11, c12⟩ := h.2.1
  refine ⟨?_, ?_, ?_, ?_, ?_, ?_, fun s hs => ?_, fun s hs => ?_, fun s hs => ?_, fun s hs => ?_, fun s hs => ?_, fun s hs => ?_, fun s hs => ?_⟩
  · rw [rd_s, ud_s]
  · simp (disch := omega) only [rd_p, rd_i, ud_n]; exact c1
  · simp (disch := omega) only [rd_p, rd_i, ud_n]; exact c2
  · simp (disch := omega) only [rd_p, rd_i, ud_n]; exact c3
  · simp (disch := omega) only [rd_p, rd_i, ud_n]; exact c4
  · simp (disch := omega) only [rd_p, rd_i, ud_n]; exact c5
  · simp (disch := omega) only [rd_p, rd_i, ud_n]; exact c6 s hs
  · simp (disch := omega) only [rd_p, rd_i, ud_n]; exact c7 s hs
  · simp (disch := omega) only [rd_p, rd_i, ud_n]; exact c8 s hs
  · simp (disch := omega) only [rd_p, rd_i, ud_n]; exact c9 s hs
  · simp (disch := omega) only [rd_p, rd_i, ud_n]; exact c10 s hs
  · simp (disch := omega) only [rd_p, rd_i, ud_n]; exact c11 s hs
  · simp (disch := omega) only [rd_p, rd_i, ud_n]; exact c12 s hs
theorem p_sister {T : Nat} {t D : Nat → Nat} {p a : Nat} {μ0 μ : Mem} (hD : DW D) (h : CS T t D p μ) (hF : CFr μ0 μ) (h8 : μ.1 35 8 = nI a) : ∃ r, f_X5_sisterLine_35 μ = some r ∧ CLr T t (sisterS T t D p a) μ0 r := by
  have hn3 := hD.1
  obtain ⟨NN, hN⟩ : ∃ NN, FU = NN + 1 + 1 + 1 := ⟨999997, rfl⟩
  unfold f_X5_sisterLine_35 sisterS
  rw [h.2.1.1]
  by_cases hc : 3 ≤ D 0
  · rw [if_pos hc, if_neg (show ¬ nI (D 0) < (3 : Int32) from nI_nlt (b := 3) hc (by omega))]
    exact p_ref (f := 5) hF h8
  · rw [if_neg hc, if_pos (show nI (D 0) < (3 : Int32) from nI_lt (b := 3) (by omega) (by omega)), inb_nI (by omega) (by omega), nI_clamp (by omega), lm2]
    refine p_kindK (G := fun ν => if true = false then none else it2 (f_X5_sisterLine_35_L49 (nI (D 0))) FU (nI (2 * D 0)) (pI ν 38 (D 0) (ν.1 35 9))) (K := fun k e0 => nbS T t e0 0 15 fun s0 e => nbS T t e 0 15 fun s1 e => nbS T t e 0 9 fun t0 e => nbS T t e 0 9 fun t1 e => xd (sisD D k s0 s1 t0 t1) e) h hF (fun ν g1 g2 gk g9 => ?_)
    generalize tE T t p = e0 at *
    generalize knB t (tA T t p) e0 = k at *
    have hz := (hD.2.2.2.2.2.2.2.2.2.1 (2 * D 0) (by omega)).2.2 (by omega)
    show ∃ r, (if true = false then none else it2 (f_X5_sisterLine_35_L49 (nI (D 0))) FU (nI (2 * D 0)) (pI ν 38 (D 0) (ν.1 35 9))) = some r ∧ _
    rw [if_neg (show ¬ true = false by decide), g9]
    have c1 := g1.kind (k := k) (show D 0 < 3 by omega) hz
    have f1 : CFr μ0 (pI ν 38 (D 0) (nI k)) := g2.w (by omega)
    generalize pI ν 38 (D 0) (nI k) = ν1 at c1 f1
    /- the second pair of numbers -/
    have hB : ∀ (s0 s1 e2 : Nat) (ξ : Mem), CS T t (ud (ud (ud D (10 + D 0) k) (20 + 2 * D 0) s0) (21 + 2 * D 0) s1) e2 ξ → CFr μ0 ξ → ∃ r, it2 (f_X5_sisterLine_35_L93 (nI (D 0))) FU (nI (2 * D 0)) ξ = some r ∧ CLr T t (nbS T t e2 0 9 fun t0 e => nbS T t e 0 9 fun t1 e => xd (sisD D k s0 s1 t0 t1) e) μ0 r := by
      intro s0 s1 e2 ξ x1 x2
      rw [hN, it2_s]
      generalize hk1 : it2 (f_X5_sisterLine_35_L93 (nI (D 0))) (NN + 1 + 1) = kk1
      unfold f_X5_sisterLine_35_L93
      rw [lm2, al1, if_neg (nI_nlt (by omega) (by omega))]
      refine p_numK (lo := 0) (hi := 9) (G := fun ζ => (f_X1_isGlassEye_37 (nI (2 * D 0)) ζ).bind fun q9 => if q9.1 = 0 then f_X5_sisterLine_35_J141 kk1 (nI (D 0)) (nI (2 * D 0)) (nI (2 * D 0)) (q9.2.1 35 9) q9.2 else f_X5_sisterLine_35_J141 kk1 (nI (D 0)) (nI (2 * D 0)) (nI (2 * D 0)) (0 : Int32) q9.2) x1 x2 (by omega) (by omega) (fun ζ k1 k2 k3 k9 k8 klo khi => ?_)
      have hk10 : ud (ud (ud D (10 + D 0) k) (20 + 2 * D 0) s0) (21 + 2 * D 0) s1 (10 + (2 * D 0) / 2) = k := by
        rw [show 10 + (2 * D 0) / 2 = 10 + D 0 by omega, ud_n (by omega), ud_n (by omega), ud_s]
      show ∃ r, ((f_X1_isGlassEye_37 (nI (2 * D 0)) ζ).bind _) = some r ∧ _
      rw [bnd (p_glass37 k1.2.1.2.2.2.2.2.2.1 (show 2 * D 0 < 6 by omega) (by rw [hk10]; exact gk))]
      dsimp only
      generalize hv0 : tV T t e2 = t0 at *
      generalize tE T t e2 = e3 at *
      have hst : ∃ v : Int32, (if b2i (decide ((2 * D 0) % 2 = 0) && decide (ud (ud (ud D (10 + D 0) k) (20 + 2 * D 0) s0) (21 + 2 * D 0) s1 (10 + (2 * D 0) / 2) = 1)) = 0 then f_X5_sisterLine_35_J141 kk1 (nI (D 0)) (nI (2 * D 0)) (nI (2 * D 0)) (ζ.1 35 9) ζ else f_X5_sisterLine_35_J141 kk1 (nI (D 0)) (nI (2 * D 0)) (nI (2 * D 0)) (0 : Int32) ζ) = kk1 (nI (2 * D 0 + 1)) (pI ζ 42 (2 * D 0) v) ∧ v = (if (2 * D 0) % 2 = 0 ∧ ud (ud (ud D (10 + D 0) k) (20 + 2 * D 0) s0) (21 + 2 * D 0) s1 (10 + (2 * D 0) / 2) = 1 then 0 else nI t0) := by
        unfold f_X5_sisterLine_35_J141
        rw [inb_nI (by omega) (by omega), if_neg (show ¬ true = false by decide), if_neg (show ¬ true = false by decide), nI_clamp (by omega), al1, k9, decide_eq_true (show (2 * D 0) % 2 = 0 by omega), Bool.true_and]
        by_cases hg : ud (ud (ud D (10 + D 0) k) (20 + 2 * D 0) s0) (21 + 2 * D 0) s1 (10 + (2 * D 0) / 2) = 1
        · rw [decide_eq_true hg, if_neg (show ¬ b2i true = 0 by decide), if_pos ⟨by omega, hg⟩]
          exact ⟨_, rfl, rfl⟩
        · rw [decide_eq_false hg, if_pos (show b2i false = 0 from rfl), if_neg (fun hh => hg hh.2)]
          exact ⟨_, rfl, rfl⟩
      obtain ⟨v, hst1, hst2⟩ := hst
      rw [hst1, hst2]
      have c3 := k1.tired (v := t0) (show 2 * D 0 < 6 by omega)
      have f3 : CFr μ0 (pI ζ 42 (2 * D 0) (if (2 * D 0) % 2 = 0 ∧ ud (ud (ud D (10 + D 0) k) (20 + 2 * D 0) s0) (21 + 2 * D 0) s1 (10 + (2 * D 0) / 2) = 1 then 0 else nI t0)) := k2.w (by omega)
      generalize pI ζ 42 (2 * D 0) (if (2 * D 0) % 2 = 0 ∧ ud (ud (ud D (10 + D 0) k) (20 + 2 * D 0) s0) (21 + 2 * D 0) s1 (10 + (2 * D 0) / 2) = 1 then 0 else nI t0) = ζ1 at c3 f3
      rw [← hk1, it2_s]
      generalize hk2 : it2 (f_X5_sisterLine_35_L93 (nI (D 0))) (NN + 1) = kk2
      unfold f_X5_sisterLine_35_L93
      rw [lm2, al1, if_neg (nI_nlt (by omega) (by omega))]
      refine p_numK (lo := 0) (hi := 9) (G := fun ω => (f_X1_isGlassEye_37 (nI (2 * D 0 + 1)) ω).bind fun q9 => if q9.1 = 0 then f_X5_sisterLine_35_J141 kk2 (nI (D 0)) (nI (2 * D 0 + 1)) (nI (2 * D 0 + 1)) (q9.2.1 35 9) q9.2 else f_X5_sisterLine_35_J141 kk2 (nI (D 0)) (nI (2 * D 0 + 1)) (nI (2 * D 0 + 1)) (0 : Int32) q9.2) c3 f3 (by omega) (by omega) (fun ω m1 m2 m3 m9 m8 mlo mhi => ?_)
      have hkk : ud (ud (ud (ud D (10 + D 0) k) (20 + 2 * D 0) s0) (21 + 2 * D 0) s1) (40 + 2 * D 0) t0 (10 + (2 * D 0 + 1) / 2) = k := by
        rw [show 10 + (2 * D 0 + 1) / 2 = 10 + D 0 by omega, ud_n (by omega), ud_n (by omega), ud_n (by omega), ud_s]
      show ∃ r, ((f_X1_isGlassEye_37 (nI (2 * D 0 + 1)) ω).bind _) = some r ∧ _
      rw [bnd (p_glass37 m1.2.1.2.2.2.2.2.2.1 (show 2 * D 0 + 1 < 6 by omega) (by rw [hkk]; exact gk))]
      dsimp only
      rw [decide_eq_false (show ¬ (2 * D 0 + 1) % 2 = 0 by omega), Bool.false_and, if_pos (show b2i false = 0 from rfl)]
      unfold f_X5_sisterLine_35_J141
      rw [inb_nI (by omega) (by omega), if_neg (show ¬ true = false by decide), nI_clamp (by omega), al1, m9]
      have c4 := m1.tired (v := tV T t e3) (show 2 * D 0 + 1 < 6 by omega)
      rw [if_neg (fun hh => absurd hh.1 (by omega))] at c4
      have f4 : CFr μ0 (pI ω 42 (2 * D 0 + 1) (nI (tV T t e3))) := m2.w (by omega)
      generalize pI ω 42 (2 * D 0 + 1) (nI (tV T t e3)) = ω1 at c4 f4
      rw [← hk2, it2_s]
      generalize it2 (f_X5_sisterLine_35_L93 (nI (D 0))) NN = kk3
      unfold f_X5_sisterLine_35_L93
      rw [lm2, al1, if_pos (nI_lt (by omega) (by omega)), c4.2.1.1]
      have hD0 : ud (ud (ud (ud (ud D (10 + D 0) k) (20 + 2 * D 0) s0) (21 + 2 * D 0) s1) (40 + 2 * D 0) t0) (40 + (2 * D 0 + 1)) (tV T t e3) 0 = D 0 := by
        rw [ud_n (by omega), ud_n (by omega), ud_n (by omega), ud_n (by omega), ud_n (by omega)]
      rw [hD0, al1]
      have c5 := c4.sis (v := D 0 + 1)
      rw [show 40 + (2 * D 0 + 1) = 41 + 2 * D 0 by omega] at c5
      exact ⟨_, rfl, CLr.d (f4.w (by omega)) rfl c5⟩
    have hL : ∀ ω : Mem, it2 (f_X5_sisterLine_35_L49 (nI (D 0))) FU (nI (2 * D 0)) ω = it2 (f_X5_sisterLine_35_L49 (nI (D 0))) (NN + 1 + 1 + 1) (nI (2 * D 0)) ω := fun ω => by rw [hN]
    rw [hL, it2_s]
    generalize hk1 : it2 (f_X5_sisterLine_35_L49 (nI (D 0))) (NN + 1 + 1) = kk1
    unfold f_X5_sisterLine_35_L49
    rw [lm2, al1, if_neg (nI_nlt (by omega) (by omega))]
    refine p_numK (lo := 0) (hi := 15) (G := fun ζ => if inb (nI (2 * D 0)) 6 = false then none else kk1 (nI (2 * D 0 + 1)) (pI ζ 39 ((nI (2 * D 0)).toNatClampNeg) (ζ.1 35 9))) c1 f1 (by omega) (by omega) (fun ζ k1 k2 k3 k9 k8 klo khi => ?_)
    show ∃ r, (if inb (nI (2 * D 0)) 6 = false then none else kk1 (nI (2 * D 0 + 1)) (pI ζ 39 ((nI (2 * D 0)).toNatClampNeg) (ζ.1 35 9))) = some r ∧ _
    rw [inb_nI (by omega) (by omega), if_neg (show ¬ true = false by decide), nI_clamp (by omega), k9]
    have c2 := k1.side (v := tV T t e0) (show 2 * D 0 < 6 by omega)
    have f2 : CFr μ0 (pI ζ 39 (2 * D 0) (nI (tV T t e0))) := k2.w (by omega)
    generalize pI ζ 39 (2 * D 0) (nI (tV T t e0)) = ζ1 at c2 f2
    rw [← hk1, it2_s]
    generalize hk2 : it2 (f_X5_sisterLine_35_L49 (nI (D 0))) (NN + 1) = kk2
    unfold f_X5_sisterLine_35_L49
    rw [lm2, al1, if_neg (nI_nlt (by omega) (by omega))]
    refine p_numK (lo := 0) (hi := 15) (G := fun ω => if inb (nI (2 * D 0 + 1)) 6 = false then none else kk2 (nI (2 * D 0 + 1) + 1) (pI ω 39 ((nI (2 * D 0 + 1)).toNatClampNeg) (ω.1 35 9))) c2 f2 (by omega) (by omega) (fun ω m1 m2 m3 m9 m8 mlo mhi => ?_)
    show ∃ r, (if inb (nI (2 * D 0 + 1)) 6 = false then none else kk2 (nI (2 * D 0 + 1) + 1) (pI ω 39 ((nI (2 * D 0 + 1)).toNatClampNeg) (ω.1 35 9))) = some r ∧ _
    rw [inb_nI (by omega) (by omega), if_neg (show ¬ true = false by decide), nI_clamp (by omega), al1, m9]
    have c3 := m1.side (v := tV T t (tE T t e0)) (show 2 * D 0 + 1 < 6 by omega)
    rw [show 20 + (2 * D 0 + 1) = 21 + 2 * D 0 by omega] at c3
    have f3 : CFr μ0 (pI ω 39 (2 * D 0 + 1) (nI (tV T t (tE T t e0)))) := m2.w (by omega)
    generalize pI ω 39 (2 * D 0 + 1) (nI (tV T t (tE T t e0))) = ω1 at c3 f3
    rw [← hk2, it2_s]
    generalize it2 (f_X5_sisterLine_35_L49 (nI (D 0))) NN = kk3
    unfold f_X5_sisterLine_35_L49
    rw [lm2, al1, if_pos (nI_lt (by omega) (by omega))]
    exact hB _ _ _ ω1 c3 f3
