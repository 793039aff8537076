/-! PURE: best, without -/
theorem i32_sub10 (a : Int32) : (a - 10).toInt = (a.toInt - 10).bmod (2 ^ 32) := Int32.toInt_sub a 10
theorem sub10 {a : Int32} {m : Nat} (hm : m ≤ 100) (h : a < 10) : inb (a - 10) m = false := by
  cases hx : inb (a - 10) m with
  | false => rfl
  | true =>
    rw [inb_iff, i32_sub10] at hx
    have h1 := Int32.le_toInt a
    have h2 := Int32.toInt_lt a
    rw [i32_lt, show (10 : Int32).toInt = 10 from rfl] at h
    simp only [Int.bmod_def] at hx
    omega
theorem FDQ.sm {μ ν : Mem} (h : FDQ μ ν) : smE μ ν := by
  intro p k hr
  refine h.1 p k ?_ ?_ ?_
  · rintro rfl
    rcases hr with hr | hr
    · exact absurd (show (false : Bool) = true from hr) (by decide)
    · omega
  · rintro rfl
    rcases hr with hr | hr
    · exact absurd (show (false : Bool) = true from hr) (by decide)
    · omega
  · rintro rfl
    rcases hr with hr | hr
    · exact absurd (show (false : Bool) = true from hr) (by decide)
    · omega
theorem only51.sm {μ μ' : Mem} (h : only [51, 53, 54] μ μ') : smE μ μ' := h.sm (by decide)
theorem mm_of {n Q x : Nat} {K S F T N G W : Nat → Nat} {μ : Mem} (hV : HV n K S μ) (hPV : PV n F T N G W μ) (h3 : μ.1 62 3 = nI Q) (hx : AbsR x μ) : MM n x Q K S F N G μ :=
  ⟨hV, fun s hs => ⟨(hPV.1 s (by have := hV.1; omega)).1, (hPV.1 s (by have := hV.1; omega)).2.2⟩, fun d hd => ⟨(hPV.2.2.1 d hd).1, (hPV.2.2.1 d hd).2.2⟩, fun q hq => ⟨(hPV.2.2.2.1 q hq).1, (hPV.2.2.2.1 q hq).2.2⟩, h3, hx⟩
/-- the class prepares, for eyes as they are seen, and looks for the greatest -/
theorem p_plan {n x Q u0 : Nat} {K S F N G : Nat → Nat} {μ : Mem} (hn : n ≤ 3) (hQ1 : 1 ≤ Q) (hQ : Q ≤ 6) (h11 : μ.1 1 1 = nI Q) (hS : ∀ e, e < 2 * n → S e < 16) (hF : ∀ s, s < n → F s < 4) (h : SightR n x K S F μ) (hN : ∀ d, d < 4 → N d < 7 ∧ μ.1 7 d = nI (N d)) (hG : ∀ q, q < 6 → G q < 16 ∧ μ.1 8 q = nI (G q)) (hu0 : u0 ≤ 100) :
    ∃ ξ ζ, f_X3_prepare_51_1_4_47 μ = some ξ ∧ f_X3_greatest_51 (pm u0) ξ = some (pm (max u0 (UQ (lwQ n x K S F N G) (ctQ n x K) Q)), ζ) ∧ smE μ ζ ∧ PF (lwQ n x K S F N G) (ctQ n x K) Q (clC (ctQ n x K) Q) (msQ (lwQ n x K S F N G) (ctQ n x K)) ζ ∧ (∀ p k, p ≠ 51 → p ≠ 52 → p ≠ 53 → p ≠ 54 → p ≠ 55 → ζ.1 p k = μ.1 p k) := by
  obtain ⟨ξ, x1, x2, x3⟩ := p_prepare hn hQ1 hQ h11 hS hF h hN hG
  obtain ⟨ζ, z1, z2⟩ := p_greatest (u0 := u0) x3 hQ (msQ_le _ _) (msQ_ge _ _) hu0
  exact ⟨ξ, ζ, x1, z1, (only51.sm x2).tr z2.sm, x3.fr z2, fun p k h1 h2 h3 h4 h5 => (z2.1 p k h1 h2 h5).trans (x2.1 p k (by simp; omega))⟩
def bsV (A : Nat → Nat → Bool) (C : Nat → Bool) (Q : Nat) (a : Int32) : Int32 := if UQ A C Q = 0 then -4 else if a = 0 then pm (UQ A C Q) else nI (gpQ A C Q 0 (fun _ => UQ A C Q - 1) ((a - 10).toNatClampNeg))

set_option maxRecDepth 100000 in
theorem s_best (a0 : Int32) : PStp (f_X9_best_0 a0) (f_X10_best_62 a0) := by
  intro μ hI0
  obtain ⟨n, Q, hC⟩ := hI0
  have hC0 := hC
  obtain ⟨⟨hn, hQ1, hQ6, e10, e622, e624, e11, e623, hk, hs⟩, hP, hI, hS, hT, hR⟩ := hC
  have h27 := p3 hn
  by_cases hok : a0 = 0 ∨ inb (a0 - 10) Q = true
  · obtain ⟨K, S, hV⟩ := HV.get hC0.1
    obtain ⟨F, T, N, G, W, hPV⟩ := PV.get hn hP
    obtain ⟨ν, l1, l2, l3⟩ := p_look0 hV hPV.1
    have lsm := only4.sm l2
    have hPV' := hPV.sm lsm
    obtain ⟨ξ, ζ, x1, z1, zsm, zPF, -⟩ := p_plan (u0 := 0) (N := N) (G := G) hn hQ1 hQ6 (by rw [lsm 1 1 (Or.inl rfl)]; exact e11) (fun e he => (hV.2.2.2.2.2 e he).1) (fun s hs => (hPV.1 s (by omega)).1) l3 (fun d hd => ⟨(hPV'.2.2.1 d hd).1, (hPV'.2.2.1 d hd).2.1⟩) (fun q hq => ⟨(hPV'.2.2.2.1 q hq).1, (hPV'.2.2.2.1 q hq).2.1⟩) (by omega)
    rw [Nat.zero_max] at z1
    have z1 : f_X3_greatest_51 (-1 : Int32) ξ = some (pm (UQ (lwQ n 3 K S F N G) (ctQ n 3 K) Q), ζ) := z1
    have hUle := UQ_le (lwQ n 3 K S F N G) (ctQ n 3 K) Q
    have hcl := clC_le (ctQ n 3 K) Q
    have hcls : f_X9_best_0 a0 μ = f_X9_best_0_J26 a0 μ := by
      unfold f_X9_best_0
      rcases hok with h | h
      · rw [if_pos h]
      · by_cases h0 : a0 = 0
        · rw [if_pos h0]
        · have h10 : ¬ a0 < 10 := fun hh => by rw [sub10 (by omega) hh] at h; cases h
          rw [if_neg h0, if_neg h10, bnd (p_hasQuarter e11 hQ6 _), h]
          rfl
    have hmod : ∀ ω : Mem, smE μ ω → f_X10_best_62 a0 ω = f_X10_best_62_J17 a0 ω := by
      intro ω hω
      have f623 : ω.1 62 3 = nI Q := by rw [hω 62 3 (Or.inl rfl)]; exact e623
      unfold f_X10_best_62
      rcases hok with h | h
      · rw [if_pos h]
      · by_cases h0 : a0 = 0
        · rw [if_pos h0]
        · rw [if_neg h0, bnd (m_isQuarter f623 hQ6 _), h]
          rfl
    /- the class -/
    have hp : ∃ ω, f_X9_best_0_J26 a0 μ = some (bsV (lwQ n 3 K S F N G) (ctQ n 3 K) Q a0, ω) ∧ smE μ ω := by
      unfold f_X9_best_0_J26 bsV
      rw [bnd l1, bnd x1, bnd z1]
      dsimp only
      by_cases hU : UQ (lwQ n 3 K S F N G) (ctQ n 3 K) Q = 0
      · rw [if_neg (by rw [pm_ge0 (by omega)]; omega), if_pos hU]
        exact ⟨ζ, rfl, lsm.tr zsm⟩
      · rw [if_pos ((pm_ge0 (by omega)).mpr (by omega)), if_neg hU]
        by_cases h0 : a0 = 0
        · rw [if_pos h0, if_pos h0]
          exact ⟨ζ, rfl, lsm.tr zsm⟩
        · have h := hok.resolve_left h0
          obtain ⟨i, hi, hai⟩ := inb_of h (by omega)
          obtain ⟨u, hu⟩ : ∃ u, UQ (lwQ n 3 K S F N G) (ctQ n 3 K) Q = u + 1 := ⟨UQ (lwQ n 3 K S F N G) (ctQ n 3 K) Q - 1, by omega⟩
          obtain ⟨ω, r, w1, w2, w3, w4⟩ := p_find (t := u) zPF hQ6 (by omega) (wt_cap hQ6 (by omega)) (msQ_le _ _) (msQ_ge _ _)
          have hcv := UQ_t (A := lwQ n 3 K S F N G) (C := ctQ n 3 K) (Q := Q) (u := u) (by omega)
          rw [if_neg h0, if_neg h0, hu, pm_s, bnd w1]
          dsimp only
          rw [hai, inb_nI (by omega) (by omega), if_neg (show ¬ (true = false) by decide), nI_clamp (by omega), w4 (w2.trans hcv) i hi, Nat.add_sub_cancel]
          exact ⟨ω, rfl, (lsm.tr zsm).tr w3.sm⟩
    obtain ⟨ω, p1, p2⟩ := hp
    have hCω := hC0.sm p2
    have hMω := mm_of (hV.sm p2) (hPV.sm p2) (show ω.1 62 3 = nI Q by rw [p2 62 3 (Or.inl rfl)]; exact e623) hCω.abs
    obtain ⟨η, b1, b2, b3⟩ := m_bestRest hMω (by omega) hQ1 hQ6
    refine ⟨bsV (lwQ n 3 K S F N G) (ctQ n 3 K) Q a0, ω, η, hcls.trans p1, (hmod ω p2).trans ?_, n, Q, hCω.sm b2.sm⟩
    unfold f_X10_best_62_J17 f_X10_best_62_J32 f_X10_best_62_J49
    rw [bnd b1]
    dsimp only
    unfold brA bsV
    by_cases hU : UQ (lwQ n 3 K S F N G) (ctQ n 3 K) Q = 0
    · rw [if_pos hU, if_pos hU, if_pos (show (-4 : Int32) = -4 from rfl)]
    · obtain ⟨u, hu⟩ : ∃ u, UQ (lwQ n 3 K S F N G) (ctQ n 3 K) Q = u + 1 := ⟨UQ (lwQ n 3 K S F N G) (ctQ n 3 K) Q - 1, by omega⟩
      have hn4 : ¬ nI u = (-4 : Int32) := by
        rw [i32_eq, nI_toInt (by omega), show (-4 : Int32).toInt = -4 from rfl]
        omega
      rw [if_neg hU, if_neg hU]
      rw [hu, pm_s, if_neg hn4]
      by_cases h0 : a0 = 0
      · rw [if_pos h0, if_pos h0]
      · have h := hok.resolve_left h0
        obtain ⟨i, hi, hai⟩ := inb_of h (by omega)
        obtain ⟨hX, ρ, r1, r2, r3, r4, r5, r6, r7⟩ := b3 hU
        have hc6 : cnC (ctQ n 3 K) 6 ≤ 6 := cnC_le 6
        have hAout : ∀ q w, 3 ^ n ≤ w → w < 27 → lwQ n 3 K S F N G q w = false := by
          intro q w h1 h2
          unfold lwQ
          rw [sub_out n (by omega) 3 (by omega) w h2 h1]
          rfl
        have hrow := m_rowAt hX hn (by omega) (wt_cap hQ6 r7) hQ6 hAout r3 r4 r5 r6 hi
        rw [if_neg h0, if_neg h0, hX.2.2.1, hai, nI_clamp (by omega), Nat.add_sub_cancel]
        by_cases hc0 : cnC (ctQ n 3 K) 6 = 0
        · have hρ := r1 hc0
          subst hρ
          have hrow : f_X10_rowAt_62 (0 : Int32) (nI i) η = _ := hrow
          rw [if_pos ((nI_z (by omega)).mpr hc0), bnd hrow]
          dsimp only
          rw [gp_congr Q 0 (fun _ => 0) (fun _ => u) (fun e he hC => absurd hC (cn_0 hc0 e he))]
        · have hρ := r2 hc0
          have hρ : ρ = u := by omega
          subst hρ
          rw [if_neg (fun hh => hc0 ((nI_z (by omega)).mp hh)), bnd hrow]
  · have h0 : ¬ a0 = 0 := fun h => hok (Or.inl h)
    have hf : inb (a0 - 10) Q = false := by
      cases h : inb (a0 - 10) Q with
      | false => rfl
      | true => exact absurd (Or.inr h) hok
    refine ⟨-1, μ, μ, ?_, ?_, n, Q, hC0⟩
    · unfold f_X9_best_0
      rw [if_neg h0]
      by_cases h10 : a0 < 10
      · rw [if_pos h10]
      · rw [if_neg h10, bnd (p_hasQuarter e11 hQ6 _), hf]
        rfl
    · unfold f_X10_best_62
      rw [if_neg h0, bnd (m_isQuarter e623 hQ6 _), hf]
      rfl
theorem mask_wo : ∀ n, n < 4 → ∀ x, x < n → ∀ s, s < 3 → (((nI (2 ^ n - 1) &&& (((1 : Int32) <<< (nI x &&& 31)) ^^^ (-1 : Int32))) >>> (nI s &&& 31)) &&& 1) = b2i (hr n x s) := by decide +kernel

set_option maxRecDepth 100000 in
theorem s_without (a0 : Int32) : PStp (f_X9_without_0 a0) (f_X10_without_62 a0) := by
  intro μ hI0
  obtain ⟨n, Q, hC⟩ := hI0
  have hC0 := hC
  obtain ⟨⟨hn, hQ1, hQ6, e10, e622, e624, e11, e623, hk, hs⟩, hP, hI, hS, hT, hR⟩ := hC
  have h27 := p3 hn
  cases h1 : inb a0 n with
  | false =>
    refine ⟨-1, μ, μ, ?_, ?_, n, Q, hC0⟩
    · unfold f_X9_without_0
      rw [bnd (p_hasSister e10 hn _), h1]
      rfl
    · unfold f_X10_without_62
      rw [bnd (m_isSister e622 hn _), h1]
      rfl
  | true =>
    have h1' := h1
    obtain ⟨x, hx, rfl⟩ := inb_of h1 (by omega)
    obtain ⟨K, S, hV⟩ := HV.get hC0.1
    obtain ⟨F, T, N, G, W, hPV⟩ := PV.get hn hP
    obtain ⟨ν, l1, l2, l3⟩ := p_look_5 (x := x) (a3 := nI (2 ^ n - 1) &&& (((1 : Int32) <<< (nI x &&& 31)) ^^^ (-1 : Int32))) (mask_wo n (by omega) x hx) hV (F := F) (fun s hs => ⟨(hPV.1 s (by omega)).1, (hPV.1 s (by omega)).2.1⟩)
    have lsm := only4.sm l2
    have hPV' := hPV.sm lsm
    obtain ⟨ξ, ζ, x1, z1, zsm, zPF, -⟩ := p_plan (u0 := 0) (N := N) (G := G) hn hQ1 hQ6 (by rw [lsm 1 1 (Or.inl rfl)]; exact e11) (fun e he => (hV.2.2.2.2.2 e he).1) (fun s hs => (hPV.1 s (by omega)).1) l3 (fun d hd => ⟨(hPV'.2.2.1 d hd).1, (hPV'.2.2.1 d hd).2.1⟩) (fun q hq => ⟨(hPV'.2.2.2.1 q hq).1, (hPV'.2.2.2.1 q hq).2.1⟩) (by omega)
    rw [Nat.zero_max] at z1
    have z1 : f_X3_greatest_51 (-1 : Int32) ξ = some (pm (UQ (lwQ n x K S F N G) (ctQ n x K) Q), ζ) := z1
    have hUle := UQ_le (lwQ n x K S F N G) (ctQ n x K) Q
    have hcl := clC_le (ctQ n x K) Q
    have p2 := lsm.tr zsm
    have hCω := hC0.sm p2
    have hVω := hV.sm p2
    have hsmx : ∀ v : Int32, ∀ p k, ¬ (p = 62 ∧ k = 26) → (pI ζ 62 26 v).1 p k = ζ.1 p k := by
      intro v p k hpk
      by_cases hp : p = 62
      · subst hp
        exact rd_i (by omega)
      · exact rd_p hp
    have hVx : HV n K S (pI ζ 62 26 (nI (x + 1))) := by
      obtain ⟨a1, a2, a3, a4, a5, a6⟩ := hVω
      refine ⟨a1, by rw [hsmx _ _ _ (by omega)]; exact a2, by rw [hsmx _ _ _ (by omega)]; exact a3, by rw [hsmx _ _ _ (by omega)]; exact a4, fun s hs => ?_, fun e he => ?_⟩
      · rw [hsmx _ _ _ (by omega), hsmx _ _ _ (by omega)]; exact a5 s hs
      · rw [hsmx _ _ _ (by omega), hsmx _ _ _ (by omega)]; exact a6 e he
    have hMω : MM n x Q K S F N G (pI ζ 62 26 (nI (x + 1))) := by
      obtain ⟨-, a2, a3, a4, a5, -⟩ := mm_of hVω (hPV.sm p2) (show ζ.1 62 3 = nI Q by rw [p2 62 3 (Or.inl rfl)]; exact e623) hCω.abs
      refine ⟨hVx, fun s hs => ?_, fun d hd => ?_, fun q hq => ?_, ?_, Or.inr ⟨by omega, rd_s⟩⟩
      · rw [hsmx _ _ _ (by omega)]; exact a2 s hs
      · rw [hsmx _ _ _ (by omega)]; exact a3 d hd
      · rw [hsmx _ _ _ (by omega)]; exact a4 q hq
      · rw [hsmx _ _ _ (by omega)]; exact a5
    obtain ⟨η, b1, b2, -⟩ := m_bestRest hMω (by omega) hQ1 hQ6
    refine ⟨brA (lwQ n x K S F N G) (ctQ n x K) Q, ζ, pI η 62 26 0, ?_, ?_, n, Q, hCω.sm (fun p k hc => ?_)⟩
    · unfold f_X9_without_0
      rw [bnd (p_hasSister e10 hn _), h1', if_neg (show ¬ b2i true = 0 by decide), bnd (p_everybody e10 hn)]
      dsimp only
      rw [bnd l1, bnd x1, bnd z1]
      dsimp only
      unfold brA
      by_cases hU : UQ (lwQ n x K S F N G) (ctQ n x K) Q = 0
      · rw [if_neg (by rw [pm_ge0 (by omega)]; omega), if_pos hU]
      · rw [if_pos ((pm_ge0 (by omega)).mpr (by omega)), if_neg hU]
    · unfold f_X10_without_62
      rw [bnd (m_isSister hVω.2.2.1 hn _), h1', if_neg (show ¬ b2i true = 0 by decide), al1, bnd b1]
    · by_cases hpk : p = 62 ∧ k = 26
      · obtain ⟨rfl, rfl⟩ := hpk
        rw [rd_s]
        exact hCω.2.2.2.2.2.2.2.symm
      · have e1 : (pI η 62 26 0).1 p k = η.1 p k := by
          by_cases hp : p = 62
          · subst hp
            exact rd_i (by omega)
          · exact rd_p hp
        rw [e1, b2.sm p k hc, hsmx _ p k hpk]
