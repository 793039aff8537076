/-! PURE: rounds -/
def cmF (g : Nat → Bool) : Nat → Bool
  | 0 => true
  | d + 1 => cmF g d && !g d
theorem m_isCalm {n Q w : Nat} {K S F N G : Nat → Nat} {μ : Mem} (h : MM n 3 Q K S F N G μ) (hw : w < 3 ^ n) : f_X10_isCalm_62 (nI w) μ = some (b2i (cmQ n K S F N w), μ) := by
  obtain ⟨h1, h2, h3, h4, h5, h6⟩ := h
  have hn := h1.1
  have h27 := p3 hn
  have hcm : cmQ n K S F N w = cmF (lk n 3 K S F N (shut w) 0) 4 := by
    unfold cmQ
    rw [sub_3 n (by omega) w (by omega) hw, Bool.true_and]
    have hz : LKS n 3 K S F N (shut w) 0 = 0 ↔ cmF (lk n 3 K S F N (shut w) 0) 4 = true := by
      unfold LKS
      rw [mk6_eq0]
      show _ ↔ ((((true && !lk n 3 K S F N (shut w) 0 0) && !lk n 3 K S F N (shut w) 0 1) && !lk n 3 K S F N (shut w) 0 2) && !lk n 3 K S F N (shut w) 0 3) = true
      constructor
      · intro hh
        have g0 := hh 0 (by omega)
        have g1 := hh 1 (by omega)
        have g2 := hh 2 (by omega)
        have g3 := hh 3 (by omega)
        rw [decide_eq_true (by omega), Bool.true_and] at g0 g1 g2 g3
        rw [g0, g1, g2, g3]
        rfl
      · intro hh e he
        by_cases he4 : e < 4
        · rw [decide_eq_true he4, Bool.true_and]
          rcases (show e = 0 ∨ e = 1 ∨ e = 2 ∨ e = 3 by omega) with rfl | rfl | rfl | rfl
          · cases hc : lk n 3 K S F N (shut w) 0 0 <;> simp [hc] at hh ⊢
          · cases hc : lk n 3 K S F N (shut w) 0 1 <;> simp [hc] at hh ⊢
          · cases hc : lk n 3 K S F N (shut w) 0 2 <;> simp [hc] at hh ⊢
          · cases hc : lk n 3 K S F N (shut w) 0 3 <;> simp [hc] at hh ⊢
        · rw [decide_eq_false he4]
          rfl
    cases hc : cmF (lk n 3 K S F N (shut w) 0) 4 with
    | true => exact decide_eq_true (hz.mpr hc)
    | false => exact decide_eq_false (fun hh => by rw [hz.mp hh] at hc; cases hc)
  rw [hcm]
  unfold f_X10_isCalm_62
  have := for_accGm (body := f_X10_isCalm_62_L4 (nI w)) nI 4 (fun d => b2i (cmF (lk n 3 K S F N (shut w) 0) d)) (fun _ ν => ν = μ) (fun r => r = (b2i (cmF (lk n 3 K S F N (shut w) 0) 4), μ)) (fun k d ν hd hP => by
    subst hP
    refine ⟨ν, ?_, rfl⟩
    obtain ⟨n7, n1⟩ := h3 d hd
    have hcl : cn n 3 K S F (shut w) d 6 ≤ 12 := cn_le 6
    have hlk : lk n 3 K S F N (shut w) 0 d = decide (cn n 3 K S F (shut w) d 6 < 2 * N d) := by
      unfold lk
      rw [Nat.zero_div, Nat.zero_mod, Nat.add_zero]
    have hs : cmF (lk n 3 K S F N (shut w) 0) (d + 1) = (cmF (lk n 3 K S F N (shut w) 0) d && !lk n 3 K S F N (shut w) 0 d) := rfl
    rw [hs, hlk]
    unfold f_X10_isCalm_62_L4 f_X10_isCalm_62_J41 f_X10_isCalm_62_J42
    rw [if_neg (show ¬ (4 : Int32) ≤ nI d from nI_ge (b := 4) hd (by omega)), al1]
    cases cmF (lk n 3 K S F N (shut w) 0) d with
    | false => rw [if_pos (show b2i false = 0 from rfl)]; rfl
    | true =>
      rw [if_neg (show ¬ b2i true = 0 by decide), bnd (m_shutBy h1.2.2.1 hn hw)]
      dsimp only
      rw [bnd (m_countOf h1 h2 h6 hd)]
      dsimp only
      rw [la9, inb_nI (by omega) (by omega), if_neg (show ¬ (true = false) by decide), nI_clamp (by omega), n1, lm2]
      by_cases hc : cn n 3 K S F (shut w) d 6 < 2 * N d
      · rw [if_pos (nI_lt hc (by omega)), decide_eq_true hc]; rfl
      · rw [if_neg (nI_nlt (by omega) (by omega)), decide_eq_false hc]; rfl) (fun k ν hP => by
    subst hP
    unfold f_X10_isCalm_62_L4
    rw [if_pos (show (4 : Int32) ≤ nI 4 from by decide), b2i_zb, if_neg (show ¬ (true = false) by decide)]
    exact ⟨_, rfl, rfl⟩) FU 0 μ (by omega) (fu_gt (by omega)) rfl
  obtain ⟨r, r1, rfl⟩ := this
  exact r1
theorem rng13 {a : Int32} (h : ¬ a < 10) : (a < 13) ↔ inb (a - 10) 3 = true := by
  rw [inb_iff, i32_sub10]
  have h1 := Int32.le_toInt a
  have h2 := Int32.toInt_lt a
  rw [i32_lt, show (10 : Int32).toInt = 10 from rfl] at h
  rw [i32_lt, show (13 : Int32).toInt = 13 from rfl]
  simp only [Int.bmod_def]
  omega
theorem in13 (a : Int32) : inL a.toInt64 10 12 = inb (a - 10) 3 := by
  refine (inb_eq ?_).symm
  rw [i32_sub10]
  have h1 := Int32.le_toInt a
  have h2 := Int32.toInt_lt a
  simp only [inL, Bool.and_eq_true, decide_eq_true_eq, i64_le, wide_int]
  have e1 : (10 : Int64).toInt = 10 := rfl
  have e2 : (12 : Int64).toInt = 12 := rfl
  rw [e1, e2]
  simp only [Int.bmod_def]
  omega
def rnV (a : Nat → Bool) (C : Nat → Bool) (x : Int32) : Int32 := if rdQ (fun l => cvQ (fun _ => a) C l 0 (fun _ => 1)) = 0 then -4 else if x = 0 then nI (rdQ (fun l => cvQ (fun _ => a) C l 0 (fun _ => 1))) else if nI (rdQ (fun l => cvQ (fun _ => a) C l 0 (fun _ => 1))) ≤ x - 10 then -4 else nI (gpQ (fun _ => a) C (rdQ (fun l => cvQ (fun _ => a) C l 0 (fun _ => 1))) 0 (fun _ => 1) ((x - 10).toNatClampNeg))
theorem rdQ_le (f : Nat → Bool) : rdQ f ≤ 3 := by
  unfold rdQ
  split
  · omega
  · split
    · omega
    · split <;> omega
theorem wt2 {C : Nat → Bool} : wtC C (1 + 1) 6 ≤ 4096 := by
  rw [wtC_pow]
  have h2 : (1 + 1) ^ cnC C 6 ≤ (1 + 1) ^ 6 := Nat.pow_le_pow_right (by omega) (cnC_le 6)
  omega
theorem m_round {n Q : Nat} {K S F N G : Nat → Nat} {μ : Mem} {a1 : Int32} (h : MM n 3 Q K S F N G μ) (hn0 : n ≠ 0) (ha : a1 = 0 ∨ inb (a1 - 10) 3 = true) :
    ∃ μ', f_X10_round_62_J20 a1 μ = some (rnV (cmQ n K S F N) (ctQ n 3 K) a1, μ') ∧ MF μ μ' := by
  have hn := h.1.1
  have h27 := p3 hn
  have hAout : ∀ (q w : Nat), 3 ^ n ≤ w → w < 27 → cmQ n K S F N w = false := by
    intro q w h1 h2
    unfold cmQ
    rw [sub_out n (by omega) 3 (by omega) w h2 h1]
    rfl
  have hc6 : cnC (ctQ n 3 K) 6 ≤ 6 := cnC_le 6
  obtain ⟨μ0, e1, e2, e3, e4⟩ := m_findEyes h.1 h.2.2.2.2.2
  unfold f_X10_round_62_J20
  rw [h.1.2.2.1, if_neg (nI_ne0 (by omega) (by omega)), bnd e1]
  have := for_ex (body := f_X10_round_62_L36 a1) (fun i => nI (1 + i)) 3 (fun i ν => MF μ ν ∧ ν.1 62 28 = nI (cnC (ctQ n 3 K) 6) ∧ (∀ k, k < cnC (ctQ n 3 K) 6 → ν.1 72 k = nI (evC (ctQ n 3 K) 6 k)) ∧ ∀ l, 1 ≤ l → l < 1 + i → cvQ (fun _ => cmQ n K S F N) (ctQ n 3 K) l 0 (fun _ => 1) = false) (fun r => r.1 = rnV (cmQ n K S F N) (ctQ n 3 K) a1 ∧ MF μ r.2) (fun k36 i ν hi hP => by
    obtain ⟨q1, q2, q3, q4⟩ := hP
    show (∃ r, f_X10_round_62_L36 a1 k36 (nI (1 + i)) ν = some r ∧ _) ∨ ∃ μ', f_X10_round_62_L36 a1 k36 (nI (1 + i)) ν = k36 (nI (1 + (i + 1))) μ' ∧ _
    unfold f_X10_round_62_L36
    rw [if_neg (show ¬ (3 : Int32) < nI (1 + i) from nI_nlt (a := 3) (by omega) (by omega))]
    have hloop := for_con (body := f_X10_round_62_L43 a1 (nI (1 + i)) k36) nI (1 + i) (fun q ξ => MF μ ξ ∧ ξ.1 62 28 = nI (cnC (ctQ n 3 K) 6) ∧ (∀ k, k < cnC (ctQ n 3 K) 6 → ξ.1 72 k = nI (evC (ctQ n 3 K) 6 k)) ∧ ∀ q', q' < q → ∀ w, w < 3 ^ n → ξ.1 73 (27 * q' + w) = b2i (cmQ n K S F N w)) (fun ξ => (f_X10_canRest_62 (nI (1 + i)) (1 : Int32) ξ).bind fun q6 =>
      if q6.1 = 0 then
        k36 (nI (1 + i) + 1) q6.2
      else
        if a1 = 0 then
          some (nI (1 + i), q6.2)
        else
          if nI (1 + i) ≤ (a1 - (10 : Int32)) then
            some ((-4 : Int32), q6.2)
          else
            (f_X10_rowAt_62 (1 : Int32) (a1 - (10 : Int32)) q6.2).bind fun q10 =>
            some (q10.1, q10.2)) (fun ξ => MF μ ξ ∧ ξ.1 62 28 = nI (cnC (ctQ n 3 K) 6) ∧ (∀ k, k < cnC (ctQ n 3 K) 6 → ξ.1 72 k = nI (evC (ctQ n 3 K) 6 k)) ∧ ∀ q', q' < 1 + i → ∀ w, w < 3 ^ n → ξ.1 73 (27 * q' + w) = b2i (cmQ n K S F N w)) (fun k43 q ξ hq hR => by
      obtain ⟨r1, r2, r3, r4⟩ := hR
      unfold f_X10_round_62_L43
      rw [if_neg (nI_ge hq (by omega))]
      exact for_con (body := f_X10_round_62_L51 a1 (nI (1 + i)) (nI q) k36 k43) nI (3 ^ n) (fun w η => MF μ η ∧ η.1 62 28 = nI (cnC (ctQ n 3 K) 6) ∧ (∀ k, k < cnC (ctQ n 3 K) 6 → η.1 72 k = nI (evC (ctQ n 3 K) 6 k)) ∧ (∀ q', q' < q → ∀ w, w < 3 ^ n → η.1 73 (27 * q' + w) = b2i (cmQ n K S F N w)) ∧ ∀ w', w' < w → η.1 73 (27 * q + w') = b2i (cmQ n K S F N w')) (fun η => k43 (nI (q + 1)) η) (fun η => MF μ η ∧ η.1 62 28 = nI (cnC (ctQ n 3 K) 6) ∧ (∀ k, k < cnC (ctQ n 3 K) 6 → η.1 72 k = nI (evC (ctQ n 3 K) 6 k)) ∧ ∀ q', q' < q + 1 → ∀ w, w < 3 ^ n → η.1 73 (27 * q' + w) = b2i (cmQ n K S F N w)) (fun k51 w η hw hS => by
        obtain ⟨s1, s2, s3, s4, s5⟩ := hS
        have hM := h.fr s1
        unfold f_X10_round_62_L51
        rw [hM.1.2.2.2.1, if_neg (nI_ge hw (by omega)), bnd (m_isCalm hM hw)]
        dsimp only
        rw [lm27, nI_add, inb_nI (by omega) (by omega), if_neg (show ¬ (true = false) by decide), nI_clamp (by omega), b2i_zb, if_neg (show ¬ (true = false) by decide), al1]
        refine ⟨_, rfl, fun p j p1 p2 p3 p4 => by rw [rd_p p2]; exact s1 p j p1 p2 p3 p4, by rw [rd_p (by omega)]; exact s2, fun k hk => by rw [rd_p (by omega)]; exact s3 k hk, fun q' hq' w' hw' => by rw [rd_i (by omega)]; exact s4 q' hq' w' hw', fun w' hw' => ?_⟩
        by_cases hww : w' = w
        · rw [hww, rd_s]
        · rw [rd_i (by omega)]
          exact s5 w' (by omega)) (fun k51 η hS => by
        obtain ⟨s1, s2, s3, s4, s5⟩ := hS
        unfold f_X10_round_62_L51
        rw [(h.fr s1).1.2.2.2.1, if_pos (nI_le (Nat.le_refl _) (by omega)), al1]
        refine ⟨η, rfl, s1, s2, s3, fun q' hq' w hw => ?_⟩
        by_cases hqq : q' = q
        · rw [hqq]; exact s5 w hw
        · exact s4 q' (by omega) w hw) FU 0 ξ (by omega) (fu_gt (by omega)) ⟨r1, r2, r3, r4, fun w' hw' => by omega⟩) (fun k43 ξ hR => by
      unfold f_X10_round_62_L43
      rw [if_pos (nI_le (Nat.le_refl _) (by omega))]
      exact ⟨ξ, rfl, hR⟩) FU 0 ν (by omega) (fu_gt (by omega)) ⟨q1, q2, q3, fun q' hq' => by omega⟩
    obtain ⟨ξ, l1, r1, r2, r3, r4⟩ := hloop
    have hM := h.fr r1
    have hX : MX (fun _ => cmQ n K S F N) (ctQ n 3 K) n (1 + i) ξ := ⟨hM.1.2.2.1, hM.1.2.2.2.1, r2, r3, r4⟩
    obtain ⟨ζ, c1, c2, c3⟩ := m_canRest (r := 1) hX hn (by omega) wt2 (by omega) (by omega) hAout
    have c1 : f_X10_canRest_62 (nI (1 + i)) (1 : Int32) ξ = some (b2i (cvQ (fun _ => cmQ n K S F N) (ctQ n 3 K) (1 + i) 0 (fun _ => 1)), ζ) := c1
    have hrun := l1
    rw [bnd c1] at hrun
    dsimp only at hrun
    cases hcv : cvQ (fun _ => cmQ n K S F N) (ctQ n 3 K) (1 + i) 0 (fun _ => 1) with
    | false =>
      right
      rw [hcv, if_pos (show b2i false = 0 from rfl), al1] at hrun
      refine ⟨ζ, hrun, r1.tr c2.1.mf, ?_, fun k hk => ?_, fun l hl1 hl2 => ?_⟩
      · rw [c2.1 62 28 (by omega) (by omega)]; exact r2
      · rw [c2.1 72 k (by omega) (by omega)]; exact r3 k hk
      · by_cases hl : l = 1 + i
        · rw [hl]; exact hcv
        · exact q4 l hl1 (by omega)
    | true =>
      left
      have hrd : rdQ (fun l => cvQ (fun _ => cmQ n K S F N) (ctQ n 3 K) l 0 (fun _ => 1)) = 1 + i := rdQ_at (by omega) (by omega) hcv q4
      unfold rnV
      rw [hrd, if_neg (show ¬ 1 + i = 0 by omega)]
      rw [hcv, if_neg (show ¬ b2i true = 0 by decide)] at hrun
      by_cases h0 : a1 = 0
      · rw [if_pos h0] at hrun ⊢
        exact ⟨_, hrun, rfl, r1.tr c2.1.mf⟩
      · rw [if_neg h0] at hrun ⊢
        obtain ⟨j, hj, haj⟩ := inb_of (ha.resolve_left h0) (by omega)
        rw [haj] at hrun ⊢
        by_cases hle : nI (1 + i) ≤ nI j
        · rw [if_pos hle] at hrun ⊢
          exact ⟨_, hrun, rfl, r1.tr c2.1.mf⟩
        · have hlt : j < 1 + i := by
            rw [nI_leI (by omega) (by omega)] at hle
            omega
          have hrow := m_rowAt (hX.fr c2.1) hn (by omega) wt2 (by omega) hAout c2.2.1 c2.2.2 c3 hcv hlt
          have hrow : f_X10_rowAt_62 (1 : Int32) (nI j) ζ = _ := hrow
          rw [if_neg hle] at hrun ⊢
          rw [bnd hrow] at hrun
          rw [nI_clamp (by omega)]
          exact ⟨_, hrun, rfl, r1.tr c2.1.mf⟩) (fun k36 ν hP => by
    obtain ⟨q1, q2, q3, q4⟩ := hP
    show ∃ r, f_X10_round_62_L36 a1 k36 (nI (1 + 3)) ν = some r ∧ _
    unfold f_X10_round_62_L36 rnV
    rw [if_pos (show (3 : Int32) < nI (1 + 3) from by decide), rdQ_0 (fun j h1 h2 => q4 j h1 (by omega)), if_pos rfl]
    exact ⟨_, rfl, rfl, q1⟩) FU 0 μ0 (by omega) (fu_gt (by omega)) ⟨e2, e3, e4, fun l h1 h2 => by omega⟩
  obtain ⟨r, r1, r2, r3⟩ := this
  exact ⟨r.2, by rw [← r2]; exact r1, r3⟩

set_option maxRecDepth 100000 in
theorem s_round (a0 : Int32) : PStp (f_X9_round_0 a0) (f_X10_round_62 a0) := by
  intro μ hI0
  obtain ⟨n, Q, hC⟩ := hI0
  have hC0 := hC
  obtain ⟨⟨hn, hQ1, hQ6, e10, e622, e624, e11, e623, hk, hs⟩, hP, hI, hS, hT, hR⟩ := hC
  have h27 := p3 hn
  by_cases hok : a0 = 0 ∨ inb (a0 - 10) 3 = true
  · have hcls : f_X9_round_0 a0 μ = f_X9_round_0_J18 a0 μ := by
      unfold f_X9_round_0
      rcases hok with h | h
      · rw [if_pos h]
      · by_cases h0 : a0 = 0
        · rw [if_pos h0]
        · have h10 : ¬ a0 < 10 := fun hh => by rw [sub10 (by omega) hh] at h; cases h
          rw [if_neg h0, if_neg h10, if_pos ((rng13 h10).mpr h)]
    have hmod : ∀ ω : Mem, f_X10_round_62 a0 ω = f_X10_round_62_J20 a0 ω := by
      intro ω
      unfold f_X10_round_62
      rcases hok with h | h
      · rw [if_pos h]
      · by_cases h0 : a0 = 0
        · rw [if_pos h0]
        · rw [if_neg h0, bnd (p_in _ _ _ ω), in13, h]
          rfl
    by_cases hn0 : n = 0
    · refine ⟨-2, μ, μ, ?_, ?_, n, Q, hC0⟩
      · rw [hcls]
        unfold f_X9_round_0_J18
        rw [e10, if_pos ((nI_z (by omega)).mpr hn0)]
      · rw [hmod]
        unfold f_X10_round_62_J20
        rw [e622, if_pos ((nI_z (by omega)).mpr hn0)]
    · obtain ⟨K, S, hV⟩ := HV.get hC0.1
      obtain ⟨F, T, N, G, W, hPV⟩ := PV.get hn hP
      obtain ⟨ν, l1, l2, l3⟩ := p_look0 hV hPV.1
      have lsm := only4.sm l2
      have hPV' := hPV.sm lsm
      obtain ⟨ω, w1, w2, w3⟩ := p_shortest (N := N) hn (fun e he => (hV.2.2.2.2.2 e he).1) (fun s hs => (hPV.1 s (by omega)).1) l3 (fun d hd => ⟨(hPV'.2.2.1 d hd).1, (hPV'.2.2.1 d hd).2.1⟩)
      have wsm : smE ν ω := w2.sm (by decide)
      have p2 := lsm.tr wsm
      have hCω := hC0.sm p2
      have hMω := mm_of (hV.sm p2) (hPV.sm p2) (show ω.1 62 3 = nI Q by rw [p2 62 3 (Or.inl rfl)]; exact e623) hCω.abs
      obtain ⟨η, b1, b2⟩ := m_round hMω hn0 hok
      refine ⟨rnV (cmQ n K S F N) (ctQ n 3 K) a0, ω, η, hcls.trans ?_, (hmod ω).trans b1, n, Q, hCω.sm b2.sm⟩
      have hR3 := rdQ_le (fun l => cvQ (fun _ => cmQ n K S F N) (ctQ n 3 K) l 0 (fun _ => 1))
      unfold f_X9_round_0_J18
      rw [e10, if_neg (nI_ne0 (by omega) (by omega)), bnd l1, bnd w1]
      dsimp only
      unfold rnV
      generalize rdQ (fun l => cvQ (fun _ => cmQ n K S F N) (ctQ n 3 K) l 0 (fun _ => 1)) = R at *
      by_cases hR0 : R = 0
      · rw [if_pos ((nI_z (by omega)).mpr hR0), if_pos hR0]
      · rw [if_neg (fun hh => hR0 ((nI_z (by omega)).mp hh)), if_neg hR0]
        by_cases h0 : a0 = 0
        · rw [if_pos h0, if_pos h0]
        · rw [if_neg h0, if_neg h0]
          obtain ⟨j, hj, haj⟩ := inb_of (hok.resolve_left h0) (by omega)
          rw [haj]
          by_cases hle : nI R ≤ nI j
          · rw [if_pos hle, if_pos hle]
          · have hlt : j < R := by
              rw [nI_leI (by omega) (by omega)] at hle
              omega
            rw [if_neg hle, if_neg hle, inb_nI (by omega) (by omega), if_neg (show ¬ (true = false) by decide), nI_clamp (by omega), w3 j hlt]
  · have h0 : ¬ a0 = 0 := fun h => hok (Or.inl h)
    have hf : inb (a0 - 10) 3 = false := by
      cases h : inb (a0 - 10) 3 with
      | false => rfl
      | true => exact absurd (Or.inr h) hok
    refine ⟨-1, μ, μ, ?_, ?_, n, Q, hC0⟩
    · unfold f_X9_round_0
      rw [if_neg h0]
      by_cases h10 : a0 < 10
      · rw [if_pos h10]
      · rw [if_neg h10, if_neg (fun hh => by rw [(rng13 h10).mp hh] at hf; cases hf)]
    · unfold f_X10_round_62
      rw [if_neg h0, bnd (p_in _ _ _ μ), in13, hf]
      rfl
