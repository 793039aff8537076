theorem m2n : ∀ n, n < 4 → ((1 : Int32) <<< (((2 : Int32) * nI n) &&& 31)) - 1 = nI (mk6 fun e => decide (e < 2 * n)) := by decide +kernel
theorem opn_shq {n : Nat} (hn : n ≤ 3) {K t : Nat → Nat} {w e : Nat} : opn n K w t e = (hr n 3 (e / 2) && !glE K e && !shq n w t e) := by
  unfold opn shq
  rw [hr3 hn]
  by_cases he : e < 2 * n
  · rw [decide_eq_true he, decide_eq_true (show e / 2 < n by omega)]
    cases glE K e <;> cases shut w e <;> cases decide (t e = 9) <;> rfl
  · rw [decide_eq_false (show ¬ e / 2 < n by omega)]
    rfl
theorem m_openIn {n Z : Nat} {K S F T N G W : Nat → Nat} {μ : Mem} (hV : HV n K S μ) (hP : PV n F T N G W μ) (hG : ∀ e, e < 2 * n → glE K e = true → T e = 0) (hZ : Z < 6) : ∃ μ', f_X10_openIn_62 (nI Z) μ = some (nI (mk6 (opn n K (W Z) (tq n K W T Z))), μ') ∧ only [71] μ μ' := by
  have hn := hV.1
  have hT := tq_le (n := n) (K := K) (W := W) (T := T) (fun e he => (hP.2.1 e he).1)
  obtain ⟨ν, h1, g1, g2⟩ := m_goes hV hP hG (Z := Z) (by omega)
  have hV' := hV.sm (only71.sm g1)
  obtain ⟨w1, -, w2⟩ := (hP.sm (only71.sm g1)).2.2.2.2 Z hZ
  refine ⟨ν, ?_, g1⟩
  unfold f_X10_openIn_62
  rw [bnd h1, bnd (m_shutNow hV' hZ w1 w2 (fun e he => ⟨hT Z e (by omega), g2 e he⟩)), bnd (m_glassEyes hV')]
  dsimp only
  rw [hV'.2.2.1, m2n n (by omega), mk6_andn, mk6_andn]
  refine congrArg (fun v => some (nI v, ν)) (mk6_congr fun e he => ?_)
  rw [opn_shq hn]
  unfold gmE
  rw [hr3 hn, show decide (e / 2 < n) = decide (e < 2 * n) from decide_eq_decide.mpr (by omega)]
  cases decide (e < 2 * n) <;> cases glE K e <;> cases shq n (W Z) (tq n K W T Z) e <;> rfl
def MsQ (n : Nat) (K S F T N G W : Nat → Nat) (Z : Nat) : Nat := LKS n 3 K S F N (shq n (W Z) (tq n K W T Z)) (G Z)
theorem MsQ_lt {n : Nat} {K S F T N G W : Nat → Nat} {Z : Nat} : MsQ n K S F T N G W Z < 64 := by unfold MsQ; exact LKS_lt
theorem p_missedIn {n Z : Nat} {K S F T N G W : Nat → Nat} {μ : Mem} (hV : HV n K S μ) (hP : PV n F T N G W μ) (hZ : Z < 6) : ∃ μ', f_X9_missedIn_0 (nI Z) μ = some (nI (MsQ n K S F T N G W Z), μ') ∧ only [47, 48, 49, 50] μ μ' := by
  have hn := hV.1
  obtain ⟨ν, l1, l2, l3⟩ := p_look0 hV hP.1
  have hV' := hV.sm (only4.sm l2)
  have hP' := hP.sm (only4.sm l2)
  obtain ⟨ξ, x1, x2, x3, x4⟩ := p_reach hV' hP' l3 (Z := Z) hZ
  have hP'' := hP'.sm (only49.sm x2)
  obtain ⟨g1, g2, -⟩ := hP''.2.2.2.1 Z hZ
  refine ⟨ξ, ?_, (l2.mono (by simp)).tr (x2.mono (by simp))⟩
  unfold f_X9_missedIn_0
  rw [bnd l1, bnd x1, inb_nI (by omega) (by omega), if_neg (show ¬ (true = false) by decide), nI_clamp (by omega), g2, x3, bnd (p_lacking (fun e he => (hV.2.2.2.2.2 e he).1) (fun s hs => (hP.1 s (by omega)).1) (SightR.fr x2 (by simp) (by simp) l3) (fun e _ => opn_shq hn) (fun d hd => ⟨(hP''.2.2.1 d hd).1, (hP''.2.2.1 d hd).2.1⟩) g1)]
  rfl
theorem m_missedIn {n Z : Nat} {K S F T N G W : Nat → Nat} {μ : Mem} (hV : HV n K S μ) (hP : PV n F T N G W μ) (hx : AbsR 3 μ) (hG : ∀ e, e < 2 * n → glE K e = true → T e = 0) (hZ : Z < 6) : ∃ μ', f_X10_missedIn_62 (nI Z) μ = some (nI (MsQ n K S F T N G W Z), μ') ∧ only [71] μ μ' := by
  have hn := hV.1
  have hT := tq_le (n := n) (K := K) (W := W) (T := T) (fun e he => (hP.2.1 e he).1)
  obtain ⟨ν, h1, g1, g2⟩ := m_goes hV hP hG (Z := Z) (by omega)
  have hV' := hV.sm (only71.sm g1)
  have hP' := hP.sm (only71.sm g1)
  have hx' : AbsR 3 ν := by unfold AbsR; rw [g1.1 62 26 (by simp)]; exact hx
  obtain ⟨w1, -, w2⟩ := hP'.2.2.2.2 Z hZ
  obtain ⟨s1, -, s2⟩ := hP'.2.2.2.1 Z hZ
  refine ⟨ν, ?_, g1⟩
  unfold f_X10_missedIn_62
  rw [bnd h1, bnd (m_shutNow hV' hZ w1 w2 (fun e he => ⟨hT Z e (by omega), g2 e he⟩)), bnd (m_missedBy hV' (fun s hs => ⟨(hP'.1 s (by omega)).1, (hP'.1 s (by omega)).2.2⟩) hx' (fun d hd => ⟨(hP'.2.2.1 d hd).1, (hP'.2.2.1 d hd).2.2⟩) hZ s1 s2)]
  rfl
theorem only478.sm {μ μ' : Mem} (h : only [47, 48, 49, 50] μ μ') : smE μ μ' := h.sm (by decide)
/-- the first quarter that is not zero -/
def Wrk (f : Nat → Nat) (Q : Nat) (v : Int32) : Prop := (∃ j, j < Q ∧ f j ≠ 0 ∧ (∀ i, i < j → f i = 0) ∧ v = nI j) ∨ ((∀ j, j < Q → f j = 0) ∧ v = -4)
theorem Wrk.uniq {f : Nat → Nat} {Q : Nat} {v w : Int32} (h1 : Wrk f Q v) (h2 : Wrk f Q w) : v = w := by
  rcases h1 with ⟨j, a1, a2, a3, a4⟩ | ⟨a1, a2⟩ <;> rcases h2 with ⟨k, b1, b2, b3, b4⟩ | ⟨b1, b2⟩
  · rcases Nat.lt_trichotomy j k with h | h | h
    · exact absurd (b3 j h) a2
    · rw [a4, b4, h]
    · exact absurd (a3 k h) b2
  · exact absurd (b1 j a1) a2
  · exact absurd (a1 k b1) b2
  · rw [a2, b2]

set_option maxRecDepth 100000 in
theorem s_tired (a0 a1 : Int32) : PStp (f_X9_tired_0 a0 a1) (f_X10_tired_62 a0 a1) := by
  intro μ hI0
  obtain ⟨n, Q, hC⟩ := hI0
  have hC0 := hC
  obtain ⟨⟨hn, hQ1, hQ6, e10, e622, e624, e11, e623, hk, hs⟩, hP, hI, hS, hT, hR⟩ := hC
  have h27 := p3 hn
  cases h1 : inb a0 (2 * n) with
  | false =>
    refine ⟨-1, μ, μ, ?_, ?_, n, Q, hC0⟩
    · unfold f_X9_tired_0
      simp only [p_isSide, p_isEither, p_hasSister e10 hn, p_hasEye e10 hn, p_hasQuarter e11 hQ6, p_hasWatch e10 hn, p_canTell e10 hn e11 hQ6, m_isSide, m_isPart, m_isSister e622 hn, m_isEye e622 hn, m_isQuarter e623 hQ6, m_isWatch e624 hn, Option.bind_some, b2i_z, Bool.true_eq_false, Bool.false_eq_true, if_false, if_true, Bool.and_true, Bool.true_and, Bool.false_and, Bool.and_false, la0, la3, la9, la13, la21, la30, rd_p, rd_i, rd_s, h1]
    · unfold f_X10_tired_62
      simp only [p_isSide, p_isEither, p_hasSister e10 hn, p_hasEye e10 hn, p_hasQuarter e11 hQ6, p_hasWatch e10 hn, p_canTell e10 hn e11 hQ6, m_isSide, m_isPart, m_isSister e622 hn, m_isEye e622 hn, m_isQuarter e623 hQ6, m_isWatch e624 hn, Option.bind_some, b2i_z, Bool.true_eq_false, Bool.false_eq_true, if_false, if_true, Bool.and_true, Bool.true_and, Bool.false_and, Bool.and_false, la0, la3, la9, la13, la21, la30, rd_p, rd_i, rd_s, h1]
  | true =>
    cases h2 : inb a1 Q with
    | false =>
      refine ⟨-1, μ, μ, ?_, ?_, n, Q, hC0⟩
      · unfold f_X9_tired_0
        simp only [p_isSide, p_isEither, p_hasSister e10 hn, p_hasEye e10 hn, p_hasQuarter e11 hQ6, p_hasWatch e10 hn, p_canTell e10 hn e11 hQ6, m_isSide, m_isPart, m_isSister e622 hn, m_isEye e622 hn, m_isQuarter e623 hQ6, m_isWatch e624 hn, Option.bind_some, b2i_z, Bool.true_eq_false, Bool.false_eq_true, if_false, if_true, Bool.and_true, Bool.true_and, Bool.false_and, Bool.and_false, la0, la3, la9, la13, la21, la30, rd_p, rd_i, rd_s, h1, h2]
      · unfold f_X10_tired_62
        simp only [p_isSide, p_isEither, p_hasSister e10 hn, p_hasEye e10 hn, p_hasQuarter e11 hQ6, p_hasWatch e10 hn, p_canTell e10 hn e11 hQ6, m_isSide, m_isPart, m_isSister e622 hn, m_isEye e622 hn, m_isQuarter e623 hQ6, m_isWatch e624 hn, Option.bind_some, b2i_z, Bool.true_eq_false, Bool.false_eq_true, if_false, if_true, Bool.and_true, Bool.true_and, Bool.false_and, Bool.and_false, la0, la3, la9, la13, la21, la30, rd_p, rd_i, rd_s, h1, h2]
    | true =>
    obtain ⟨e, he, rfl⟩ := inb_of h1 (by omega)
    obtain ⟨Z, hZ, rfl⟩ := inb_of h2 (by omega)
    obtain ⟨K, S, hV⟩ := HV.get hC0.1
    obtain ⟨F, T, N, G, W, hPV⟩ := PV.get hn hP
    obtain ⟨ν, l1, l2, l3⟩ := p_look0 hV hPV.1
    have lsm := only4.sm l2
    have hV' := hV.sm lsm
    have hPV' := hPV.sm lsm
    have hC' := hC0.sm lsm
    have hA' := hC'.abs
    obtain ⟨ξ, x1, x2, x3, x4⟩ := p_reach hV' hPV' l3 (Z := Z) (by omega)
    have xsm := only49.sm x2
    have hV'' := hV'.sm xsm
    have hPV'' := hPV'.sm xsm
    have hC'' := hC'.sm xsm
    have f623 : ξ.1 62 3 = nI Q := by rw [xsm 62 3 (Or.inl rfl), lsm 62 3 (Or.inl rfl)]; exact e623
    have hgl := glT hV hPV hP
    have hT := tq_le (n := n) (K := K) (W := W) (T := T) (fun e he => (hPV.2.1 e he).1)
    obtain ⟨ζ, z1, z2, z3⟩ := p_pass hV'' (fun e he => opn_lt he hn) x3 (fun e he => ⟨hT Z e he, x4 e he⟩)
    have zsm : smE ξ ζ := z2.sm (by decide)
    have hVz := hV''.sm zsm
    obtain ⟨ω, m1, m2, m3⟩ := m_goes hVz (hPV''.sm zsm) hgl (Z := Z + 1) (by omega)
    have f622z := hVz.2.2.1
    have f623z : ζ.1 62 3 = nI Q := by rw [zsm 62 3 (Or.inl rfl)]; exact f623
    refine ⟨nI (tq n K W T (Z + 1) e), ζ, ω, ?_, ?_, n, Q, (hC''.sm zsm).sm (only71.sm m2)⟩
    · unfold f_X9_tired_0
      simp only [p_isSide, p_isEither, p_hasSister e10 hn, p_hasEye e10 hn, p_hasQuarter e11 hQ6, p_hasWatch e10 hn, p_canTell e10 hn e11 hQ6, m_isSide, m_isPart, m_isSister e622 hn, m_isEye e622 hn, m_isQuarter e623 hQ6, m_isWatch e624 hn, Option.bind_some, b2i_z, Bool.true_eq_false, Bool.false_eq_true, if_false, if_true, Bool.and_true, Bool.true_and, Bool.false_and, Bool.and_false, la0, la3, la9, la13, la21, la30, rd_p, rd_i, rd_s, h1, h2]
      rw [bnd l1, bnd x1, bnd z1, inb_nI (by omega) (by omega), nI_clamp (by omega), z3 e (by omega)]
      rfl
    · unfold f_X10_tired_62
      simp only [p_isSide, p_isEither, p_hasSister e10 hn, p_hasEye e10 hn, p_hasQuarter e11 hQ6, p_hasWatch e10 hn, p_canTell e10 hn e11 hQ6, m_isSide, m_isPart, m_isSister f622z hn, m_isEye f622z hn, m_isQuarter f623z hQ6, Option.bind_some, b2i_z, Bool.true_eq_false, Bool.false_eq_true, if_false, if_true, Bool.and_true, Bool.true_and, Bool.false_and, Bool.and_false, la0, la3, la9, la13, la21, la30, rd_p, rd_i, rd_s, h1, h2]
      rw [al1, bnd m1, inb_nI (by omega) (by omega), nI_clamp (by omega), m3 e he]
      rfl

set_option maxRecDepth 100000 in
theorem s_open (a0 : Int32) : PStp (f_X9_open_0 a0) (f_X10_open_62 a0) := by
  intro μ hI0
  obtain ⟨n, Q, hC⟩ := hI0
  have hC0 := hC
  obtain ⟨⟨hn, hQ1, hQ6, e10, e622, e624, e11, e623, hk, hs⟩, hP, hI, hS, hT, hR⟩ := hC
  have h27 := p3 hn
  cases h1 : inb a0 Q with
  | false =>
    refine ⟨-1, μ, μ, ?_, ?_, n, Q, hC0⟩
    · unfold f_X9_open_0
      simp only [p_isSide, p_isEither, p_hasSister e10 hn, p_hasEye e10 hn, p_hasQuarter e11 hQ6, p_hasWatch e10 hn, p_canTell e10 hn e11 hQ6, m_isSide, m_isPart, m_isSister e622 hn, m_isEye e622 hn, m_isQuarter e623 hQ6, m_isWatch e624 hn, Option.bind_some, b2i_z, Bool.true_eq_false, Bool.false_eq_true, if_false, if_true, Bool.and_true, Bool.true_and, Bool.false_and, Bool.and_false, la0, la3, la9, la13, la21, la30, rd_p, rd_i, rd_s, h1]
    · unfold f_X10_open_62
      simp only [p_isSide, p_isEither, p_hasSister e10 hn, p_hasEye e10 hn, p_hasQuarter e11 hQ6, p_hasWatch e10 hn, p_canTell e10 hn e11 hQ6, m_isSide, m_isPart, m_isSister e622 hn, m_isEye e622 hn, m_isQuarter e623 hQ6, m_isWatch e624 hn, Option.bind_some, b2i_z, Bool.true_eq_false, Bool.false_eq_true, if_false, if_true, Bool.and_true, Bool.true_and, Bool.false_and, Bool.and_false, la0, la3, la9, la13, la21, la30, rd_p, rd_i, rd_s, h1]
  | true =>
    obtain ⟨Z, hZ, rfl⟩ := inb_of h1 (by omega)
    obtain ⟨K, S, hV⟩ := HV.get hC0.1
    obtain ⟨F, T, N, G, W, hPV⟩ := PV.get hn hP
    obtain ⟨ν, l1, l2, l3⟩ := p_look0 hV hPV.1
    have lsm := only4.sm l2
    have hV' := hV.sm lsm
    have hPV' := hPV.sm lsm
    have hC' := hC0.sm lsm
    have hA' := hC'.abs
    obtain ⟨ξ, x1, x2, x3, x4⟩ := p_reach hV' hPV' l3 (Z := Z) (by omega)
    have xsm := only49.sm x2
    have hV'' := hV'.sm xsm
    have hPV'' := hPV'.sm xsm
    have hC'' := hC'.sm xsm
    have f623 : ξ.1 62 3 = nI Q := by rw [xsm 62 3 (Or.inl rfl), lsm 62 3 (Or.inl rfl)]; exact e623
    have hgl := glT hV hPV hP
    obtain ⟨ω, m1, m2⟩ := m_openIn hV'' hPV'' hgl (Z := Z) (by omega)
    refine ⟨nI (mk6 (opn n K (W Z) (tq n K W T Z))), ξ, ω, ?_, ?_, n, Q, hC''.sm (only71.sm m2)⟩
    · unfold f_X9_open_0
      simp only [p_isSide, p_isEither, p_hasSister e10 hn, p_hasEye e10 hn, p_hasQuarter e11 hQ6, p_hasWatch e10 hn, p_canTell e10 hn e11 hQ6, m_isSide, m_isPart, m_isSister e622 hn, m_isEye e622 hn, m_isQuarter e623 hQ6, m_isWatch e624 hn, Option.bind_some, b2i_z, Bool.true_eq_false, Bool.false_eq_true, if_false, if_true, Bool.and_true, Bool.true_and, Bool.false_and, Bool.and_false, la0, la3, la9, la13, la21, la30, rd_p, rd_i, rd_s, h1]
      rw [bnd l1, bnd x1, x3]
    · unfold f_X10_open_62
      simp only [p_isSide, p_isEither, p_hasSister e10 hn, p_hasEye e10 hn, p_hasQuarter e11 hQ6, p_hasWatch e10 hn, p_canTell e10 hn e11 hQ6, m_isSide, m_isPart, m_isSister hV''.2.2.1 hn, m_isEye hV''.2.2.1 hn, m_isQuarter f623 hQ6, m_isWatch hV''.2.2.2.1 hn, Option.bind_some, b2i_z, Bool.true_eq_false, Bool.false_eq_true, if_false, if_true, Bool.and_true, Bool.true_and, Bool.false_and, Bool.and_false, la0, la3, la9, la13, la21, la30, rd_p, rd_i, rd_s, h1]
      rw [bnd m1]

set_option maxRecDepth 100000 in
theorem s_missed (a0 : Int32) : PStp (f_X9_missed_0 a0) (f_X10_missed_62 a0) := by
  intro μ hI0
  obtain ⟨n, Q, hC⟩ := hI0
  have hC0 := hC
  obtain ⟨⟨hn, hQ1, hQ6, e10, e622, e624, e11, e623, hk, hs⟩, hP, hI, hS, hT, hR⟩ := hC
  have h27 := p3 hn
  cases h1 : inb a0 Q with
  | false =>
    refine ⟨-1, μ, μ, ?_, ?_, n, Q, hC0⟩
    · unfold f_X9_missed_0
      simp only [p_isSide, p_isEither, p_hasSister e10 hn, p_hasEye e10 hn, p_hasQuarter e11 hQ6, p_hasWatch e10 hn, p_canTell e10 hn e11 hQ6, m_isSide, m_isPart, m_isSister e622 hn, m_isEye e622 hn, m_isQuarter e623 hQ6, m_isWatch e624 hn, Option.bind_some, b2i_z, Bool.true_eq_false, Bool.false_eq_true, if_false, if_true, Bool.and_true, Bool.true_and, Bool.false_and, Bool.and_false, la0, la3, la9, la13, la21, la30, rd_p, rd_i, rd_s, h1]
    · unfold f_X10_missed_62
      simp only [p_isSide, p_isEither, p_hasSister e10 hn, p_hasEye e10 hn, p_hasQuarter e11 hQ6, p_hasWatch e10 hn, p_canTell e10 hn e11 hQ6, m_isSide, m_isPart, m_isSister e622 hn, m_isEye e622 hn, m_isQuarter e623 hQ6, m_isWatch e624 hn, Option.bind_some, b2i_z, Bool.true_eq_false, Bool.false_eq_true, if_false, if_true, Bool.and_true, Bool.true_and, Bool.false_and, Bool.and_false, la0, la3, la9, la13, la21, la30, rd_p, rd_i, rd_s, h1]
  | true =>
    obtain ⟨Z, hZ, rfl⟩ := inb_of h1 (by omega)
    obtain ⟨K, S, hV⟩ := HV.get hC0.1
    obtain ⟨F, T, N, G, W, hPV⟩ := PV.get hn hP
    obtain ⟨ξ, x1, x2⟩ := p_missedIn hV hPV (Z := Z) (by omega)
    have xsm := only478.sm x2
    have hV'' := hV.sm xsm
    have hC'' := hC0.sm xsm
    have f623 : ξ.1 62 3 = nI Q := by rw [xsm 62 3 (Or.inl rfl)]; exact e623
    obtain ⟨ω, m1, m2⟩ := m_missedIn hV'' (hPV.sm xsm) hC''.abs (glT hV hPV hP) (Z := Z) (by omega)
    refine ⟨nI (MsQ n K S F T N G W Z), ξ, ω, ?_, ?_, n, Q, hC''.sm (only71.sm m2)⟩
    · unfold f_X9_missed_0
      simp only [p_isSide, p_isEither, p_hasSister e10 hn, p_hasEye e10 hn, p_hasQuarter e11 hQ6, p_hasWatch e10 hn, p_canTell e10 hn e11 hQ6, m_isSide, m_isPart, m_isSister e622 hn, m_isEye e622 hn, m_isQuarter e623 hQ6, m_isWatch e624 hn, Option.bind_some, b2i_z, Bool.true_eq_false, Bool.false_eq_true, if_false, if_true, Bool.and_true, Bool.true_and, Bool.false_and, Bool.and_false, la0, la3, la9, la13, la21, la30, rd_p, rd_i, rd_s, h1]
      rw [bnd x1]
    · unfold f_X10_missed_62
      simp only [p_isSide, p_isEither, p_hasSister e10 hn, p_hasEye e10 hn, p_hasQuarter e11 hQ6, p_hasWatch e10 hn, p_canTell e10 hn e11 hQ6, m_isSide, m_isPart, m_isSister hV''.2.2.1 hn, m_isEye hV''.2.2.1 hn, m_isQuarter f623 hQ6, m_isWatch hV''.2.2.2.1 hn, Option.bind_some, b2i_z, Bool.true_eq_false, Bool.false_eq_true, if_false, if_true, Bool.and_true, Bool.true_and, Bool.false_and, Bool.and_false, la0, la3, la9, la13, la21, la30, rd_p, rd_i, rd_s, h1]
      rw [bnd m1]

set_option maxRecDepth 100000 in
theorem s_wreck : PStp f_X9_wreck_0 f_X10_wreck_62 := by
  intro μ hI0
  obtain ⟨n, Q, hC⟩ := hI0
  have hC0 := hC
  obtain ⟨⟨hn, hQ1, hQ6, e10, e622, e624, e11, e623, hk, hs⟩, hP, hI, hS, hT, hR⟩ := hC
  have h27 := p3 hn
  obtain ⟨K, S, hV⟩ := HV.get hC0.1
  obtain ⟨F, T, N, G, W, hPV⟩ := PV.get hn hP
  have hgl := glT hV hPV hP
  have hp : ∃ r, f_X9_wreck_0 μ = some r ∧ (only [47, 48, 49, 50] μ r.2 ∧ Wrk (MsQ n K S F T N G W) Q r.1) := by
    have hh := e11
    exact for_ex (body := f_X9_wreck_0_L2) nI Q (fun i ν => only [47, 48, 49, 50] μ ν ∧ ∀ j, j < i → MsQ n K S F T N G W j = 0) (fun rr => only [47, 48, 49, 50] μ rr.2 ∧ Wrk (MsQ n K S F T N G W) Q rr.1) (fun k i ν hi hQ => by
      obtain ⟨q1, q2⟩ := hQ
      have qsm := only478.sm q1
      obtain ⟨ω, m1, m2⟩ := p_missedIn (hV.sm qsm) (hPV.sm qsm) (Z := i) (by omega)
      have hz := mk6_z _ (MsQ_lt (n := n) (K := K) (S := S) (F := F) (T := T) (N := N) (G := G) (W := W) (Z := i))
      unfold f_X9_wreck_0_L2
      rw [qsm 1 1 (Or.inl rfl), hh, if_neg (nI_ge hi (by omega)), bnd m1]
      dsimp only
      by_cases hc : MsQ n K S F T N G W i = 0
      · right
        rw [if_pos (hz.mpr hc), al1]
        refine ⟨ω, rfl, q1.tr m2, fun j hj => ?_⟩
        by_cases hji : j = i
        · rw [hji]
          exact hc
        · exact q2 j (by omega)
      · left
        rw [if_neg (fun h => hc (hz.mp h))]
        exact ⟨_, rfl, q1.tr m2, Or.inl ⟨i, hi, hc, q2, rfl⟩⟩) (fun k ν hQ => by
      obtain ⟨q1, q2⟩ := hQ
      have qsm := only478.sm q1
      unfold f_X9_wreck_0_L2
      rw [qsm 1 1 (Or.inl rfl), hh, if_pos (nI_le (Nat.le_refl _) (by omega))]
      exact ⟨_, rfl, q1, Or.inr ⟨q2, rfl⟩⟩) FU 0 μ (by omega) (fu_gt (by omega)) ⟨only.rf, fun j hj => by omega⟩
  obtain ⟨r, h1, h2, h3⟩ := hp
  have rsm := only478.sm h2
  have hC' := hC0.sm rsm
  have hV' := hV.sm rsm
  have hPV' := hPV.sm rsm
  have hm : ∃ s, f_X10_wreck_62 r.2 = some s ∧ (only [71] r.2 s.2 ∧ Wrk (MsQ n K S F T N G W) Q s.1) := by
    have hh : r.2.1 62 3 = nI Q := by rw [rsm 62 3 (Or.inl rfl)]; exact e623
    exact for_ex (body := f_X10_wreck_62_L2) nI Q (fun i ν => only [71] r.2 ν ∧ ∀ j, j < i → MsQ n K S F T N G W j = 0) (fun rr => only [71] r.2 rr.2 ∧ Wrk (MsQ n K S F T N G W) Q rr.1) (fun k i ν hi hQ => by
      obtain ⟨q1, q2⟩ := hQ
      have qsm := only71.sm q1
      obtain ⟨ω, m1, m2⟩ := m_missedIn (hV'.sm qsm) (hPV'.sm qsm) (hC'.sm qsm).abs hgl (Z := i) (by omega)
      have hz := mk6_z _ (MsQ_lt (n := n) (K := K) (S := S) (F := F) (T := T) (N := N) (G := G) (W := W) (Z := i))
      unfold f_X10_wreck_62_L2
      rw [qsm 62 3 (Or.inl rfl), hh, if_neg (nI_ge hi (by omega)), bnd m1]
      dsimp only
      by_cases hc : MsQ n K S F T N G W i = 0
      · right
        rw [if_pos (hz.mpr hc), al1]
        refine ⟨ω, rfl, q1.tr m2, fun j hj => ?_⟩
        by_cases hji : j = i
        · rw [hji]
          exact hc
        · exact q2 j (by omega)
      · left
        rw [if_neg (fun h => hc (hz.mp h))]
        exact ⟨_, rfl, q1.tr m2, Or.inl ⟨i, hi, hc, q2, rfl⟩⟩) (fun k ν hQ => by
      obtain ⟨q1, q2⟩ := hQ
      have qsm := only71.sm q1
      unfold f_X10_wreck_62_L2
      rw [qsm 62 3 (Or.inl rfl), hh, if_pos (nI_le (Nat.le_refl _) (by omega))]
      exact ⟨_, rfl, q1, Or.inr ⟨q2, rfl⟩⟩) FU 0 r.2 (by omega) (fu_gt (by omega)) ⟨only.rf, fun j hj => by omega⟩
  obtain ⟨s, g1, g2, g3⟩ := hm
  refine ⟨r.1, r.2, s.2, h1, ?_, n, Q, hC'.sm (only71.sm g2)⟩
  rw [g1, h3.uniq g3]
