theorem mask_all : ∀ n, n < 4 → ∀ s, s < 3 → (nI (2 ^ n - 1) >>> (nI s &&& 31)) &&& 1 = b2i (hr n 3 s) := by decide +kernel
theorem only4.sm {μ μ' : Mem} (h : only [47, 48] μ μ') : smE μ μ' := h.sm (by decide)
theorem p_look0 {n : Nat} {K S F : Nat → Nat} {μ : Mem} (h : HV n K S μ) (hF : ∀ s, s < 3 → F s < 4 ∧ μ.1 5 s = nI (F s) ∧ μ.1 63 s = nI (F s)) : ∃ μ', f_X9_look_0 μ = some μ' ∧ only [47, 48] μ μ' ∧ SightR n 3 K S F μ' := by
  have hn := h.1
  obtain ⟨μ', h1, h2, h3⟩ := p_look_5 (x := 3) (a3 := nI (2 ^ n - 1)) (fun s hs => mask_all n (by omega) s hs) h (fun s hs => ⟨(hF s (by omega)).1, (hF s (by omega)).2.1⟩)
  refine ⟨μ', ?_, h2, h3⟩
  unfold f_X9_look_0
  rw [p_everybody h.2.1 hn]
  simp only [Option.bind_some]
  rw [h1]
  rfl
theorem p_openBy {n x w : Nat} {K S F : Nat → Nat} {μ : Mem} (h : SightR n x K S F μ) (hw : w < 27) : ∃ m : Nat → Bool, (∀ e, e < 6 → m e = (hr n x (e / 2) && !glE K e && !shut w e)) ∧ f_X7_openBy_47 (nI w) μ = some (nI (mk6 m), μ) := by
  refine ⟨fun e => (hr n x (e / 2) && !(hr n x (e / 2) && glE K e)) && !shut w e, fun e _ => ?_, ?_⟩
  · dsimp only
    cases hr n x (e / 2) <;> cases glE K e <;> cases shut w e <;> rfl
  · unfold f_X7_openBy_47
    rw [inb_nI (by omega) (by omega), nI_clamp (by omega), h.1, h.2.1, shu_T w hw, mk6_andn, mk6_andn]
    rfl
def lk (n x : Nat) (K S F N : Nat → Nat) (q : Nat → Bool) (st d : Nat) : Bool := decide (cn n x K S F q d 6 < 2 * (N d + st / 2 ^ d % 2))
def LKS (n x : Nat) (K S F N : Nat → Nat) (q : Nat → Bool) (st : Nat) : Nat := mk6 fun d => decide (d < 4) && lk n x K S F N q st d
theorem lk_step (g : Nat → Bool) {i : Nat} (hi : i < 4) : nI (mk6 fun e => decide (e < i) && g e) ||| (b2i (g i) <<< (nI i &&& 31)) = nI (mk6 fun e => decide (e < i + 1) && g e) := by
  rw [sh1 i (by omega), mk6_or]
  refine congrArg nI (mk6_congr fun e _ => ?_)
  by_cases h : e = i
  · subst h
    simp
  · rw [show (decide (e < i)) = decide (e < i + 1) from decide_eq_decide.mpr (by omega)]
    simp [h]
theorem lk_cond {c need st : Nat} (h1 : c ≤ 12) (h2 : need < 7) {d : Nat} (hd : d < 4) (hst : st < 16) : ((2 : Int32) * (nI need + ((nI st >>> (nI d &&& 31)) &&& 1)) ≤ nI c) ↔ ¬ (c < 2 * (need + st / 2 ^ d % 2)) := by
  have : st / 2 ^ d % 2 < 2 := Nat.mod_lt _ (by decide)
  rw [bit16 st hst d hd, nI_add, lm2, nI_leI (by omega) (by omega)]
  omega
theorem p_lacking {n x st : Nat} {K S F N : Nat → Nat} {μ : Mem} (hS : ∀ e, e < 2 * n → S e < 16) (hF : ∀ s, s < n → F s < 4) (h : SightR n x K S F μ) {q m : Nat → Bool} (hm : ∀ e, e < 6 → m e = (hr n x (e / 2) && !glE K e && !q e)) (hN : ∀ d, d < 4 → N d < 7 ∧ μ.1 7 d = nI (N d)) (hst : st < 16) : f_X7_lacking_47_7 (nI st) (nI (mk6 m)) μ = some (nI (LKS n x K S F N q st), μ) := by
  unfold f_X7_lacking_47_7
  have hz : (0 : Int32) = nI (mk6 fun e => decide (e < 0) && lk n x K S F N q st e) := by
    rw [show mk6 (fun e => decide (e < 0) && lk n x K S F N q st e) = mk6 (fun _ => false) from mk6_congr (fun e _ => by simp)]
    rfl
  have := for_acc3 (body := f_X7_lacking_47_7_L6 (nI st) (nI (mk6 m))) nI 4 (fun i a ν => ν = μ ∧ a = nI (mk6 fun e => decide (e < i) && lk n x K S F N q st e)) (fun r => r = (nI (LKS n x K S F N q st), μ)) (fun k i a ν hi hQ => ?_) (fun k a ν hQ => ?_) FU 0 0 μ (by omega) (fu_gt (by omega)) ⟨rfl, hz⟩
  · obtain ⟨r, h1, rfl⟩ := this
    exact h1
  · obtain ⟨rfl, rfl⟩ := hQ
    obtain ⟨n7, n1⟩ := hN i hi
    have hc := lk_cond (c := cn n x K S F q i 6) (need := N i) (Nat.le_trans (cn_le 6) (by omega)) n7 hi hst
    unfold f_X7_lacking_47_7_L6
    rw [if_neg (show ¬ (4 : Int32) ≤ nI i from nI_ge (b := 4) hi (by omega)), inb_nI (by omega) (by omega), if_neg (show ¬ (true = false) by decide), p_countOf hS hF h hm hi]
    simp only [Option.bind_some]
    rw [nI_clamp (by omega), n1]
    refine ⟨_, ν, ?_, rfl, lk_step _ hi⟩
    unfold lk f_X7_lacking_47_7_J48
    by_cases hl : cn n x K S F q i 6 < 2 * (N i + st / 2 ^ i % 2)
    · rw [if_neg (by rw [hc]; exact fun h => h hl), decide_eq_true hl, al1]
      rfl
    · rw [if_pos (hc.mpr hl), decide_eq_false hl, al1]
      rw [show (b2i false) <<< (nI i &&& 31) = nI (mk6 fun _ => false) by rw [sh1 i (by omega)]; simp, mk6_or]
      simp
  · obtain ⟨rfl, rfl⟩ := hQ
    unfold f_X7_lacking_47_7_L6
    rw [if_pos (show (4 : Int32) ≤ nI 4 from by decide)]
    exact ⟨_, rfl, rfl⟩
theorem m_missedBy {n x st Z : Nat} {K S F N : Nat → Nat} {μ : Mem} (h : HV n K S μ) (hF : ∀ s, s < n → F s < 4 ∧ μ.1 63 s = nI (F s)) (hx : AbsR x μ) {q : Nat → Bool} (hN : ∀ d, d < 4 → N d < 7 ∧ μ.1 63 (9 + d) = nI (N d)) (hZ : Z < 6) (hst : st < 16) (hs : μ.1 63 (13 + Z) = nI st) : f_X10_missedBy_62 (nI Z) (nI (mk6 q)) μ = some (nI (LKS n x K S F N q st), μ) := by
  unfold f_X10_missedBy_62
  have hz : (0 : Int32) = nI (mk6 fun e => decide (e < 0) && lk n x K S F N q st e) := by
    rw [show mk6 (fun e => decide (e < 0) && lk n x K S F N q st e) = mk6 (fun _ => false) from mk6_congr (fun e _ => by simp)]
    rfl
  have := for_acc3 (body := f_X10_missedBy_62_L5 (nI Z) (nI (mk6 q))) nI 4 (fun i a ν => ν = μ ∧ a = nI (mk6 fun e => decide (e < i) && lk n x K S F N q st e)) (fun r => r = (nI (LKS n x K S F N q st), μ)) (fun k i a ν hi hQ => ?_) (fun k a ν hQ => ?_) FU 0 0 μ (by omega) (fu_gt (by omega)) ⟨rfl, hz⟩
  · obtain ⟨r, h1, rfl⟩ := this
    exact h1
  · obtain ⟨rfl, rfl⟩ := hQ
    obtain ⟨n7, n1⟩ := hN i hi
    have hc := lk_cond (c := cn n x K S F q i 6) (need := N i) (Nat.le_trans (cn_le 6) (by omega)) n7 hi hst
    have hne : f_X10_neededAt_62 (nI i) (nI Z) ν = some (nI (N i) + ((nI st >>> (nI i &&& 31)) &&& 1), ν) := by
      unfold f_X10_neededAt_62
      rw [la9, la13, inb_nI (by omega) (by omega), inb_nI (by omega) (by omega), nI_clamp (by omega), nI_clamp (by omega), n1, hs]
      rfl
    unfold f_X10_missedBy_62_L5
    rw [if_neg (show ¬ (4 : Int32) ≤ nI i from nI_ge (b := 4) hi (by omega)), m_countOf h hF hx hi]
    simp only [Option.bind_some]
    rw [hne]
    simp only [Option.bind_some]
    refine ⟨_, ν, ?_, rfl, lk_step _ hi⟩
    unfold lk f_X10_missedBy_62_J36
    by_cases hl : cn n x K S F q i 6 < 2 * (N i + st / 2 ^ i % 2)
    · rw [if_neg (by rw [hc]; exact fun h => h hl), decide_eq_true hl, al1, show (1 : Int32) = b2i true from rfl, m_flag]
      rfl
    · rw [if_pos (hc.mpr hl), decide_eq_false hl, al1, show f_X10_flag 0 ν = some (b2i false, ν) from m_flag false ν]
      rfl
  · obtain ⟨rfl, rfl⟩ := hQ
    unfold f_X10_missedBy_62_L5
    rw [if_pos (show (4 : Int32) ≤ nI 4 from by decide)]
    exact ⟨_, rfl, rfl⟩
theorem LKS_lt {n x st : Nat} {K S F N : Nat → Nat} {q : Nat → Bool} : LKS n x K S F N q st < 64 := mk6_lt _
theorem p_isLawful {n x w Z : Nat} {K S F T N G W : Nat → Nat} {μ : Mem} (h : HV n K S μ) (hP : PV n F T N G W μ) (hS : SightR n x K S F μ) (hw : w < 3 ^ n) (hZ : Z < 6) : f_X9_isLawful_0 (nI Z) (nI w) μ = some (b2i (decide (LKS n x K S F N (shut w) (G Z) = 0)), μ) := by
  have h27 := p3 h.1
  obtain ⟨m, hm, h1⟩ := p_openBy hS (w := w) (by omega)
  obtain ⟨g1, g2, -⟩ := hP.2.2.2.1 Z hZ
  unfold f_X9_isLawful_0
  rw [inb_nI (by omega) (by omega), if_neg (show ¬ (true = false) by decide), h1]
  simp only [Option.bind_some]
  rw [nI_clamp (by omega), g2, p_lacking (fun e he => (h.2.2.2.2.2 e he).1) (fun s hs => (hP.1 s (by have := h.1; omega)).1) hS hm (fun d hd => ⟨(hP.2.2.1 d hd).1, (hP.2.2.1 d hd).2.1⟩) g1]
  simp only [Option.bind_some]
  have := mk6_z _ (LKS_lt (n := n) (x := x) (K := K) (S := S) (F := F) (N := N) (q := shut w) (st := G Z))
  by_cases hz : LKS n x K S F N (shut w) (G Z) = 0
  · rw [if_pos (this.mpr hz), decide_eq_true hz]
    rfl
  · rw [if_neg (fun h => hz (this.mp h)), decide_eq_false hz]
    rfl
theorem m_isLawful {n x w Z : Nat} {K S F T N G W : Nat → Nat} {μ : Mem} (h : HV n K S μ) (hP : PV n F T N G W μ) (hx : AbsR x μ) (hw : w < 3 ^ n) (hZ : Z < 6) : f_X10_isLawful_62 (nI Z) (nI w) μ = some (b2i (decide (LKS n x K S F N (shut w) (G Z) = 0)), μ) := by
  have h27 := p3 h.1
  obtain ⟨g1, -, g2⟩ := hP.2.2.2.1 Z hZ
  unfold f_X10_isLawful_62
  rw [m_shutBy h.2.2.1 h.1 hw]
  simp only [Option.bind_some]
  rw [m_missedBy h (fun s hs => ⟨(hP.1 s (by have := h.1; omega)).1, (hP.1 s (by have := h.1; omega)).2.2⟩) hx (fun d hd => ⟨(hP.2.2.1 d hd).1, (hP.2.2.1 d hd).2.2⟩) hZ g1 g2]
  simp only [Option.bind_some]
  have := mk6_z _ (LKS_lt (n := n) (x := x) (K := K) (S := S) (F := F) (N := N) (q := shut w) (st := G Z))
  by_cases hz : LKS n x K S F N (shut w) (G Z) = 0
  · rw [if_pos (this.mpr hz), decide_eq_true hz]
    rfl
  · rw [if_neg (fun h => hz (this.mp h)), decide_eq_false hz]
    rfl
theorem Core.abs {n Q : Nat} {μ : Mem} (h : Core n Q μ) : AbsR 3 μ := Or.inl ⟨rfl, h.2.2.2.2.2.2.2⟩

set_option maxRecDepth 100000 in
theorem s_eye (a0 a1 : Int32) : PStp (f_X9_eye_0 a0 a1) (f_X10_eye_62 a0 a1) := by
  intro μ hI0
  obtain ⟨n, Q, hC⟩ := hI0
  have hC0 := hC
  obtain ⟨⟨hn, hQ1, hQ6, e10, e622, e624, e11, e623, hk, hs⟩, hP, hI, hS, hT, hR⟩ := hC
  have h27 := p3 hn
  cases h1 : inb a0 (2 * n) with
  | false =>
    refine ⟨-1, μ, μ, ?_, ?_, n, Q, hC0⟩
    · unfold f_X9_eye_0
      simp only [p_isSide, p_isEither, p_hasSister e10 hn, p_hasEye e10 hn, p_hasQuarter e11 hQ6, p_hasWatch e10 hn, p_canTell e10 hn e11 hQ6, m_isSide, m_isPart, m_isSister e622 hn, m_isEye e622 hn, m_isQuarter e623 hQ6, m_isWatch e624 hn, Option.bind_some, b2i_z, Bool.true_eq_false, Bool.false_eq_true, if_false, if_true, Bool.and_true, Bool.true_and, Bool.false_and, Bool.and_false, la0, la3, la9, la13, la21, la30, rd_p, rd_i, rd_s, h1]
    · unfold f_X10_eye_62 f_X10_eye_62_J18
      simp only [p_isSide, p_isEither, p_hasSister e10 hn, p_hasEye e10 hn, p_hasQuarter e11 hQ6, p_hasWatch e10 hn, p_canTell e10 hn e11 hQ6, m_isSide, m_isPart, m_isSister e622 hn, m_isEye e622 hn, m_isQuarter e623 hQ6, m_isWatch e624 hn, Option.bind_some, b2i_z, Bool.true_eq_false, Bool.false_eq_true, if_false, if_true, Bool.and_true, Bool.true_and, Bool.false_and, Bool.and_false, la0, la3, la9, la13, la21, la30, rd_p, rd_i, rd_s, h1]
  | true =>
    cases h2 : inb a1 2 with
    | false =>
      refine ⟨-1, μ, μ, ?_, ?_, n, Q, hC0⟩
      · unfold f_X9_eye_0
        simp only [p_isSide, p_isEither, p_hasSister e10 hn, p_hasEye e10 hn, p_hasQuarter e11 hQ6, p_hasWatch e10 hn, p_canTell e10 hn e11 hQ6, m_isSide, m_isPart, m_isSister e622 hn, m_isEye e622 hn, m_isQuarter e623 hQ6, m_isWatch e624 hn, Option.bind_some, b2i_z, Bool.true_eq_false, Bool.false_eq_true, if_false, if_true, Bool.and_true, Bool.true_and, Bool.false_and, Bool.and_false, la0, la3, la9, la13, la21, la30, rd_p, rd_i, rd_s, h1, h2]
      · unfold f_X10_eye_62 f_X10_eye_62_J18
        simp only [p_isSide, p_isEither, p_hasSister e10 hn, p_hasEye e10 hn, p_hasQuarter e11 hQ6, p_hasWatch e10 hn, p_canTell e10 hn e11 hQ6, m_isSide, m_isPart, m_isSister e622 hn, m_isEye e622 hn, m_isQuarter e623 hQ6, m_isWatch e624 hn, Option.bind_some, b2i_z, Bool.true_eq_false, Bool.false_eq_true, if_false, if_true, Bool.and_true, Bool.true_and, Bool.false_and, Bool.and_false, la0, la3, la9, la13, la21, la30, rd_p, rd_i, rd_s, h1, in_lit (x := a1) (hi := 1) (n := 1) rfl, h2]
    | true =>
    obtain ⟨e, he, rfl⟩ := inb_of h1 (by omega)
    obtain ⟨K, S, hV⟩ := HV.get hC0.1
    obtain ⟨F, T, N, G, W, hPV⟩ := PV.get hn hP
    obtain ⟨ν, l1, l2, l3⟩ := p_look0 hV hPV.1
    have lsm := only4.sm l2
    have hV' := hV.sm lsm
    have hPV' := hPV.sm lsm
    have hC' := hC0.sm lsm
    have hA' := hC'.abs
    by_cases h0 : a1 = 0
    · refine ⟨nI (svE n 3 K S F e), ν, ν, ?_, ?_, n, Q, hC'⟩
      · unfold f_X9_eye_0
        simp only [p_isSide, p_isEither, p_hasSister e10 hn, p_hasEye e10 hn, p_hasQuarter e11 hQ6, p_hasWatch e10 hn, p_canTell e10 hn e11 hQ6, m_isSide, m_isPart, m_isSister e622 hn, m_isEye e622 hn, m_isQuarter e623 hQ6, m_isWatch e624 hn, Option.bind_some, b2i_z, Bool.true_eq_false, Bool.false_eq_true, if_false, if_true, Bool.and_true, Bool.true_and, Bool.false_and, Bool.and_false, la0, la3, la9, la13, la21, la30, rd_p, rd_i, rd_s, h1, h2]
        rw [if_pos h0, l1]
        simp only [Option.bind_some]
        rw [inb_nI (by omega) (by omega), nI_clamp (by omega), l3.2.2.2 e (by omega)]
        rfl
      · unfold f_X10_eye_62
        have g1 := p_isEither
        simp only [p_isSide, p_isEither, p_hasSister hV.2.1 hn, p_hasEye hV.2.1 hn, p_hasQuarter e11 hQ6, p_hasWatch hV.2.1 hn, p_canTell hV.2.1 hn e11 hQ6, m_isSide, m_isPart, m_isSister hV'.2.2.1 hn, m_isEye hV'.2.2.1 hn, m_isQuarter e623 hQ6, Option.bind_some, b2i_z, Bool.true_eq_false, Bool.false_eq_true, if_false, if_true, Bool.and_true, Bool.true_and, Bool.false_and, Bool.and_false, la0, la3, la9, la13, la21, la30, rd_p, rd_i, rd_s, h1, in_lit (x := a1) (hi := 1) (n := 1) rfl, h2]
        rw [if_pos h0, m_seenBy hV' (fun s hs => ⟨(hPV'.1 s (by omega)).1, (hPV'.1 s (by omega)).2.2⟩) he]
        simp only [Option.bind_some]
        unfold svE hr
        rw [decide_eq_true (show e / 2 < n by omega), decide_eq_false (show ¬ e / 2 = 3 by omega)]
        cases glE K e <;> rfl
    · obtain ⟨t1, t2, t3⟩ := hPV.2.1 e (by omega)
      refine ⟨nI (T e), μ, μ, ?_, ?_, n, Q, hC0⟩
      · unfold f_X9_eye_0
        simp only [p_isSide, p_isEither, p_hasSister e10 hn, p_hasEye e10 hn, p_hasQuarter e11 hQ6, p_hasWatch e10 hn, p_canTell e10 hn e11 hQ6, m_isSide, m_isPart, m_isSister e622 hn, m_isEye e622 hn, m_isQuarter e623 hQ6, m_isWatch e624 hn, Option.bind_some, b2i_z, Bool.true_eq_false, Bool.false_eq_true, if_false, if_true, Bool.and_true, Bool.true_and, Bool.false_and, Bool.and_false, la0, la3, la9, la13, la21, la30, rd_p, rd_i, rd_s, h1, h2]
        rw [if_neg h0, inb_nI (by omega) (by omega), nI_clamp (by omega), t2]
        rfl
      · unfold f_X10_eye_62
        simp only [p_isSide, p_isEither, p_hasSister e10 hn, p_hasEye e10 hn, p_hasQuarter e11 hQ6, p_hasWatch e10 hn, p_canTell e10 hn e11 hQ6, m_isSide, m_isPart, m_isSister e622 hn, m_isEye e622 hn, m_isQuarter e623 hQ6, m_isWatch e624 hn, Option.bind_some, b2i_z, Bool.true_eq_false, Bool.false_eq_true, if_false, if_true, Bool.and_true, Bool.true_and, Bool.false_and, Bool.and_false, la0, la3, la9, la13, la21, la30, rd_p, rd_i, rd_s, h1, in_lit (x := a1) (hi := 1) (n := 1) rfl, h2]
        rw [if_neg h0, inb_nI (by omega) (by omega), nI_clamp (by omega), t3]
        rfl

set_option maxRecDepth 100000 in
theorem s_sees (a0 a1 : Int32) : PStp (f_X9_sees_0 a0 a1) (f_X10_sees_62 a0 a1) := by
  intro μ hI0
  obtain ⟨n, Q, hC⟩ := hI0
  have hC0 := hC
  obtain ⟨⟨hn, hQ1, hQ6, e10, e622, e624, e11, e623, hk, hs⟩, hP, hI, hS, hT, hR⟩ := hC
  have h27 := p3 hn
  cases h1 : inb a0 4 with
  | false =>
    refine ⟨-1, μ, μ, ?_, ?_, n, Q, hC0⟩
    · unfold f_X9_sees_0
      simp only [p_isSide, p_isEither, p_hasSister e10 hn, p_hasEye e10 hn, p_hasQuarter e11 hQ6, p_hasWatch e10 hn, p_canTell e10 hn e11 hQ6, m_isSide, m_isPart, m_isSister e622 hn, m_isEye e622 hn, m_isQuarter e623 hQ6, m_isWatch e624 hn, Option.bind_some, b2i_z, Bool.true_eq_false, Bool.false_eq_true, if_false, if_true, Bool.and_true, Bool.true_and, Bool.false_and, Bool.and_false, la0, la3, la9, la13, la21, la30, rd_p, rd_i, rd_s, h1]
    · unfold f_X10_sees_62
      simp only [p_isSide, p_isEither, p_hasSister e10 hn, p_hasEye e10 hn, p_hasQuarter e11 hQ6, p_hasWatch e10 hn, p_canTell e10 hn e11 hQ6, m_isSide, m_isPart, m_isSister e622 hn, m_isEye e622 hn, m_isQuarter e623 hQ6, m_isWatch e624 hn, Option.bind_some, b2i_z, Bool.true_eq_false, Bool.false_eq_true, if_false, if_true, Bool.and_true, Bool.true_and, Bool.false_and, Bool.and_false, la0, la3, la9, la13, la21, la30, rd_p, rd_i, rd_s, h1]
  | true =>
    cases h2 : inb a1 (3 ^ n) with
    | false =>
      refine ⟨-1, μ, μ, ?_, ?_, n, Q, hC0⟩
      · unfold f_X9_sees_0
        simp only [p_isSide, p_isEither, p_hasSister e10 hn, p_hasEye e10 hn, p_hasQuarter e11 hQ6, p_hasWatch e10 hn, p_canTell e10 hn e11 hQ6, m_isSide, m_isPart, m_isSister e622 hn, m_isEye e622 hn, m_isQuarter e623 hQ6, m_isWatch e624 hn, Option.bind_some, b2i_z, Bool.true_eq_false, Bool.false_eq_true, if_false, if_true, Bool.and_true, Bool.true_and, Bool.false_and, Bool.and_false, la0, la3, la9, la13, la21, la30, rd_p, rd_i, rd_s, h1, h2]
      · unfold f_X10_sees_62
        simp only [p_isSide, p_isEither, p_hasSister e10 hn, p_hasEye e10 hn, p_hasQuarter e11 hQ6, p_hasWatch e10 hn, p_canTell e10 hn e11 hQ6, m_isSide, m_isPart, m_isSister e622 hn, m_isEye e622 hn, m_isQuarter e623 hQ6, m_isWatch e624 hn, Option.bind_some, b2i_z, Bool.true_eq_false, Bool.false_eq_true, if_false, if_true, Bool.and_true, Bool.true_and, Bool.false_and, Bool.and_false, la0, la3, la9, la13, la21, la30, rd_p, rd_i, rd_s, h1, h2]
    | true =>
    obtain ⟨d, hd, rfl⟩ := inb_of h1 (by omega)
    obtain ⟨w, hw, rfl⟩ := inb_of h2 (by omega)
    obtain ⟨K, S, hV⟩ := HV.get hC0.1
    obtain ⟨F, T, N, G, W, hPV⟩ := PV.get hn hP
    obtain ⟨ν, l1, l2, l3⟩ := p_look0 hV hPV.1
    have lsm := only4.sm l2
    have hV' := hV.sm lsm
    have hPV' := hPV.sm lsm
    have hC' := hC0.sm lsm
    have hA' := hC'.abs
    have f623 : ν.1 62 3 = nI Q := by rw [lsm 62 3 (Or.inl rfl)]; exact e623
    refine ⟨nI (cn n 3 K S F (shut w) d 6), ν, ν, ?_, ?_, n, Q, hC'⟩
    · unfold f_X9_sees_0
      simp only [p_isSide, p_isEither, p_hasSister e10 hn, p_hasEye e10 hn, p_hasQuarter e11 hQ6, p_hasWatch e10 hn, p_canTell e10 hn e11 hQ6, m_isSide, m_isPart, m_isSister e622 hn, m_isEye e622 hn, m_isQuarter e623 hQ6, m_isWatch e624 hn, Option.bind_some, b2i_z, Bool.true_eq_false, Bool.false_eq_true, if_false, if_true, Bool.and_true, Bool.true_and, Bool.false_and, Bool.and_false, la0, la3, la9, la13, la21, la30, rd_p, rd_i, rd_s, h1, h2]
      rw [l1]
      simp only [Option.bind_some]
      obtain ⟨m, hm, h3⟩ := p_openBy l3 (w := w) (by omega)
      rw [h3]
      simp only [Option.bind_some]
      rw [p_countOf (fun e he => (hV.2.2.2.2.2 e he).1) (fun s hs => (hPV.1 s (by omega)).1) l3 hm hd]
      rfl
    · unfold f_X10_sees_62
      simp only [p_isSide, p_isEither, p_hasSister e10 hn, p_hasEye e10 hn, p_hasQuarter e11 hQ6, p_hasWatch e10 hn, p_canTell e10 hn e11 hQ6, m_isSide, m_isPart, m_isSister hV'.2.2.1 hn, m_isEye hV'.2.2.1 hn, m_isQuarter f623 hQ6, m_isWatch hV'.2.2.2.1 hn, Option.bind_some, b2i_z, Bool.true_eq_false, Bool.false_eq_true, if_false, if_true, Bool.and_true, Bool.true_and, Bool.false_and, Bool.and_false, la0, la3, la9, la13, la21, la30, rd_p, rd_i, rd_s, h1, h2]
      rw [m_shutBy hV'.2.2.1 hn hw]
      simp only [Option.bind_some]
      rw [m_countOf hV' (fun s hs => ⟨(hPV'.1 s (by omega)).1, (hPV'.1 s (by omega)).2.2⟩) hA' hd]
      rfl

set_option maxRecDepth 100000 in
theorem s_lawful (a0 a1 : Int32) : PStp (f_X9_lawful_0 a0 a1) (f_X10_lawful_62 a0 a1) := by
  intro μ hI0
  obtain ⟨n, Q, hC⟩ := hI0
  have hC0 := hC
  obtain ⟨⟨hn, hQ1, hQ6, e10, e622, e624, e11, e623, hk, hs⟩, hP, hI, hS, hT, hR⟩ := hC
  have h27 := p3 hn
  cases h1 : inb a0 Q with
  | false =>
    refine ⟨-1, μ, μ, ?_, ?_, n, Q, hC0⟩
    · unfold f_X9_lawful_0
      simp only [p_isSide, p_isEither, p_hasSister e10 hn, p_hasEye e10 hn, p_hasQuarter e11 hQ6, p_hasWatch e10 hn, p_canTell e10 hn e11 hQ6, m_isSide, m_isPart, m_isSister e622 hn, m_isEye e622 hn, m_isQuarter e623 hQ6, m_isWatch e624 hn, Option.bind_some, b2i_z, Bool.true_eq_false, Bool.false_eq_true, if_false, if_true, Bool.and_true, Bool.true_and, Bool.false_and, Bool.and_false, la0, la3, la9, la13, la21, la30, rd_p, rd_i, rd_s, h1]
    · unfold f_X10_lawful_62
      simp only [p_isSide, p_isEither, p_hasSister e10 hn, p_hasEye e10 hn, p_hasQuarter e11 hQ6, p_hasWatch e10 hn, p_canTell e10 hn e11 hQ6, m_isSide, m_isPart, m_isSister e622 hn, m_isEye e622 hn, m_isQuarter e623 hQ6, m_isWatch e624 hn, Option.bind_some, b2i_z, Bool.true_eq_false, Bool.false_eq_true, if_false, if_true, Bool.and_true, Bool.true_and, Bool.false_and, Bool.and_false, la0, la3, la9, la13, la21, la30, rd_p, rd_i, rd_s, h1]
  | true =>
    cases h2 : inb a1 (3 ^ n) with
    | false =>
      refine ⟨-1, μ, μ, ?_, ?_, n, Q, hC0⟩
      · unfold f_X9_lawful_0
        simp only [p_isSide, p_isEither, p_hasSister e10 hn, p_hasEye e10 hn, p_hasQuarter e11 hQ6, p_hasWatch e10 hn, p_canTell e10 hn e11 hQ6, m_isSide, m_isPart, m_isSister e622 hn, m_isEye e622 hn, m_isQuarter e623 hQ6, m_isWatch e624 hn, Option.bind_some, b2i_z, Bool.true_eq_false, Bool.false_eq_true, if_false, if_true, Bool.and_true, Bool.true_and, Bool.false_and, Bool.and_false, la0, la3, la9, la13, la21, la30, rd_p, rd_i, rd_s, h1, h2]
      · unfold f_X10_lawful_62
        simp only [p_isSide, p_isEither, p_hasSister e10 hn, p_hasEye e10 hn, p_hasQuarter e11 hQ6, p_hasWatch e10 hn, p_canTell e10 hn e11 hQ6, m_isSide, m_isPart, m_isSister e622 hn, m_isEye e622 hn, m_isQuarter e623 hQ6, m_isWatch e624 hn, Option.bind_some, b2i_z, Bool.true_eq_false, Bool.false_eq_true, if_false, if_true, Bool.and_true, Bool.true_and, Bool.false_and, Bool.and_false, la0, la3, la9, la13, la21, la30, rd_p, rd_i, rd_s, h1, h2]
    | true =>
    obtain ⟨Z, hZ, rfl⟩ := inb_of h1 (by omega)
    obtain ⟨w, hw, rfl⟩ := inb_of h2 (by omega)
    obtain ⟨K, S, hV⟩ := HV.get hC0.1
    obtain ⟨F, T, N, G, W, hPV⟩ := PV.get hn hP
    obtain ⟨ν, l1, l2, l3⟩ := p_look0 hV hPV.1
    have lsm := only4.sm l2
    have hV' := hV.sm lsm
    have hPV' := hPV.sm lsm
    have hC' := hC0.sm lsm
    have hA' := hC'.abs
    have f623 : ν.1 62 3 = nI Q := by rw [lsm 62 3 (Or.inl rfl)]; exact e623
    refine ⟨b2i (decide (LKS n 3 K S F N (shut w) (G Z) = 0)), ν, ν, ?_, ?_, n, Q, hC'⟩
    · unfold f_X9_lawful_0
      simp only [p_isSide, p_isEither, p_hasSister e10 hn, p_hasEye e10 hn, p_hasQuarter e11 hQ6, p_hasWatch e10 hn, p_canTell e10 hn e11 hQ6, m_isSide, m_isPart, m_isSister e622 hn, m_isEye e622 hn, m_isQuarter e623 hQ6, m_isWatch e624 hn, Option.bind_some, b2i_z, Bool.true_eq_false, Bool.false_eq_true, if_false, if_true, Bool.and_true, Bool.true_and, Bool.false_and, Bool.and_false, la0, la3, la9, la13, la21, la30, rd_p, rd_i, rd_s, h1, h2]
      rw [l1]
      simp only [Option.bind_some]
      rw [p_isLawful hV' hPV' l3 hw (by omega)]
      simp only [Option.bind_some, b2i_z]
      cases decide (LKS n 3 K S F N (shut w) (G Z) = 0) <;> rfl
    · unfold f_X10_lawful_62
      simp only [p_isSide, p_isEither, p_hasSister e10 hn, p_hasEye e10 hn, p_hasQuarter e11 hQ6, p_hasWatch e10 hn, p_canTell e10 hn e11 hQ6, m_isSide, m_isPart, m_isSister hV'.2.2.1 hn, m_isEye hV'.2.2.1 hn, m_isQuarter f623 hQ6, m_isWatch hV'.2.2.2.1 hn, Option.bind_some, b2i_z, Bool.true_eq_false, Bool.false_eq_true, if_false, if_true, Bool.and_true, Bool.true_and, Bool.false_and, Bool.and_false, la0, la3, la9, la13, la21, la30, rd_p, rd_i, rd_s, h1, h2]
      rw [m_isLawful hV' hPV' hA' hw (by omega)]
      simp only [Option.bind_some]
      rw [m_flag]
      rfl
