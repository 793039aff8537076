def rsF (W : Nat → Nat) (e : Nat) : Nat → Nat
  | 0 => 0
  | i + 1 => rsF W e i + (shut (W i) e).toNat
theorem b2i_nI (b : Bool) : b2i b = nI b.toNat := by cases b <;> rfl

set_option maxRecDepth 100000 in
theorem s_rest (a0 : Int32) : PStp (f_X9_rest_0 a0) (f_X10_rest_62 a0) := by
  intro μ hI0
  obtain ⟨n, Q, hC⟩ := hI0
  have hC0 := hC
  obtain ⟨⟨hn, hQ1, hQ6, e10, e622, e624, e11, e623, hk, hs⟩, hP, hI, hS, hT, hR⟩ := hC
  have h27 := p3 hn
  cases h1 : inb a0 (2 * n) with
  | false =>
    refine ⟨-1, μ, μ, ?_, ?_, n, Q, hC0⟩
    · unfold f_X9_rest_0
      simp only [p_isSide, p_isEither, p_hasSister e10 hn, p_hasEye e10 hn, p_hasQuarter e11 hQ6, p_hasWatch e10 hn, p_canTell e10 hn e11 hQ6, m_isSide, m_isPart, m_isSister e622 hn, m_isEye e622 hn, m_isQuarter e623 hQ6, m_isWatch e624 hn, Option.bind_some, b2i_z, Bool.true_eq_false, Bool.false_eq_true, if_false, if_true, Bool.and_true, Bool.true_and, Bool.false_and, Bool.and_false, la0, la3, la9, la13, la21, la30, rd_p, rd_i, rd_s, h1]
    · unfold f_X10_rest_62
      simp only [p_isSide, p_isEither, p_hasSister e10 hn, p_hasEye e10 hn, p_hasQuarter e11 hQ6, p_hasWatch e10 hn, p_canTell e10 hn e11 hQ6, m_isSide, m_isPart, m_isSister e622 hn, m_isEye e622 hn, m_isQuarter e623 hQ6, m_isWatch e624 hn, Option.bind_some, b2i_z, Bool.true_eq_false, Bool.false_eq_true, if_false, if_true, Bool.and_true, Bool.true_and, Bool.false_and, Bool.and_false, la0, la3, la9, la13, la21, la30, rd_p, rd_i, rd_s, h1]
  | true =>
    obtain ⟨e, he, rfl⟩ := inb_of h1 (by omega)
    obtain ⟨K, S, hV⟩ := HV.get hC0.1
    obtain ⟨F, T, N, G, W, hPV⟩ := PV.get hn hP
    refine ⟨nI (rsF W e Q), μ, μ, ?_, ?_, n, Q, hC0⟩
    · unfold f_X9_rest_0
      simp only [p_isSide, p_isEither, p_hasSister e10 hn, p_hasEye e10 hn, p_hasQuarter e11 hQ6, p_hasWatch e10 hn, p_canTell e10 hn e11 hQ6, m_isSide, m_isPart, m_isSister e622 hn, m_isEye e622 hn, m_isQuarter e623 hQ6, m_isWatch e624 hn, Option.bind_some, b2i_z, Bool.true_eq_false, Bool.false_eq_true, if_false, if_true, Bool.and_true, Bool.true_and, Bool.false_and, Bool.and_false, la0, la3, la9, la13, la21, la30, rd_p, rd_i, rd_s, h1]
      refine for_acc nI Q (fun i => nI (rsF W e i)) _ (fun k i hi => ?_) (fun k => ?_) FU 0 (by omega) (fu_gt (by omega))
      · obtain ⟨w1, w2, -⟩ := hPV.2.2.2.2 i (by omega)
        unfold f_X9_rest_0_L17
        rw [e11, if_neg (nI_ge hi (by omega)), inb_nI (by omega) (by omega), if_neg (show ¬ (true = false) by decide), nI_clamp (by omega), w2, inb_nI (by omega) (by omega), if_neg (show ¬ (true = false) by decide), nI_clamp (by omega), shu_T _ (by omega), mk6_bit _ e (by omega), b2i_nI, nI_add, al1]
        rfl
      · unfold f_X9_rest_0_L17
        rw [e11, if_pos (nI_le (Nat.le_refl _) (by omega))]
    · unfold f_X10_rest_62
      simp only [p_isSide, p_isEither, p_hasSister e10 hn, p_hasEye e10 hn, p_hasQuarter e11 hQ6, p_hasWatch e10 hn, p_canTell e10 hn e11 hQ6, m_isSide, m_isPart, m_isSister e622 hn, m_isEye e622 hn, m_isQuarter e623 hQ6, m_isWatch e624 hn, Option.bind_some, b2i_z, Bool.true_eq_false, Bool.false_eq_true, if_false, if_true, Bool.and_true, Bool.true_and, Bool.false_and, Bool.and_false, la0, la3, la9, la13, la21, la30, rd_p, rd_i, rd_s, h1]
      have := for_acc3 (body := f_X10_rest_62_L14 (nI e)) nI Q (fun i a ν => ν = μ ∧ a = nI (rsF W e i)) (fun r => r = (nI (rsF W e Q), μ)) (fun k i a ν hi hQ => ?_) (fun k a ν hQ => ?_) FU 0 0 μ (by omega) (fu_gt (by omega)) ⟨rfl, rfl⟩
      · obtain ⟨r, h1, rfl⟩ := this
        exact h1
      · obtain ⟨rfl, rfl⟩ := hQ
        obtain ⟨w1, -, w2⟩ := hPV.2.2.2.2 i (by omega)
        unfold f_X10_rest_62_L14
        rw [e623, if_neg (nI_ge hi (by omega)), la21, inb_nI (by omega) (by omega), if_neg (show ¬ (true = false) by decide), nI_clamp (by omega), w2, bnd (m_shutBy e622 hn w1)]
        dsimp only
        rw [mk6_bit _ e (by omega), b2i_nI, nI_add, al1]
        exact ⟨_, ν, rfl, rfl, rfl⟩
      · obtain ⟨rfl, rfl⟩ := hQ
        unfold f_X10_rest_62_L14
        rw [e623, if_pos (nI_le (Nat.le_refl _) (by omega))]
        exact ⟨_, rfl, rfl⟩

/-- one pass of a quarter over a lid: o = open -/
def tnx (K : Nat → Nat) (e : Nat) (o : Bool) (t : Nat) : Nat := if o = true then min (t + (if K (e / 2) = 2 then 2 else 1)) 9 else t - 2
def opn (n : Nat) (K : Nat → Nat) (w : Nat) (t : Nat → Nat) (e : Nat) : Bool := hr n 3 (e / 2) && !glE K e && !shut w e && !decide (t e = 9)
def tq (n : Nat) (K W T : Nat → Nat) : Nat → Nat → Nat
  | 0, e => T e
  | q + 1, e => tnx K e (opn n K (W q) (tq n K W T q) e) (tq n K W T q e)
theorem tnx_le {K : Nat → Nat} {e t : Nat} {o : Bool} (h : t ≤ 9) : tnx K e o t ≤ 9 := by
  unfold tnx
  split <;> omega
theorem tq_le {n : Nat} {K W T : Nat → Nat} (hT : ∀ e, e < 6 → T e < 10) : ∀ q e, e < 6 → tq n K W T q e ≤ 9
  | 0, e, he => by have := hT e he; show T e ≤ 9; omega
  | q + 1, e, he => tnx_le (tq_le hT q e he)
theorem p_begin {n w : Nat} {K S F t : Nat → Nat} {μ : Mem} (hS : SightR n 3 K S F μ) (hw : w < 27) (ht : ∀ e, e < 6 → t e ≤ 9 ∧ μ.1 50 e = nI (t e)) : ∃ μ', f_X2_beginQuarter_49_47 (nI w) μ = some μ' ∧ only [49] μ μ' ∧ μ'.1 49 1 = nI (mk6 (opn n K w t)) := by
  obtain ⟨m, hm, h1⟩ := p_openBy hS hw
  unfold f_X2_beginQuarter_49_47
  rw [bnd h1]
  refine for_rel nI 6 (fun i ν => only [49] μ ν ∧ ν.1 49 1 = nI (mk6 fun e => m e && !(decide (e < i) && decide (t e = 9)))) _ (fun k i ν hi hP => ?_) (fun k ν hP => ?_) FU 0 _ (by omega) (fu_gt (by omega)) ⟨only.rf.pI (by simp), ?_⟩
  · obtain ⟨q1, q2⟩ := hP
    obtain ⟨t1, t2⟩ := ht i hi
    unfold f_X2_beginQuarter_49_47_L11
    rw [if_neg (show ¬ (6 : Int32) ≤ nI i from nI_ge (b := 6) hi (by omega)), inb_nI (by omega) (by omega), if_neg (show ¬ (true = false) by decide), nI_clamp (by omega), q1.1 50 i (by simp), t2]
    have hlt : (nI (t i) < (9 : Int32)) ↔ t i < 9 := by
      rw [show (9 : Int32) = nI 9 from rfl]
      exact nI_ltI (by omega) (by omega)
    unfold f_X2_beginQuarter_49_47_J42
    rw [al1]
    by_cases hc : t i < 9
    · rw [if_pos (hlt.mpr hc)]
      refine ⟨_, rfl, q1, ?_⟩
      rw [q2]
      refine congrArg nI (mk6_congr fun e _ => ?_)
      by_cases he : e = i
      · subst he
        rw [decide_eq_false (show ¬ t e = 9 by omega)]
        simp
      · rw [show (decide (e < i)) = decide (e < i + 1) from decide_eq_decide.mpr (by omega)]
    · rw [if_neg (by rw [hlt]; exact hc)]
      refine ⟨_, rfl, q1.pI (by simp), ?_⟩
      rw [rd_s, q2, sh1' i hi, mk6_andn]
      refine congrArg nI (mk6_congr fun e _ => ?_)
      by_cases he : e = i
      · subst he
        rw [decide_eq_true (show t e = 9 by omega)]
        simp
      · rw [show (decide (e < i)) = decide (e < i + 1) from decide_eq_decide.mpr (by omega)]
        simp [he]
  · obtain ⟨q1, q2⟩ := hP
    unfold f_X2_beginQuarter_49_47_L11
    rw [if_pos (show (6 : Int32) ≤ nI 6 from by decide)]
    refine ⟨_, rfl, q1, ?_⟩
    rw [q2]
    refine congrArg nI (mk6_congr fun e he => ?_)
    rw [hm e he, decide_eq_true he]
    rfl
  · rw [rd_s]
    exact congrArg nI (mk6_congr fun e _ => by simp)
theorem p_pass {n : Nat} {K S t : Nat → Nat} {μ : Mem} {o : Nat → Bool} (hV : HV n K S μ) (ho : ∀ e, o e = true → e < 2 * n) (h49 : μ.1 49 1 = nI (mk6 o)) (ht : ∀ e, e < 6 → t e ≤ 9 ∧ μ.1 50 e = nI (t e)) : ∃ μ', f_X2_pass_49_1 μ = some μ' ∧ only [50] μ μ' ∧ ∀ e, e < 6 → μ'.1 50 e = nI (tnx K e (o e) (t e)) := by
  obtain ⟨hn, -, -, -, hk, -⟩ := hV
  unfold f_X2_pass_49_1
  refine for_rel nI 6 (fun i ν => only [50] μ ν ∧ (∀ e, e < 6 → ν.1 50 e = if e < i then nI (tnx K e (o e) (t e)) else nI (t e))) _ (fun k i ν hi hP => ?_) (fun k ν hP => ?_) FU 0 _ (by omega) (fu_gt (by omega)) ⟨only.rf, fun e he => by rw [if_neg (by omega)]; exact (ht e he).2⟩
  · obtain ⟨q1, q2⟩ := hP
    obtain ⟨t1, -⟩ := ht i hi
    have q3 := q2 i hi
    rw [if_neg (by omega)] at q3
    have hfin : ∀ v, v = nI (tnx K i (o i) (t i)) → only [50] μ (pI ν 50 i v) ∧ (∀ e, e < 6 → (pI ν 50 i v).1 50 e = if e < i + 1 then nI (tnx K e (o e) (t e)) else nI (t e)) := by
      intro v hv
      subst hv
      refine ⟨q1.pI (by simp), fun e he => ?_⟩
      by_cases hc : e = i
      · subst hc
        rw [rd_s, if_pos (by omega)]
      · rw [rd_i hc, q2 e he]
        by_cases h2 : e < i
        · rw [if_pos h2, if_pos (by omega)]
        · rw [if_neg h2, if_neg (by omega)]
    have hmin : ∀ x, x ≤ 11 → (if nI x < (9 : Int32) then nI x else 9) = nI (min x 9) := by decide +kernel
    have hmax : ∀ x, x ≤ 9 → (if (0 : Int32) < nI x - 2 then nI x - 2 else 0) = nI (x - 2) := by decide +kernel
    unfold f_X2_pass_49_1_L2
    rw [if_neg (show ¬ (6 : Int32) ≤ nI i from nI_ge (b := 6) hi (by omega)), q1.1 49 1 (by simp), h49, mk6_bit o i hi]
    cases ho2 : o i with
    | true =>
      have hin := ho i ho2
      obtain ⟨k4, k1, -⟩ := hk (i / 2) (by omega)
      have hk2 : (nI (K (i / 2)) = 2) ↔ K (i / 2) = 2 := nI_eq (b := 2) (by omega) (by omega)
      rw [if_pos (show b2i true = 1 from rfl), nI_div2 (by omega), inb_nI (by omega) (by omega), if_neg (show ¬ (true = false) by decide), nI_clamp (by omega), q1.1 2 _ (by simp), k1]
      rw [ho2] at hfin
      have hJ : ∀ c, c ≤ 2 → tnx K i true (t i) = min (t i + c) 9 → ∃ μ', f_X2_pass_49_1_J37 k (nI i) (nI c) ν = k (nI (i + 1)) μ' ∧ only [50] μ μ' ∧ (∀ e, e < 6 → μ'.1 50 e = if e < i + 1 then nI (tnx K e (o e) (t e)) else nI (t e)) := by
        intro c hc he
        unfold f_X2_pass_49_1_J37
        rw [inb_nI (by omega) (by omega), if_neg (show ¬ (true = false) by decide), if_neg (show ¬ (true = false) by decide), nI_clamp (by omega), q3, nI_add, hmin _ (by omega)]
        unfold f_X2_pass_49_1_J78
        rw [al1]
        exact ⟨_, rfl, hfin _ (by rw [he])⟩
      by_cases hK : K (i / 2) = 2
      · rw [if_pos (hk2.mpr hK)]
        exact hJ 2 (by omega) (by unfold tnx; rw [if_pos rfl, if_pos hK])
      · rw [if_neg (by rw [hk2]; exact hK)]
        exact hJ 1 (by omega) (by unfold tnx; rw [if_pos rfl, if_neg hK])
    | false =>
      rw [ho2] at hfin
      rw [if_neg (by decide), inb_nI (by omega) (by omega), if_neg (show ¬ (true = false) by decide), if_neg (show ¬ (true = false) by decide), nI_clamp (by omega), q3, hmax _ t1]
      unfold f_X2_pass_49_1_J78
      rw [al1]
      exact ⟨_, rfl, hfin _ rfl⟩
  · obtain ⟨q1, q2⟩ := hP
    unfold f_X2_pass_49_1_L2
    rw [if_pos (show (6 : Int32) ≤ nI 6 from by decide)]
    exact ⟨_, rfl, q1, fun e he => by rw [q2 e he, if_pos he]⟩
