theorem for_con {ρ : Type} {body : (Int32 → Mem → Option ρ) → Int32 → Mem → Option ρ} (ix : Nat → Int32) (N : Nat) (P : Nat → Mem → Prop) (C : Mem → Option ρ) (R : Mem → Prop) (hstep : ∀ k i μ, i < N → P i μ → ∃ μ', body k (ix i) μ = k (ix (i + 1)) μ' ∧ P (i + 1) μ') (hexit : ∀ k μ, P N μ → ∃ μ', body k (ix N) μ = C μ' ∧ R μ') : ∀ n i μ, i ≤ N → N < i + n → P i μ → ∃ μ', it2 body n (ix i) μ = C μ' ∧ R μ' := by
  intro n
  induction n with
  | zero =>
    intro i μ h1 h2
    omega
  | succ n ih =>
    intro i μ h1 h2 hP
    show ∃ μ', body (it2 body n) (ix i) μ = C μ' ∧ R μ'
    by_cases hi : i = N
    · subst hi
      exact hexit _ μ hP
    · obtain ⟨μ', h3, h4⟩ := hstep (it2 body n) i μ (by omega) hP
      rw [h3]
      exact ih (i + 1) μ' (by omega) (by omega) h4
theorem for_ex {ρ : Type} {body : (Int32 → Mem → Option ρ) → Int32 → Mem → Option ρ} (ix : Nat → Int32) (N : Nat) (P : Nat → Mem → Prop) (R : ρ → Prop) (hstep : ∀ k i μ, i < N → P i μ → (∃ r, body k (ix i) μ = some r ∧ R r) ∨ (∃ μ', body k (ix i) μ = k (ix (i + 1)) μ' ∧ P (i + 1) μ')) (hexit : ∀ k μ, P N μ → ∃ r, body k (ix N) μ = some r ∧ R r) : ∀ n i μ, i ≤ N → N < i + n → P i μ → ∃ r, it2 body n (ix i) μ = some r ∧ R r := by
  intro n
  induction n with
  | zero =>
    intro i μ h1 h2
    omega
  | succ n ih =>
    intro i μ h1 h2 hP
    show ∃ r, body (it2 body n) (ix i) μ = some r ∧ R r
    by_cases hi : i = N
    · subst hi
      exact hexit _ μ hP
    · rcases hstep (it2 body n) i μ (by omega) hP with h | ⟨μ', h3, h4⟩
      · exact h
      · rw [h3]
        exact ih (i + 1) μ' (by omega) (by omega) h4
theorem only.mono {A B : List Nat} {μ μ' : Mem} (h : only A μ μ') (hAB : ∀ p, p ∈ A → p ∈ B) : only B μ μ' := ⟨fun p k hp => h.1 p k (fun h2 => hp (hAB p h2)), h.2⟩
theorem SightR.fr {n x : Nat} {K S F : Nat → Nat} {A : List Nat} {μ μ' : Mem} (h : only A μ μ') (h1 : 47 ∉ A) (h2 : 48 ∉ A) (hS : SightR n x K S F μ) : SightR n x K S F μ' := by
  unfold SightR
  simp only [h.1 47 _ h1, h.1 48 _ h2]
  exact hS
theorem only49.sm {μ μ' : Mem} (h : only [49, 50] μ μ') : smE μ μ' := h.sm (by decide)
theorem only71.sm {μ μ' : Mem} (h : only [71] μ μ') : smE μ μ' := h.sm (by decide)
def NightP (n : Nat) (K W T : Nat → Nat) (q : Nat) (ν : Mem) : Prop := ν.1 49 1 = nI (mk6 (opn n K (W q) (tq n K W T q))) ∧ ∀ e, e < 6 → ν.1 50 e = nI (tq n K W T q e)
theorem opn_lt {n : Nat} {K t : Nat → Nat} {w e : Nat} (h : opn n K w t e = true) (hn : n ≤ 3) : e < 2 * n := by
  unfold opn at h
  rw [hr3 hn] at h
  simp at h
  omega
theorem p_reach {n Z : Nat} {K S F T N G W : Nat → Nat} {μ : Mem} (hV : HV n K S μ) (hP : PV n F T N G W μ) (hS : SightR n 3 K S F μ) (hZ : Z < 6) : ∃ μ', f_X2_reach_49_1_4_47 (nI Z) μ = some μ' ∧ only [49, 50] μ μ' ∧ NightP n K W T Z μ' := by
  have h27 := p3 hV.1
  have hT := tq_le (n := n) (K := K) (W := W) (T := T) (fun e he => (hP.2.1 e he).1)
  have hc : only [49, 50] μ (cpI μ 6 50 6) := ⟨fun p k hp => rdC_p (fun h => hp (by rw [h]; simp)), rfl⟩
  have c50 : ∀ e, e < 6 → (cpI μ 6 50 6).1 50 e = nI (tq n K W T 0 e) := fun e he => by rw [rdC_in he]; exact (hP.2.1 e he).2.1
  unfold f_X2_reach_49_1_4_47
  obtain ⟨w1, w2, -⟩ := hP.2.2.2.2 0 (by omega)
  obtain ⟨ν, b1, b2, b3⟩ := p_begin (t := tq n K W T 0) (w := W 0) (SightR.fr hc (by simp) (by simp) hS) (by omega) (fun e he => ⟨hT 0 e he, c50 e he⟩)
  rw [w2, bnd b1]
  refine for_rel (fun i => nI (i + 1)) Z (fun i ν => only [49, 50] μ ν ∧ NightP n K W T i ν) _ (fun k i ν hi hQ => ?_) (fun k ν hQ => ?_) FU 0 ν (by omega) (fu_gt (by omega)) ⟨hc.tr (b2.mono (by simp)), b3, fun e he => by rw [b2.1 50 e (by simp)]; exact c50 e he⟩
  · obtain ⟨q1, q2, q3⟩ := hQ
    obtain ⟨ν1, p1, p2, p3'⟩ := p_pass (hV.sm (only49.sm q1)) (fun e he => opn_lt he hV.1) q2 (fun e he => ⟨hT i e he, q3 e he⟩)
    have r1 : only [49, 50] μ ν1 := q1.tr (p2.mono (by simp))
    obtain ⟨w1, w2, -⟩ := (hP.sm (only49.sm r1)).2.2.2.2 (i + 1) (by omega)
    obtain ⟨ν2, b1, b2, b3⟩ := p_begin (t := tq n K W T (i + 1)) (w := W (i + 1)) (SightR.fr r1 (by simp) (by simp) hS) (by omega) (fun e he => ⟨hT (i + 1) e he, p3' e he⟩)
    unfold f_X2_reach_49_1_4_47_L29
    rw [if_neg (show ¬ nI Z < nI (i + 1) by rw [nI_ltI (by omega) (by omega)]; omega), bnd p1, inb_nI (by omega) (by omega), if_neg (show ¬ (true = false) by decide), nI_clamp (by omega), w2, bnd b1, al1]
    exact ⟨_, rfl, r1.tr (b2.mono (by simp)), b3, fun e he => by rw [b2.1 50 e (by simp)]; exact p3' e he⟩
  · unfold f_X2_reach_49_1_4_47_L29
    rw [if_pos (show nI Z < nI (Z + 1) by rw [nI_ltI (by omega) (by omega)]; omega)]
    exact ⟨_, rfl, hQ⟩
/-- the model's shut lids of a quarter -/
def shq (n : Nat) (w : Nat) (t : Nat → Nat) (e : Nat) : Bool := shut w e || (decide (e < 2 * n) && decide (t e = 9))
theorem m_shutNow {n Z w : Nat} {K S t : Nat → Nat} {μ : Mem} (hV : HV n K S μ) (hZ : Z < 6) (hw : w < 3 ^ n) (hW : μ.1 63 (21 + Z) = nI w) (ht : ∀ e, e < 2 * n → t e ≤ 9 ∧ μ.1 71 e = nI (t e)) : f_X10_shutNow_62 (nI Z) μ = some (nI (mk6 (shq n w t)), μ) := by
  obtain ⟨hn, -, e622, -, -, -⟩ := hV
  unfold f_X10_shutNow_62
  rw [la21, inb_nI (by omega) (by omega), if_neg (show ¬ (true = false) by decide), nI_clamp (by omega), hW, bnd (m_shutBy e622 hn hw)]
  have := for_acc3 (body := f_X10_shutNow_62_L16) nI (2 * n) (fun i a ν => ν = μ ∧ a = nI (mk6 fun e => shut w e || (decide (e < i) && decide (t e = 9)))) (fun r => r = (nI (mk6 (shq n w t)), μ)) (fun k i a ν hi hQ => ?_) (fun k a ν hQ => ?_) FU 0 (nI (mk6 (shut w))) μ (by omega) (fu_gt (by omega)) ⟨rfl, congrArg nI (mk6_congr fun e _ => by simp)⟩
  · obtain ⟨r, h1, rfl⟩ := this
    exact h1
  · obtain ⟨rfl, rfl⟩ := hQ
    obtain ⟨t1, t2⟩ := ht i hi
    have h9 : (nI (t i) = 9) ↔ t i = 9 := nI_eq (b := 9) (by omega) (by omega)
    have hJ : ∀ b : Bool, b = decide (t i = 9) → ∃ a' ν', f_X10_shutNow_62_J43 k (nI i) (nI (mk6 fun e => shut w e || (decide (e < i) && decide (t e = 9)))) (b2i b) ν = k a' (nI (i + 1)) ν' ∧ ν' = ν ∧ a' = nI (mk6 fun e => shut w e || (decide (e < i + 1) && decide (t e = 9))) := by
      intro b hb
      unfold f_X10_shutNow_62_J43
      rw [bnd (m_flag b ν)]
      dsimp only
      rw [sh1 i (by omega), mk6_or, al1]
      refine ⟨_, ν, rfl, rfl, congrArg nI (mk6_congr fun e _ => ?_)⟩
      by_cases he : e = i
      · subst he
        rw [hb]
        simp
      · rw [show (decide (e < i)) = decide (e < i + 1) from decide_eq_decide.mpr (by omega)]
        simp [he]
    unfold f_X10_shutNow_62_L16
    rw [e622, lm2, if_neg (nI_ge hi (by omega)), inb_nI (by omega) (by omega), if_neg (show ¬ (true = false) by decide), nI_clamp (by omega), t2]
    by_cases hc : t i = 9
    · rw [if_pos (h9.mpr hc)]
      exact hJ true (decide_eq_true hc).symm
    · rw [if_neg (by rw [h9]; exact hc)]
      exact hJ false (decide_eq_false hc).symm
  · obtain ⟨rfl, rfl⟩ := hQ
    unfold f_X10_shutNow_62_L16
    rw [e622, lm2, if_pos (nI_le (Nat.le_refl _) (by omega))]
    exact ⟨_, rfl, rfl⟩
theorem tn9 : ∀ v, v ≤ 11 → (if nI v ≤ (9 : Int32) then nI v else 9) = nI (min v 9) := by decide +kernel
theorem tn2 : ∀ v, v ≤ 9 → (if nI v ≤ (2 : Int32) then (0 : Int32) else nI v - 2) = nI (v - 2) := by decide +kernel
theorem m_tiredThen {n e : Nat} {K S : Nat → Nat} {μ : Mem} {o : Bool} {t : Nat} (hV : HV n K S μ) (he : e < 2 * n) (ht : t ≤ 9) (h71 : μ.1 71 e = nI t) (hg : glE K e = true → t = 0 ∧ o = false) {a2 : Int32} (ho : glE K e = false → (a2 = 0 ↔ o = true)) : f_X10_tiredThen_62 (nI e) a2 μ = some (nI (tnx K e o t), μ) := by
  have hn := hV.1
  obtain ⟨k4, -, k1⟩ := hV.2.2.2.2.1 (e / 2) (by omega)
  have hk2 : (nI (K (e / 2)) = 2) ↔ K (e / 2) = 2 := nI_eq (b := 2) (by omega) (by omega)
  unfold f_X10_tiredThen_62
  rw [bnd (m_isGlass hV he)]
  dsimp only
  cases hgl : glE K e with
  | true =>
    obtain ⟨rfl, rfl⟩ := hg hgl
    rw [if_neg (by decide)]
    rfl
  | false =>
    rw [if_pos (show b2i false = 0 from rfl)]
    have h0 := ho hgl
    by_cases ha : a2 = 0
    · have ho1 := h0.mp ha
      subst ho1
      have hJ : ∀ c, c ≤ 2 → tnx K e true t = min (t + c) 9 → f_X10_tiredThen_62_J60 (nI t) (nI c) μ = some (nI (tnx K e true t), μ) := by
        intro c hc hm
        unfold f_X10_tiredThen_62_J60
        rw [nI_add, hm, ← tn9 (t + c) (by omega)]
        split <;> rfl
      rw [if_pos ha, inb_nI (by omega) (by omega), if_neg (show ¬ (true = false) by decide), nI_div2 (by omega), inb_nI (by omega) (by omega), if_neg (show ¬ (true = false) by decide), nI_clamp (by omega), nI_clamp (by omega), k1, h71]
      by_cases hK : K (e / 2) = 2
      · rw [if_pos (hk2.mpr hK)]
        exact hJ 2 (by omega) (by unfold tnx; rw [if_pos rfl, if_pos hK])
      · rw [if_neg (by rw [hk2]; exact hK)]
        exact hJ 1 (by omega) (by unfold tnx; rw [if_pos rfl, if_neg hK])
    · have ho1 : o = false := by
        cases o with
        | true => exact absurd (h0.mpr rfl) ha
        | false => rfl
      subst ho1
      rw [if_neg ha, inb_nI (by omega) (by omega), if_neg (show ¬ (true = false) by decide), if_neg (show ¬ (true = false) by decide), nI_clamp (by omega), h71, show tnx K e false t = t - 2 from rfl, ← tn2 t ht]
      split <;> rfl

theorem tq_gl {n : Nat} {K W T : Nat → Nat} {e : Nat} (hg : glE K e = true) (h0 : T e = 0) : ∀ q, tq n K W T q e = 0
  | 0 => h0
  | q + 1 => by
    show tnx K e (opn n K (W q) (tq n K W T q) e) (tq n K W T q e) = 0
    have ho : opn n K (W q) (tq n K W T q) e = false := by
      unfold opn
      rw [hg]
      simp
    rw [ho, tq_gl hg h0 q]
    rfl
def GoP (n : Nat) (K W T : Nat → Nat) (q : Nat) (μ ν : Mem) : Prop := only [71] μ ν ∧ ∀ e, e < 2 * n → ν.1 71 e = nI (tq n K W T q e)
theorem m_goes {n Z : Nat} {K S F T N G W : Nat → Nat} {μ : Mem} (hV : HV n K S μ) (hP : PV n F T N G W μ) (hG : ∀ e, e < 2 * n → glE K e = true → T e = 0) (hZ : Z ≤ 6) : ∃ μ', f_X10_goes_62 (nI Z) μ = some μ' ∧ GoP n K W T Z μ μ' := by
  have hn := hV.1
  have hT := tq_le (n := n) (K := K) (W := W) (T := T) (fun e he => (hP.2.1 e he).1)
  unfold f_X10_goes_62
  refine for_rel nI 6 (fun i ν => only [71] μ ν ∧ ∀ e, e < i → ν.1 71 e = nI (T e)) _ (fun k i ν hi hQ => ?_) (fun k ν hQ => ?_) FU 0 μ (by omega) (fu_gt (by omega)) ⟨only.rf, fun e he => by omega⟩
  · obtain ⟨q1, q2⟩ := hQ
    unfold f_X10_goes_62_L2
    rw [if_neg (show ¬ (6 : Int32) ≤ nI i from nI_ge (b := 6) hi (by omega)), la3, inb_nI (by omega) (by omega), inb_nI (by omega) (by omega), nI_clamp (by omega), nI_clamp (by omega), q1.1 63 _ (by simp), (hP.2.1 i hi).2.2, al1]
    refine ⟨_, rfl, q1.pI (by simp), fun e he => ?_⟩
    by_cases hc : e = i
    · subst hc
      exact rd_s
    · rw [rd_i hc]
      exact q2 e (by omega)
  · obtain ⟨q1, q2⟩ := hQ
    unfold f_X10_goes_62_L2
    rw [if_pos (show (6 : Int32) ≤ nI 6 from by decide)]
    refine for_rel nI Z (fun i ν => GoP n K W T i μ ν) _ (fun k i ν hi hQ => ?_) (fun k ν hQ => ?_) FU 0 ν (by omega) (fu_gt (by omega)) ⟨q1, fun e he => q2 e (by omega)⟩
    · obtain ⟨g1, g2⟩ := hQ
      have hV' := hV.sm (only71.sm g1)
      have hP' := hP.sm (only71.sm g1)
      obtain ⟨w1, -, w2⟩ := hP'.2.2.2.2 i (by omega)
      unfold f_X10_goes_62_L30
      rw [if_neg (nI_ge hi (by omega)), bnd (m_shutNow hV' (by omega) w1 w2 (fun e he => ⟨hT i e (by omega), g2 e he⟩))]
      refine for_con nI (2 * n) (fun j ξ => only [71] μ ξ ∧ ∀ e, e < 2 * n → ξ.1 71 e = if e < j then nI (tq n K W T (i + 1) e) else nI (tq n K W T i e)) (fun ξ => k (nI (i + 1)) ξ) _ (fun k2 j ξ hj hR => ?_) (fun k2 ξ hR => ?_) FU 0 ν (by omega) (fu_gt (by omega)) ⟨g1, fun e he => by rw [if_neg (by omega)]; exact g2 e he⟩
      · obtain ⟨r1, r2⟩ := hR
        have hVx := hV.sm (only71.sm r1)
        have hj71 := r2 j hj
        rw [if_neg (by omega)] at hj71
        have hsh : ∀ a2 : Int32, (a2 = 0 ↔ shq n (W i) (tq n K W T i) j = false) → ∃ μ', f_X10_goes_62_J79 k k2 (nI Z) (nI i) (nI (mk6 (shq n (W i) (tq n K W T i)))) (nI j) (nI j) (nI j) a2 ξ = k2 (nI (j + 1)) μ' ∧ only [71] μ μ' ∧ ∀ e, e < 2 * n → μ'.1 71 e = if e < j + 1 then nI (tq n K W T (i + 1) e) else nI (tq n K W T i e) := by
          intro a2 ha
          unfold f_X10_goes_62_J79
          have hop : opn n K (W i) (tq n K W T i) j = (!glE K j && !shq n (W i) (tq n K W T i) j) := by
            unfold opn shq
            rw [hr3 hn, decide_eq_true (show j / 2 < n by omega), decide_eq_true hj]
            cases glE K j <;> cases shut (W i) j <;> cases decide (tq n K W T i j = 9) <;> rfl
          rw [bnd (m_tiredThen (o := opn n K (W i) (tq n K W T i) j) hVx hj (hT i j (by omega)) hj71 (fun hg => ⟨tq_gl hg (hG j hj hg) i, by rw [hop, hg]; rfl⟩) (fun hg => by rw [ha, hop, hg]; cases shq n (W i) (tq n K W T i) j <;> simp)), inb_nI (by omega) (by omega), if_neg (show ¬ (true = false) by decide), nI_clamp (by omega), al1]
          refine ⟨_, rfl, r1.pI (by simp), fun e he => ?_⟩
          by_cases hc : e = j
          · subst hc
            rw [rd_s, if_pos (by omega)]
            rfl
          · rw [rd_i hc, r2 e he]
            by_cases h2 : e < j
            · rw [if_pos h2, if_pos (by omega)]
            · rw [if_neg h2, if_neg (by omega)]
        unfold f_X10_goes_62_L44
        dsimp only
        rw [hVx.2.2.1, lm2, if_neg (nI_ge hj (by omega)), mk6_bit _ j (by omega)]
        cases hs : shq n (W i) (tq n K W T i) j with
        | true =>
          rw [if_pos (show b2i true = 1 from rfl)]
          exact hsh 1 (by rw [hs]; decide)
        | false =>
          rw [if_neg (by decide)]
          exact hsh 0 (by rw [hs]; decide)
      · obtain ⟨r1, r2⟩ := hR
        have hVx := hV.sm (only71.sm r1)
        unfold f_X10_goes_62_L44
        dsimp only
        rw [hVx.2.2.1, lm2, if_pos (nI_le (Nat.le_refl _) (by omega)), al1]
        exact ⟨_, rfl, r1, fun e he => by rw [r2 e he, if_pos he]⟩
    · unfold f_X10_goes_62_L30
      rw [if_pos (nI_le (Nat.le_refl _) (by omega))]
      exact ⟨_, rfl, hQ⟩
theorem glT {n Q : Nat} {K S F T N G W : Nat → Nat} {μ : Mem} (hV : HV n K S μ) (hPV : PV n F T N G W μ) (hP : PostR n Q μ 4 0) : ∀ e, e < 2 * n → glE K e = true → T e = 0 := by
  intro e he hg
  have hn := hV.1
  obtain ⟨t, t10, t1, -, t3⟩ := hP.2.1 e (by omega)
  have t1 : μ.1 6 e = nI t := t1
  obtain ⟨s10, s1, -⟩ := hPV.2.1 e (by omega)
  rw [s1] at t1
  have := (nI_eq (by omega) (by omega)).mp t1
  obtain ⟨k4, k1, -⟩ := hV.2.2.2.2.1 (e / 2) (by omega)
  unfold glE at hg
  simp at hg
  rw [this]
  exact t3 hg.1 (by omega) (by rw [k1, hg.2]; rfl)
