/-- the house as numbers -/
def HV (n : Nat) (K S : Nat → Nat) (μ : Mem) : Prop := n ≤ 3 ∧ μ.1 1 0 = nI n ∧ μ.1 62 2 = nI n ∧ μ.1 62 4 = nI (3 ^ n) ∧ (∀ s, s < n → K s < 4 ∧ μ.1 2 s = nI (K s) ∧ μ.1 65 s = nI (K s)) ∧ (∀ e, e < 2 * n → S e < 16 ∧ μ.1 3 e = nI (S e) ∧ μ.1 66 e = if e % 2 = 0 ∧ K (e / 2) = 1 then 0 else nI (S e))
theorem HV.get {n Q : Nat} {μ : Mem} (h : HouseR n Q μ) : ∃ K S, HV n K S μ := by
  obtain ⟨hn, -, -, e10, e622, e624, -, -, hk, hs⟩ := h
  refine ⟨fun s => (μ.1 2 s).toNatClampNeg, fun e => (μ.1 3 e).toNatClampNeg, hn, e10, e622, e624, fun s hs' => ?_, fun e he => ?_⟩
  · obtain ⟨k, k4, k1, k2⟩ := hk s hs'
    dsimp only
    rw [k1, nI_clamp (by omega)]
    exact ⟨k4, rfl, k2⟩
  · obtain ⟨b, b16, b1, b2⟩ := hs e he
    obtain ⟨k, k4, k1, k2⟩ := hk (e / 2) (by omega)
    dsimp only
    rw [b1, nI_clamp (by omega), b2]
    refine ⟨b16, rfl, ?_⟩
    have hk1 : (μ.1 2 (e / 2) = 1) ↔ (μ.1 2 (e / 2)).toNatClampNeg = 1 := by
      rw [k1, nI_clamp (by omega)]
      exact nI_eq (b := 1) (by omega) (by omega)
    by_cases hc : e % 2 = 0 ∧ μ.1 2 (e / 2) = 1
    · rw [if_pos hc, if_pos ⟨hc.1, hk1.mp hc.2⟩]
    · rw [if_neg hc, if_neg (fun h => hc ⟨h.1, hk1.mpr h.2⟩)]
theorem HV.sm {n : Nat} {K S : Nat → Nat} {μ μ' : Mem} (hs : smE μ μ') (h : HV n K S μ) : HV n K S μ' := by
  have c : ∀ p k, p = 1 ∨ p = 2 ∨ p = 3 ∨ p = 65 ∨ p = 66 → μ'.1 p k = μ.1 p k := by
    intro p k hp
    refine hs _ _ (Or.inl ?_)
    rcases hp with rfl | rfl | rfl | rfl | rfl <;> rfl
  have c2 : ∀ k, μ'.1 2 k = μ.1 2 k := fun k => c 2 k (by omega)
  have c3 : ∀ k, μ'.1 3 k = μ.1 3 k := fun k => c 3 k (by omega)
  have c4 : ∀ k, μ'.1 65 k = μ.1 65 k := fun k => c 65 k (by omega)
  have c5 : ∀ k, μ'.1 66 k = μ.1 66 k := fun k => c 66 k (by omega)
  unfold HV
  rw [c 1 0 (by omega), hs 62 2 (Or.inl rfl), hs 62 4 (Or.inl rfl)]
  simp only [c2, c3, c4, c5]
  exact h
/-- the side b turned by f -/
def tnE (x y : Int32) : Int32 := ((x <<< (y &&& 31)) ||| (x >>> (((4 : Int32) - y) &&& 31))) &&& 15
def tn (b f : Nat) : Nat := (tnE (nI b) (nI f)).toNatClampNeg
theorem tn_eq : ∀ b, b < 16 → ∀ f, f < 4 → tnE (nI b) (nI f) = nI (tn b f) ∧ tn b f < 16 := by decide +kernel
theorem tn_0 : ∀ f, f < 4 → tnE 0 (nI f) = 0 := by decide +kernel
theorem p_turned (x y : Int32) (μ : Mem) : f_X7_turned x y μ = some (tnE x y, μ) := rfl
/-- sister s is counted: x is the one left out -/
def hr (n x s : Nat) : Bool := decide (s < n) && !decide (s = x)
def glE (K : Nat → Nat) (e : Nat) : Bool := decide (e % 2 = 0) && decide (K (e / 2) = 1)
def drE (K : Nat → Nat) (e : Nat) : Bool := decide (K (e / 2) = 3)
def svE (n x : Nat) (K S F : Nat → Nat) (e : Nat) : Nat := if hr n x (e / 2) = true ∧ glE K e = false then tn (S e) (F (e / 2)) else 0
def SightR (n x : Nat) (K S F : Nat → Nat) (μ : Mem) : Prop := μ.1 47 1 = nI (mk6 fun e => hr n x (e / 2)) ∧ μ.1 47 2 = nI (mk6 fun e => hr n x (e / 2) && glE K e) ∧ μ.1 47 3 = nI (mk6 fun e => hr n x (e / 2) && drE K e) ∧ ∀ e, e < 6 → μ.1 48 e = nI (svE n x K S F e)
def only (A : List Nat) (μ μ' : Mem) : Prop := (∀ p k, p ∉ A → μ'.1 p k = μ.1 p k) ∧ μ'.2 = μ.2
theorem only.rf {A : List Nat} {μ : Mem} : only A μ μ := ⟨fun _ _ _ => rfl, rfl⟩
theorem only.tr {A : List Nat} {a b c : Mem} (h : only A a b) (k : only A b c) : only A a c := ⟨fun p q hp => (k.1 p q hp).trans (h.1 p q hp), k.2.trans h.2⟩
theorem only.pI {A : List Nat} {μ μ' : Mem} {p k : Nat} {v : Int32} (h : only A μ μ') (hp : p ∈ A) : only A μ (pI μ' p k v) := by
  refine ⟨fun q j hq => ?_, h.2⟩
  rw [rd_p (show q ≠ p from fun e => hq (by rw [e]; exact hp))]
  exact h.1 q j hq
theorem only.sm {A : List Nat} {μ μ' : Mem} (h : only A μ μ') (hA : ∀ p, p ∈ A → p ≠ 62 ∧ p ≠ 0 ∧ p ≠ 35 ∧ ¬ p < 37 ∧ p ≠ 63 ∧ p ≠ 64 ∧ p ≠ 65 ∧ p ≠ 66 ∧ p ≠ 70 ∧ p ≠ 76 ∧ p ≠ 77 ∧ p ≠ 78) : smE μ μ' := by
  intro p k hc
  refine h.1 p k (fun hp => ?_)
  obtain ⟨g1, g2, g3, g4, g5, g6, g7, g8, g9, g10, g11, g12⟩ := hA p hp
  rcases hc with hc | hc
  · unfold coreB at hc
    rw [if_neg g2, if_neg g3, if_neg g4, if_neg g1] at hc
    simp [g5, g6, g7, g8, g9, g10, g11, g12] at hc
  · exact g1 hc.1
def eyM (n x i e : Nat) : Bool := decide (e / 2 < i) && hr n x (e / 2)
def LookP (n x : Nat) (K S F : Nat → Nat) (μ : Mem) (i : Nat) (ν : Mem) : Prop := only [47, 48] μ ν ∧ ν.1 47 1 = nI (mk6 fun e => eyM n x i e) ∧ ν.1 47 2 = nI (mk6 fun e => eyM n x i e && glE K e) ∧ ν.1 47 3 = nI (mk6 fun e => eyM n x i e && drE K e) ∧ ∀ e, e < 2 * i → ν.1 48 e = nI (svE n x K S F e)
theorem LK1 {n x i : Nat} (hh : hr n x i = false) (e : Nat) : eyM n x i e = eyM n x (i + 1) e := by
  unfold eyM
  by_cases h : e / 2 = i
  · rw [h, hh]; simp
  · rw [show (decide (e / 2 < i)) = decide (e / 2 < i + 1) from decide_eq_decide.mpr (by omega)]
theorem LK2 {n x i : Nat} (hh : hr n x i = true) (e : Nat) : (eyM n x i e || decide (e / 2 = i)) = eyM n x (i + 1) e := by
  unfold eyM
  by_cases h : e / 2 = i
  · rw [h, hh]; simp
  · rw [show (decide (e / 2 < i)) = decide (e / 2 < i + 1) from decide_eq_decide.mpr (by omega)]; simp [h]
theorem LK3 {n x i : Nat} {K : Nat → Nat} (hh : hr n x i = true) (hK : K i = 1) (e : Nat) : (eyM n x i e && glE K e || decide (e = 2 * i)) = (eyM n x (i + 1) e && glE K e) := by
  by_cases h : e / 2 = i
  · unfold eyM glE
    rw [h, hh, hK]
    by_cases h2 : e % 2 = 0
    · have : e = 2 * i := by omega
      simp [this]
    · have : ¬ e = 2 * i := by omega
      simp [h2, this]
  · have h2 : ¬ e = 2 * i := by omega
    rw [← LK2 hh e]
    simp [h, h2]
theorem LK4 {n x i : Nat} {K : Nat → Nat} (hh : hr n x i = true) (hK : ¬ K i = 3) (e : Nat) : (eyM n x i e && drE K e || false) = (eyM n x (i + 1) e && drE K e) := by
  rw [← LK2 hh e]
  by_cases h : e / 2 = i
  · unfold drE
    rw [h]
    simp [hK]
  · simp [h]
theorem LK5 {n x i : Nat} {K : Nat → Nat} (hK : ¬ K i = 1) (e : Nat) : (eyM n x i e && glE K e) = (eyM n x (i + 1) e && glE K e) := by
  by_cases h : e / 2 = i
  · unfold glE
    rw [h]
    simp [hK]
  · unfold eyM
    rw [show (decide (e / 2 < i)) = decide (e / 2 < i + 1) from decide_eq_decide.mpr (by omega)]
theorem LK6 {n x i : Nat} {K : Nat → Nat} (hh : hr n x i = true) (hK : K i = 3) (e : Nat) : (eyM n x i e && drE K e || decide (e / 2 = i)) = (eyM n x (i + 1) e && drE K e) := by
  rw [← LK2 hh e]
  by_cases h : e / 2 = i
  · unfold drE
    rw [h]
    simp [hK]
  · simp [h]
theorem LK7 {n x e : Nat} (hn : n ≤ 3) (he : e < 6) : eyM n x 3 e = hr n x (e / 2) := by
  unfold eyM
  rw [decide_eq_true (show e / 2 < 3 by omega)]
  rfl
set_option maxRecDepth 100000 in
theorem p_look_5 {n x : Nat} {K S F : Nat → Nat} {μ : Mem} {a3 : Int32} (hm : ∀ s, s < 3 → (a3 >>> (nI s &&& 31)) &&& 1 = b2i (hr n x s)) (h : HV n K S μ) (hF : ∀ s, s < n → F s < 4 ∧ μ.1 5 s = nI (F s)) : ∃ μ', f_X7_look_47_1_5 a3 μ = some μ' ∧ only [47, 48] μ μ' ∧ SightR n x K S F μ' := by
  obtain ⟨hn, e10, -, -, hk, hs⟩ := h
  have := for_rel (body := f_X7_look_47_1_5_L18 a3) nI 3 (LookP n x K S F μ) (fun μ' => only [47, 48] μ μ' ∧ SightR n x K S F μ') (fun k i ν hi hP => ?_) (fun k ν hP => ?_) FU 0 (pI (pI (pI μ 47 1 0) 47 2 0) 47 3 0) (by omega) (fu_gt (by omega)) ?_
  · obtain ⟨μ', h1, h2⟩ := this
    exact ⟨μ', h1, h2⟩
  · obtain ⟨w0, w1, w2, w3, w4⟩ := hP
    unfold f_X7_look_47_1_5_L18
    rw [if_neg (show ¬ (3 : Int32) ≤ nI i from nI_ge (b := 3) hi (by omega)), hm i hi, sh3 i hi]
    cases hh : hr n x i with
    | false =>
      rw [if_neg (by decide)]
      unfold f_X7_look_47_1_5_J47
      rw [if_pos rfl]
      unfold f_X7_look_47_1_5_J82
      rw [lm2, inb_nI (by omega) (by omega), if_pos rfl, nI_clamp (by omega)]
      unfold f_X7_look_47_1_5_J120
      rw [al1, inb_nI (by omega) (by omega), if_pos rfl, nI_clamp (by omega)]
      unfold f_X7_look_47_1_5_J199
      rw [al1]
      refine ⟨_, rfl, (w0.pI (by simp)).pI (by simp), ?_, ?_, ?_, fun e he => ?_⟩
      · rw [rd_p (by omega), rd_p (by omega), w1]
        exact congrArg nI (mk6_congr fun e _ => LK1 hh e)
      · rw [rd_p (by omega), rd_p (by omega), w2]
        exact congrArg nI (mk6_congr fun e _ => by rw [LK1 hh e])
      · rw [rd_p (by omega), rd_p (by omega), w3]
        exact congrArg nI (mk6_congr fun e _ => by rw [LK1 hh e])
      · by_cases e1 : e = 2 * i + 1
        · subst e1
          rw [rd_s]
          unfold svE
          rw [if_neg (by rw [show (2 * i + 1) / 2 = i by omega, hh]; simp)]
          rfl
        · rw [rd_i e1]
          by_cases e2 : e = 2 * i
          · subst e2
            rw [rd_s]
            unfold svE
            rw [if_neg (by rw [show (2 * i) / 2 = i by omega, hh]; simp)]
            rfl
          · rw [rd_i e2]
            exact w4 e (by omega)
    | true =>
      have hin : i < n := by
        have := hh
        unfold hr at this
        simp at this
        exact this.1
      obtain ⟨k4, k1, -⟩ := hk i hin
      obtain ⟨s0, s1, -⟩ := hs (2 * i) (by omega)
      obtain ⟨t0, t1, -⟩ := hs (2 * i + 1) (by omega)
      obtain ⟨f4, f1⟩ := hF i hin
      have q1 : ∀ p k, p ≠ 47 → p ≠ 48 → ν.1 p k = μ.1 p k := fun p k g1 g2 => w0.1 p k (by simp [g1, g2])
      have hgl0 : glE K (2 * i) = decide (K i = 1) := by
        unfold glE
        rw [show 2 * i % 2 = 0 by omega, show 2 * i / 2 = i by omega]
        simp
      have hgl1 : glE K (2 * i + 1) = false := by
        unfold glE
        rw [show (2 * i + 1) % 2 = 1 by omega]
        simp
      rw [if_pos (show b2i true = 1 from rfl)]
      unfold f_X7_look_47_1_5_J47
      rw [if_neg (by decide), lm2, inb_nI (by omega) (by omega), inb_nI (by omega) (by omega), p_turned, nI_clamp (by omega), nI_clamp (by omega), q1 3 _ (by omega) (by omega), q1 5 _ (by omega) (by omega), s1, f1, (tn_eq _ s0 _ f4).1]
      simp only [Bool.true_eq_false, if_false, Option.bind_some]
      unfold f_X7_look_47_1_5_J82
      rw [inb_nI (by omega) (by omega), if_neg (show ¬ (true = false) by decide), if_neg (show ¬ (1 : Int32) = 0 by decide), lm2, al1, inb_nI (by omega) (by omega), inb_nI (by omega) (by omega), p_turned, nI_clamp (by omega), nI_clamp (by omega), nI_clamp (by omega), q1 3 _ (by omega) (by omega), q1 5 _ (by omega) (by omega), t1, f1, (tn_eq _ t0 _ f4).1]
      simp only [Bool.true_eq_false, if_false, Option.bind_some]
      unfold f_X7_look_47_1_5_J120
      rw [inb_nI (by omega) (by omega), if_neg (show ¬ (true = false) by decide), if_neg (show ¬ (1 : Int32) = 0 by decide), inb_nI (by omega) (by omega), nI_clamp (by omega), nI_clamp (by omega), rd_p (by omega), rd_p (by omega), q1 2 _ (by omega) (by omega), k1, lm2, inb_nI (by omega) (by omega), nI_clamp (by omega)]
      simp only [Bool.true_eq_false, if_false]
      have hA : ∀ A : Nat → Bool, (∀ e, A e = (eyM n x i e || decide (e / 2 = i))) → nI (mk6 A) = nI (mk6 fun e => eyM n x (i + 1) e) := fun A hA => congrArg nI (mk6_congr fun e _ => by rw [hA e, LK2 hh e])
      have kk : (nI (K i) = 1) = (K i = 1) := propext (nI_eq (b := 1) (by omega) (by omega))
      have kk3 : (nI (K i) = 3) = (K i = 3) := propext (nI_eq (b := 3) (by omega) (by omega))
      by_cases hK : K i = 1
      · rw [if_pos (kk.mpr hK)]
        unfold f_X7_look_47_1_5_J173
        rw [inb_nI (by omega) (by omega)]
        simp (disch := omega) only [rd_p, rd_i, rd_s, Bool.true_eq_false, if_false, nI_clamp]
        rw [q1 2 _ (by omega) (by omega), k1, if_neg (by rw [kk3]; omega)]
        unfold f_X7_look_47_1_5_J195 f_X7_look_47_1_5_J199
        rw [al1]
        refine ⟨_, rfl, ?_, ?_, ?_, ?_, fun e he => ?_⟩
        · exact ((((((w0.pI (by simp)).pI (by simp)).pI (by simp)).pI (by simp)).pI (by simp)).pI (by simp))
        · simp (disch := omega) only [rd_p, rd_i, rd_s]
          rw [w1, mk6_or]
          exact hA _ fun e => rfl
        · simp (disch := omega) only [rd_p, rd_i, rd_s]
          rw [← lm2, sh12 i hi, w2, mk6_or]
          exact congrArg nI (mk6_congr fun e _ => LK3 hh hK e)
        · simp (disch := omega) only [rd_p, rd_i, rd_s]
          rw [w3, z_mk6, mk6_or]
          exact congrArg nI (mk6_congr fun e _ => LK4 hh (by omega) e)
        · by_cases e2 : e = 2 * i
          · subst e2
            rw [rd_p (by omega), rd_s]
            unfold svE
            rw [if_neg (by rw [hgl0, hK]; simp)]
            rfl
          · rw [rd_p (by omega), rd_i e2, rd_p (by omega), rd_p (by omega)]
            by_cases e1 : e = 2 * i + 1
            · subst e1
              rw [rd_s]
              unfold svE
              rw [if_pos ⟨by rw [show (2 * i + 1) / 2 = i by omega]; exact hh, hgl1⟩, show (2 * i + 1) / 2 = i by omega]
            · rw [rd_i e1, rd_i e2]
              exact w4 e (by omega)
      · rw [if_neg (by rw [kk]; exact hK)]
        unfold f_X7_look_47_1_5_J173
        rw [inb_nI (by omega) (by omega)]
        simp (disch := omega) only [rd_p, rd_i, rd_s, Bool.true_eq_false, if_false, nI_clamp]
        rw [q1 2 _ (by omega) (by omega), k1]
        have hfin : ∀ v : Int32, (nI (mk6 fun e => eyM n x i e && drE K e) ||| v) = nI (mk6 fun e => eyM n x (i + 1) e && drE K e) → LookP n x K S F μ (i + 1) (pI (pI (pI (pI ν 48 (2 * i) (nI (tn (S (2 * i)) (F i)))) 48 (2 * i + 1) (nI (tn (S (2 * i + 1)) (F i)))) 47 1 (ν.1 47 1 ||| nI (mk6 fun x => decide (x / 2 = i)))) 47 3 (ν.1 47 3 ||| v)) := by
          intro v hv
          refine ⟨?_, ?_, ?_, ?_, fun e he => ?_⟩
          · exact ((((w0.pI (by simp)).pI (by simp)).pI (by simp)).pI (by simp))
          · simp (disch := omega) only [rd_p, rd_i, rd_s]
            rw [w1, mk6_or]
            exact hA _ fun e => rfl
          · simp (disch := omega) only [rd_p, rd_i, rd_s]
            rw [w2]
            exact congrArg nI (mk6_congr fun e _ => LK5 hK e)
          · simp (disch := omega) only [rd_p, rd_i, rd_s]
            rw [w3, hv]
          · rw [rd_p (by omega), rd_p (by omega)]
            by_cases e1 : e = 2 * i + 1
            · subst e1
              rw [rd_s]
              unfold svE
              rw [if_pos ⟨by rw [show (2 * i + 1) / 2 = i by omega]; exact hh, hgl1⟩, show (2 * i + 1) / 2 = i by omega]
            · rw [rd_i e1]
              by_cases e2 : e = 2 * i
              · subst e2
                rw [rd_s]
                unfold svE
                rw [if_pos ⟨by rw [show (2 * i) / 2 = i by omega]; exact hh, by rw [hgl0]; simp [hK]⟩, show (2 * i) / 2 = i by omega]
              · rw [rd_i e2]
                exact w4 e (by omega)
        by_cases hK3 : K i = 3
        · rw [if_pos (kk3.mpr hK3)]
          unfold f_X7_look_47_1_5_J195 f_X7_look_47_1_5_J199
          rw [al1]
          refine ⟨_, rfl, hfin _ ?_⟩
          rw [mk6_or]
          exact congrArg nI (mk6_congr fun e _ => LK6 hh hK3 e)
        · rw [if_neg (by rw [kk3]; exact hK3)]
          unfold f_X7_look_47_1_5_J195 f_X7_look_47_1_5_J199
          rw [al1]
          refine ⟨_, rfl, hfin _ ?_⟩
          rw [z_mk6, mk6_or]
          exact congrArg nI (mk6_congr fun e _ => LK4 hh hK3 e)
  · obtain ⟨w0, w1, w2, w3, w4⟩ := hP
    unfold f_X7_look_47_1_5_L18
    rw [if_pos (show (3 : Int32) ≤ nI 3 from by decide)]
    refine ⟨_, rfl, w0, ?_, ?_, ?_, fun e he => w4 e (by omega)⟩
    · rw [w1]
      exact congrArg nI (mk6_congr fun e he => LK7 hn he)
    · rw [w2]
      exact congrArg nI (mk6_congr fun e he => by rw [LK7 hn he])
    · rw [w3]
      exact congrArg nI (mk6_congr fun e he => by rw [LK7 hn he])
  · have hz : ∀ g : Nat → Bool, (0 : Int32) = nI (mk6 fun e => eyM n x 0 e && g e) := fun g => by
      rw [show mk6 (fun e => eyM n x 0 e && g e) = mk6 (fun _ => false) from mk6_congr (fun e _ => by unfold eyM; simp)]
      rfl
    refine ⟨((only.rf.pI (by simp)).pI (by simp)).pI (by simp), ?_, ?_, ?_, fun e he => by omega⟩
    · simp (disch := omega) only [rd_p, rd_i, rd_s]
      rw [hz fun _ => true]
      exact congrArg nI (mk6_congr fun e he => by simp)
    · simp (disch := omega) only [rd_p, rd_i, rd_s]
      exact hz _
    · simp (disch := omega) only [rd_p, rd_i, rd_s]
      exact hz _
set_option maxRecDepth 100000 in
theorem p_look_61 {n x : Nat} {K S F : Nat → Nat} {μ : Mem} {a3 : Int32} (hm : ∀ s, s < 3 → (a3 >>> (nI s &&& 31)) &&& 1 = b2i (hr n x s)) (h : HV n K S μ) (hF : ∀ s, s < n → F s < 4 ∧ μ.1 61 s = nI (F s)) : ∃ μ', f_X7_look_47_1_61 a3 μ = some μ' ∧ only [47, 48] μ μ' ∧ SightR n x K S F μ' := by
  obtain ⟨hn, e10, -, -, hk, hs⟩ := h
  have := for_rel (body := f_X7_look_47_1_61_L18 a3) nI 3 (LookP n x K S F μ) (fun μ' => only [47, 48] μ μ' ∧ SightR n x K S F μ') (fun k i ν hi hP => ?_) (fun k ν hP => ?_) FU 0 (pI (pI (pI μ 47 1 0) 47 2 0) 47 3 0) (by omega) (fu_gt (by omega)) ?_
  · obtain ⟨μ', h1, h2⟩ := this
    exact ⟨μ', h1, h2⟩
  · obtain ⟨w0, w1, w2, w3, w4⟩ := hP
    unfold f_X7_look_47_1_61_L18
    rw [if_neg (show ¬ (3 : Int32) ≤ nI i from nI_ge (b := 3) hi (by omega)), hm i hi, sh3 i hi]
    cases hh : hr n x i with
    | false =>
      rw [if_neg (by decide)]
      unfold f_X7_look_47_1_61_J47
      rw [if_pos rfl]
      unfold f_X7_look_47_1_61_J82
      rw [lm2, inb_nI (by omega) (by omega), if_pos rfl, nI_clamp (by omega)]
      unfold f_X7_look_47_1_61_J120
      rw [al1, inb_nI (by omega) (by omega), if_pos rfl, nI_clamp (by omega)]
      unfold f_X7_look_47_1_61_J199
      rw [al1]
      refine ⟨_, rfl, (w0.pI (by simp)).pI (by simp), ?_, ?_, ?_, fun e he => ?_⟩
      · rw [rd_p (by omega), rd_p (by omega), w1]
        exact congrArg nI (mk6_congr fun e _ => LK1 hh e)
      · rw [rd_p (by omega), rd_p (by omega), w2]
        exact congrArg nI (mk6_congr fun e _ => by rw [LK1 hh e])
      · rw [rd_p (by omega), rd_p (by omega), w3]
        exact congrArg nI (mk6_congr fun e _ => by rw [LK1 hh e])
      · by_cases e1 : e = 2 * i + 1
        · subst e1
          rw [rd_s]
          unfold svE
          rw [if_neg (by rw [show (2 * i + 1) / 2 = i by omega, hh]; simp)]
          rfl
        · rw [rd_i e1]
          by_cases e2 : e = 2 * i
          · subst e2
            rw [rd_s]
            unfold svE
            rw [if_neg (by rw [show (2 * i) / 2 = i by omega, hh]; simp)]
            rfl
          · rw [rd_i e2]
            exact w4 e (by omega)
    | true =>
      have hin : i < n := by
        have := hh
        unfold hr at this
        simp at this
        exact this.1
      obtain ⟨k4, k1, -⟩ := hk i hin
      obtain ⟨s0, s1, -⟩ := hs (2 * i) (by omega)
      obtain ⟨t0, t1, -⟩ := hs (2 * i + 1) (by omega)
      obtain ⟨f4, f1⟩ := hF i hin
      have q1 : ∀ p k, p ≠ 47 → p ≠ 48 → ν.1 p k = μ.1 p k := fun p k g1 g2 => w0.1 p k (by simp [g1, g2])
      have hgl0 : glE K (2 * i) = decide (K i = 1) := by
        unfold glE
        rw [show 2 * i % 2 = 0 by omega, show 2 * i / 2 = i by omega]
        simp
      have hgl1 : glE K (2 * i + 1) = false := by
        unfold glE
        rw [show (2 * i + 1) % 2 = 1 by omega]
        simp
      rw [if_pos (show b2i true = 1 from rfl)]
      unfold f_X7_look_47_1_61_J47
      rw [if_neg (by decide), lm2, inb_nI (by omega) (by omega), inb_nI (by omega) (by omega), p_turned, nI_clamp (by omega), nI_clamp (by omega), q1 3 _ (by omega) (by omega), q1 61 _ (by omega) (by omega), s1, f1, (tn_eq _ s0 _ f4).1]
      simp only [Bool.true_eq_false, if_false, Option.bind_some]
      unfold f_X7_look_47_1_61_J82
      rw [inb_nI (by omega) (by omega), if_neg (show ¬ (true = false) by decide), if_neg (show ¬ (1 : Int32) = 0 by decide), lm2, al1, inb_nI (by omega) (by omega), inb_nI (by omega) (by omega), p_turned, nI_clamp (by omega), nI_clamp (by omega), nI_clamp (by omega), q1 3 _ (by omega) (by omega), q1 61 _ (by omega) (by omega), t1, f1, (tn_eq _ t0 _ f4).1]
      simp only [Bool.true_eq_false, if_false, Option.bind_some]
      unfold f_X7_look_47_1_61_J120
      rw [inb_nI (by omega) (by omega), if_neg (show ¬ (true = false) by decide), if_neg (show ¬ (1 : Int32) = 0 by decide), inb_nI (by omega) (by omega), nI_clamp (by omega), nI_clamp (by omega), rd_p (by omega), rd_p (by omega), q1 2 _ (by omega) (by omega), k1, lm2, inb_nI (by omega) (by omega), nI_clamp (by omega)]
      simp only [Bool.true_eq_false, if_false]
      have hA : ∀ A : Nat → Bool, (∀ e, A e = (eyM n x i e || decide (e / 2 = i))) → nI (mk6 A) = nI (mk6 fun e => eyM n x (i + 1) e) := fun A hA => congrArg nI (mk6_congr fun e _ => by rw [hA e, LK2 hh e])
      have kk : (nI (K i) = 1) = (K i = 1) := propext (nI_eq (b := 1) (by omega) (by omega))
      have kk3 : (nI (K i) = 3) = (K i = 3) := propext (nI_eq (b := 3) (by omega) (by omega))
      by_cases hK : K i = 1
      · rw [if_pos (kk.mpr hK)]
        unfold f_X7_look_47_1_61_J173
        rw [inb_nI (by omega) (by omega)]
        simp (disch := omega) only [rd_p, rd_i, rd_s, Bool.true_eq_false, if_false, nI_clamp]
        rw [q1 2 _ (by omega) (by omega), k1, if_neg (by rw [kk3]; omega)]
        unfold f_X7_look_47_1_61_J195 f_X7_look_47_1_61_J199
        rw [al1]
        refine ⟨_, rfl, ?_, ?_, ?_, ?_, fun e he => ?_⟩
        · exact ((((((w0.pI (by simp)).pI (by simp)).pI (by simp)).pI (by simp)).pI (by simp)).pI (by simp))
        · simp (disch := omega) only [rd_p, rd_i, rd_s]
          rw [w1, mk6_or]
          exact hA _ fun e => rfl
        · simp (disch := omega) only [rd_p, rd_i, rd_s]
          rw [← lm2, sh12 i hi, w2, mk6_or]
          exact congrArg nI (mk6_congr fun e _ => LK3 hh hK e)
        · simp (disch := omega) only [rd_p, rd_i, rd_s]
          rw [w3, z_mk6, mk6_or]
          exact congrArg nI (mk6_congr fun e _ => LK4 hh (by omega) e)
        · by_cases e2 : e = 2 * i
          · subst e2
            rw [rd_p (by omega), rd_s]
            unfold svE
            rw [if_neg (by rw [hgl0, hK]; simp)]
            rfl
          · rw [rd_p (by omega), rd_i e2, rd_p (by omega), rd_p (by omega)]
            by_cases e1 : e = 2 * i + 1
            · subst e1
              rw [rd_s]
              unfold svE
              rw [if_pos ⟨by rw [show (2 * i + 1) / 2 = i by omega]; exact hh, hgl1⟩, show (2 * i + 1) / 2 = i by omega]
            · rw [rd_i e1, rd_i e2]
              exact w4 e (by omega)
      · rw [if_neg (by rw [kk]; exact hK)]
        unfold f_X7_look_47_1_61_J173
        rw [inb_nI (by omega) (by omega)]
        simp (disch := omega) only [rd_p, rd_i, rd_s, Bool.true_eq_false, if_false, nI_clamp]
        rw [q1 2 _ (by omega) (by omega), k1]
        have hfin : ∀ v : Int32, (nI (mk6 fun e => eyM n x i e && drE K e) ||| v) = nI (mk6 fun e => eyM n x (i + 1) e && drE K e) → LookP n x K S F μ (i + 1) (pI (pI (pI (pI ν 48 (2 * i) (nI (tn (S (2 * i)) (F i)))) 48 (2 * i + 1) (nI (tn (S (2 * i + 1)) (F i)))) 47 1 (ν.1 47 1 ||| nI (mk6 fun x => decide (x / 2 = i)))) 47 3 (ν.1 47 3 ||| v)) := by
          intro v hv
          refine ⟨?_, ?_, ?_, ?_, fun e he => ?_⟩
          · exact ((((w0.pI (by simp)).pI (by simp)).pI (by simp)).pI (by simp))
          · simp (disch := omega) only [rd_p, rd_i, rd_s]
            rw [w1, mk6_or]
            exact hA _ fun e => rfl
          · simp (disch := omega) only [rd_p, rd_i, rd_s]
            rw [w2]
            exact congrArg nI (mk6_congr fun e _ => LK5 hK e)
          · simp (disch := omega) only [rd_p, rd_i, rd_s]
            rw [w3, hv]
          · rw [rd_p (by omega), rd_p (by omega)]
            by_cases e1 : e = 2 * i + 1
            · subst e1
              rw [rd_s]
              unfold svE
              rw [if_pos ⟨by rw [show (2 * i + 1) / 2 = i by omega]; exact hh, hgl1⟩, show (2 * i + 1) / 2 = i by omega]
            · rw [rd_i e1]
              by_cases e2 : e = 2 * i
              · subst e2
                rw [rd_s]
                unfold svE
                rw [if_pos ⟨by rw [show (2 * i) / 2 = i by omega]; exact hh, by rw [hgl0]; simp [hK]⟩, show (2 * i) / 2 = i by omega]
              · rw [rd_i e2]
                exact w4 e (by omega)
        by_cases hK3 : K i = 3
        · rw [if_pos (kk3.mpr hK3)]
          unfold f_X7_look_47_1_61_J195 f_X7_look_47_1_61_J199
          rw [al1]
          refine ⟨_, rfl, hfin _ ?_⟩
          rw [mk6_or]
          exact congrArg nI (mk6_congr fun e _ => LK6 hh hK3 e)
        · rw [if_neg (by rw [kk3]; exact hK3)]
          unfold f_X7_look_47_1_61_J195 f_X7_look_47_1_61_J199
          rw [al1]
          refine ⟨_, rfl, hfin _ ?_⟩
          rw [z_mk6, mk6_or]
          exact congrArg nI (mk6_congr fun e _ => LK4 hh hK3 e)
  · obtain ⟨w0, w1, w2, w3, w4⟩ := hP
    unfold f_X7_look_47_1_61_L18
    rw [if_pos (show (3 : Int32) ≤ nI 3 from by decide)]
    refine ⟨_, rfl, w0, ?_, ?_, ?_, fun e he => w4 e (by omega)⟩
    · rw [w1]
      exact congrArg nI (mk6_congr fun e he => LK7 hn he)
    · rw [w2]
      exact congrArg nI (mk6_congr fun e he => by rw [LK7 hn he])
    · rw [w3]
      exact congrArg nI (mk6_congr fun e he => by rw [LK7 hn he])
  · have hz : ∀ g : Nat → Bool, (0 : Int32) = nI (mk6 fun e => eyM n x 0 e && g e) := fun g => by
      rw [show mk6 (fun e => eyM n x 0 e && g e) = mk6 (fun _ => false) from mk6_congr (fun e _ => by unfold eyM; simp)]
      rfl
    refine ⟨((only.rf.pI (by simp)).pI (by simp)).pI (by simp), ?_, ?_, ?_, fun e he => by omega⟩
    · simp (disch := omega) only [rd_p, rd_i, rd_s]
      rw [hz fun _ => true]
      exact congrArg nI (mk6_congr fun e he => by simp)
    · simp (disch := omega) only [rd_p, rd_i, rd_s]
      exact hz _
    · simp (disch := omega) only [rd_p, rd_i, rd_s]
      exact hz _
