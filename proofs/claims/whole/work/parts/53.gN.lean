theorem it4_run {ρ : Type} {body : (Int32 → Int32 → Int32 → Mem → Option ρ) → Int32 → Int32 → Int32 → Mem → Option ρ} (M : Nat) (A B : Nat → Int32) (m : Nat → Mem) (hstep : ∀ k i, i < M → body k (A i) (B i) (nI i) (m i) = k (A (i + 1)) (B (i + 1)) (nI (i + 1)) (m (i + 1))) (f : Nat) : it4 body (f + M) (A 0) (B 0) (nI 0) (m 0) = it4 body f (A M) (B M) (nI M) (m M) := by
  have key : ∀ j, j ≤ M → it4 body (f + j) (A (M - j)) (B (M - j)) (nI (M - j)) (m (M - j)) = it4 body f (A M) (B M) (nI M) (m M) := by
    intro j
    induction j with
    | zero => intro _; rfl
    | succ j ih =>
      intro hj
      show body (it4 body (f + j)) (A (M - (j + 1))) (B (M - (j + 1))) (nI (M - (j + 1))) (m (M - (j + 1))) = _
      rw [hstep _ _ (by omega), show M - (j + 1) + 1 = M - j by omega]
      exact ih (by omega)
  have := key M (Nat.le_refl _)
  rw [Nat.sub_self] at this
  exact this
/-- the pairs told: place base, from memory m, q and w of each pair -/
def wm (b pl : Nat) (q w : Nat → Nat) (m : Mem) : Nat → Mem
  | 0 => m
  | i + 1 => pI (wm b pl q w m i) pl (b + q i) (nI (w i))
theorem wm_p {b pl : Nat} {q w : Nat → Nat} {m : Mem} {p k : Nat} (h : p ≠ pl) : ∀ i, (wm b pl q w m i).1 p k = m.1 p k
  | 0 => rfl
  | i + 1 => by
    show (pI (wm b pl q w m i) pl (b + q i) (nI (w i))).1 p k = _
    rw [rd_p h]
    exact wm_p h i
def wv (q w : Nat → Nat) (v : Nat → Int32) : Nat → Nat → Int32
  | 0 => v
  | i + 1 => fun k => if k = q i then nI (w i) else wv q w v i k
theorem wm_v {b pl : Nat} {q w : Nat → Nat} {m : Mem} (k : Nat) : ∀ i, (wm b pl q w m i).1 pl (b + k) = wv q w (fun k => m.1 pl (b + k)) i k
  | 0 => rfl
  | i + 1 => by
    show (pI (wm b pl q w m i) pl (b + q i) (nI (w i))).1 pl (b + k) = if k = q i then nI (w i) else wv q w (fun k => m.1 pl (b + k)) i k
    by_cases h : k = q i
    · rw [if_pos h, h]
      exact rd_s
    · rw [if_neg h, rd_i (by omega)]
      exact wm_v k i
theorem wm_o {b pl : Nat} {q w : Nat → Nat} {m : Mem} {k : Nat} (h : k < b ∨ b + 6 ≤ k) : ∀ i, (∀ j, j < i → q j < 6) → (wm b pl q w m i).1 pl k = m.1 pl k
  | 0, _ => rfl
  | i + 1, hq => by
    show (pI (wm b pl q w m i) pl (b + q i) (nI (w i))).1 pl k = _
    have := hq i (by omega)
    rw [rd_i (by omega)]
    exact wm_o h i (fun j hj => hq j (by omega))

theorem p_wr_27 {n M A : Nat} {a f : Int32} {q w : Nat → Nat} {μ : Mem} (hM : M ≤ 13) (ha : 0 < M → a = nI A ∧ A + 2 * M ≤ 40) (hq : ∀ p, p < M → q p < 6 ∧ μ.1 28 (A + 2 * p) = nI (q p) ∧ μ.1 28 (A + 2 * p + 1) = nI (w p)) : f_X9_read_0_J121 a f (nI M) μ = some (nI M, pI (wm 0 9 q w μ M) 0 5 f) := by
  unfold f_X9_read_0_J121
  have := for_rel (body := f_X9_read_0_L124 a f (nI M)) nI M (fun i ν => ν = wm 0 9 q w μ i) (fun r => r = (nI M, pI (wm 0 9 q w μ M) 0 5 f)) (fun k i ν hi hP => ?_) (fun k ν hP => ?_) FU 0 μ (by omega) (fu_gt (by omega)) rfl
  · obtain ⟨r, h1, rfl⟩ := this
    exact h1
  · subst hP
    obtain ⟨rfl, hA⟩ := ha (by omega)
    obtain ⟨q6, q1, q2⟩ := hq i hi
    unfold f_X9_read_0_L124
    rw [if_neg (nI_ge hi (by omega)), lm2, nI_add, al1, inb_nI (by omega) (by omega), inb_nI (by omega) (by omega), nI_clamp (by omega), nI_clamp (by omega), wm_p (by omega), wm_p (by omega), q1, q2, inb_nI (by omega) (by omega), nI_clamp (by omega), al1]
    refine ⟨_, rfl, ?_⟩
    show pI (wm 0 9 q w μ i) 9 (q i) (nI (w i)) = pI (wm 0 9 q w μ i) 9 (0 + q i) (nI (w i))
    rw [Nat.zero_add]
  · subst hP
    unfold f_X9_read_0_L124
    rw [if_pos (nI_le (Nat.le_refl _) (by omega))]
    exact ⟨_, rfl, rfl⟩
theorem p_rd_27 {n Q M Pn A : Nat} {x a : Int32} {fc : Nat → Int32} {q w : Nat → Nat} {μ : Mem} (hn : n ≤ 3) (hQ : Q ≤ 6) (e10 : μ.1 1 0 = nI n) (e11 : μ.1 1 1 = nI Q) (hfc : ∀ p, p ≤ 13 → f_X6_faultOfPair_27 x a (nI p) μ = some (fc p, μ)) (hMP : M ≤ Pn) (hP : Pn ≤ 13) (ha : 0 < M → a = nI A ∧ A + 2 * M ≤ 40) (hg : ∀ p, p < M → fc p = 0) (hq : ∀ p, p < M → q p < Q ∧ w p < 3 ^ n ∧ μ.1 28 (A + 2 * p) = nI (q p) ∧ μ.1 28 (A + 2 * p + 1) = nI (w p)) :
    (M = Pn → it4 (f_X9_read_0_L45 x a (nI Pn)) FU 0 0 0 μ = some (nI M, pI (wm 0 9 q w μ M) 0 5 0)) ∧
    (M < Pn → fc M ≠ 0 → it4 (f_X9_read_0_L45 x a (nI Pn)) FU 0 0 0 μ = some (nI M, pI (wm 0 9 q w μ M) 0 5 (fc M))) ∧
    (M < Pn → fc M = 0 → a = nI A → A + 2 * M + 1 < 40 → (inb (μ.1 28 (A + 2 * M)) Q && inb (μ.1 28 (A + 2 * M + 1)) (3 ^ n)) = false → it4 (f_X9_read_0_L45 x a (nI Pn)) FU 0 0 0 μ = some (-20 - nI M, μ)) := by
  have h27 := p3 hn
  have hw : ∀ f, f_X9_read_0_J121 a f (nI M) μ = some (nI M, pI (wm 0 9 q w μ M) 0 5 f) := fun f => p_wr_27 (n := n) (by omega) ha (fun p hp => ⟨by have := (hq p hp).1; omega, (hq p hp).2.2.1, (hq p hp).2.2.2⟩)
  have hrun : ∀ f, it4 (f_X9_read_0_L45 x a (nI Pn)) (f + M) 0 (nI 0) (nI 0) μ = it4 (f_X9_read_0_L45 x a (nI Pn)) f 0 (nI M) (nI M) μ := fun f => by
    refine it4_run (body := f_X9_read_0_L45 x a (nI Pn)) M (fun _ => 0) nI (fun _ => μ) (fun k i hi => ?_) f
    obtain ⟨rfl, hA⟩ := ha (by omega)
    obtain ⟨q1, q2, q3, q4⟩ := hq i hi
    unfold f_X9_read_0_L45
    rw [if_neg (nI_ge (show i < Pn by omega) (by omega)), if_pos rfl, bnd (hfc i (by omega)), hg i hi]
    dsimp only
    rw [if_pos rfl, lm2, nI_add, al1, inb_nI (by omega) (by omega), inb_nI (by omega) (by omega), if_neg (show ¬ (true = false) by decide), if_neg (show ¬ (true = false) by decide), nI_clamp (by omega), nI_clamp (by omega), q3, q4, bnd (p_canTell e10 hn e11 hQ _ _), inb_nI q1 (by omega), inb_nI q2 (by omega)]
    unfold f_X9_read_0_J115
    dsimp only
    rw [if_neg (by decide), al1]
  have hFU : FU = (999985 - M + 1 + 1) + M + 13 := by
    have : FU = 1000000 := rfl
    omega
  have hF2 : ∃ g, FU = (g + 1 + 1) + M := ⟨1000000 - M - 2, by have : FU = 1000000 := rfl; omega⟩
  obtain ⟨g, hg2⟩ := hF2
  refine ⟨fun hMe => ?_, fun hlt hne => ?_, fun hlt h0 haA hA40 hbad => ?_⟩
  · subst hMe
    rw [hg2]
    refine (hrun _).trans ?_
    show f_X9_read_0_L45 x a (nI M) _ 0 (nI M) (nI M) μ = _
    unfold f_X9_read_0_L45
    rw [if_pos (nI_le (Nat.le_refl _) (by omega))]
    exact hw 0
  · rw [hg2]
    refine (hrun _).trans ?_
    have h1 : f_X9_read_0_L45 x a (nI Pn) (f_X9_read_0_L45 x a (nI Pn) (it4 (f_X9_read_0_L45 x a (nI Pn)) g)) 0 (nI M) (nI M) μ = f_X9_read_0_L45 x a (nI Pn) (it4 (f_X9_read_0_L45 x a (nI Pn)) g) (fc M) (nI M) (nI M + 1) μ := by
      generalize f_X9_read_0_L45 x a (nI Pn) (it4 (f_X9_read_0_L45 x a (nI Pn)) g) = kk
      unfold f_X9_read_0_L45
      rw [if_neg (nI_ge hlt (by omega)), if_pos rfl, bnd (hfc M (by omega))]
      dsimp only
      rw [if_neg hne]
      rfl
    refine Eq.trans h1 ?_
    unfold f_X9_read_0_L45
    rw [if_neg hne, hw]
    split <;> rfl
  · rw [hg2]
    refine (hrun _).trans ?_
    show f_X9_read_0_L45 x a (nI Pn) _ 0 (nI M) (nI M) μ = _
    subst haA
    unfold f_X9_read_0_L45
    rw [if_neg (nI_ge hlt (by omega)), if_pos rfl, bnd (hfc M (by omega)), h0]
    dsimp only
    rw [if_pos rfl, lm2, nI_add, al1, inb_nI (by omega) (by omega), inb_nI (by omega) (by omega), if_neg (show ¬ (true = false) by decide), if_neg (show ¬ (true = false) by decide), nI_clamp (by omega), nI_clamp (by omega), bnd (p_canTell e10 hn e11 hQ _ _), hbad]
    rfl

theorem p_wr_29 {n M A : Nat} {a f : Int32} {q w : Nat → Nat} {μ : Mem} (hM : M ≤ 13) (ha : 0 < M → a = nI A ∧ A + 2 * M ≤ 40) (hq : ∀ p, p < M → q p < 6 ∧ μ.1 30 (A + 2 * p) = nI (q p) ∧ μ.1 30 (A + 2 * p + 1) = nI (w p)) : f_X9_read_0_J121e1 a f (nI M) μ = some (nI M, pI (wm 0 9 q w μ M) 0 5 f) := by
  unfold f_X9_read_0_J121e1
  have := for_rel (body := f_X9_read_0_L124e1 a f (nI M)) nI M (fun i ν => ν = wm 0 9 q w μ i) (fun r => r = (nI M, pI (wm 0 9 q w μ M) 0 5 f)) (fun k i ν hi hP => ?_) (fun k ν hP => ?_) FU 0 μ (by omega) (fu_gt (by omega)) rfl
  · obtain ⟨r, h1, rfl⟩ := this
    exact h1
  · subst hP
    obtain ⟨rfl, hA⟩ := ha (by omega)
    obtain ⟨q6, q1, q2⟩ := hq i hi
    unfold f_X9_read_0_L124e1
    rw [if_neg (nI_ge hi (by omega)), lm2, nI_add, al1, inb_nI (by omega) (by omega), inb_nI (by omega) (by omega), nI_clamp (by omega), nI_clamp (by omega), wm_p (by omega), wm_p (by omega), q1, q2, inb_nI (by omega) (by omega), nI_clamp (by omega), al1]
    refine ⟨_, rfl, ?_⟩
    show pI (wm 0 9 q w μ i) 9 (q i) (nI (w i)) = pI (wm 0 9 q w μ i) 9 (0 + q i) (nI (w i))
    rw [Nat.zero_add]
  · subst hP
    unfold f_X9_read_0_L124e1
    rw [if_pos (nI_le (Nat.le_refl _) (by omega))]
    exact ⟨_, rfl, rfl⟩
theorem p_rd_29 {n Q M Pn A : Nat} {x a : Int32} {fc : Nat → Int32} {q w : Nat → Nat} {μ : Mem} (hn : n ≤ 3) (hQ : Q ≤ 6) (e10 : μ.1 1 0 = nI n) (e11 : μ.1 1 1 = nI Q) (hfc : ∀ p, p ≤ 13 → f_X6_faultOfPair_29 x a (nI p) μ = some (fc p, μ)) (hMP : M ≤ Pn) (hP : Pn ≤ 13) (ha : 0 < M → a = nI A ∧ A + 2 * M ≤ 40) (hg : ∀ p, p < M → fc p = 0) (hq : ∀ p, p < M → q p < Q ∧ w p < 3 ^ n ∧ μ.1 30 (A + 2 * p) = nI (q p) ∧ μ.1 30 (A + 2 * p + 1) = nI (w p)) :
    (M = Pn → it4 (f_X9_read_0_L45e1 x a (nI Pn)) FU 0 0 0 μ = some (nI M, pI (wm 0 9 q w μ M) 0 5 0)) ∧
    (M < Pn → fc M ≠ 0 → it4 (f_X9_read_0_L45e1 x a (nI Pn)) FU 0 0 0 μ = some (nI M, pI (wm 0 9 q w μ M) 0 5 (fc M))) ∧
    (M < Pn → fc M = 0 → a = nI A → A + 2 * M + 1 < 40 → (inb (μ.1 30 (A + 2 * M)) Q && inb (μ.1 30 (A + 2 * M + 1)) (3 ^ n)) = false → it4 (f_X9_read_0_L45e1 x a (nI Pn)) FU 0 0 0 μ = some (-20 - nI M, μ)) := by
  have h27 := p3 hn
  have hw : ∀ f, f_X9_read_0_J121e1 a f (nI M) μ = some (nI M, pI (wm 0 9 q w μ M) 0 5 f) := fun f => p_wr_29 (n := n) (by omega) ha (fun p hp => ⟨by have := (hq p hp).1; omega, (hq p hp).2.2.1, (hq p hp).2.2.2⟩)
  have hrun : ∀ f, it4 (f_X9_read_0_L45e1 x a (nI Pn)) (f + M) 0 (nI 0) (nI 0) μ = it4 (f_X9_read_0_L45e1 x a (nI Pn)) f 0 (nI M) (nI M) μ := fun f => by
    refine it4_run (body := f_X9_read_0_L45e1 x a (nI Pn)) M (fun _ => 0) nI (fun _ => μ) (fun k i hi => ?_) f
    obtain ⟨rfl, hA⟩ := ha (by omega)
    obtain ⟨q1, q2, q3, q4⟩ := hq i hi
    unfold f_X9_read_0_L45e1
    rw [if_neg (nI_ge (show i < Pn by omega) (by omega)), if_pos rfl, bnd (hfc i (by omega)), hg i hi]
    dsimp only
    rw [if_pos rfl, lm2, nI_add, al1, inb_nI (by omega) (by omega), inb_nI (by omega) (by omega), if_neg (show ¬ (true = false) by decide), if_neg (show ¬ (true = false) by decide), nI_clamp (by omega), nI_clamp (by omega), q3, q4, bnd (p_canTell e10 hn e11 hQ _ _), inb_nI q1 (by omega), inb_nI q2 (by omega)]
    unfold f_X9_read_0_J115e1
    dsimp only
    rw [if_neg (by decide), al1]
  have hFU : FU = (999985 - M + 1 + 1) + M + 13 := by
    have : FU = 1000000 := rfl
    omega
  have hF2 : ∃ g, FU = (g + 1 + 1) + M := ⟨1000000 - M - 2, by have : FU = 1000000 := rfl; omega⟩
  obtain ⟨g, hg2⟩ := hF2
  refine ⟨fun hMe => ?_, fun hlt hne => ?_, fun hlt h0 haA hA40 hbad => ?_⟩
  · subst hMe
    rw [hg2]
    refine (hrun _).trans ?_
    show f_X9_read_0_L45e1 x a (nI M) _ 0 (nI M) (nI M) μ = _
    unfold f_X9_read_0_L45e1
    rw [if_pos (nI_le (Nat.le_refl _) (by omega))]
    exact hw 0
  · rw [hg2]
    refine (hrun _).trans ?_
    have h1 : f_X9_read_0_L45e1 x a (nI Pn) (f_X9_read_0_L45e1 x a (nI Pn) (it4 (f_X9_read_0_L45e1 x a (nI Pn)) g)) 0 (nI M) (nI M) μ = f_X9_read_0_L45e1 x a (nI Pn) (it4 (f_X9_read_0_L45e1 x a (nI Pn)) g) (fc M) (nI M) (nI M + 1) μ := by
      generalize f_X9_read_0_L45e1 x a (nI Pn) (it4 (f_X9_read_0_L45e1 x a (nI Pn)) g) = kk
      unfold f_X9_read_0_L45e1
      rw [if_neg (nI_ge hlt (by omega)), if_pos rfl, bnd (hfc M (by omega))]
      dsimp only
      rw [if_neg hne]
      rfl
    refine Eq.trans h1 ?_
    unfold f_X9_read_0_L45e1
    rw [if_neg hne, hw]
    split <;> rfl
  · rw [hg2]
    refine (hrun _).trans ?_
    show f_X9_read_0_L45e1 x a (nI Pn) _ 0 (nI M) (nI M) μ = _
    subst haA
    unfold f_X9_read_0_L45e1
    rw [if_neg (nI_ge hlt (by omega)), if_pos rfl, bnd (hfc M (by omega)), h0]
    dsimp only
    rw [if_pos rfl, lm2, nI_add, al1, inb_nI (by omega) (by omega), inb_nI (by omega) (by omega), if_neg (show ¬ (true = false) by decide), if_neg (show ¬ (true = false) by decide), nI_clamp (by omega), nI_clamp (by omega), bnd (p_canTell e10 hn e11 hQ _ _), hbad]
    rfl

theorem p_wr_31 {n M A : Nat} {a f : Int32} {q w : Nat → Nat} {μ : Mem} (hM : M ≤ 13) (ha : 0 < M → a = nI A ∧ A + 2 * M ≤ 40) (hq : ∀ p, p < M → q p < 6 ∧ μ.1 32 (A + 2 * p) = nI (q p) ∧ μ.1 32 (A + 2 * p + 1) = nI (w p)) : f_X9_read_0_J121e2 a f (nI M) μ = some (nI M, pI (wm 0 9 q w μ M) 0 5 f) := by
  unfold f_X9_read_0_J121e2
  have := for_rel (body := f_X9_read_0_L124e2 a f (nI M)) nI M (fun i ν => ν = wm 0 9 q w μ i) (fun r => r = (nI M, pI (wm 0 9 q w μ M) 0 5 f)) (fun k i ν hi hP => ?_) (fun k ν hP => ?_) FU 0 μ (by omega) (fu_gt (by omega)) rfl
  · obtain ⟨r, h1, rfl⟩ := this
    exact h1
  · subst hP
    obtain ⟨rfl, hA⟩ := ha (by omega)
    obtain ⟨q6, q1, q2⟩ := hq i hi
    unfold f_X9_read_0_L124e2
    rw [if_neg (nI_ge hi (by omega)), lm2, nI_add, al1, inb_nI (by omega) (by omega), inb_nI (by omega) (by omega), nI_clamp (by omega), nI_clamp (by omega), wm_p (by omega), wm_p (by omega), q1, q2, inb_nI (by omega) (by omega), nI_clamp (by omega), al1]
    refine ⟨_, rfl, ?_⟩
    show pI (wm 0 9 q w μ i) 9 (q i) (nI (w i)) = pI (wm 0 9 q w μ i) 9 (0 + q i) (nI (w i))
    rw [Nat.zero_add]
  · subst hP
    unfold f_X9_read_0_L124e2
    rw [if_pos (nI_le (Nat.le_refl _) (by omega))]
    exact ⟨_, rfl, rfl⟩
theorem p_rd_31 {n Q M Pn A : Nat} {x a : Int32} {fc : Nat → Int32} {q w : Nat → Nat} {μ : Mem} (hn : n ≤ 3) (hQ : Q ≤ 6) (e10 : μ.1 1 0 = nI n) (e11 : μ.1 1 1 = nI Q) (hfc : ∀ p, p ≤ 13 → f_X6_faultOfPair_31 x a (nI p) μ = some (fc p, μ)) (hMP : M ≤ Pn) (hP : Pn ≤ 13) (ha : 0 < M → a = nI A ∧ A + 2 * M ≤ 40) (hg : ∀ p, p < M → fc p = 0) (hq : ∀ p, p < M → q p < Q ∧ w p < 3 ^ n ∧ μ.1 32 (A + 2 * p) = nI (q p) ∧ μ.1 32 (A + 2 * p + 1) = nI (w p)) :
    (M = Pn → it4 (f_X9_read_0_L45e2 x a (nI Pn)) FU 0 0 0 μ = some (nI M, pI (wm 0 9 q w μ M) 0 5 0)) ∧
    (M < Pn → fc M ≠ 0 → it4 (f_X9_read_0_L45e2 x a (nI Pn)) FU 0 0 0 μ = some (nI M, pI (wm 0 9 q w μ M) 0 5 (fc M))) ∧
    (M < Pn → fc M = 0 → a = nI A → A + 2 * M + 1 < 40 → (inb (μ.1 32 (A + 2 * M)) Q && inb (μ.1 32 (A + 2 * M + 1)) (3 ^ n)) = false → it4 (f_X9_read_0_L45e2 x a (nI Pn)) FU 0 0 0 μ = some (-20 - nI M, μ)) := by
  have h27 := p3 hn
  have hw : ∀ f, f_X9_read_0_J121e2 a f (nI M) μ = some (nI M, pI (wm 0 9 q w μ M) 0 5 f) := fun f => p_wr_31 (n := n) (by omega) ha (fun p hp => ⟨by have := (hq p hp).1; omega, (hq p hp).2.2.1, (hq p hp).2.2.2⟩)
  have hrun : ∀ f, it4 (f_X9_read_0_L45e2 x a (nI Pn)) (f + M) 0 (nI 0) (nI 0) μ = it4 (f_X9_read_0_L45e2 x a (nI Pn)) f 0 (nI M) (nI M) μ := fun f => by
    refine it4_run (body := f_X9_read_0_L45e2 x a (nI Pn)) M (fun _ => 0) nI (fun _ => μ) (fun k i hi => ?_) f
    obtain ⟨rfl, hA⟩ := ha (by omega)
    obtain ⟨q1, q2, q3, q4⟩ := hq i hi
    unfold f_X9_read_0_L45e2
    rw [if_neg (nI_ge (show i < Pn by omega) (by omega)), if_pos rfl, bnd (hfc i (by omega)), hg i hi]
    dsimp only
    rw [if_pos rfl, lm2, nI_add, al1, inb_nI (by omega) (by omega), inb_nI (by omega) (by omega), if_neg (show ¬ (true = false) by decide), if_neg (show ¬ (true = false) by decide), nI_clamp (by omega), nI_clamp (by omega), q3, q4, bnd (p_canTell e10 hn e11 hQ _ _), inb_nI q1 (by omega), inb_nI q2 (by omega)]
    unfold f_X9_read_0_J115e2
    dsimp only
    rw [if_neg (by decide), al1]
  have hFU : FU = (999985 - M + 1 + 1) + M + 13 := by
    have : FU = 1000000 := rfl
    omega
  have hF2 : ∃ g, FU = (g + 1 + 1) + M := ⟨1000000 - M - 2, by have : FU = 1000000 := rfl; omega⟩
  obtain ⟨g, hg2⟩ := hF2
  refine ⟨fun hMe => ?_, fun hlt hne => ?_, fun hlt h0 haA hA40 hbad => ?_⟩
  · subst hMe
    rw [hg2]
    refine (hrun _).trans ?_
    show f_X9_read_0_L45e2 x a (nI M) _ 0 (nI M) (nI M) μ = _
    unfold f_X9_read_0_L45e2
    rw [if_pos (nI_le (Nat.le_refl _) (by omega))]
    exact hw 0
  · rw [hg2]
    refine (hrun _).trans ?_
    have h1 : f_X9_read_0_L45e2 x a (nI Pn) (f_X9_read_0_L45e2 x a (nI Pn) (it4 (f_X9_read_0_L45e2 x a (nI Pn)) g)) 0 (nI M) (nI M) μ = f_X9_read_0_L45e2 x a (nI Pn) (it4 (f_X9_read_0_L45e2 x a (nI Pn)) g) (fc M) (nI M) (nI M + 1) μ := by
      generalize f_X9_read_0_L45e2 x a (nI Pn) (it4 (f_X9_read_0_L45e2 x a (nI Pn)) g) = kk
      unfold f_X9_read_0_L45e2
      rw [if_neg (nI_ge hlt (by omega)), if_pos rfl, bnd (hfc M (by omega))]
      dsimp only
      rw [if_neg hne]
      rfl
    refine Eq.trans h1 ?_
    unfold f_X9_read_0_L45e2
    rw [if_neg hne, hw]
    split <;> rfl
  · rw [hg2]
    refine (hrun _).trans ?_
    show f_X9_read_0_L45e2 x a (nI Pn) _ 0 (nI M) (nI M) μ = _
    subst haA
    unfold f_X9_read_0_L45e2
    rw [if_neg (nI_ge hlt (by omega)), if_pos rfl, bnd (hfc M (by omega)), h0]
    dsimp only
    rw [if_pos rfl, lm2, nI_add, al1, inb_nI (by omega) (by omega), inb_nI (by omega) (by omega), if_neg (show ¬ (true = false) by decide), if_neg (show ¬ (true = false) by decide), nI_clamp (by omega), nI_clamp (by omega), bnd (p_canTell e10 hn e11 hQ _ _), hbad]
    rfl

theorem p_wr_33 {n M A : Nat} {a f : Int32} {q w : Nat → Nat} {μ : Mem} (hM : M ≤ 13) (ha : 0 < M → a = nI A ∧ A + 2 * M ≤ 40) (hq : ∀ p, p < M → q p < 6 ∧ μ.1 34 (A + 2 * p) = nI (q p) ∧ μ.1 34 (A + 2 * p + 1) = nI (w p)) : f_X9_read_0_J121e3 a f (nI M) μ = some (nI M, pI (wm 0 9 q w μ M) 0 5 f) := by
  unfold f_X9_read_0_J121e3
  have := for_rel (body := f_X9_read_0_L124e3 a f (nI M)) nI M (fun i ν => ν = wm 0 9 q w μ i) (fun r => r = (nI M, pI (wm 0 9 q w μ M) 0 5 f)) (fun k i ν hi hP => ?_) (fun k ν hP => ?_) FU 0 μ (by omega) (fu_gt (by omega)) rfl
  · obtain ⟨r, h1, rfl⟩ := this
    exact h1
  · subst hP
    obtain ⟨rfl, hA⟩ := ha (by omega)
    obtain ⟨q6, q1, q2⟩ := hq i hi
    unfold f_X9_read_0_L124e3
    rw [if_neg (nI_ge hi (by omega)), lm2, nI_add, al1, inb_nI (by omega) (by omega), inb_nI (by omega) (by omega), nI_clamp (by omega), nI_clamp (by omega), wm_p (by omega), wm_p (by omega), q1, q2, inb_nI (by omega) (by omega), nI_clamp (by omega), al1]
    refine ⟨_, rfl, ?_⟩
    show pI (wm 0 9 q w μ i) 9 (q i) (nI (w i)) = pI (wm 0 9 q w μ i) 9 (0 + q i) (nI (w i))
    rw [Nat.zero_add]
  · subst hP
    unfold f_X9_read_0_L124e3
    rw [if_pos (nI_le (Nat.le_refl _) (by omega))]
    exact ⟨_, rfl, rfl⟩
theorem p_rd_33 {n Q M Pn A : Nat} {x a : Int32} {fc : Nat → Int32} {q w : Nat → Nat} {μ : Mem} (hn : n ≤ 3) (hQ : Q ≤ 6) (e10 : μ.1 1 0 = nI n) (e11 : μ.1 1 1 = nI Q) (hfc : ∀ p, p ≤ 13 → f_X6_faultOfPair_33 x a (nI p) μ = some (fc p, μ)) (hMP : M ≤ Pn) (hP : Pn ≤ 13) (ha : 0 < M → a = nI A ∧ A + 2 * M ≤ 40) (hg : ∀ p, p < M → fc p = 0) (hq : ∀ p, p < M → q p < Q ∧ w p < 3 ^ n ∧ μ.1 34 (A + 2 * p) = nI (q p) ∧ μ.1 34 (A + 2 * p + 1) = nI (w p)) :
    (M = Pn → it4 (f_X9_read_0_L45e3 x a (nI Pn)) FU 0 0 0 μ = some (nI M, pI (wm 0 9 q w μ M) 0 5 0)) ∧
    (M < Pn → fc M ≠ 0 → it4 (f_X9_read_0_L45e3 x a (nI Pn)) FU 0 0 0 μ = some (nI M, pI (wm 0 9 q w μ M) 0 5 (fc M))) ∧
    (M < Pn → fc M = 0 → a = nI A → A + 2 * M + 1 < 40 → (inb (μ.1 34 (A + 2 * M)) Q && inb (μ.1 34 (A + 2 * M + 1)) (3 ^ n)) = false → it4 (f_X9_read_0_L45e3 x a (nI Pn)) FU 0 0 0 μ = some (-20 - nI M, μ)) := by
  have h27 := p3 hn
  have hw : ∀ f, f_X9_read_0_J121e3 a f (nI M) μ = some (nI M, pI (wm 0 9 q w μ M) 0 5 f) := fun f => p_wr_33 (n := n) (by omega) ha (fun p hp => ⟨by have := (hq p hp).1; omega, (hq p hp).2.2.1, (hq p hp).2.2.2⟩)
  have hrun : ∀ f, it4 (f_X9_read_0_L45e3 x a (nI Pn)) (f + M) 0 (nI 0) (nI 0) μ = it4 (f_X9_read_0_L45e3 x a (nI Pn)) f 0 (nI M) (nI M) μ := fun f => by
    refine it4_run (body := f_X9_read_0_L45e3 x a (nI Pn)) M (fun _ => 0) nI (fun _ => μ) (fun k i hi => ?_) f
    obtain ⟨rfl, hA⟩ := ha (by omega)
    obtain ⟨q1, q2, q3, q4⟩ := hq i hi
    unfold f_X9_read_0_L45e3
    rw [if_neg (nI_ge (show i < Pn by omega) (by omega)), if_pos rfl, bnd (hfc i (by omega)), hg i hi]
    dsimp only
    rw [if_pos rfl, lm2, nI_add, al1, inb_nI (by omega) (by omega), inb_nI (by omega) (by omega), if_neg (show ¬ (true = false) by decide), if_neg (show ¬ (true = false) by decide), nI_clamp (by omega), nI_clamp (by omega), q3, q4, bnd (p_canTell e10 hn e11 hQ _ _), inb_nI q1 (by omega), inb_nI q2 (by omega)]
    unfold f_X9_read_0_J115e3
    dsimp only
    rw [if_neg (by decide), al1]
  have hFU : FU = (999985 - M + 1 + 1) + M + 13 := by
    have : FU = 1000000 := rfl
    omega
  have hF2 : ∃ g, FU = (g + 1 + 1) + M := ⟨1000000 - M - 2, by have : FU = 1000000 := rfl; omega⟩
  obtain ⟨g, hg2⟩ := hF2
  refine ⟨fun hMe => ?_, fun hlt hne => ?_, fun hlt h0 haA hA40 hbad => ?_⟩
  · subst hMe
    rw [hg2]
    refine (hrun _).trans ?_
    show f_X9_read_0_L45e3 x a (nI M) _ 0 (nI M) (nI M) μ = _
    unfold f_X9_read_0_L45e3
    rw [if_pos (nI_le (Nat.le_refl _) (by omega))]
    exact hw 0
  · rw [hg2]
    refine (hrun _).trans ?_
    have h1 : f_X9_read_0_L45e3 x a (nI Pn) (f_X9_read_0_L45e3 x a (nI Pn) (it4 (f_X9_read_0_L45e3 x a (nI Pn)) g)) 0 (nI M) (nI M) μ = f_X9_read_0_L45e3 x a (nI Pn) (it4 (f_X9_read_0_L45e3 x a (nI Pn)) g) (fc M) (nI M) (nI M + 1) μ := by
      generalize f_X9_read_0_L45e3 x a (nI Pn) (it4 (f_X9_read_0_L45e3 x a (nI Pn)) g) = kk
      unfold f_X9_read_0_L45e3
      rw [if_neg (nI_ge hlt (by omega)), if_pos rfl, bnd (hfc M (by omega))]
      dsimp only
      rw [if_neg hne]
      rfl
    refine Eq.trans h1 ?_
    unfold f_X9_read_0_L45e3
    rw [if_neg hne, hw]
    split <;> rfl
  · rw [hg2]
    refine (hrun _).trans ?_
    show f_X9_read_0_L45e3 x a (nI Pn) _ 0 (nI M) (nI M) μ = _
    subst haA
    unfold f_X9_read_0_L45e3
    rw [if_neg (nI_ge hlt (by omega)), if_pos rfl, bnd (hfc M (by omega)), h0]
    dsimp only
    rw [if_pos rfl, lm2, nI_add, al1, inb_nI (by omega) (by omega), inb_nI (by omega) (by omega), if_neg (show ¬ (true = false) by decide), if_neg (show ¬ (true = false) by decide), nI_clamp (by omega), nI_clamp (by omega), bnd (p_canTell e10 hn e11 hQ _ _), hbad]
    rfl
