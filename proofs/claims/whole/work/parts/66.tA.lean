/-! PURE: tokens -/
def blB (c : Nat) : Bool := decide (c = 32)
def ltB (c : Nat) : Bool := decide (97 ≤ c) && decide (c ≤ 122)
def fgB (c : Nat) : Bool := decide (48 ≤ c) && decide (c ≤ 57)
def scn (P : Nat → Bool) (T : Nat) (t : Nat → Nat) : Nat → Nat → Nat
  | 0, p => p
  | k + 1, p => if p < T ∧ P (t p) = true then scn P T t k (p + 1) else p
theorem scn_ge {P : Nat → Bool} {T : Nat} {t : Nat → Nat} : ∀ k p, p ≤ scn P T t k p
  | 0, p => Nat.le_refl _
  | k + 1, p => by
    show p ≤ (if p < T ∧ P (t p) = true then scn P T t k (p + 1) else p)
    split
    · have := scn_ge (P := P) (T := T) (t := t) k (p + 1)
      omega
    · exact Nat.le_refl _
theorem scn_le {P : Nat → Bool} {T : Nat} {t : Nat → Nat} : ∀ k p, p ≤ T → scn P T t k p ≤ T
  | 0, p, h => h
  | k + 1, p, h => by
    show (if p < T ∧ P (t p) = true then scn P T t k (p + 1) else p) ≤ T
    split
    · exact scn_le k (p + 1) (by omega)
    · exact h
theorem scn_in {P : Nat → Bool} {T : Nat} {t : Nat → Nat} : ∀ k p i, p ≤ i → i < scn P T t k p → i < T ∧ P (t i) = true
  | 0, p, i, h1, h2 => by have : i < p := h2; omega
  | k + 1, p, i, h1, h2 => by
    have h2 : i < (if p < T ∧ P (t p) = true then scn P T t k (p + 1) else p) := h2
    by_cases hc : p < T ∧ P (t p) = true
    · rw [if_pos hc] at h2
      by_cases hi : i = p
      · rw [hi]; exact hc
      · exact scn_in k (p + 1) i (by omega) h2
    · rw [if_neg hc] at h2; omega
theorem scn_end {P : Nat → Bool} {T : Nat} {t : Nat → Nat} : ∀ k p, T ≤ p + k → scn P T t k p < T → P (t (scn P T t k p)) = false
  | 0, p, h, h2 => by have : p < T := h2; omega
  | k + 1, p, h, h2 => by
    have h2' : (if p < T ∧ P (t p) = true then scn P T t k (p + 1) else p) < T := h2
    show P (t (if p < T ∧ P (t p) = true then scn P T t k (p + 1) else p)) = false
    by_cases hc : p < T ∧ P (t p) = true
    · rw [if_pos hc] at h2' ⊢
      exact scn_end k (p + 1) (by omega) h2'
    · rw [if_neg hc] at h2' ⊢
      cases hp : P (t p) with
      | false => rfl
      | true => exact absurd ⟨h2', hp⟩ hc
def sc (P : Nat → Bool) (T : Nat) (t : Nat → Nat) (p : Nat) : Nat := scn P T t (T + 1) p
theorem sc_gt {P : Nat → Bool} {T : Nat} {t : Nat → Nat} {p : Nat} (h1 : p < T) (h2 : P (t p) = true) : p < sc P T t p := by
  show p < (if p < T ∧ P (t p) = true then scn P T t T (p + 1) else p)
  rw [if_pos ⟨h1, h2⟩]
  exact scn_ge T (p + 1)
def tA (T : Nat) (t : Nat → Nat) (p : Nat) : Nat := sc blB T t p
def tK (T : Nat) (t : Nat → Nat) (p : Nat) : Nat := if T ≤ tA T t p then 0 else if ltB (t (tA T t p)) = true then 1 else if fgB (t (tA T t p)) = true then 2 else if t (tA T t p) = 59 then 3 else 4
def tE (T : Nat) (t : Nat → Nat) (p : Nat) : Nat := if T ≤ tA T t p then tA T t p else if ltB (t (tA T t p)) = true then sc ltB T t (tA T t p) else if fgB (t (tA T t p)) = true then sc fgB T t (tA T t p) else tA T t p + 1
def vlB (t : Nat → Nat) (a i : Nat) : Nat := if i = 0 then 0 else if i = 1 then t a - 48 else 10 * (t a - 48) + (t (a + 1) - 48)
def tV (T : Nat) (t : Nat → Nat) (p : Nat) : Nat := vlB t (tA T t p) (tE T t p - tA T t p)
def tO (T : Nat) (t : Nat → Nat) (p : Nat) : Bool := !decide (tK T t p = 4) && !(decide (tK T t p = 2) && decide (2 < tE T t p - tA T t p))
theorem tA_le {T : Nat} {t : Nat → Nat} {p : Nat} (h : p ≤ T) : p ≤ tA T t p ∧ tA T t p ≤ T := ⟨scn_ge _ _, scn_le _ _ h⟩
theorem tE_le {T : Nat} {t : Nat → Nat} {p : Nat} (h : p ≤ T) : tA T t p ≤ tE T t p ∧ tE T t p ≤ T := by
  obtain ⟨h1, h2⟩ := tA_le (t := t) h
  unfold tE
  by_cases c1 : T ≤ tA T t p
  · rw [if_pos c1]; omega
  · rw [if_neg c1]
    by_cases c2 : ltB (t (tA T t p)) = true
    · rw [if_pos c2]; exact ⟨scn_ge _ _, scn_le _ _ h2⟩
    · rw [if_neg c2]
      by_cases c3 : fgB (t (tA T t p)) = true
      · rw [if_pos c3]; exact ⟨scn_ge _ _, scn_le _ _ h2⟩
      · rw [if_neg c3]; omega
theorem tE_gt {T : Nat} {t : Nat → Nat} {p : Nat} (h : p ≤ T) (hk : tK T t p ≠ 0) : tA T t p < tE T t p ∧ tA T t p < T := by
  obtain ⟨h1, h2⟩ := tA_le (t := t) h
  unfold tK at hk
  unfold tE
  by_cases c1 : T ≤ tA T t p
  · rw [if_pos c1] at hk; exact absurd rfl hk
  · rw [if_neg c1]
    by_cases c2 : ltB (t (tA T t p)) = true
    · rw [if_pos c2]; exact ⟨sc_gt (by omega) c2, by omega⟩
    · rw [if_neg c2]
      by_cases c3 : fgB (t (tA T t p)) = true
      · rw [if_pos c3]; exact ⟨sc_gt (by omega) c3, by omega⟩
      · rw [if_neg c3]; omega
theorem tK_le (T : Nat) (t : Nat → Nat) (p : Nat) : tK T t p ≤ 4 := by
  unfold tK
  split
  · omega
  · split
    · omega
    · split
      · omega
      · split <;> omega
theorem vlB_le {t : Nat → Nat} {a : Nat} (h1 : t a ≤ 57) (h2 : t (a + 1) ≤ 57) (i : Nat) : vlB t a i ≤ 99 := by
  unfold vlB
  split
  · omega
  · split <;> omega
theorem for_one {ρ : Type} {body : (Mem → Option ρ) → Mem → Option ρ} (N : Nat) (P : Nat → Mem → Prop) (R : ρ → Prop) (hstep : ∀ k i μ, i < N → P i μ → ∃ μ', body k μ = k μ' ∧ P (i + 1) μ') (hexit : ∀ k μ, P N μ → ∃ r, body k μ = some r ∧ R r) : ∀ n i μ, i ≤ N → N < i + n → P i μ → ∃ r, it1 body n μ = some r ∧ R r := by
  intro n
  induction n with
  | zero =>
    intro i μ h1 h2
    omega
  | succ n ih =>
    intro i μ h1 h2 hP
    show ∃ r, body (it1 body n) μ = some r ∧ R r
    by_cases hi : i = N
    · subst hi
      exact hexit _ μ hP
    · obtain ⟨μ', h3, h4⟩ := hstep (it1 body n) i μ (by omega) hP
      rw [h3]
      exact ih (i + 1) μ' (by omega) (by omega) h4
/-! a byte in the class -/
def cb (c : Nat) : Int32 := (nI c).toInt8.toInt32
theorem cb_bl : ∀ c, c < 256 → (cb c = 32 ↔ blB c = true) := by decide +kernel
theorem cb_se : ∀ c, c < 256 → (cb c = 59 ↔ c = 59) := by decide +kernel
theorem cb_lt : ∀ c, c < 256 → (if cb c < 97 then (0 : Int32) else if (122 : Int32) < cb c then 0 else 1) = b2i (ltB c) := by decide +kernel
theorem cb_fg : ∀ c, c < 256 → (if cb c < 48 then (0 : Int32) else if (57 : Int32) < cb c then 0 else 1) = b2i (fgB c) := by decide +kernel
theorem cb_sm : ∀ c, c < 128 → cb c = nI c := by decide +kernel
theorem p_isLetter {c : Nat} (h : c < 256) (μ : Mem) : f_X5_isLetter (cb c) μ = some (b2i (ltB c), μ) := by
  rw [← cb_lt c h]
  unfold f_X5_isLetter
  split
  · rfl
  · split <;> rfl
theorem p_isFigure {c : Nat} (h : c < 256) (μ : Mem) : f_X5_isFigure (cb c) μ = some (b2i (fgB c), μ) := by
  rw [← cb_fg c h]
  unfold f_X5_isFigure
  split
  · rfl
  · split <;> rfl
theorem fgB_rng {c : Nat} (h : fgB c = true) : 48 ≤ c ∧ c ≤ 57 := by
  unfold fgB at h
  rw [Bool.and_eq_true, decide_eq_true_eq, decide_eq_true_eq] at h
  exact h
def TPc (T : Nat) (t : Nat → Nat) (μ : Mem) : Prop := T ≤ 320 ∧ μ.1 35 1 = nI T ∧ ∀ i, i < T → t i < 256 ∧ μ.1 36 i = cb (t i)
def nxF (μ ν : Mem) : Prop := ∀ q k, ¬ (q = 35 ∧ (k = 2 ∨ k = 3 ∨ (7 ≤ k ∧ k ≤ 10))) → ν.1 q k = μ.1 q k
theorem nxF.rf (μ : Mem) : nxF μ μ := fun _ _ _ => rfl
theorem nxF.w {μ ν : Mem} {k : Nat} {v : Int32} (h : nxF μ ν) (hk : k = 2 ∨ k = 3 ∨ (7 ≤ k ∧ k ≤ 10)) : nxF μ (pI ν 35 k v) := by
  intro q j hq
  rw [← h q j hq]
  by_cases h35 : q = 35
  · subst h35
    exact rd_i (by omega)
  · exact rd_p h35
theorem TPc.fr {T : Nat} {t : Nat → Nat} {μ ν : Mem} (h : TPc T t μ) (hs : nxF μ ν) : TPc T t ν := ⟨h.1, by rw [hs 35 1 (by omega)]; exact h.2.1, fun i hi => by rw [hs 36 i (by omega)]; exact h.2.2 i hi⟩
def NXc (T : Nat) (t : Nat → Nat) (p : Nat) (μ ν : Mem) : Prop := nxF μ ν ∧ (tO T t p = true → ν.1 35 2 = μ.1 35 2 ∧ ν.1 35 3 = μ.1 35 3 ∧ ν.1 35 7 = nI (tK T t p) ∧ ν.1 35 8 = nI (tA T t p) ∧ ν.1 35 10 = nI (tE T t p) ∧ (tK T t p = 2 → ν.1 35 9 = nI (tV T t p))) ∧ (tO T t p = false → ν.1 35 2 = 1 ∧ ν.1 35 3 = nI (tA T t p))
theorem pI_35 {μ : Mem} {k j : Nat} {v : Int32} (h : j ≠ k) : (pI μ 35 k v).1 35 j = μ.1 35 j := rd_i h
theorem p_letters {T a : Nat} {t : Nat → Nat} {μ : Mem} (hT : TPc T t μ) (ha : a < T) (h10 : μ.1 35 10 = nI a) : ∃ μ', f_X5_letters_35 μ = some μ' ∧ nxF μ μ' ∧ (∀ k, k = 2 ∨ k = 3 ∨ k = 8 → μ'.1 35 k = μ.1 35 k) ∧ μ'.1 35 7 = 1 ∧ μ'.1 35 10 = nI (sc ltB T t a) := by
  have T3 := hT.1
  have g1 : a ≤ sc ltB T t a := scn_ge _ _
  have g2 : sc ltB T t a ≤ T := scn_le _ _ (by omega)
  unfold f_X5_letters_35
  refine for_one (ρ := Mem) (body := f_X5_letters_35_L5) (sc ltB T t a - a) (fun i ν => nxF μ ν ∧ (∀ k, k = 2 ∨ k = 3 ∨ k = 8 → ν.1 35 k = μ.1 35 k) ∧ ν.1 35 7 = 1 ∧ ν.1 35 10 = nI (a + i)) (fun ν => nxF μ ν ∧ (∀ k, k = 2 ∨ k = 3 ∨ k = 8 → ν.1 35 k = μ.1 35 k) ∧ ν.1 35 7 = 1 ∧ ν.1 35 10 = nI (sc ltB T t a)) (fun k i ν hi hP => ?_) (fun k ν hP => ?_) FU 0 _ (by omega) (fu_gt (by omega)) ⟨(nxF.rf μ).w (by omega), fun k hk => pI_35 (by omega), rd_s, by rw [pI_35 (by omega)]; exact h10⟩
  · obtain ⟨q1, q2, q3, q4⟩ := hP
    obtain ⟨-, e1, e2⟩ := hT.fr q1
    obtain ⟨i1, i2⟩ := scn_in (P := ltB) (T := T) (t := t) (T + 1) a (a + i) (by omega) (show a + i < sc ltB T t a by omega)
    obtain ⟨b1, b2⟩ := e2 (a + i) i1
    unfold f_X5_letters_35_L5
    rw [e1, q4, if_neg (nI_ge i1 (by omega)), inb_nI (by omega) (by omega), if_neg (show ¬ (true = false) by decide), nI_clamp (by omega), b2, bnd (p_isLetter b1 ν), i2]
    dsimp only
    rw [if_neg (show ¬ b2i true = 0 by decide), q4, al1]
    exact ⟨_, rfl, q1.w (by omega), fun k hk => by rw [pI_35 (by omega)]; exact q2 k hk, by rw [pI_35 (by omega)]; exact q3, by rw [rd_s]; rfl⟩
  · obtain ⟨q1, q2, q3, q4⟩ := hP
    obtain ⟨-, e1, e2⟩ := hT.fr q1
    rw [show a + (sc ltB T t a - a) = sc ltB T t a by omega] at q4
    unfold f_X5_letters_35_L5
    rw [e1, q4]
    by_cases hc : T ≤ sc ltB T t a
    · rw [if_pos (nI_le hc (by omega))]
      exact ⟨ν, rfl, q1, q2, q3, q4⟩
    · obtain ⟨b1, b2⟩ := e2 (sc ltB T t a) (by omega)
      have hs := scn_end (P := ltB) (T := T) (t := t) (T + 1) a (by omega) (show sc ltB T t a < T by omega)
      have hs : ltB (t (sc ltB T t a)) = false := hs
      rw [if_neg (nI_ge (by omega) (by omega)), inb_nI (by omega) (by omega), if_neg (show ¬ (true = false) by decide), nI_clamp (by omega), b2, bnd (p_isLetter b1 ν), hs]
      dsimp only
      rw [if_pos (show b2i false = 0 from rfl)]
      exact ⟨ν, rfl, q1, q2, q3, q4⟩
theorem vl_step {t : Nat → Nat} {a i : Nat} (hi : i < 2) (h1 : 48 ≤ t a ∧ t a ≤ 57) (h2 : 48 ≤ t (a + i) ∧ t (a + i) ≤ 57) : vlB t a i * 10 + t (a + i) - 48 = vlB t a (i + 1) := by
  unfold vlB
  rcases (show i = 0 ∨ i = 1 by omega) with rfl | rfl
  · rw [if_pos rfl, if_neg (by omega), if_pos rfl, Nat.add_zero]
    omega
  · rw [if_neg (by omega), if_pos rfl, if_neg (by omega), if_neg (by omega)]
    omega
theorem p_figures {T a : Nat} {t : Nat → Nat} {μ : Mem} (hT : TPc T t μ) (ha : a < T) (hfa : fgB (t a) = true) (h10 : μ.1 35 10 = nI a) (h8 : μ.1 35 8 = nI a) : ∃ μ', f_X5_figures_35 μ = some (b2i (!decide (2 < sc fgB T t a - a)), μ') ∧ nxF μ μ' ∧ (¬ 2 < sc fgB T t a - a → (∀ k, k = 2 ∨ k = 3 ∨ k = 8 → μ'.1 35 k = μ.1 35 k) ∧ μ'.1 35 7 = 2 ∧ μ'.1 35 10 = nI (sc fgB T t a) ∧ μ'.1 35 9 = nI (vlB t a (sc fgB T t a - a))) ∧ (2 < sc fgB T t a - a → μ'.1 35 2 = 1 ∧ μ'.1 35 3 = nI a) := by
  have T3 := hT.1
  have g1 : a ≤ sc fgB T t a := scn_ge _ _
  have g2 : sc fgB T t a ≤ T := scn_le _ _ (by omega)
  have hra := fgB_rng hfa
  unfold f_X5_figures_35
  have hfin : ∀ ν, (nxF μ ν ∧ (∀ k, k = 2 ∨ k = 3 ∨ k = 8 → ν.1 35 k = μ.1 35 k) ∧ ν.1 35 7 = 2 ∧ ν.1 35 10 = nI (sc fgB T t a) ∧ (sc fgB T t a - a ≤ 2 → ν.1 35 9 = nI (vlB t a (sc fgB T t a - a)))) → ∃ r, f_X5_figures_35_J73 ν = some r ∧ (r.1 = b2i (!decide (2 < sc fgB T t a - a)) ∧ nxF μ r.2 ∧ (¬ 2 < sc fgB T t a - a → (∀ k, k = 2 ∨ k = 3 ∨ k = 8 → r.2.1 35 k = μ.1 35 k) ∧ r.2.1 35 7 = 2 ∧ r.2.1 35 10 = nI (sc fgB T t a) ∧ r.2.1 35 9 = nI (vlB t a (sc fgB T t a - a))) ∧ (2 < sc fgB T t a - a → r.2.1 35 2 = 1 ∧ r.2.1 35 3 = nI a)) := by
    intro ν hν
    obtain ⟨q1, q2, q3, q4, q5⟩ := hν
    have e8 : ν.1 35 8 = nI a := by rw [q2 8 (by omega)]; exact h8
    unfold f_X5_figures_35_J73
    rw [q4, e8, pk_sub g1]
    by_cases hc : 2 < sc fgB T t a - a
    · rw [if_neg (show ¬ nI (sc fgB T t a - a) ≤ (2 : Int32) from nI_ge (a := 2) hc (by omega)), decide_eq_true hc]
      refine ⟨_, rfl, rfl, (q1.w (by omega)).w (by omega), fun h => absurd hc h, fun _ => ⟨?_, ?_⟩⟩
      · show (pI (pI ν 35 2 1) 35 3 (nI a)).1 35 2 = 1
        rw [pI_35 (by omega), rd_s]
      · exact rd_s
    · rw [if_pos (show nI (sc fgB T t a - a) ≤ (2 : Int32) from nI_le (b := 2) (by omega) (by omega)), decide_eq_false hc]
      exact ⟨_, rfl, rfl, q1, fun _ => ⟨q2, q3, q4, q5 (by omega)⟩, fun h => absurd h hc⟩
  have := for_one (body := f_X5_figures_35_L10) (sc fgB T t a - a) (fun i ν => nxF μ ν ∧ (∀ k, k = 2 ∨ k = 3 ∨ k = 8 → ν.1 35 k = μ.1 35 k) ∧ ν.1 35 7 = 2 ∧ ν.1 35 10 = nI (a + i) ∧ (i ≤ 2 → ν.1 35 9 = nI (vlB t a i))) (fun r => r.1 = b2i (!decide (2 < sc fgB T t a - a)) ∧ nxF μ r.2 ∧ (¬ 2 < sc fgB T t a - a → (∀ k, k = 2 ∨ k = 3 ∨ k = 8 → r.2.1 35 k = μ.1 35 k) ∧ r.2.1 35 7 = 2 ∧ r.2.1 35 10 = nI (sc fgB T t a) ∧ r.2.1 35 9 = nI (vlB t a (sc fgB T t a - a))) ∧ (2 < sc fgB T t a - a → r.2.1 35 2 = 1 ∧ r.2.1 35 3 = nI a)) (fun k i ν hi hP => by
    obtain ⟨q1, q2, q3, q4, q5⟩ := hP
    obtain ⟨-, e1, e2⟩ := hT.fr q1
    obtain ⟨i1, i2⟩ := scn_in (P := fgB) (T := T) (t := t) (T + 1) a (a + i) (by omega) (show a + i < sc fgB T t a by omega)
    obtain ⟨b1, b2⟩ := e2 (a + i) i1
    have hri := fgB_rng i2
    unfold f_X5_figures_35_L10
    rw [e1, q4, if_neg (nI_ge i1 (by omega)), inb_nI (by omega) (by omega), if_neg (show ¬ (true = false) by decide), nI_clamp (by omega), b2, bnd (p_isFigure b1 ν), i2]
    dsimp only
    rw [if_neg (show ¬ b2i true = 0 by decide), q4, inb_nI (by omega) (by omega), if_neg (show ¬ (true = false) by decide), nI_clamp (by omega), b2, al1, cb_sm _ (by omega)]
    refine ⟨_, rfl, (q1.w (by omega)).w (by omega), fun k hk => by rw [pI_35 (by omega), pI_35 (by omega)]; exact q2 k hk, by rw [pI_35 (by omega), pI_35 (by omega)]; exact q3, by rw [rd_s]; rfl, fun hi2 => ?_⟩
    rw [pI_35 (by omega), rd_s, q5 (by omega), show (10 : Int32) = nI 10 from rfl, pk_mul, nI_add, show (48 : Int32) = nI 48 from rfl, pk_sub (by omega), vl_step (by omega) hra hri]) (fun k ν hP => by
    obtain ⟨q1, q2, q3, q4, q5⟩ := hP
    obtain ⟨-, e1, e2⟩ := hT.fr q1
    rw [show a + (sc fgB T t a - a) = sc fgB T t a by omega] at q4
    have hf := hfin ν ⟨q1, q2, q3, q4, q5⟩
    unfold f_X5_figures_35_L10
    rw [e1, q4]
    by_cases hc : T ≤ sc fgB T t a
    · rw [if_pos (nI_le hc (by omega))]
      exact hf
    · obtain ⟨b1, b2⟩ := e2 (sc fgB T t a) (by omega)
      have hs := scn_end (P := fgB) (T := T) (t := t) (T + 1) a (by omega) (show sc fgB T t a < T by omega)
      have hs : fgB (t (sc fgB T t a)) = false := hs
      rw [if_neg (nI_ge (by omega) (by omega)), inb_nI (by omega) (by omega), if_neg (show ¬ (true = false) by decide), nI_clamp (by omega), b2, bnd (p_isFigure b1 ν), hs]
      dsimp only
      rw [if_pos (show b2i false = 0 from rfl)]
      exact hf) FU 0 (pI (pI μ 35 7 2) 35 9 0) (by omega) (fu_gt (by omega)) ⟨((nxF.rf μ).w (by omega)).w (by omega), fun k hk => by rw [pI_35 (by omega), pI_35 (by omega)], by rw [pI_35 (by omega), rd_s], by rw [pI_35 (by omega), pI_35 (by omega)]; exact h10, fun _ => rd_s⟩
  obtain ⟨r, r1, r2, r3⟩ := this
  exact ⟨r.2, by rw [← r2]; exact r1, r3⟩
theorem p_next {T p : Nat} {t : Nat → Nat} {μ : Mem} (hT : TPc T t μ) (hp : p ≤ T) (h10 : μ.1 35 10 = nI p) : ∃ μ', f_X5_next_35 μ = some (b2i (tO T t p), μ') ∧ NXc T t p μ μ' := by
  have T3 := hT.1
  obtain ⟨a1, a2⟩ := tA_le (t := t) hp
  unfold f_X5_next_35
  have hJ : ∀ ν, nxF μ ν → (∀ k, k = 2 ∨ k = 3 → ν.1 35 k = μ.1 35 k) → ν.1 35 10 = nI (tA T t p) → ∃ r, f_X5_next_35_J38 ν = some r ∧ (r.1 = b2i (tO T t p) ∧ NXc T t p μ r.2) := by
    intro ν q1 q2 q4
    have hTν := hT.fr q1
    have e1 := hTν.2.1
    have e2 := hTν.2.2
    unfold f_X5_next_35_J38
    rw [e1, q4]
    by_cases c1 : T ≤ tA T t p
    · have hK : tK T t p = 0 := if_pos c1
      have hE : tE T t p = tA T t p := if_pos c1
      have hO : tO T t p = true := by unfold tO; rw [hK]; rfl
      rw [if_neg (nI_nlt c1 (by omega)), hO]
      refine ⟨_, rfl, rfl, (q1.w (by omega)).w (by omega), fun _ => ⟨?_, ?_, ?_, ?_, ?_, ?_⟩, fun h => by rw [hO] at h; cases h⟩
      · rw [pI_35 (by omega), pI_35 (by omega)]; exact q2 2 (by omega)
      · rw [pI_35 (by omega), pI_35 (by omega)]; exact q2 3 (by omega)
      · rw [rd_s, hK]; rfl
      · rw [pI_35 (by omega), rd_s]
      · rw [pI_35 (by omega), pI_35 (by omega), hE]; exact q4
      · rw [hK]; intro h; cases h
    · obtain ⟨b1, b2⟩ := e2 (tA T t p) (by omega)
      have hT8 : TPc T t (pI ν 35 8 (nI (tA T t p))) := hTν.fr ((nxF.rf ν).w (by omega))
      have e10 : (pI ν 35 8 (nI (tA T t p))).1 35 10 = nI (tA T t p) := by rw [pI_35 (by omega)]; exact q4
      have e8 : (pI ν 35 8 (nI (tA T t p))).1 35 8 = nI (tA T t p) := rd_s
      have q1' : nxF μ (pI ν 35 8 (nI (tA T t p))) := q1.w (by omega)
      have q2' : ∀ k, k = 2 ∨ k = 3 → (pI ν 35 8 (nI (tA T t p))).1 35 k = μ.1 35 k := fun k hk => by rw [pI_35 (by omega)]; exact q2 k hk
      have b2' : (pI ν 35 8 (nI (tA T t p))).1 36 (tA T t p) = cb (t (tA T t p)) := by rw [rd_p (by omega)]; exact b2
      generalize pI ν 35 8 (nI (tA T t p)) = ω at hT8 e10 e8 q1' q2' b2'
      rw [if_pos (nI_lt (by omega) (by omega)), inb_nI (by omega) (by omega), if_neg (show ¬ (true = false) by decide), nI_clamp (by omega), b2, bnd (p_isLetter b1 ω)]
      dsimp only
      cases c2 : ltB (t (tA T t p)) with
      | true =>
        have hK : tK T t p = 1 := by unfold tK; rw [if_neg c1, if_pos c2]
        have hE : tE T t p = sc ltB T t (tA T t p) := by unfold tE; rw [if_neg c1, if_pos c2]
        have hO : tO T t p = true := by unfold tO; rw [hK]; rfl
        obtain ⟨ξ, l1, l2, l3, l4, l5⟩ := p_letters hT8 (show tA T t p < T by omega) e10
        rw [if_neg (show ¬ b2i true = 0 by decide), bnd l1, hO]
        refine ⟨_, rfl, rfl, fun q k hq => (l2 q k hq).trans (q1' q k hq), fun _ => ⟨?_, ?_, ?_, ?_, ?_, ?_⟩, fun h => by rw [hO] at h; cases h⟩
        · rw [l3 2 (by omega)]; exact q2' 2 (by omega)
        · rw [l3 3 (by omega)]; exact q2' 3 (by omega)
        · rw [l4, hK]; rfl
        · rw [l3 8 (by omega)]; exact e8
        · rw [l5, hE]
        · rw [hK]; intro h; cases h
      | false =>
        rw [if_pos (show b2i false = 0 from rfl), e10, inb_nI (by omega) (by omega), if_neg (show ¬ (true = false) by decide), nI_clamp (by omega), b2', bnd (p_isFigure b1 ω)]
        dsimp only
        cases c3 : fgB (t (tA T t p)) with
        | true =>
          have hK : tK T t p = 2 := by unfold tK; rw [if_neg c1, if_neg (by rw [c2]; decide), if_pos c3]
          have hE : tE T t p = sc fgB T t (tA T t p) := by unfold tE; rw [if_neg c1, if_neg (by rw [c2]; decide), if_pos c3]
          have hO : tO T t p = !decide (2 < sc fgB T t (tA T t p) - tA T t p) := by unfold tO; rw [hK, hE]; simp
          obtain ⟨ξ, l1, l2, l3, l4⟩ := p_figures hT8 (show tA T t p < T by omega) c3 e10 e8
          rw [if_neg (show ¬ b2i true = 0 by decide), bnd l1, hO]
          dsimp only
          rw [b2i_zb, if_neg (show ¬ (true = false) by decide)]
          refine ⟨_, rfl, rfl, fun q k hq => (l2 q k hq).trans (q1' q k hq), fun ho => ?_, fun ho => ?_⟩
          · rw [hO] at ho
            have hlt : ¬ 2 < sc fgB T t (tA T t p) - tA T t p := fun hh => by rw [decide_eq_true hh] at ho; cases ho
            obtain ⟨m1, m2, m3, m4⟩ := l3 hlt
            refine ⟨?_, ?_, ?_, ?_, ?_, fun _ => ?_⟩
            · rw [m1 2 (by omega)]; exact q2' 2 (by omega)
            · rw [m1 3 (by omega)]; exact q2' 3 (by omega)
            · rw [m2, hK]; rfl
            · rw [m1 8 (by omega)]; exact e8
            · rw [m3, hE]
            · unfold tV; rw [hE]; exact m4
          · rw [hO] at ho
            have hlt : 2 < sc fgB T t (tA T t p) - tA T t p := by
              by_cases hh : 2 < sc fgB T t (tA T t p) - tA T t p
              · exact hh
              · rw [decide_eq_false hh] at ho; cases ho
            exact l4 hlt
        | false =>
          rw [if_pos (show b2i false = 0 from rfl), e10, inb_nI (by omega) (by omega), if_neg (show ¬ (true = false) by decide), nI_clamp (by omega), b2']
          by_cases c4 : t (tA T t p) = 59
          · have hK : tK T t p = 3 := by unfold tK; rw [if_neg c1, if_neg (by rw [c2]; decide), if_neg (by rw [c3]; decide), if_pos c4]
            have hE : tE T t p = tA T t p + 1 := by unfold tE; rw [if_neg c1, if_neg (by rw [c2]; decide), if_neg (by rw [c3]; decide)]
            have hO : tO T t p = true := by unfold tO; rw [hK]; rfl
            rw [if_pos ((cb_se _ b1).mpr c4), hO, al1]
            refine ⟨_, rfl, rfl, (q1'.w (by omega)).w (by omega), fun _ => ⟨?_, ?_, ?_, ?_, ?_, ?_⟩, fun h => by rw [hO] at h; cases h⟩
            · rw [pI_35 (by omega), pI_35 (by omega)]; exact q2' 2 (by omega)
            · rw [pI_35 (by omega), pI_35 (by omega)]; exact q2' 3 (by omega)
            · rw [pI_35 (by omega), rd_s, hK]; rfl
            · rw [pI_35 (by omega), pI_35 (by omega)]; exact e8
            · rw [rd_s, hE]
            · rw [hK]; intro h; cases h
          · have hK : tK T t p = 4 := by unfold tK; rw [if_neg c1, if_neg (by rw [c2]; decide), if_neg (by rw [c3]; decide), if_neg c4]
            have hO : tO T t p = false := by unfold tO; rw [hK]; rfl
            rw [if_neg (fun h => c4 ((cb_se _ b1).mp h)), hO, e8]
            refine ⟨_, rfl, rfl, (q1'.w (by omega)).w (by omega), (fun h => by rw [hO] at h; cases h), fun _ => ⟨?_, ?_⟩⟩
            · show (pI (pI ω 35 2 1) 35 3 (nI (tA T t p))).1 35 2 = 1
              rw [pI_35 (by omega), rd_s]
            · exact rd_s
  have := for_one (body := f_X5_next_35_L0) (tA T t p - p) (fun i ν => nxF μ ν ∧ (∀ k, k = 2 ∨ k = 3 → ν.1 35 k = μ.1 35 k) ∧ ν.1 35 10 = nI (p + i)) (fun r => r.1 = b2i (tO T t p) ∧ NXc T t p μ r.2) (fun k i ν hi hP => by
    obtain ⟨q1, q2, q4⟩ := hP
    obtain ⟨-, e1, e2⟩ := hT.fr q1
    obtain ⟨i1, i2⟩ := scn_in (P := blB) (T := T) (t := t) (T + 1) p (p + i) (by omega) (show p + i < tA T t p by omega)
    obtain ⟨b1, b2⟩ := e2 (p + i) i1
    unfold f_X5_next_35_L0
    rw [e1, q4, if_neg (nI_ge i1 (by omega)), inb_nI (by omega) (by omega), if_neg (show ¬ (true = false) by decide), nI_clamp (by omega), b2, if_pos ((cb_bl _ b1).mpr i2), al1]
    exact ⟨_, rfl, q1.w (by omega), fun k hk => by rw [pI_35 (by omega)]; exact q2 k hk, by rw [rd_s]; rfl⟩) (fun k ν hP => by
    obtain ⟨q1, q2, q4⟩ := hP
    obtain ⟨-, e1, e2⟩ := hT.fr q1
    rw [show p + (tA T t p - p) = tA T t p by omega] at q4
    have hf := hJ ν q1 q2 q4
    unfold f_X5_next_35_L0
    rw [e1, q4]
    by_cases hc : T ≤ tA T t p
    · rw [if_pos (nI_le hc (by omega))]
      exact hf
    · obtain ⟨b1, b2⟩ := e2 (tA T t p) (by omega)
      have hs := scn_end (P := blB) (T := T) (t := t) (T + 1) p (by omega) (show tA T t p < T by omega)
      have hs : blB (t (tA T t p)) = false := hs
      rw [if_neg (nI_ge (by omega) (by omega)), inb_nI (by omega) (by omega), if_neg (show ¬ (true = false) by decide), nI_clamp (by omega), b2, if_neg (fun h => by rw [(cb_bl _ b1).mp h] at hs; cases hs)]
      exact hf) FU 0 μ (by omega) (fu_gt (by omega)) ⟨nxF.rf μ, fun _ _ => rfl, h10⟩
  obtain ⟨r, r1, r2, r3⟩ := this
  exact ⟨r.2, by rw [← r2]; exact r1, r3⟩
/-! the model's next token -/
def TPm (T : Nat) (t : Nat → Nat) (μ : Mem) : Prop := T ≤ 320 ∧ μ.1 62 19 = nI T ∧ ∀ i, i < T → t i < 256 ∧ μ.1 70 i = nI (t i)
def nyF (μ ν : Mem) : Prop := ∀ q k, ¬ (q = 62 ∧ 20 ≤ k ∧ k ≤ 25) → ν.1 q k = μ.1 q k
theorem nyF.rf (μ : Mem) : nyF μ μ := fun _ _ _ => rfl
theorem nyF.w {μ ν : Mem} {k : Nat} {v : Int32} (h : nyF μ ν) (hk : 20 ≤ k ∧ k ≤ 25) : nyF μ (pI ν 62 k v) := by
  intro q j hq
  rw [← h q j hq]
  by_cases h62 : q = 62
  · subst h62
    exact rd_i (by omega)
  · exact rd_p h62
theorem TPm.fr {T : Nat} {t : Nat → Nat} {μ ν : Mem} (h : TPm T t μ) (hs : nyF μ ν) : TPm T t ν := ⟨h.1, by rw [hs 62 19 (by omega)]; exact h.2.1, fun i hi => by rw [hs 70 i (by omega)]; exact h.2.2 i hi⟩
def MT (T : Nat) (t : Nat → Nat) (p : Nat) (ν : Mem) : Prop := (tO T t p = true → ν.1 62 24 = 0 ∧ ν.1 62 21 = nI (tA T t p) ∧ ν.1 62 22 = nI (tK T t p) ∧ ν.1 62 20 = nI (tE T t p) ∧ (tK T t p = 2 → ν.1 62 23 = nI (tV T t p))) ∧ (tO T t p = false → ν.1 62 24 = 1 ∧ ν.1 62 25 = nI (tA T t p))
theorem pI_62 {μ : Mem} {k j : Nat} {v : Int32} (h : j ≠ k) : (pI μ 62 k v).1 62 j = μ.1 62 j := rd_i h
theorem m_look {T p : Nat} {t : Nat → Nat} {μ : Mem} (h : TPm T t μ) (hp : p < 1000) : f_X10_look_62 (nI p) μ = some (if p < T then nI (t p) else -1, μ) := by
  obtain ⟨h1, h2, h3⟩ := h
  unfold f_X10_look_62
  rw [h2]
  by_cases hc : p < T
  · rw [if_neg (nI_ge hc (by omega)), inb_nI (by omega) (by omega), if_neg (show ¬ (true = false) by decide), nI_clamp (by omega), (h3 p hc).2, if_pos hc]
  · rw [if_pos (nI_le (by omega) (by omega)), if_neg hc]
theorem mi_lt : ∀ c, c < 256 → inL (nI c).toInt64 97 122 = ltB c := by decide +kernel
theorem mi_fg : ∀ c, c < 256 → inL (nI c).toInt64 48 57 = fgB c := by decide +kernel
theorem mi_bl : ∀ c, c < 256 → (nI c = 32 ↔ blB c = true) := by decide +kernel
theorem mi_se : ∀ c, c < 256 → (nI c = 59 ↔ c = 59) := by decide +kernel
theorem m_letters {T a : Nat} {t : Nat → Nat} {μ : Mem} (hT : TPm T t μ) (ha : a < T) (h20 : μ.1 62 20 = nI a) : ∃ μ', it1 f_X10_next_62_L82 FU μ = some μ' ∧ (∀ q k, ¬ (q = 62 ∧ k = 20) → μ'.1 q k = μ.1 q k) ∧ μ'.1 62 20 = nI (sc ltB T t a) := by
  have T3 := hT.1
  have g1 : a ≤ sc ltB T t a := scn_ge _ _
  have g2 : sc ltB T t a ≤ T := scn_le _ _ (by omega)
  have hfr : ∀ ν, (∀ q k, ¬ (q = 62 ∧ k = 20) → ν.1 q k = μ.1 q k) → TPm T t ν := fun ν h => hT.fr (fun q k hq => h q k (by omega))
  refine for_one (ρ := Mem) (body := f_X10_next_62_L82) (sc ltB T t a - a) (fun i ν => (∀ q k, ¬ (q = 62 ∧ k = 20) → ν.1 q k = μ.1 q k) ∧ ν.1 62 20 = nI (a + i)) (fun ν => (∀ q k, ¬ (q = 62 ∧ k = 20) → ν.1 q k = μ.1 q k) ∧ ν.1 62 20 = nI (sc ltB T t a)) (fun k i ν hi hP => ?_) (fun k ν hP => ?_) FU 0 _ (by omega) (fu_gt (by omega)) ⟨fun _ _ _ => rfl, h20⟩
  · obtain ⟨q1, q4⟩ := hP
    obtain ⟨i1, i2⟩ := scn_in (P := ltB) (T := T) (t := t) (T + 1) a (a + i) (by omega) (show a + i < sc ltB T t a by omega)
    unfold f_X10_next_62_L82
    rw [q4, bnd (m_look (hfr ν q1) (by omega)), if_pos i1]
    dsimp only
    rw [bnd (p_in _ _ _ ν), mi_lt _ (hT.2.2 _ i1).1, i2]
    dsimp only
    rw [if_neg (show ¬ b2i true = 0 by decide), q4, al1]
    refine ⟨_, rfl, fun q k hq => ?_, by rw [rd_s]; rfl⟩
    rw [← q1 q k hq]
    by_cases h62 : q = 62
    · subst h62; exact rd_i (by omega)
    · exact rd_p h62
  · obtain ⟨q1, q4⟩ := hP
    rw [show a + (sc ltB T t a - a) = sc ltB T t a by omega] at q4
    unfold f_X10_next_62_L82
    rw [q4, bnd (m_look (hfr ν q1) (by omega))]
    dsimp only
    rw [bnd (p_in _ _ _ ν)]
    by_cases hc : sc ltB T t a < T
    · have hs := scn_end (P := ltB) (T := T) (t := t) (T + 1) a (by omega) hc
      have hs : ltB (t (sc ltB T t a)) = false := hs
      rw [if_pos hc, mi_lt _ (hT.2.2 _ hc).1, hs]
      exact ⟨ν, rfl, q1, q4⟩
    · rw [if_neg hc]
      exact ⟨ν, rfl, q1, q4⟩
theorem m_figures {T a : Nat} {t : Nat → Nat} {μ : Mem} (hT : TPm T t μ) (ha : a < T) (hfa : fgB (t a) = true) (h20 : μ.1 62 20 = nI a) (h21 : μ.1 62 21 = nI a) (h24 : μ.1 62 24 = 0) (h23 : μ.1 62 23 = 0) : ∃ μ', it1 f_X10_next_62_L140 FU μ = some μ' ∧ nyF μ μ' ∧ (¬ 2 < sc fgB T t a - a → μ'.1 62 24 = 0 ∧ μ'.1 62 21 = nI a ∧ μ'.1 62 22 = μ.1 62 22 ∧ μ'.1 62 20 = nI (sc fgB T t a) ∧ μ'.1 62 23 = nI (vlB t a (sc fgB T t a - a))) ∧ (2 < sc fgB T t a - a → μ'.1 62 24 = 1 ∧ μ'.1 62 25 = nI a) := by
  have T3 := hT.1
  have g1 : a ≤ sc fgB T t a := scn_ge _ _
  have g2 : sc fgB T t a ≤ T := scn_le _ _ (by omega)
  have hra := fgB_rng hfa
  refine for_one (ρ := Mem) (body := f_X10_next_62_L140) (sc fgB T t a - a) (fun i ν => nyF μ ν ∧ ν.1 62 24 = 0 ∧ ν.1 62 21 = nI a ∧ ν.1 62 22 = μ.1 62 22 ∧ ν.1 62 20 = nI (a + i) ∧ (i ≤ 2 → ν.1 62 23 = nI (vlB t a i))) (fun ν => nyF μ ν ∧ (¬ 2 < sc fgB T t a - a → ν.1 62 24 = 0 ∧ ν.1 62 21 = nI a ∧ ν.1 62 22 = μ.1 62 22 ∧ ν.1 62 20 = nI (sc fgB T t a) ∧ ν.1 62 23 = nI (vlB t a (sc fgB T t a - a))) ∧ (2 < sc fgB T t a - a → ν.1 62 24 = 1 ∧ ν.1 62 25 = nI a)) (fun k i ν hi hP => ?_) (fun k ν hP => ?_) FU 0 _ (by omega) (fu_gt (by omega)) ⟨nyF.rf μ, h24, h21, rfl, h20, fun _ => h23⟩
  · obtain ⟨q1, q2, q3, q22, q4, q5⟩ := hP
    obtain ⟨i1, i2⟩ := scn_in (P := fgB) (T := T) (t := t) (T + 1) a (a + i) (by omega) (show a + i < sc fgB T t a by omega)
    have hri := fgB_rng i2
    unfold f_X10_next_62_L140 f_X10_next_62_J201
    rw [q4, bnd (m_look (hT.fr q1) (by omega)), if_pos i1]
    dsimp only
    rw [bnd (p_in _ _ _ ν), mi_fg _ (hT.2.2 _ i1).1, i2]
    dsimp only
    rw [if_neg (show ¬ b2i true = 0 by decide), q4, q3, pk_sub (by omega), show a + i - a = i by omega]
    by_cases hi2 : 2 ≤ i
    · rw [if_pos (show (2 : Int32) ≤ nI i from nI_le (a := 2) hi2 (by omega)), al1]
      exact ⟨_, rfl, (q1.w (by omega)).w (by omega), by rw [pI_62 (by omega), pI_62 (by omega)]; exact q2, by rw [pI_62 (by omega), pI_62 (by omega)]; exact q3, by rw [pI_62 (by omega), pI_62 (by omega)]; exact q22, by rw [rd_s]; rfl, fun h => by omega⟩
    · rw [if_neg (show ¬ (2 : Int32) ≤ nI i from nI_ge (b := 2) (by omega) (by omega)), bnd (m_look (hT.fr q1) (by omega)), if_pos i1]
      dsimp only
      rw [q4, al1, q5 (by omega), lm10, nI_add, show (48 : Int32) = nI 48 from rfl, pk_sub (by omega)]
      refine ⟨_, rfl, (q1.w (by omega)).w (by omega), by rw [pI_62 (by omega), pI_62 (by omega)]; exact q2, by rw [pI_62 (by omega), pI_62 (by omega)]; exact q3, by rw [pI_62 (by omega), pI_62 (by omega)]; exact q22, by rw [rd_s]; rfl, fun _ => ?_⟩
      rw [pI_62 (by omega), rd_s, Nat.mul_comm 10, vl_step (by omega) hra hri]
  · obtain ⟨q1, q2, q3, q22, q4, q5⟩ := hP
    rw [show a + (sc fgB T t a - a) = sc fgB T t a by omega] at q4
    have hend : ∃ r, (if (2 : Int32) < (ν.1 62 20) - (ν.1 62 21) then f_X10_next_62_J236 (0 : Int32) ν else f_X10_next_62_J236 (1 : Int32) ν) = some r ∧ (nyF μ r ∧ (¬ 2 < sc fgB T t a - a → r.1 62 24 = 0 ∧ r.1 62 21 = nI a ∧ r.1 62 22 = μ.1 62 22 ∧ r.1 62 20 = nI (sc fgB T t a) ∧ r.1 62 23 = nI (vlB t a (sc fgB T t a - a))) ∧ (2 < sc fgB T t a - a → r.1 62 24 = 1 ∧ r.1 62 25 = nI a)) := by
      rw [q4, q3, pk_sub g1]
      unfold f_X10_next_62_J236 f_X10_needs_62
      by_cases hc : 2 < sc fgB T t a - a
      · rw [if_pos (show (2 : Int32) < nI (sc fgB T t a - a) from nI_lt (a := 2) hc (by omega)), if_pos (show (0 : Int32) = 0 from rfl), if_pos q2, q3]
        refine ⟨_, rfl, (q1.w (by omega)).w (by omega), fun h => absurd hc h, fun _ => ⟨?_, rd_s⟩⟩
        rw [pI_62 (by omega), rd_s]
      · rw [if_neg (show ¬ (2 : Int32) < nI (sc fgB T t a - a) from nI_nlt (a := 2) (by omega) (by omega)), if_neg (show ¬ (1 : Int32) = 0 by decide)]
        exact ⟨_, rfl, q1, fun _ => ⟨q2, q3, q22, q4, q5 (by omega)⟩, fun h => absurd h hc⟩
    unfold f_X10_next_62_L140
    rw [q4, bnd (m_look (hT.fr q1) (by omega))]
    dsimp only
    rw [bnd (p_in _ _ _ ν)]
    rw [q4] at hend
    by_cases hc : sc fgB T t a < T
    · have hs := scn_end (P := fgB) (T := T) (t := t) (T + 1) a (by omega) hc
      have hs : fgB (t (sc fgB T t a)) = false := hs
      rw [if_pos hc, mi_fg _ (hT.2.2 _ hc).1, hs]
      dsimp only
      rw [if_pos (show b2i false = 0 from rfl), q4]
      exact hend
    · rw [if_neg hc, show inL (-1 : Int32).toInt64 48 57 = false from by decide]
      dsimp only
      rw [if_pos (show b2i false = 0 from rfl), q4]
      exact hend
theorem m_next {T p : Nat} {t : Nat → Nat} {μ : Mem} (hT : TPm T t μ) (hp : p ≤ T) (h20 : μ.1 62 20 = nI p) (h24 : μ.1 62 24 = 0) : ∃ μ', f_X10_next_62 μ = some μ' ∧ nyF μ μ' ∧ MT T t p μ' := by
  have T3 := hT.1
  obtain ⟨a1, a2⟩ := tA_le (t := t) hp
  unfold f_X10_next_62
  rw [h24, if_pos (show (0 : Int32) ≤ 0 by decide)]
  refine for_one (ρ := Mem) (body := f_X10_next_62_L8) (tA T t p - p) (fun i ν => nyF μ ν ∧ ν.1 62 24 = 0 ∧ ν.1 62 20 = nI (p + i)) (fun ν => nyF μ ν ∧ MT T t p ν) (fun k i ν hi hP => ?_) (fun k ν hP => ?_) FU 0 μ (by omega) (fu_gt (by omega)) ⟨nyF.rf μ, h24, h20⟩
  · obtain ⟨q1, q2, q4⟩ := hP
    obtain ⟨i1, i2⟩ := scn_in (P := blB) (T := T) (t := t) (T + 1) p (p + i) (by omega) (show p + i < tA T t p by omega)
    unfold f_X10_next_62_L8
    rw [q4, bnd (m_look (hT.fr q1) (by omega)), if_pos i1]
    dsimp only
    rw [if_pos ((mi_bl _ (hT.2.2 _ i1).1).mpr i2), q4, al1]
    exact ⟨_, rfl, q1.w (by omega), by rw [pI_62 (by omega)]; exact q2, by rw [rd_s]; rfl⟩
  · obtain ⟨q1, q2, q4⟩ := hP
    rw [show p + (tA T t p - p) = tA T t p by omega] at q4
    have hTν := hT.fr q1
    unfold f_X10_next_62_L8
    rw [q4, bnd (m_look hTν (by omega))]
    dsimp only
    have hnb : ¬ (if tA T t p < T then nI (t (tA T t p)) else -1) = (32 : Int32) := by
      by_cases hc : tA T t p < T
      · have hs := scn_end (P := blB) (T := T) (t := t) (T + 1) p (by omega) hc
        have hs : blB (t (tA T t p)) = false := hs
        rw [if_pos hc, mi_bl _ (hT.2.2 _ hc).1, hs]
        decide
      · rw [if_neg hc]
        decide
    have q1' : nyF μ (pI ν 62 21 (nI (tA T t p))) := q1.w (by omega)
    have e20 : (pI ν 62 21 (nI (tA T t p))).1 62 20 = nI (tA T t p) := by rw [pI_62 (by omega)]; exact q4
    have e24 : (pI ν 62 21 (nI (tA T t p))).1 62 24 = 0 := by rw [pI_62 (by omega)]; exact q2
    have e21 : (pI ν 62 21 (nI (tA T t p))).1 62 21 = nI (tA T t p) := rd_s
    rw [if_neg hnb, q4]
    generalize pI ν 62 21 (nI (tA T t p)) = ω at q1' e20 e24 e21
    have hTω := hT.fr q1'
    rw [bnd (m_look hTω (by omega))]
    dsimp only
    by_cases c1 : T ≤ tA T t p
    · have hK : tK T t p = 0 := if_pos c1
      have hE : tE T t p = tA T t p := if_pos c1
      have hO : tO T t p = true := by unfold tO; rw [hK]; rfl
      rw [if_neg (show ¬ tA T t p < T by omega), if_neg (show ¬ (0 : Int32) ≤ -1 by decide)]
      refine ⟨_, rfl, q1'.w (by omega), fun _ => ⟨?_, ?_, ?_, ?_, ?_⟩, fun h => by rw [hO] at h; cases h⟩
      · rw [pI_62 (by omega)]; exact e24
      · rw [pI_62 (by omega)]; exact e21
      · rw [rd_s, hK]; rfl
      · rw [pI_62 (by omega), hE]; exact e20
      · rw [hK]; intro h; cases h
    · have b1 := (hT.2.2 (tA T t p) (by omega)).1
      rw [if_pos (show tA T t p < T by omega), if_pos (nI_pos' (by omega)), bnd (p_in _ _ _ ω), mi_lt _ b1]
      dsimp only
      cases c2 : ltB (t (tA T t p)) with
      | true =>
        have hK : tK T t p = 1 := by unfold tK; rw [if_neg c1, if_pos c2]
        have hE : tE T t p = sc ltB T t (tA T t p) := by unfold tE; rw [if_neg c1, if_pos c2]
        have hO : tO T t p = true := by unfold tO; rw [hK]; rfl
        obtain ⟨ξ, l1, l2, l3⟩ := m_letters (μ := pI ω 62 22 1) (hTω.fr ((nyF.rf ω).w (by omega))) (show tA T t p < T by omega) (by rw [pI_62 (by omega)]; exact e20)
        rw [if_neg (show ¬ b2i true = 0 by decide)]
        refine ⟨ξ, l1, fun q k hq => ?_, fun _ => ⟨?_, ?_, ?_, ?_, ?_⟩, fun h => by rw [hO] at h; cases h⟩
        · rw [l2 q k (by omega)]; exact (q1'.w (by omega)) q k hq
        · rw [l2 62 24 (by omega), pI_62 (by omega)]; exact e24
        · rw [l2 62 21 (by omega), pI_62 (by omega)]; exact e21
        · rw [l2 62 22 (by omega), rd_s, hK]; rfl
        · rw [l3, hE]
        · rw [hK]; intro h; cases h
      | false =>
        rw [if_pos (show b2i false = 0 from rfl), bnd (p_in _ _ _ ω), mi_fg _ b1]
        dsimp only
        cases c3 : fgB (t (tA T t p)) with
        | true =>
          have hK : tK T t p = 2 := by unfold tK; rw [if_neg c1, if_neg (by rw [c2]; decide), if_pos c3]
          have hE : tE T t p = sc fgB T t (tA T t p) := by unfold tE; rw [if_neg c1, if_neg (by rw [c2]; decide), if_pos c3]
          have hO : tO T t p = !decide (2 < sc fgB T t (tA T t p) - tA T t p) := by unfold tO; rw [hK, hE]; simp
          obtain ⟨ξ, l1, l2, l3, l4⟩ := m_figures (μ := pI (pI ω 62 22 2) 62 23 0) (hTω.fr (((nyF.rf ω).w (by omega)).w (by omega))) (show tA T t p < T by omega) c3 (by rw [pI_62 (by omega), pI_62 (by omega)]; exact e20) (by rw [pI_62 (by omega), pI_62 (by omega)]; exact e21) (by rw [pI_62 (by omega), pI_62 (by omega)]; exact e24) rd_s
          rw [if_neg (show ¬ b2i true = 0 by decide)]
          refine ⟨ξ, l1, fun q k hq => (l2 q k hq).trans (((q1'.w (by omega)).w (by omega)) q k hq), fun ho => ?_, fun ho => ?_⟩
          · rw [hO] at ho
            have hlt : ¬ 2 < sc fgB T t (tA T t p) - tA T t p := fun hh => by rw [decide_eq_true hh] at ho; cases ho
            obtain ⟨m1, m2, m3, m4, m5⟩ := l3 hlt
            refine ⟨m1, m2, ?_, by rw [m4, hE], fun _ => ?_⟩
            · rw [m3, pI_62 (by omega), rd_s, hK]; rfl
            · unfold tV; rw [hE]; exact m5
          · rw [hO] at ho
            have hlt : 2 < sc fgB T t (tA T t p) - tA T t p := by
              by_cases hh : 2 < sc fgB T t (tA T t p) - tA T t p
              · exact hh
              · rw [decide_eq_false hh] at ho; cases ho
            exact l4 hlt
        | false =>
          rw [if_pos (show b2i false = 0 from rfl)]
          unfold f_X10_next_62_J260 f_X10_needs_62
          by_cases c4 : t (tA T t p) = 59
          · have hK : tK T t p = 3 := by unfold tK; rw [if_neg c1, if_neg (by rw [c2]; decide), if_neg (by rw [c3]; decide), if_pos c4]
            have hE : tE T t p = tA T t p + 1 := by unfold tE; rw [if_neg c1, if_neg (by rw [c2]; decide), if_neg (by rw [c3]; decide)]
            have hO : tO T t p = true := by unfold tO; rw [hK]; rfl
            rw [if_pos ((mi_se _ b1).mpr c4), if_neg (show ¬ (1 : Int32) = 0 by decide), Option.bind_some, pI_62 (by omega), e20, al1]
            refine ⟨_, rfl, (q1'.w (by omega)).w (by omega), fun _ => ⟨?_, ?_, ?_, ?_, ?_⟩, fun h => by rw [hO] at h; cases h⟩
            · rw [pI_62 (by omega), pI_62 (by omega)]; exact e24
            · rw [pI_62 (by omega), pI_62 (by omega)]; exact e21
            · rw [pI_62 (by omega), rd_s, hK]; rfl
            · rw [rd_s, hE]
            · rw [hK]; intro h; cases h
          · have hK : tK T t p = 4 := by unfold tK; rw [if_neg c1, if_neg (by rw [c2]; decide), if_neg (by rw [c3]; decide), if_neg c4]
            have hO : tO T t p = false := by unfold tO; rw [hK]; rfl
            rw [if_neg (fun h => c4 ((mi_se _ b1).mp h)), if_pos (show (0 : Int32) = 0 from rfl), pI_62 (by omega), e24, if_pos (show (0 : Int32) = 0 from rfl), Option.bind_some, pI_62 (by omega), e21]
            refine ⟨_, rfl, (((q1'.w (by omega)).w (by omega)).w (by omega)).w (by omega), (fun h => by rw [hO] at h; cases h), fun _ => ⟨?_, ?_⟩⟩
            · rw [pI_62 (by omega), pI_62 (by omega), rd_s]
            · rw [pI_62 (by omega), rd_s]
