/-! PURE: how often, the greatest -/
def PF (A : Nat → Nat → Bool) (C : Nat → Bool) (Q cap : Nat) (m : Nat → Nat) (μ : Mem) : Prop :=
  μ.1 51 1 = nI Q ∧ μ.1 51 2 = nI cap ∧ μ.1 51 3 = nI (mk6 C) ∧ (∀ q, q < Q → ∀ w, w < 27 → bI (μ.1 53 q) w = A q w) ∧ (∀ q, q ≤ Q → μ.1 54 q = nI (mtC m (Q - q) q))
def FDQ (μ μ' : Mem) : Prop := (∀ p i, p ≠ 51 → p ≠ 52 → p ≠ 55 → μ'.1 p i = μ.1 p i) ∧ ∀ i, i ≠ 4 → μ'.1 51 i = μ.1 51 i
theorem FDQ.rf (μ : Mem) : FDQ μ μ := ⟨fun _ _ _ _ _ => rfl, fun _ _ => rfl⟩
theorem FDQ.tr {a b c : Mem} (h : FDQ a b) (k : FDQ b c) : FDQ a c := ⟨fun p i h1 h2 h3 => (k.1 p i h1 h2 h3).trans (h.1 p i h1 h2 h3), fun i hi => (k.2 i hi).trans (h.2 i hi)⟩
theorem PF.fr {A : Nat → Nat → Bool} {C : Nat → Bool} {Q cap : Nat} {m : Nat → Nat} {μ μ' : Mem} (h : PF A C Q cap m μ) (hs : FDQ μ μ') : PF A C Q cap m μ' := by
  unfold PF at h ⊢
  rw [hs.2 1 (by omega), hs.2 2 (by omega), hs.2 3 (by omega)]
  simp (disch := omega) only [hs.1]
  exact h
theorem p_fill_56 (μ : Mem) : ∃ μ', f_J7_fill_d0a16_56 (0 : Int64) μ = some μ' ∧ μ'.1 = μ.1 ∧ ∀ d, d < 384 → μ'.2 56 d = 0 := by
  unfold f_J7_fill_d0a16_56
  refine for_rel (ρ := Mem) nI 384 (fun i ν => ν.1 = μ.1 ∧ ∀ d, d < i → ν.2 56 d = 0) (fun ν => ν.1 = μ.1 ∧ ∀ d, d < 384 → ν.2 56 d = 0) (fun k i ν hi hP => ?_) (fun k ν hP => ?_) FU 0 μ (by omega) (fu_gt (by omega)) ⟨rfl, fun d hd => by omega⟩
  · unfold f_J7_fill_d0a16_56_L6
    have c : ¬ (384 : Int32) ≤ nI i := nI_ge (b := 384) hi (by omega)
    rw [if_neg c, inb_nI (by omega) (by omega), if_neg (show ¬ (true = false) by decide), nI_clamp (by omega), al1]
    refine ⟨_, rfl, hP.1, fun d hd => ?_⟩
    by_cases hc : d = i
    · rw [hc]; exact rdL_s
    · rw [rdL_i hc]; exact hP.2 d (by omega)
  · unfold f_J7_fill_d0a16_56_L6
    rw [if_pos (show (384 : Int32) ≤ nI 384 from by decide)]
    exact ⟨_, rfl, hP⟩
theorem p_find {A : Nat → Nat → Bool} {C : Nat → Bool} {Q cap t : Nat} {m : Nat → Nat} {μ : Mem} (h : PF A C Q cap m μ) (hQ : Q ≤ 6) (ht : t ≤ 6) (hW : wtC C (t + 1) 6 ≤ 4096) (hm6 : ∀ q, m q ≤ 6) (hm : ∀ q w, w < 27 → A q w = true → popW C w ≤ m q) :
    ∃ μ' r, f_X3_find_51 (nI t) μ = some (b2i r, μ') ∧ r = cvQ A C Q 0 (fun _ => t) ∧ FDQ μ μ' ∧ (r = true → ∀ j, j < Q → μ'.1 52 j = nI (gpQ A C Q 0 (fun _ => t) j)) := by
  obtain ⟨h1, h2, h3, h53, h54⟩ := h
  have hb : 0 < t + 1 := by omega
  have hwl := fun e he => wt_le (C := C) (b := t + 1) (e := e) hb 6 he
  unfold f_X3_find_51
  rw [al1]
  have := for_accGm (body := f_X3_find_51_L11) nI 6 (fun i => nI (wtC C (t + 1) i)) (fun i ν => (∀ p k, p ≠ 55 → ν.1 p k = (pI μ 51 4 (nI (t + 1))).1 p k) ∧ ∀ e, e < i → ν.1 55 e = nI (if C e = true then wtC C (t + 1) e else 0)) (fun rr => ∃ r, rr.1 = b2i r ∧ r = cvQ A C Q 0 (fun _ => t) ∧ FDQ μ rr.2 ∧ (r = true → ∀ j, j < Q → rr.2.1 52 j = nI (gpQ A C Q 0 (fun _ => t) j))) (fun k i ν hi hP => by
    obtain ⟨q1, q2⟩ := hP
    have e3 : ν.1 51 3 = nI (mk6 C) := by rw [q1 51 3 (by omega), rd_i (by omega)]; exact h3
    have e4 : ν.1 51 4 = nI (t + 1) := by rw [q1 51 4 (by omega), rd_s]
    unfold f_X3_find_51_L11
    rw [if_neg (show ¬ (6 : Int32) ≤ nI i from nI_ge (b := 6) hi (by omega)), e3, mk6_bit C i hi]
    have hfin : ∀ x : Int32, x = nI (if C i = true then wtC C (t + 1) i else 0) → (∀ p k, p ≠ 55 → (pI ν 55 i x).1 p k = (pI μ 51 4 (nI (t + 1))).1 p k) ∧ ∀ e, e < i + 1 → (pI ν 55 i x).1 55 e = nI (if C e = true then wtC C (t + 1) e else 0) := by
      intro x hx
      refine ⟨fun p k hp => by rw [rd_p hp]; exact q1 p k hp, fun e he => ?_⟩
      by_cases hei : e = i
      · subst hei
        rw [rd_s]; exact hx
      · rw [rd_i hei]; exact q2 e (by omega)
    cases hc : C i with
    | true =>
      rw [if_pos (show b2i true = 1 from rfl)]
      unfold f_X3_find_51_J34 f_X3_find_51_J51 f_X3_find_51_J66
      rw [if_neg (show ¬ (1 : Int32) = 0 by decide), inb_nI hi (by omega), if_neg (show ¬ (true = false) by decide), if_neg (show ¬ (1 : Int32) = 0 by decide), nI_clamp (by omega), e4, pk_mul, al1, ← wtC_t hc]
      exact ⟨_, rfl, hfin _ (by rw [hc]; rfl)⟩
    | false =>
      rw [if_neg (show ¬ b2i false = 1 by decide)]
      unfold f_X3_find_51_J34 f_X3_find_51_J51 f_X3_find_51_J66
      rw [if_pos (show (0 : Int32) = 0 from rfl), inb_nI hi (by omega), if_neg (show ¬ (true = false) by decide), if_pos (show (0 : Int32) = 0 from rfl), nI_clamp (by omega), show nI (wtC C (t + 1) i) * (1 : Int32) = nI (wtC C (t + 1) (i + 1)) by rw [show (1 : Int32) = nI 1 from rfl, pk_mul, Nat.mul_one, wtC_f (by rw [hc]; decide)], al1]
      exact ⟨_, rfl, hfin _ (by rw [hc]; rfl)⟩) (fun k ν hP => by
    obtain ⟨q1, q2⟩ := hP
    obtain ⟨ξ, f1, f2, f3⟩ := p_fill_56 ν
    have e : ∀ p k, p ≠ 55 → ¬ (p = 51 ∧ k = 4) → ξ.1 p k = μ.1 p k := fun p k hp hk => by
      rw [f2, q1 p k hp]
      by_cases hp1 : p = 51
      · subst hp1; exact rd_i (by omega)
      · exact rd_p hp1
    have hPC : PC A C (t + 1) Q m ξ := by
      refine ⟨by rw [e _ _ (by omega) (by omega)]; exact h1, by rw [f2, q1 _ _ (by omega), rd_s], fun q hq w hw => ?_, fun q hq => ?_, fun e he => by rw [f2]; exact q2 e he⟩
      · rw [e _ _ (by omega) (by omega)]; exact h53 q hq w hw
      · rw [e _ _ (by omega) (by omega)]; exact h54 q hq
    have hMI : MIQ A C (t + 1) Q ξ := by
      intro q v hq hv hb
      unfold fbQ at hb
      rw [f3 _ (by omega), bL_0] at hb
      cases hb
    have hwp := wtC_pos (C := C) hb 6
    obtain ⟨μ', r, r1, r2, r3, r4, r5⟩ := p_reachQ hQ hb (by omega) hW hm6 hm Q 0 (wtC C (t + 1) 6 - 1) 12 ξ (by omega) (by omega) (by omega) hPC hMI
    have r1 : it3 f_X3_reach_51_B 12 (0 : Int32) (nI (wtC C (t + 1) 6 - 1)) ξ = some (b2i r, μ') := r1
    have hall := cv_congr (A := A) (k := Q) (q := 0) (dg_all (C := C) (r := t))
    unfold f_X3_find_51_L11 f_X3_reach_51
    rw [if_pos (show (6 : Int32) ≤ nI 6 from by decide), if_pos (show nI (wtC C (t + 1) 6) ≤ (4096 : Int32) from nI_le (b := 4096) hW (by omega)), bnd f1, show nI (wtC C (t + 1) 6) - (1 : Int32) = nI (wtC C (t + 1) 6 - 1) from pk_sub (b := 1) (by omega), bnd r1]
    dsimp only
    rw [b2i_zb, if_neg (show ¬ (true = false) by decide)]
    refine ⟨_, rfl, r, rfl, r2.trans hall, ⟨fun p i p1 p2 p3 => ?_, fun i hi => ?_⟩, fun hr j hj => ?_⟩
    · rw [r3.1 p i p2]; exact e p i p3 (by omega)
    · rw [r3.1 51 i (by omega)]; exact e 51 i (by omega) (by omega)
    · have := r5 hr j hj
      rw [Nat.zero_add] at this
      rw [this, gp_congr Q 0 _ _ (dg_all (C := C) (r := t))]) FU 0 (pI μ 51 4 (nI (t + 1))) (by omega) (fu_gt (by omega)) ⟨fun _ _ _ => rfl, fun e he => by omega⟩
  obtain ⟨rr, g1, r, g2, g3, g4, g5⟩ := this
  exact ⟨rr.2, r, by rw [← g2]; exact g1, g3, g4, g5⟩
/-- one below -/
def pm (u : Nat) : Int32 := nI u + (-1)
theorem pm_0 : pm 0 = -1 := rfl
theorem pm_s (u : Nat) : pm (u + 1) = nI u := pk_m1 u
theorem pm_1 (u : Nat) : pm u + 1 = nI u := by
  cases u with
  | zero => rfl
  | succ u => rw [pm_s, al1]
theorem pm_sub (u : Nat) : nI u - 1 = pm u := by
  cases u with
  | zero => rfl
  | succ u => rw [pm_s, nI_pred]
theorem pm_le {c u : Nat} (hc : c < 2 ^ 31) (hu : u < 2 ^ 31) : (nI c ≤ pm u) ↔ c + 1 ≤ u := by
  cases u with
  | zero =>
    constructor
    · intro h
      rw [pm_0, i32_le, nI_toInt hc, show (-1 : Int32).toInt = -1 from rfl] at h
      omega
    · intro h; omega
  | succ u =>
    rw [pm_s, nI_leI hc (by omega)]
    omega
theorem pm_ge0 {u : Nat} (hu : u < 2 ^ 31) : (0 ≤ pm u) ↔ 1 ≤ u := pm_le (c := 0) (by omega) hu
theorem pm_lt0 {u : Nat} (hu : u < 2 ^ 31) : (pm u < 0) ↔ u = 0 := by
  have h := pm_ge0 hu
  rw [i32_le] at h
  rw [i32_lt]
  have : (0 : Int32).toInt = 0 := rfl
  omega
theorem pm_cmp {a b : Nat} (ha : a < 2 ^ 31) (hb : b < 2 ^ 31) : (pm a ≤ pm b) ↔ a ≤ b := by
  cases a with
  | zero =>
    refine ⟨fun _ => by omega, fun _ => ?_⟩
    rw [pm_0, i32_le, show (-1 : Int32).toInt = -1 from rfl]
    cases b with
    | zero => rw [pm_0, show (-1 : Int32).toInt = -1 from rfl]; omega
    | succ b => rw [pm_s, nI_toInt (by omega)]; omega
  | succ a => rw [pm_s, pm_le (by omega) hb]
def grU (f : Nat → Bool) : Nat → Nat
  | 0 => 0
  | k + 1 => if grU f k = k ∧ f k = true then k + 1 else grU f k
theorem grU_ok (f : Nat → Bool) : ∀ k, grU f k ≤ k ∧ (∀ t, t < grU f k → f t = true) ∧ (grU f k < k → f (grU f k) = false)
  | 0 => ⟨Nat.le_refl _, fun t h => by have : t < 0 := h; omega, fun h => by have : 0 < 0 := h; omega⟩
  | k + 1 => by
    obtain ⟨h1, h2, h3⟩ := grU_ok f k
    show (if grU f k = k ∧ f k = true then k + 1 else grU f k) ≤ k + 1 ∧ (∀ t, t < (if grU f k = k ∧ f k = true then k + 1 else grU f k) → f t = true) ∧ ((if grU f k = k ∧ f k = true then k + 1 else grU f k) < k + 1 → f (if grU f k = k ∧ f k = true then k + 1 else grU f k) = false)
    by_cases hc : grU f k = k ∧ f k = true
    · rw [if_pos hc]
      refine ⟨Nat.le_refl _, fun t ht => ?_, fun h => by omega⟩
      by_cases htk : t = k
      · rw [htk]; exact hc.2
      · exact h2 t (by omega)
    · rw [if_neg hc]
      refine ⟨by omega, h2, fun _ => ?_⟩
      by_cases hk : grU f k = k
      · rw [hk]
        cases hf : f k with
        | false => rfl
        | true => exact absurd ⟨hk, hf⟩ hc
      · exact h3 (by omega)
/-- how often the least rested eye can rest, and one more; 0: not at all -/
def UQ (A : Nat → Nat → Bool) (C : Nat → Bool) (Q : Nat) : Nat := grU (fun t => cvQ A C Q 0 (fun _ => t)) (clC C Q + 1)
theorem UQ_anti {A : Nat → Nat → Bool} {C : Nat → Bool} {Q u : Nat} (h1 : UQ A C Q ≤ u) (h2 : u ≤ clC C Q) : cvQ A C Q 0 (fun _ => u) = false := by
  have h := (grU_ok (fun t => cvQ A C Q 0 (fun _ => t)) (clC C Q + 1)).2.2 (show UQ A C Q < clC C Q + 1 by omega)
  have h : cvQ A C Q 0 (fun _ => UQ A C Q) = false := h
  cases hc : cvQ A C Q 0 (fun _ => u) with
  | false => rfl
  | true =>
    have := cv_mono Q 0 _ (fun _ => UQ A C Q) (fun _ _ _ => h1) hc
    rw [h] at this; cases this
theorem UQ_t {A : Nat → Nat → Bool} {C : Nat → Bool} {Q u : Nat} (h : u < UQ A C Q) : cvQ A C Q 0 (fun _ => u) = true := (grU_ok (fun t => cvQ A C Q 0 (fun _ => t)) (clC C Q + 1)).2.1 u h
theorem UQ_le (A : Nat → Nat → Bool) (C : Nat → Bool) (Q : Nat) : UQ A C Q ≤ clC C Q + 1 := (grU_ok (fun t => cvQ A C Q 0 (fun _ => t)) (clC C Q + 1)).1
theorem clC_le (C : Nat → Bool) (Q : Nat) : clC C Q ≤ Q := by
  unfold clC
  split
  · exact Nat.div_le_self _ _
  · exact Nat.le_refl _
theorem p_greatest {A : Nat → Nat → Bool} {C : Nat → Bool} {Q u0 : Nat} {m : Nat → Nat} {μ : Mem} (h : PF A C Q (clC C Q) m μ) (hQ : Q ≤ 6) (hm6 : ∀ q, m q ≤ 6) (hm : ∀ q w, w < 27 → A q w = true → popW C w ≤ m q) (hu0 : u0 ≤ 100) :
    ∃ μ', f_X3_greatest_51 (pm u0) μ = some (pm (max u0 (UQ A C Q)), μ') ∧ FDQ μ μ' := by
  have hcl := clC_le C Q
  have hUl := UQ_le A C Q
  have hmx : u0 + (UQ A C Q - u0) = max u0 (UQ A C Q) := by omega
  have hmx2 : UQ A C Q ≤ max u0 (UQ A C Q) := by omega
  have hmx3 : max u0 (UQ A C Q) ≤ 100 := by omega
  have hex : ∀ k : Int32 → Mem → Option (Int32 × Mem), ∀ ν, FDQ μ ν → ∃ r, f_X3_greatest_51_L2 k (pm (max u0 (UQ A C Q))) ν = some r ∧ (r.1 = pm (max u0 (UQ A C Q)) ∧ FDQ μ r.2) := by
    intro k ν hR
    have hPν := h.fr hR
    generalize max u0 (UQ A C Q) = u at hmx2 hmx3
    unfold f_X3_greatest_51_L2
    rw [hPν.2.1]
    by_cases hc : clC C Q + 1 ≤ u
    · rw [if_pos ((pm_le (by omega) (by omega)).mpr hc)]
      exact ⟨_, rfl, rfl, hR⟩
    · have hle : u ≤ clC C Q := by omega
      obtain ⟨μ', r, r1, r2, r3, -⟩ := p_find (t := u) hPν hQ (by omega) (wt_cap hQ hle) hm6 hm
      rw [UQ_anti hmx2 hle] at r2
      subst r2
      rw [if_neg (by rw [pm_le (by omega) (by omega)]; exact hc), pm_1, bnd r1]
      exact ⟨_, rfl, rfl, hR.tr r3⟩
  unfold f_X3_greatest_51
  have := for_ex (body := f_X3_greatest_51_L2) (fun i => pm (u0 + i)) (UQ A C Q - u0) (fun _ ν => FDQ μ ν) (fun r => r.1 = pm (max u0 (UQ A C Q)) ∧ FDQ μ r.2) (fun k i ν hi hR => by
    right
    have hPν := h.fr hR
    have hlt : u0 + i < UQ A C Q := by omega
    obtain ⟨μ', r, r1, r2, r3, -⟩ := p_find (t := u0 + i) hPν hQ (by omega) (wt_cap hQ (by omega)) hm6 hm
    rw [UQ_t hlt] at r2
    subst r2
    show ∃ μ', f_X3_greatest_51_L2 k (pm (u0 + i)) ν = k (pm (u0 + (i + 1))) μ' ∧ FDQ μ μ'
    unfold f_X3_greatest_51_L2
    rw [hPν.2.1, if_neg (by rw [pm_le (by omega) (by omega)]; omega), pm_1, bnd r1]
    dsimp only
    rw [if_neg (show ¬ b2i true = 0 by decide), ← pm_s]
    exact ⟨_, rfl, hR.tr r3⟩) (fun k ν hR => by
    show ∃ r, f_X3_greatest_51_L2 k (pm (u0 + (UQ A C Q - u0))) ν = some r ∧ (r.1 = pm (max u0 (UQ A C Q)) ∧ FDQ μ r.2)
    rw [hmx]
    exact hex k ν hR) FU 0 μ (by omega) (fu_gt (by omega)) (FDQ.rf μ)
  obtain ⟨r, r1, r2, r3⟩ := this
  exact ⟨r.2, by rw [← r2]; exact r1, r3⟩
/-! what is lawful -/
def ctQ (n x : Nat) (K : Nat → Nat) (e : Nat) : Bool := hr n x (e / 2) && !glE K e
def subQ (n x w : Nat) : Bool := decide (mk6 (fun e => shut w e && !hr n x (e / 2)) = 0)
def lwQ (n x : Nat) (K S F N G : Nat → Nat) (q w : Nat) : Bool := subQ n x w && decide (LKS n x K S F N (shut w) (G q) = 0)
def mxF (a : Nat → Bool) (p : Nat → Nat) : Nat → Nat
  | 0 => 0
  | w + 1 => if a w = true ∧ mxF a p w < p w then p w else mxF a p w
theorem mxF_le {a : Nat → Bool} {p : Nat → Nat} {c : Nat} (h : ∀ w, p w ≤ c) : ∀ k, mxF a p k ≤ c
  | 0 => Nat.zero_le _
  | k + 1 => by
    show (if a k = true ∧ mxF a p k < p k then p k else mxF a p k) ≤ c
    split
    · exact h k
    · exact mxF_le h k
theorem mxF_ge {a : Nat → Bool} {p : Nat → Nat} {w : Nat} (h : a w = true) : ∀ k, w < k → p w ≤ mxF a p k
  | 0, hk => by omega
  | k + 1, hk => by
    show p w ≤ (if a k = true ∧ mxF a p k < p k then p k else mxF a p k)
    by_cases hw : w = k
    · subst hw
      by_cases hc : mxF a p w < p w
      · rw [if_pos ⟨h, hc⟩]; exact Nat.le_refl _
      · rw [if_neg (fun hh => hc hh.2)]; omega
    · have ih := mxF_ge (p := p) h k (by omega)
      split
      · omega
      · exact ih
def msQ (A : Nat → Nat → Bool) (C : Nat → Bool) (q : Nat) : Nat := mxF (A q) (popW C) 27
theorem popW_le (C : Nat → Bool) (w : Nat) : popW C w ≤ 6 := popN_le _
theorem msQ_le (A : Nat → Nat → Bool) (C : Nat → Bool) (q : Nat) : msQ A C q ≤ 6 := mxF_le (popW_le C) 27
theorem msQ_ge (A : Nat → Nat → Bool) (C : Nat → Bool) : ∀ q w, w < 27 → A q w = true → popW C w ≤ msQ A C q := fun _ _ hw h => mxF_ge h 27 hw
theorem p_judge {n x q t : Nat} {K S F N G : Nat → Nat} {μ : Mem} (hn : n ≤ 3) (hS : ∀ e, e < 2 * n → S e < 16) (hF : ∀ s, s < n → F s < 4) (h : SightR n x K S F μ) (hN : ∀ d, d < 4 → N d < 7 ∧ μ.1 7 d = nI (N d)) (hq : q < 6) (hG : G q < 16 ∧ μ.1 8 q = nI (G q)) (h51 : μ.1 51 3 = nI (mk6 (ctQ n x K))) (h54 : μ.1 54 (q + 1) = nI t) :
    ∃ μ', f_X3_judge_51_4_47 (nI q) μ = some μ' ∧ only [53, 54] μ μ' ∧ (∀ i, i ≠ q → μ'.1 53 i = μ.1 53 i) ∧ (∀ i, i ≠ q → μ'.1 54 i = μ.1 54 i) ∧ (∀ w, w < 27 → bI (μ'.1 53 q) w = lwQ n x K S F N G q w) ∧ μ'.1 54 q = nI (t + msQ (lwQ n x K S F N G) (ctQ n x K) q) := by
  unfold f_X3_judge_51_4_47
  rw [inb_nI hq (by omega), if_neg (show ¬ (true = false) by decide), nI_clamp (by omega)]
  have := for_accGm (ρ := Mem) (body := f_X3_judge_51_4_47_L13 (nI q)) nI 27 (fun w => nI (mxF (lwQ n x K S F N G q) (popW (ctQ n x K)) w)) (fun w ν => only [53] μ ν ∧ (∀ i, i ≠ q → ν.1 53 i = μ.1 53 i) ∧ ∀ j, j < 27 → bI (ν.1 53 q) j = (decide (j < w) && lwQ n x K S F N G q j)) (fun r => only [53, 54] μ r ∧ (∀ i, i ≠ q → r.1 53 i = μ.1 53 i) ∧ (∀ i, i ≠ q → r.1 54 i = μ.1 54 i) ∧ (∀ w, w < 27 → bI (r.1 53 q) w = lwQ n x K S F N G q w) ∧ r.1 54 q = nI (t + msQ (lwQ n x K S F N G) (ctQ n x K) q)) (fun k w ν hw hP => by
    obtain ⟨q1, q2, q3⟩ := hP
    have hS' := h.fr q1 (by decide) (by decide)
    have hno : lwQ n x K S F N G q w = false → (∀ j, j < 27 → bI (ν.1 53 q) j = (decide (j < w + 1) && lwQ n x K S F N G q j)) ∧ mxF (lwQ n x K S F N G q) (popW (ctQ n x K)) (w + 1) = mxF (lwQ n x K S F N G q) (popW (ctQ n x K)) w := by
      intro h0
      refine ⟨fun j hj => ?_, ?_⟩
      · rw [q3 j hj]
        by_cases hjw : j = w
        · rw [hjw, h0, Bool.and_false, Bool.and_false]
        · rw [show decide (j < w) = decide (j < w + 1) from decide_eq_decide.mpr (by omega)]
      · show (if lwQ n x K S F N G q w = true ∧ _ then _ else _) = _
        rw [if_neg (by rw [h0]; rintro ⟨hh, _⟩; cases hh)]
    have hsub : (nI (mk6 (shut w)) &&& (nI (mk6 fun e => hr n x (e / 2)) ^^^ (-1 : Int32)) = 0) ↔ subQ n x w = true := by
      rw [mk6_andn, mk6_z _ (mk6_lt _)]
      unfold subQ
      rw [decide_eq_true_eq]
    unfold f_X3_judge_51_4_47_L13
    rw [if_neg (show ¬ (27 : Int32) ≤ nI w from nI_ge (b := 27) hw (by omega)), inb_nI hw (by omega), if_neg (show ¬ (true = false) by decide), nI_clamp (by omega), shu_T w hw, hS'.1]
    by_cases hsb : subQ n x w = true
    · rw [if_pos (hsub.mpr hsb)]
      obtain ⟨mm, m1, m2⟩ := p_openBy hS' hw
      have hlk := p_lacking (m := mm) (q := shut w) (N := N) hS hF hS' m1 (fun d hd => ⟨(hN d hd).1, by rw [q1.1 7 d (by decide)]; exact (hN d hd).2⟩) hG.1
      unfold f_X3_judge_51_4_47_J41 f_X3_judge_51_4_47_J105
      rw [if_neg (show ¬ (1 : Int32) = 0 by decide), inb_nI hq (by omega), if_neg (show ¬ (true = false) by decide), bnd m2]
      dsimp only
      rw [nI_clamp (by omega), q1.1 8 q (by decide), hG.2, bnd hlk]
      dsimp only
      by_cases hl : LKS n x K S F N (shut w) (G q) = 0
      · have hA : lwQ n x K S F N G q w = true := by
          unfold lwQ
          rw [hsb, decide_eq_true hl]
          rfl
        rw [if_pos ((mk6_z _ LKS_lt).mpr hl), if_neg (show ¬ (true = false) by decide), if_neg (show ¬ (true = false) by decide), inb_nI hw (by omega), if_neg (show ¬ (true = false) by decide), nI_clamp (by omega), shu_T w hw, q1.1 51 3 (by decide), h51, mk6_and, bnd (p_bitCount (mk6_lt _) _)]
        dsimp only
        have hpl := popW_le (ctQ n x K) w
        have hml := mxF_le (a := lwQ n x K S F N G q) (popW_le (ctQ n x K)) w
        have hmax : (if nI (mxF (lwQ n x K S F N G q) (popW (ctQ n x K)) w) < nI (popN (mk6 fun e => shut w e && ctQ n x K e)) then nI (popN (mk6 fun e => shut w e && ctQ n x K e)) else nI (mxF (lwQ n x K S F N G q) (popW (ctQ n x K)) w)) = nI (mxF (lwQ n x K S F N G q) (popW (ctQ n x K)) (w + 1)) := by
          show (if nI (mxF (lwQ n x K S F N G q) (popW (ctQ n x K)) w) < nI (popW (ctQ n x K) w) then nI (popW (ctQ n x K) w) else nI (mxF (lwQ n x K S F N G q) (popW (ctQ n x K)) w)) = nI (if lwQ n x K S F N G q w = true ∧ mxF (lwQ n x K S F N G q) (popW (ctQ n x K)) w < popW (ctQ n x K) w then popW (ctQ n x K) w else mxF (lwQ n x K S F N G q) (popW (ctQ n x K)) w)
          by_cases hc : mxF (lwQ n x K S F N G q) (popW (ctQ n x K)) w < popW (ctQ n x K) w
          · rw [if_pos (nI_lt hc (by omega)), if_pos ⟨hA, hc⟩]
          · rw [if_neg (nI_nlt (by omega) (by omega)), if_neg (fun hh => hc hh.2)]
        rw [hmax, al1]
        refine ⟨_, rfl, q1.pI (by decide), fun i hi => ?_, fun j hj => ?_⟩
        · rw [rd_i hi]; exact q2 i hi
        · rw [rd_s, bI_set (by omega), q3 j hj]
          by_cases hjw : j = w
          · subst hjw
            rw [hA, decide_eq_false (Nat.lt_irrefl j), decide_eq_true (show j < j + 1 by omega), decide_eq_true (show j = j from rfl)]
            rfl
          · rw [decide_eq_false hjw, Bool.or_false, show decide (j < w) = decide (j < w + 1) from decide_eq_decide.mpr (by omega)]
      · have hA : lwQ n x K S F N G q w = false := by
          unfold lwQ
          rw [decide_eq_false hl, Bool.and_false]
        obtain ⟨g1, g2⟩ := hno hA
        rw [if_neg (fun hh => hl ((mk6_z _ LKS_lt).mp hh)), g2, al1]
        exact ⟨_, rfl, q1, q2, g1⟩
    · have hA : lwQ n x K S F N G q w = false := by
        unfold lwQ
        cases hc : subQ n x w with
        | false => rfl
        | true => exact absurd hc hsb
      obtain ⟨g1, g2⟩ := hno hA
      rw [if_neg (fun hh => hsb (hsub.mp hh))]
      unfold f_X3_judge_51_4_47_J41 f_X3_judge_51_4_47_J105
      rw [if_pos (show (0 : Int32) = 0 from rfl), g2, al1]
      exact ⟨_, rfl, q1, q2, g1⟩) (fun k ν hP => by
    obtain ⟨q1, q2, q3⟩ := hP
    unfold f_X3_judge_51_4_47_L13
    rw [if_pos (show (27 : Int32) ≤ nI 27 from by decide), al1, inb_nI (by omega) (by omega), if_neg (show ¬ (true = false) by decide), inb_nI (by omega) (by omega), if_neg (show ¬ (true = false) by decide), nI_clamp (by omega), nI_clamp (by omega), q1.1 54 _ (by decide), h54, nI_add]
    refine ⟨_, rfl, (q1.mono (by decide)).pI (by decide), fun i hi => ?_, fun i hi => ?_, fun w hw => ?_, rd_s⟩
    · rw [rd_p (by omega)]; exact q2 i hi
    · rw [rd_i hi]; exact q1.1 54 i (by decide)
    · rw [rd_p (by omega), q3 w hw, decide_eq_true hw, Bool.true_and]) FU 0 (pI μ 53 q 0) (by omega) (fu_gt (by omega)) ⟨only.rf.pI (by decide), fun i hi => rd_i hi, fun j hj => by rw [rd_s, bI_0, decide_eq_false (by omega)]; rfl⟩
  obtain ⟨r, r1, r2⟩ := this
  exact ⟨r, r1, r2⟩
theorem pr_bits : ∀ a b c d e f : Bool, ((nI (b6 a b c d e f) &&& (nI (b6 a b c d e f) >>> ((1 : Int32) &&& 31))) &&& (21 : Int32) = 0) ↔ ((a && b) || (c && d) || (e && f)) = false := by decide +kernel
theorem p_prepare {n x Q : Nat} {K S F N G : Nat → Nat} {μ : Mem} (hn : n ≤ 3) (hQ1 : 1 ≤ Q) (hQ : Q ≤ 6) (h11 : μ.1 1 1 = nI Q) (hS : ∀ e, e < 2 * n → S e < 16) (hF : ∀ s, s < n → F s < 4) (h : SightR n x K S F μ) (hN : ∀ d, d < 4 → N d < 7 ∧ μ.1 7 d = nI (N d)) (hG : ∀ q, q < 6 → G q < 16 ∧ μ.1 8 q = nI (G q)) :
    ∃ μ', f_X3_prepare_51_1_4_47 μ = some μ' ∧ only [51, 53, 54] μ μ' ∧ PF (lwQ n x K S F N G) (ctQ n x K) Q (clC (ctQ n x K) Q) (msQ (lwQ n x K S F N G) (ctQ n x K)) μ' := by
  have hct : nI (mk6 fun e => hr n x (e / 2)) &&& (nI (mk6 fun e => hr n x (e / 2) && glE K e) ^^^ (-1 : Int32)) = nI (mk6 (ctQ n x K)) := by
    rw [mk6_andn]
    refine congrArg nI (mk6_congr fun e _ => ?_)
    unfold ctQ
    cases hr n x (e / 2) <;> cases glE K e <;> rfl
  have hpr : ((nI (mk6 (ctQ n x K)) &&& (nI (mk6 (ctQ n x K)) >>> ((1 : Int32) &&& 31))) &&& (21 : Int32) = 0) ↔ prC (ctQ n x K) = false := pr_bits _ _ _ _ _ _
  have hcl := clC_le (ctQ n x K) Q
  have hJ66 : f_X3_prepare_51_1_4_47 μ = f_X3_prepare_51_1_4_47_J66 (nI (clC (ctQ n x K) Q)) (pI (pI μ 51 1 (nI Q)) 51 3 (nI (mk6 (ctQ n x K)))) := by
    unfold f_X3_prepare_51_1_4_47
    rw [h.1, h.2.1, hct, h11]
    unfold f_X3_prepare_51_1_4_47_J45 clC
    by_cases hp : prC (ctQ n x K) = true
    · rw [if_neg (by rw [hpr, hp]; decide), if_neg (show ¬ (1 : Int32) = 0 by decide), if_pos hp, rd_i (by omega), rd_s, nI_div2 (by omega)]
    · rw [if_pos (hpr.mpr (by cases h : prC (ctQ n x K) <;> simp [h] at hp ⊢)), if_pos (show (0 : Int32) = 0 from rfl), if_neg hp, rd_i (by omega), rd_s]
  rw [hJ66]
  unfold f_X3_prepare_51_1_4_47_J66
  rw [rd_i (by omega), rd_s, inb_nI (by omega) (by omega), if_neg (show ¬ (true = false) by decide), nI_clamp (by omega), pm_sub]
  have := for_rel (ρ := Mem) (body := f_X3_prepare_51_1_4_47_L87) (fun i => pm (Q - i)) Q (fun i ν => only [51, 53, 54] μ ν ∧ ν.1 51 1 = nI Q ∧ ν.1 51 2 = nI (clC (ctQ n x K) Q) ∧ ν.1 51 3 = nI (mk6 (ctQ n x K)) ∧ (∀ q, Q - i ≤ q → q < Q → ∀ w, w < 27 → bI (ν.1 53 q) w = lwQ n x K S F N G q w) ∧ (∀ q, Q - i ≤ q → q ≤ Q → ν.1 54 q = nI (mtC (msQ (lwQ n x K S F N G) (ctQ n x K)) (Q - q) q))) (fun r => only [51, 53, 54] μ r ∧ PF (lwQ n x K S F N G) (ctQ n x K) Q (clC (ctQ n x K) Q) (msQ (lwQ n x K S F N G) (ctQ n x K)) r) (fun k i ν hi hP => by
    obtain ⟨q1, q2, q3, q4, q5, q6⟩ := hP
    obtain ⟨q, hqi⟩ : ∃ q, Q - i = q + 1 := ⟨Q - i - 1, by omega⟩
    have hS' := h.fr q1 (by decide) (by decide)
    obtain ⟨ξ, j1, j2, j3, j4, j5, j6⟩ := p_judge (q := q) (t := mtC (msQ (lwQ n x K S F N G) (ctQ n x K)) (Q - (q + 1)) (q + 1)) (N := N) (G := G) hn hS hF hS' (fun d hd => ⟨(hN d hd).1, by rw [q1.1 7 d (by decide)]; exact (hN d hd).2⟩) (by omega) ⟨(hG q (by omega)).1, by rw [q1.1 8 q (by decide)]; exact (hG q (by omega)).2⟩ q4 (q6 (q + 1) (by omega) (by omega))
    show ∃ μ', f_X3_prepare_51_1_4_47_L87 k (pm (Q - i)) ν = k (pm (Q - (i + 1))) μ' ∧ _
    rw [show Q - (i + 1) = q by omega, hqi, pm_s]
    unfold f_X3_prepare_51_1_4_47_L87
    rw [if_neg (nI_pos (by omega)), bnd j1]
    refine ⟨ξ, rfl, q1.tr (j2.mono (by decide)), ?_, ?_, ?_, fun r hr1 hr2 w hw => ?_, fun r hr1 hr2 => ?_⟩
    · rw [j2.1 51 1 (by decide)]; exact q2
    · rw [j2.1 51 2 (by decide)]; exact q3
    · rw [j2.1 51 3 (by decide)]; exact q4
    · by_cases hrq : r = q
      · rw [hrq]; exact j5 w hw
      · rw [j3 r hrq]; exact q5 r (by omega) hr2 w hw
    · by_cases hrq : r = q
      · rw [hrq, j6, show Q - q = (Q - (q + 1)) + 1 by omega, Nat.add_comm]
        rfl
      · rw [j4 r hrq]; exact q6 r (by omega) hr2) (fun k ν hP => by
    obtain ⟨q1, q2, q3, q4, q5, q6⟩ := hP
    show ∃ r, f_X3_prepare_51_1_4_47_L87 k (pm (Q - Q)) ν = some r ∧ _
    rw [Nat.sub_self]
    unfold f_X3_prepare_51_1_4_47_L87
    rw [if_pos (show pm 0 < 0 by decide)]
    exact ⟨ν, rfl, q1, q2, q3, q4, fun q hq => q5 q (by omega) hq, fun q hq => q6 q (by omega) hq⟩) FU 0 (pI (pI (pI (pI μ 51 1 (nI Q)) 51 3 (nI (mk6 (ctQ n x K)))) 51 2 (nI (clC (ctQ n x K) Q))) 54 Q 0) (by omega) (fu_gt (by omega)) (by
      refine ⟨(((only.rf.pI (by decide)).pI (by decide)).pI (by decide)).pI (by decide), ?_, ?_, ?_, fun q h1 h2 => by omega, fun q h1 h2 => ?_⟩
      · rw [rd_p (by omega), rd_i (by omega), rd_i (by omega), rd_s]
      · rw [rd_p (by omega), rd_s]
      · rw [rd_p (by omega), rd_i (by omega), rd_s]
      · have : q = Q := by omega
        subst this
        rw [rd_s, Nat.sub_self]
        rfl)
  obtain ⟨r, r1, r2⟩ := this
  exact ⟨r, r1, r2⟩
