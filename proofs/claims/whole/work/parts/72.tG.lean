/-! PURE: lines of a text, as the model reads them -/
def MRd (D : Nat → Nat) (μ : Mem) : Prop := μ.1 62 8 = nI (D 0) ∧ μ.1 62 9 = nI (D 1) ∧ μ.1 62 12 = nI (D 2) ∧ μ.1 62 13 = nI (D 3) ∧ μ.1 62 14 = nI (D 4) ∧ μ.1 62 15 = nI (D 5) ∧ μ.1 62 16 = bmQ (D 6) ∧ μ.1 62 17 = bmQ (D 7) ∧ (∀ s, s < D 0 → μ.1 68 s = nI (D (10 + s))) ∧ (∀ e, e < 2 * D 0 → μ.1 69 e = nI (D (20 + e))) ∧ (∀ s, s < 3 → μ.1 67 s = nI (D (30 + s))) ∧ (∀ e, e < 6 → μ.1 67 (3 + e) = nI (D (40 + e))) ∧ (∀ d, d < 4 → μ.1 67 (9 + d) = nI (D (50 + d))) ∧ (∀ q, q < 6 → μ.1 67 (13 + q) = nI (D (60 + q))) ∧ (∀ q, q < 6 → μ.1 67 (21 + q) = nI (D (70 + q))) ∧ μ.1 67 29 = 0
def MFr (μ ν : Mem) : Prop := ∀ q k, ¬ (67 ≤ q ∧ q ≤ 69) → ¬ (q = 62 ∧ 8 ≤ k ∧ k < 26 ∧ k ≠ 19) → ν.1 q k = μ.1 q k
theorem MFr.rf (μ : Mem) : MFr μ μ := fun _ _ _ _ => rfl
theorem MFr.tr {a b c : Mem} (h : MFr a b) (k : MFr b c) : MFr a c := fun q j h1 h2 => (k q j h1 h2).trans (h q j h1 h2)
theorem MFr.w {μ ν : Mem} {p k : Nat} {v : Int32} (h : MFr μ ν) (hp : (67 ≤ p ∧ p ≤ 69) ∨ (p = 62 ∧ 8 ≤ k ∧ k < 26 ∧ k ≠ 19)) : MFr μ (pI ν p k v) := by
  intro q j h1 h2
  rw [← h q j h1 h2]
  by_cases hq : q = p
  · subst hq
    exact rd_i (by omega)
  · exact rd_p hq
theorem nyF.mf {μ ν : Mem} (h : nyF μ ν) : MFr μ ν := fun q k _ h2 => h q k (by omega)
theorem TPm.mf {T : Nat} {t : Nat → Nat} {μ ν : Mem} (h : TPm T t μ) (hs : MFr μ ν) : TPm T t ν := ⟨h.1, by rw [hs 62 19 (by omega) (by omega)]; exact h.2.1, fun i hi => by rw [hs 70 i (by omega) (by omega)]; exact h.2.2 i hi⟩
theorem MRd.ny {D : Nat → Nat} {μ ν : Mem} (h : MRd D μ) (hs : nyF μ ν) : MRd D ν := by
  unfold MRd at h ⊢
  rw [hs 62 8 (by omega), hs 62 9 (by omega), hs 62 12 (by omega), hs 62 13 (by omega), hs 62 14 (by omega), hs 62 15 (by omega), hs 62 16 (by omega), hs 62 17 (by omega)]
  simp (disch := omega) only [hs 67 _ (by omega), hs 68 _ (by omega), hs 69 _ (by omega)]
  exact h
def FL (f w : Nat) (μ : Mem) : Prop := 0 < f ∧ f < 8 ∧ μ.1 62 24 = nI f ∧ μ.1 62 25 = nI w
theorem FL.w {f w p k : Nat} {v : Int32} {μ : Mem} (h : FL f w μ) (hp : p ≠ 62 ∨ (k ≠ 24 ∧ k ≠ 25)) : FL f w (pI μ p k v) := by
  obtain ⟨h1, h2, h3, h4⟩ := h
  by_cases h62 : p = 62
  · subst h62
    exact ⟨h1, h2, by rw [rd_i (by omega)]; exact h3, by rw [rd_i (by omega)]; exact h4⟩
  · exact ⟨h1, h2, by rw [rd_p (by omega)]; exact h3, by rw [rd_p (by omega)]; exact h4⟩
theorem FL.ne {f w : Nat} {μ : Mem} (h : FL f w μ) : ¬ μ.1 62 24 = 0 := by rw [h.2.2.1]; exact nI_ne0 h.1 (by have := h.2.1; omega)
theorem fl_next {f w : Nat} {μ : Mem} (h : FL f w μ) : f_X10_next_62 μ = some μ := by
  unfold f_X10_next_62
  rw [h.2.2.1, if_neg (nI_nle h.1 (by have := h.2.1; omega))]
theorem fl_needs {f w : Nat} {μ : Mem} (h : FL f w μ) (a b : Int32) : f_X10_needs_62 a b μ = some μ := by
  unfold f_X10_needs_62
  rw [if_neg h.ne]
  split <;> rfl
theorem fl_looked {f w : Nat} {μ : Mem} (h : FL f w μ) (a b : Int32) : f_X10_looked_62 a b μ = some (0, μ) := by
  unfold f_X10_looked_62 f_X10_looked_62_J25 f_X10_looked_62_J49
  rw [if_neg h.ne, if_neg h.ne, if_neg h.ne]
theorem fl_number {f w : Nat} {μ : Mem} (h : FL f w μ) (a b : Int32) : f_X10_readNumber_62 a b μ = some (0, μ) := by
  unfold f_X10_readNumber_62
  rw [bnd (fl_looked h a b)]
  dsimp only
  rw [bnd (fl_next h)]
theorem fl_new {f w : Nat} {μ : Mem} (h : FL f w μ) (a b : Int32) : f_X10_readNew_62 a b μ = some (0, μ) := by
  unfold f_X10_readNew_62 f_X10_readNew_62_J32
  rw [bnd (fl_looked h 0 a)]
  dsimp only
  rw [if_neg h.ne, bnd (fl_next h)]
def MS (T : Nat) (t D : Nat → Nat) (p : Nat) (μ : Mem) : Prop := TPm T t μ ∧ MRd D μ ∧ MT T t p μ ∧ p ≤ T
def MLr (T : Nat) (t : Nat → Nat) (X : XT) (μ0 μ' : Mem) : Prop := MFr μ0 μ' ∧ (∀ f w, X = xf f w → FL f w μ') ∧ (∀ D p, X = xd D p → MS T t D p μ')
theorem MLr.f {T : Nat} {t : Nat → Nat} {f w : Nat} {μ0 μ' : Mem} (h0 : MFr μ0 μ') (h1 : FL f w μ') : MLr T t (xf f w) μ0 μ' := ⟨h0, fun f' w' h => by
  obtain ⟨rfl, rfl⟩ := xf_inj h
  exact h1, fun D p h => (xf_xd h).elim⟩
theorem MLr.d {T : Nat} {t D : Nat → Nat} {p : Nat} {μ0 μ' : Mem} (h0 : MFr μ0 μ') (h1 : MS T t D p μ') : MLr T t (xd D p) μ0 μ' := ⟨h0, fun f w h => (xf_xd h.symm).elim, fun D' p' h => by
  obtain ⟨rfl, rfl⟩ := xd_inj h
  exact h1⟩
/-- the state as the token's fault, its kind, its bounds make it -/
theorem MS.bad {T : Nat} {t D : Nat → Nat} {p : Nat} {μ : Mem} (h : MS T t D p μ) (hO : tO T t p = false) : FL 1 (tA T t p) μ := ⟨by omega, by omega, (h.2.2.1.2 hO).1, (h.2.2.1.2 hO).2⟩
/-- a fault found now -/
theorem m_needs0 {f w : Nat} {μ : Mem} (h24 : μ.1 62 24 = 0) (h21 : μ.1 62 21 = nI w) (hf : 0 < f) (hf8 : f < 8) : ∃ ν, f_X10_needs_62 0 (nI f) μ = some ν ∧ FL f w ν ∧ nyF μ ν := by
  unfold f_X10_needs_62
  rw [if_pos (show (0 : Int32) = 0 from rfl), if_pos h24, h21]
  exact ⟨_, rfl, ⟨hf, hf8, by rw [pI_62 (by omega), rd_s], rd_s⟩, ((nyF.rf μ).w (by omega)).w (by omega)⟩
theorem m_needs1 (f : Int32) (μ : Mem) : f_X10_needs_62 1 f μ = some μ := by
  unfold f_X10_needs_62
  rw [if_neg (by decide)]
theorem in_rng {v lo hi : Nat} (hv : v < 1000) (hlo : lo < 1000) (hhi : hi < 1000) (μ : Mem) : f_X10_in (nI v).toInt64 (nI lo).toInt64 (nI hi).toInt64 μ = some (b2i (!decide (v < lo ∨ hi < v)), μ) := by
  rw [p_in]
  refine congrArg (fun b => some (b2i b, μ)) ?_
  unfold inL
  have e1 : ((nI lo).toInt64 ≤ (nI v).toInt64) ↔ lo ≤ v := by rw [i64_le, wide_int, wide_int, nI_toInt (by omega), nI_toInt (by omega)]; omega
  have e2 : ((nI v).toInt64 ≤ (nI hi).toInt64) ↔ v ≤ hi := by rw [i64_le, wide_int, wide_int, nI_toInt (by omega), nI_toInt (by omega)]; omega
  rw [decide_eq_decide.mpr e1, decide_eq_decide.mpr e2]
  by_cases c1 : v < lo
  · rw [decide_eq_false (show ¬ lo ≤ v by omega), decide_eq_true (show v < lo ∨ hi < v from Or.inl c1)]
    rfl
  · by_cases c2 : hi < v
    · rw [decide_eq_false (show ¬ v ≤ hi by omega), decide_eq_true (show v < lo ∨ hi < v from Or.inr c2), Bool.and_false]
      rfl
    · rw [decide_eq_true (show lo ≤ v by omega), decide_eq_true (show v ≤ hi by omega), decide_eq_false (show ¬ (v < lo ∨ hi < v) by omega)]
      rfl
/-- what looked() tells: the number, or a fault -/
theorem m_looked {T : Nat} {t D : Nat → Nat} {p lo hi : Nat} {μ : Mem} (h : MS T t D p μ) (hlo : lo ≤ 100) (hhi : hi ≤ 100) : ∃ v ν, f_X10_looked_62 (nI lo) (nI hi) μ = some (v, ν) ∧ nyF μ ν ∧ ((v = 0 ∧ ((tO T t p = false ∧ FL 1 (tA T t p) ν) ∨ (tO T t p = true ∧ tK T t p ≠ 2 ∧ FL 2 (tA T t p) ν) ∨ (tO T t p = true ∧ tK T t p = 2 ∧ (tV T t p < lo ∨ hi < tV T t p) ∧ FL 3 (tA T t p) ν))) ∨ (v = nI (tV T t p) ∧ ν = μ ∧ tO T t p = true ∧ tK T t p = 2 ∧ lo ≤ tV T t p ∧ tV T t p ≤ hi)) := by
  cases hO : tO T t p with
  | false =>
    have hf := h.bad hO
    exact ⟨0, μ, fl_looked hf _ _, nyF.rf μ, Or.inl ⟨rfl, Or.inl ⟨rfl, hf⟩⟩⟩
  | true =>
    obtain ⟨e24, e21, e22, e20, e23⟩ := h.2.2.1.1 hO
    have hk4 := tK_le T t p
    unfold f_X10_looked_62 f_X10_looked_62_J21
    rw [if_pos e24, e22]
    by_cases hK : tK T t p = 2
    · have hV := tV_le h.2.2.2 hO hK
      rw [if_pos (show nI (tK T t p) = (2 : Int32) by rw [hK]; rfl), bnd (m_needs1 _ μ)]
      unfold f_X10_looked_62_J25
      rw [if_pos e24, e23 hK, bnd (in_rng (by omega) (by omega) (by omega) μ)]
      dsimp only
      by_cases hc : tV T t p < lo ∨ hi < tV T t p
      · obtain ⟨ν, g1, g2, g3⟩ := m_needs0 (f := 3) e24 e21 (by omega) (by omega)
        have g1 : f_X10_needs_62 0 3 μ = some ν := g1
        rw [decide_eq_true hc, show b2i (!true) = 0 from rfl, bnd g1]
        unfold f_X10_looked_62_J49
        rw [if_neg g2.ne]
        exact ⟨0, ν, rfl, g3, Or.inl ⟨rfl, Or.inr (Or.inr ⟨rfl, hK, hc, g2⟩)⟩⟩
      · rw [decide_eq_false hc, show b2i (!false) = 1 from rfl, bnd (m_needs1 _ μ)]
        unfold f_X10_looked_62_J49
        rw [if_pos e24, e23 hK]
        exact ⟨_, μ, rfl, nyF.rf μ, Or.inr ⟨rfl, rfl, rfl, hK, by omega, by omega⟩⟩
    · obtain ⟨ν, g1, g2, g3⟩ := m_needs0 (f := 2) e24 e21 (by omega) (by omega)
      have g1 : f_X10_needs_62 0 2 μ = some ν := g1
      rw [if_neg (show ¬ nI (tK T t p) = (2 : Int32) from fun hh => hK ((nI_eq (b := 2) (by omega) (by omega)).mp hh)), bnd g1]
      unfold f_X10_looked_62_J25 f_X10_looked_62_J49
      rw [if_neg g2.ne, if_neg g2.ne]
      exact ⟨0, ν, rfl, g3, Or.inl ⟨rfl, Or.inr (Or.inl ⟨rfl, hK, g2⟩)⟩⟩
theorem nbS_1 {T : Nat} {t : Nat → Nat} {p lo hi : Nat} {K : Nat → Nat → XT} (h : tO T t p = false) : nbS T t p lo hi K = xf 1 (tA T t p) := by
  unfold nbS
  rw [if_pos h]
theorem nbS_2 {T : Nat} {t : Nat → Nat} {p lo hi : Nat} {K : Nat → Nat → XT} (h : tO T t p = true) (h2 : tK T t p ≠ 2) : nbS T t p lo hi K = xf 2 (tA T t p) := by
  unfold nbS
  rw [if_neg (by rw [h]; decide), if_pos h2]
theorem nbS_3 {T : Nat} {t : Nat → Nat} {p lo hi : Nat} {K : Nat → Nat → XT} (h : tO T t p = true) (h2 : tK T t p = 2) (h3 : tV T t p < lo ∨ hi < tV T t p) : nbS T t p lo hi K = xf 3 (tA T t p) := by
  unfold nbS
  rw [if_neg (by rw [h]; decide), if_neg (fun hh => hh h2), if_pos h3]
theorem nbS_k {T : Nat} {t : Nat → Nat} {p lo hi : Nat} {K : Nat → Nat → XT} (h : tO T t p = true) (h2 : tK T t p = 2) (h3 : lo ≤ tV T t p) (h4 : tV T t p ≤ hi) : nbS T t p lo hi K = K (tV T t p) (tE T t p) := by
  unfold nbS
  rw [if_neg (by rw [h]; decide), if_neg (fun hh => hh h2), if_neg (by omega)]
theorem m_numK {T : Nat} {t D : Nat → Nat} {lo hi p : Nat} {K : Nat → Nat → XT} {G : Int32 × Mem → Option Mem} {μ0 μ : Mem} (h : MS T t D p μ) (hF : MFr μ0 μ) (hlo : lo ≤ 100) (hhi : hi ≤ 100) (hE : ∀ f w ν, FL f w ν → MRd D ν → MFr μ0 ν → ∃ r, G (0, ν) = some r ∧ MFr μ0 r ∧ FL f w r) (hG : ∀ ν, MS T t D (tE T t p) ν → MFr μ0 ν → lo ≤ tV T t p → tV T t p ≤ hi → ∃ r, G (nI (tV T t p), ν) = some r ∧ MLr T t (K (tV T t p) (tE T t p)) μ0 r) : ∃ r, ((f_X10_readNumber_62 (nI lo) (nI hi) μ).bind G) = some r ∧ MLr T t (nbS T t p lo hi K) μ0 r := by
  obtain ⟨v, ν, l1, l2, l3⟩ := m_looked h hlo hhi
  have hFν := hF.tr l2.mf
  have hRν := h.2.1.ny l2
  unfold f_X10_readNumber_62
  rw [bnd l1]
  dsimp only
  rcases l3 with ⟨rfl, l3⟩ | ⟨rfl, rfl, hO, hK, b1, b2⟩
  · rcases l3 with ⟨hO, hf⟩ | ⟨hO, hK, hf⟩ | ⟨hO, hK, hc, hf⟩
    · rw [bnd (fl_next hf), Option.bind_some, nbS_1 hO]
      obtain ⟨r, r1, r2, r3⟩ := hE _ _ ν hf hRν hFν
      exact ⟨r, r1, MLr.f r2 r3⟩
    · rw [bnd (fl_next hf), Option.bind_some, nbS_2 hO hK]
      obtain ⟨r, r1, r2, r3⟩ := hE _ _ ν hf hRν hFν
      exact ⟨r, r1, MLr.f r2 r3⟩
    · rw [bnd (fl_next hf), Option.bind_some, nbS_3 hO hK hc]
      obtain ⟨r, r1, r2, r3⟩ := hE _ _ ν hf hRν hFν
      exact ⟨r, r1, MLr.f r2 r3⟩
  · obtain ⟨e24, e21, e22, e20, e23⟩ := h.2.2.1.1 hO
    have hle := tE_le (t := t) h.2.2.2
    obtain ⟨ξ, n1, n2, n3⟩ := m_next h.1 hle.2 e20 e24
    rw [bnd n1, Option.bind_some, nbS_k hO hK b1 b2]
    exact hG ξ ⟨h.1.fr n2, h.2.1.ny n2, n3, hle.2⟩ (hF.tr n2.mf) b1 b2
theorem m_newK {T : Nat} {t D : Nat → Nat} {hi p tv : Nat} {K : Nat → Nat → XT} {G : Int32 × Mem → Option Mem} {μ0 μ : Mem} (h : MS T t D p μ) (hF : MFr μ0 μ) (htv : tv < 64) (hhi : hi < 6) (hE : ∀ f w u ν, u ≤ hi → FL f w ν → MRd D ν → MFr μ0 ν → ∃ r, G (nI u, ν) = some r ∧ MFr μ0 r ∧ FL f w r) (hG : ∀ ν, MS T t D (tE T t p) ν → MFr μ0 ν → tV T t p ≤ hi → tv / 2 ^ tV T t p % 2 ≠ 1 → ∃ r, G (nI (tV T t p), ν) = some r ∧ MLr T t (K (tV T t p) (tE T t p)) μ0 r) : ∃ r, ((f_X10_readNew_62 (nI hi) (nI tv) μ).bind G) = some r ∧ MLr T t (nbS T t p 0 hi fun v e => if tv / 2 ^ v % 2 = 1 then xf 4 (tA T t p) else K v e) μ0 r := by
  obtain ⟨v, ν, l1, l2, l3⟩ := m_looked (lo := 0) (hi := hi) h (by omega) (by omega)
  have l1 : f_X10_looked_62 (0 : Int32) (nI hi) μ = some (v, ν) := l1
  have hFν := hF.tr l2.mf
  have hRν := h.2.1.ny l2
  unfold f_X10_readNew_62 f_X10_readNew_62_J28 f_X10_readNew_62_J32
  rw [bnd l1]
  dsimp only
  rcases l3 with ⟨rfl, l3⟩ | ⟨rfl, rfl, hO, hK, b1, b2⟩
  · rcases l3 with ⟨hO, hf⟩ | ⟨hO, hK, hf⟩ | ⟨hO, hK, hc, hf⟩
    · rw [if_neg hf.ne, bnd (fl_next hf), Option.bind_some, nbS_1 hO]
      obtain ⟨r, r1, r2, r3⟩ := hE _ _ 0 ν (by omega) hf hRν hFν
      exact ⟨r, r1, MLr.f r2 r3⟩
    · rw [if_neg hf.ne, bnd (fl_next hf), Option.bind_some, nbS_2 hO hK]
      obtain ⟨r, r1, r2, r3⟩ := hE _ _ 0 ν (by omega) hf hRν hFν
      exact ⟨r, r1, MLr.f r2 r3⟩
    · rw [if_neg hf.ne, bnd (fl_next hf), Option.bind_some, nbS_3 hO hK hc]
      obtain ⟨r, r1, r2, r3⟩ := hE _ _ 0 ν (by omega) hf hRν hFν
      exact ⟨r, r1, MLr.f r2 r3⟩
  · obtain ⟨e24, e21, e22, e20, e23⟩ := h.2.2.1.1 hO
    have hle := tE_le (t := t) h.2.2.2
    obtain ⟨o1, o2⟩ := or_bit tv htv (tV T t p) (by omega)
    have hbz : ((nI tv >>> (nI (tV T t p) &&& 31)) &&& 1 = 0) ↔ tv / 2 ^ tV T t p % 2 ≠ 1 := by
      have h01 : ∀ v, v < 64 → ∀ d, d < 6 → ((nI v >>> (nI d &&& 31)) &&& 1 = 0) ∨ ((nI v >>> (nI d &&& 31)) &&& 1 = 1) := by decide +kernel
      rcases h01 tv htv (tV T t p) (by omega) with hz | hz
      · exact ⟨fun _ hh => by rw [o1.mpr hh] at hz; exact absurd hz (by decide), fun _ => hz⟩
      · exact ⟨fun hh => by rw [hz] at hh; exact absurd hh (by decide), fun hh => absurd (o1.mp hz) hh⟩
    rw [if_pos e24, nbS_k hO hK b1 b2]
    by_cases hb : tv / 2 ^ tV T t p % 2 = 1
    · obtain ⟨ξ, g1, g2, g3⟩ := m_needs0 (f := 4) e24 e21 (by omega) (by omega)
      have g1 : f_X10_needs_62 0 4 ν = some ξ := g1
      rw [if_neg (fun hh => hbz.mp hh hb), bnd g1, bnd (fl_next g2), Option.bind_some, if_pos hb]
      obtain ⟨r, r1, r2, r3⟩ := hE _ _ (tV T t p) ξ b2 g2 (h.2.1.ny g3) (hF.tr g3.mf)
      exact ⟨r, r1, MLr.f r2 r3⟩
    · obtain ⟨ξ, n1, n2, n3⟩ := m_next h.1 hle.2 e20 e24
      rw [if_pos (hbz.mpr hb), bnd (m_needs1 _ ν), bnd n1, Option.bind_some, if_neg hb]
      exact hG ξ ⟨h.1.fr n2, h.2.1.ny n2, n3, hle.2⟩ (hF.tr n2.mf) b2 hb
