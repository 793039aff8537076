theorem first_bad (g : Nat → Prop) : ∀ N, ∃ M, M ≤ N ∧ (∀ p, p < M → g p) ∧ (M = N ∨ (M < N ∧ ¬ g M))
  | 0 => ⟨0, by omega, fun p hp => by omega, Or.inl rfl⟩
  | N + 1 => by
    obtain ⟨M, h1, h2, h3⟩ := first_bad g N
    rcases h3 with rfl | ⟨h3, h4⟩
    · by_cases hg : g M
      · exact ⟨M + 1, by omega, fun p hp => by
          by_cases h : p = M
          · rw [h]; exact hg
          · exact h2 p (by omega), Or.inl rfl⟩
      · exact ⟨M, by omega, h2, Or.inr ⟨by omega, hg⟩⟩
    · exact ⟨M, by omega, h2, Or.inr ⟨by omega, h4⟩⟩
theorem PostR.wt {n Q : Nat} {μ μ' : Mem} (h1 : ∀ p k, (p = 2 ∨ (4 ≤ p ∧ p ≤ 10)) → p ≠ 9 → μ'.1 p k = μ.1 p k) (h2 : ∀ k, k < 54 → ¬ (21 ≤ k ∧ k < 27) → μ'.1 63 k = μ.1 63 k) (h3 : ∀ q, q < 6 → ∃ w, w < 3 ^ n ∧ μ'.1 9 q = nI w ∧ μ'.1 63 (21 + q) = nI w) (h : PostR n Q μ 4 0) : PostR n Q μ' 4 0 := by
  obtain ⟨a1, a2, a3, a4, a5, a6⟩ := h
  refine ⟨fun s hs => ?_, fun s hs => ?_, fun s hs => ?_, fun s hs => ?_, fun s hs => ?_, ?_⟩
  · rw [h1 (4 + 1) _ (by omega) (by omega), h2 _ (by omega) (by omega)]; exact a1 s hs
  · rw [h1 (4 + 2) _ (by omega) (by omega), h2 _ (by omega) (by omega), h1 2 _ (by omega) (by omega)]; exact a2 s hs
  · rw [h1 (4 + 3) _ (by omega) (by omega), h2 _ (by omega) (by omega)]; exact a3 s hs
  · rw [h1 (4 + 4) _ (by omega) (by omega), h2 _ (by omega) (by omega)]; exact a4 s hs
  · obtain ⟨w, g1, g2, g3⟩ := h3 s hs
    exact ⟨w, g1, g2, by simpa using g3⟩
  · obtain ⟨h, g1, g2, g3, g4⟩ := a6
    refine ⟨h, g1, by rw [h1 4 _ (by omega) (by omega)]; exact g2, by rw [h2 _ (by omega) (by omega)]; exact g3, fun i hi => ?_⟩
    rw [h1 (4 + 6) _ (by omega) (by omega), h2 _ (by omega) (by omega), h2 _ (by omega) (by omega), h2 _ (by omega) (by omega)]
    exact g4 i hi
theorem wv_rel {n : Nat} {q w : Nat → Nat} {v v' : Nat → Int32} {M : Nat} (hw : ∀ p, p < M → w p < 3 ^ n) (hv : ∀ k, k < 6 → ∃ u, u < 3 ^ n ∧ v k = nI u ∧ v' k = nI u) : ∀ i, i ≤ M → ∀ k, k < 6 → ∃ u, u < 3 ^ n ∧ wv q w v i k = nI u ∧ wv q w v' i k = nI u
  | 0, _, k, hk => hv k hk
  | i + 1, hi, k, hk => by
    show ∃ u, u < 3 ^ n ∧ (if k = q i then nI (w i) else wv q w v i k) = nI u ∧ (if k = q i then nI (w i) else wv q w v' i k) = nI u
    by_cases h : k = q i
    · rw [if_pos h, if_pos h]
      exact ⟨w i, hw i (by omega), rfl, rfl⟩
    · rw [if_neg h, if_neg h]
      exact wv_rel hw hv i (by omega) k hk
/-- what the class finds of the pairs of a sheet -/
def FcR (μ : Mem) (s : Nat) (x a : Int32) (fc : Nat → Int32) : Prop := (μ.1 (27 + 2 * s) 1 = -1 ∧ ∀ p, fc p = 1) ∨ (∃ l z, z ≤ 40 ∧ μ.1 (27 + 2 * s) 1 = nI z ∧ μ.1 (27 + 2 * s) 0 = nI l ∧ ∀ p, fc p = flP x l z a p)
def RdC (μ : Mem) (s n Q M Pn A : Nat) (x a : Int32) (fc : Nat → Int32) (q w : Nat → Nat) : Prop :=
    (M = Pn → f_X9_read_0 (nI s) x a (nI Pn) μ = some (nI M, pI (wm 0 9 q w μ M) 0 5 0)) ∧
    (M < Pn → fc M ≠ 0 → f_X9_read_0 (nI s) x a (nI Pn) μ = some (nI M, pI (wm 0 9 q w μ M) 0 5 (fc M))) ∧
    (M < Pn → fc M = 0 → a = nI A → A + 2 * M + 1 < 40 → (inb (μ.1 (28 + 2 * s) (A + 2 * M)) Q && inb (μ.1 (28 + 2 * s) (A + 2 * M + 1)) (3 ^ n)) = false → f_X9_read_0 (nI s) x a (nI Pn) μ = some (-20 - nI M, μ))
theorem c_rd {s n Q M Pn A : Nat} {x a : Int32} {fc : Nat → Int32} {q w : Nat → Nat} {μ : Mem} (hs : s < 4) (hx : inb x 3 = true) (hn : n ≤ 3) (hQ : Q ≤ 6) (e10 : μ.1 1 0 = nI n) (e11 : μ.1 1 1 = nI Q) (hfc : FcR μ s x a fc) (hMP : M ≤ Pn) (hP : Pn ≤ 13) (ha : 0 < M → a = nI A ∧ A + 2 * M ≤ 40) (hg : ∀ p, p < M → fc p = 0) (hq : ∀ p, p < M → q p < Q ∧ w p < 3 ^ n ∧ μ.1 (28 + 2 * s) (A + 2 * p) = nI (q p) ∧ μ.1 (28 + 2 * s) (A + 2 * p + 1) = nI (w p)) : RdC μ s n Q M Pn A x a fc q w := by
  have hd : ∀ t, t < 4 → f_X9_read_0 (nI t) x a (nI Pn) μ = (if nI t = 0 then it4 (f_X9_read_0_L45 x a (nI Pn)) FU (0 : Int32) (0 : Int32) (0 : Int32) μ else if nI t = 1 then it4 (f_X9_read_0_L45e1 x a (nI Pn)) FU (0 : Int32) (0 : Int32) (0 : Int32) μ else if nI t = 2 then it4 (f_X9_read_0_L45e2 x a (nI Pn)) FU (0 : Int32) (0 : Int32) (0 : Int32) μ else if nI t = 3 then it4 (f_X9_read_0_L45e3 x a (nI Pn)) FU (0 : Int32) (0 : Int32) (0 : Int32) μ else none) := by
    intro t ht
    unfold f_X9_read_0
    rw [bnd (p_isSheet _ μ), inb_nI ht (by omega)]
    dsimp only
    rw [if_neg (by decide), bnd (p_isLane _ μ), hx]
    dsimp only
    rw [if_neg (by decide), if_neg (nI_pos (by omega)), if_pos (show nI Pn ≤ (13 : Int32) from nI_le (b := 13) hP (by omega))]
  rcases (show s = 0 ∨ s = 1 ∨ s = 2 ∨ s = 3 by omega) with rfl | rfl | rfl | rfl

  · have hf : ∀ p, p ≤ 13 → f_X6_faultOfPair_27 x a (nI p) μ = some (fc p, μ) := by
      intro p hp
      rcases hfc with ⟨h1, h2⟩ | ⟨l, z, h1, h2, h3, h4⟩
      · rw [h2]; exact p_fopn_27 h1 x a (nI p)
      · rw [h4]; exact p_fop_27 h1 h2 h3 x a (nI p)
    have hL : f_X9_read_0 (nI 0) x a (nI Pn) μ = it4 (f_X9_read_0_L45 x a (nI Pn)) FU (0 : Int32) (0 : Int32) (0 : Int32) μ := by
      rw [hd 0 (by omega)]
      rfl
    unfold RdC
    rw [hL]
    exact p_rd_27 hn hQ e10 e11 hf hMP hP ha hg hq

  · have hf : ∀ p, p ≤ 13 → f_X6_faultOfPair_29 x a (nI p) μ = some (fc p, μ) := by
      intro p hp
      rcases hfc with ⟨h1, h2⟩ | ⟨l, z, h1, h2, h3, h4⟩
      · rw [h2]; exact p_fopn_29 h1 x a (nI p)
      · rw [h4]; exact p_fop_29 h1 h2 h3 x a (nI p)
    have hL : f_X9_read_0 (nI 1) x a (nI Pn) μ = it4 (f_X9_read_0_L45e1 x a (nI Pn)) FU (0 : Int32) (0 : Int32) (0 : Int32) μ := by
      rw [hd 1 (by omega)]
      rfl
    unfold RdC
    rw [hL]
    exact p_rd_29 hn hQ e10 e11 hf hMP hP ha hg hq

  · have hf : ∀ p, p ≤ 13 → f_X6_faultOfPair_31 x a (nI p) μ = some (fc p, μ) := by
      intro p hp
      rcases hfc with ⟨h1, h2⟩ | ⟨l, z, h1, h2, h3, h4⟩
      · rw [h2]; exact p_fopn_31 h1 x a (nI p)
      · rw [h4]; exact p_fop_31 h1 h2 h3 x a (nI p)
    have hL : f_X9_read_0 (nI 2) x a (nI Pn) μ = it4 (f_X9_read_0_L45e2 x a (nI Pn)) FU (0 : Int32) (0 : Int32) (0 : Int32) μ := by
      rw [hd 2 (by omega)]
      rfl
    unfold RdC
    rw [hL]
    exact p_rd_31 hn hQ e10 e11 hf hMP hP ha hg hq

  · have hf : ∀ p, p ≤ 13 → f_X6_faultOfPair_33 x a (nI p) μ = some (fc p, μ) := by
      intro p hp
      rcases hfc with ⟨h1, h2⟩ | ⟨l, z, h1, h2, h3, h4⟩
      · rw [h2]; exact p_fopn_33 h1 x a (nI p)
      · rw [h4]; exact p_fop_33 h1 h2 h3 x a (nI p)
    have hL : f_X9_read_0 (nI 3) x a (nI Pn) μ = it4 (f_X9_read_0_L45e3 x a (nI Pn)) FU (0 : Int32) (0 : Int32) (0 : Int32) μ := by
      rw [hd 3 (by omega)]
      rfl
    unfold RdC
    rw [hL]
    exact p_rd_33 hn hQ e10 e11 hf hMP hP ha hg hq

/-- the model's read from memory with the watches set aside -/
theorem m_rd0 {s Pn : Nat} {x a : Int32} {μ : Mem} (hs : s < 4) (hx : inb x 3 = true) (hP : Pn ≤ 13) : ∃ ν, f_X10_read_62 (nI s) x a (nI Pn) μ = it4 (f_X10_read_62_L65 (nI s) x a (nI Pn)) FU (0 : Int32) (0 : Int32) (0 : Int32) ν ∧ setW μ ν 79 0 6 (fun k => μ.1 63 (21 + k)) := by
  have hsh : f_X10_isSheet (nI s) x μ = some (b2i true, μ) := by
    unfold f_X10_isSheet
    rw [bnd (in_lit (hi := 3) (n := 3) rfl μ), inb_nI hs (by omega)]
    dsimp only
    rw [if_neg (by decide), bnd (in_lit (hi := 2) (n := 2) rfl μ), hx]
    rfl
  unfold f_X10_read_62
  rw [bnd hsh]
  dsimp only
  rw [if_neg (by decide), bnd (in_lit (hi := 13) (n := 13) rfl μ), inb_nI (by omega) (by omega)]
  dsimp only
  rw [if_neg (by decide)]
  refine for_con (body := f_X10_read_62_L26 (nI s) x a (nI Pn)) nI 6 (fun i ξ => setW μ ξ 79 0 i (fun k => μ.1 63 (21 + k))) (fun ξ => it4 (f_X10_read_62_L65 (nI s) x a (nI Pn)) FU (0 : Int32) (0 : Int32) (0 : Int32) ξ) (fun ξ => setW μ ξ 79 0 6 (fun k => μ.1 63 (21 + k))) (fun k i ξ hi hR => ?_) (fun k ξ hR => ?_) FU 0 μ (by omega) (fu_gt (by omega)) setW.z
  · unfold f_X10_read_62_L26
    rw [if_neg (show ¬ (6 : Int32) ≤ nI i from nI_ge (b := 6) hi (by omega)), la21, inb_nI (by omega) (by omega), inb_nI (by omega) (by omega), if_neg (show ¬ (true = false) by decide), if_neg (show ¬ (true = false) by decide), nI_clamp (by omega), nI_clamp (by omega), al1, hR.1 63 _ (by omega)]
    have h := hR.s
    rw [Nat.zero_add] at h
    exact ⟨_, rfl, h⟩
  · unfold f_X10_read_62_L26
    rw [if_pos (show (6 : Int32) ≤ nI 6 from by decide)]
    exact ⟨_, rfl, hR⟩
theorem s_read (a0 a1 a2 a3 : Int32) : PStp (f_X9_read_0 a0 a1 a2 a3) (f_X10_read_62 a0 a1 a2 a3) := by
  intro μ hI0
  obtain ⟨n, Q, hC⟩ := hI0
  have hC0 := hC
  obtain ⟨⟨hn, hQ1, hQ6, e10, e622, e624, e11, e623, hk, hs⟩, hP, hI, hS, hT, hR⟩ := hC
  have h27 := p3 hn
  by_cases hg : (inb a0 4 && inb a1 3 && inb a3 14) = true
  · have hg0 : inb a0 4 = true := by cases h : inb a0 4 <;> simp [h] at hg ⊢
    have hg1 : inb a1 3 = true := by cases h : inb a1 3 <;> simp [h] at hg ⊢
    have hg3 : inb a3 14 = true := by cases h : inb a3 14 <;> simp [h] at hg ⊢
    obtain ⟨s, hs4, rfl⟩ := inb_of hg0 (by omega)
    obtain ⟨Pn, hPn, rfl⟩ := inb_of hg3 (by omega)
    have hPn : Pn ≤ 13 := by omega
    obtain ⟨F, T, N, G, W, hPV⟩ := PV.get hn hP
    have hW := hPV.2.2.2.2
    /- the class -/
    obtain ⟨fc, hfc, hcell⟩ : ∃ fc, FcR μ s a1 a2 fc ∧ ((μ.1 76 s = -4 ∧ ∀ p, fc p = 1) ∨ (∃ l z, l < 3 ∧ z ≤ 40 ∧ μ.1 76 s = nI l ∧ μ.1 77 s = nI z ∧ (∀ p, fc p = flP a1 l z a2 p) ∧ ∀ i, i < 40 → μ.1 (28 + 2 * s) i = μ.1 78 (40 * s + i))) := by
      rcases hS s hs4 with ⟨g1, g2⟩ | ⟨l, z, g1, g2, g3, g4, g5, g6, g7⟩
      · exact ⟨fun _ => 1, Or.inl ⟨g1, fun _ => rfl⟩, Or.inl ⟨g2, fun _ => rfl⟩⟩
      · exact ⟨flP a1 l z a2, Or.inr ⟨l, z, g2, g5, g3, fun _ => rfl⟩, Or.inr ⟨l, z, g1, g2, g4, g6, fun _ => rfl, g7⟩⟩
    have hA : ∀ p, fc p = 0 → ∃ A, a2 = nI A ∧ A < 40 ∧ (p ≤ 13 → A + 2 * p + 1 < 40) := by
      intro p h0
      rcases hcell with ⟨-, h1⟩ | ⟨l, z, -, hz, -, -, h1, -⟩
      · rw [h1] at h0
        exact absurd h0 (by decide)
      · rw [h1] at h0
        unfold flP at h0
        by_cases c1 : a1 = nI l
        · rw [if_pos c1] at h0
          cases c2 : inb a2 z with
          | false => rw [c2, if_neg (show ¬ (false = true) by decide)] at h0; exact absurd h0 (by decide)
          | true =>
            rw [c2, if_pos rfl] at h0
            obtain ⟨A, hA, rfl⟩ := inb_of c2 (by omega)
            refine ⟨A, rfl, by omega, fun hp => ?_⟩
            rw [lm2, nI_add, al1] at h0
            cases c3 : inb (nI (A + 2 * p + 1)) z with
            | false => rw [c3] at h0; exact absurd h0 (by decide)
            | true =>
              have := (inb_iff.mp c3).2
              rw [nI_toInt (by omega)] at this
              omega
        · rw [if_neg c1] at h0
          exact absurd h0 (by decide)
    obtain ⟨A, hA0⟩ : ∃ A : Nat, ∀ p, fc p = 0 → a2 = nI A ∧ A < 40 ∧ (p ≤ 13 → A + 2 * p + 1 < 40) := by
      by_cases h : ∃ p, fc p = 0
      · obtain ⟨p0, h0⟩ := h
        obtain ⟨A, g1, g2, -⟩ := hA p0 h0
        refine ⟨A, fun p hp => ?_⟩
        obtain ⟨B, b1, b2, b3⟩ := hA p hp
        have : A = B := (nI_eq (by omega) (by omega)).mp (g1.symm.trans b1)
        subst this
        exact ⟨b1, b2, b3⟩
      · exact ⟨0, fun p hp => absurd ⟨p, hp⟩ h⟩
    obtain ⟨M, hM1, hM2, hM3⟩ := first_bad (fun p => fc p = 0 ∧ (inb (μ.1 (28 + 2 * s) (A + 2 * p)) Q && inb (μ.1 (28 + 2 * s) (A + 2 * p + 1)) (3 ^ n)) = true) Pn
    have hq0 : ∃ q w : Nat → Nat, ∀ p, p < M → q p < Q ∧ w p < 3 ^ n ∧ μ.1 (28 + 2 * s) (A + 2 * p) = nI (q p) ∧ μ.1 (28 + 2 * s) (A + 2 * p + 1) = nI (w p) := by
      refine ⟨fun p => (μ.1 (28 + 2 * s) (A + 2 * p)).toNatClampNeg, fun p => (μ.1 (28 + 2 * s) (A + 2 * p + 1)).toNatClampNeg, fun p hp => ?_⟩
      obtain ⟨-, h2⟩ := hM2 p hp
      rw [Bool.and_eq_true] at h2
      obtain ⟨c, c1, c2⟩ := inb_of h2.1 (by omega)
      obtain ⟨d, d1, d2⟩ := inb_of h2.2 (by omega)
      dsimp only
      rw [c2, d2, nI_clamp (by omega), nI_clamp (by omega)]
      exact ⟨c1, d1, rfl, rfl⟩
    obtain ⟨q, w, hq⟩ := hq0
    have ha : 0 < M → a2 = nI A ∧ A + 2 * M ≤ 40 := by
      intro h
      obtain ⟨h1, h2, h3⟩ := hA0 (M - 1) (hM2 (M - 1) (by omega)).1
      have := h3 (by omega)
      exact ⟨h1, by omega⟩
    obtain ⟨C1, C2, C3⟩ := c_rd (Pn := Pn) hs4 hg1 hn hQ6 e10 e11 hfc hM1 hPn ha (fun p hp => (hM2 p hp).1) hq
    /- the model behind a memory that differs in the class alone -/
    have hmod : ∀ ξ : Mem, (∀ p k, p ≠ 9 → ¬ (p = 0 ∧ k = 5) → ξ.1 p k = μ.1 p k) → ∃ ν, f_X10_read_62 (nI s) a1 a2 (nI Pn) ξ = it4 (f_X10_read_62_L65 (nI s) a1 a2 (nI Pn)) FU (0 : Int32) (0 : Int32) (0 : Int32) ν ∧ setW ξ ν 79 0 6 (fun k => ξ.1 63 (21 + k)) ∧
      ((M = Pn → it4 (f_X10_read_62_L65 (nI s) a1 a2 (nI Pn)) FU 0 0 0 ν = some (nI M, pI (wm 21 63 q w ν M) 62 38 0)) ∧
       (M < Pn → fc M ≠ 0 → it4 (f_X10_read_62_L65 (nI s) a1 a2 (nI Pn)) FU 0 0 0 ν = some (nI M, pI (wm 21 63 q w ν M) 62 38 (fc M))) ∧
       (M < Pn → fc M = 0 → a2 = nI A → A + 2 * M + 1 < 40 → (inb (ν.1 78 (40 * s + A + 2 * M)) Q && inb (ν.1 78 (40 * s + A + 2 * M + 1)) (3 ^ n)) = false → ∃ μ', it4 (f_X10_read_62_L65 (nI s) a1 a2 (nI Pn)) FU 0 0 0 ν = some (-20 - nI M, μ') ∧ setW (wm 21 63 q w ν M) μ' 63 21 6 (fun k => ν.1 79 k))) := by
      intro ξ hξ
      obtain ⟨ν, n1, n2⟩ := m_rd0 (a := a2) (μ := ξ) hs4 hg1 hPn
      have hν : ∀ p k, p ≠ 9 → p ≠ 79 → ¬ (p = 0 ∧ k = 5) → ν.1 p k = μ.1 p k := fun p k h1 h2 h3 => (n2.1 p k (by omega)).trans (hξ p k h1 h3)
      refine ⟨ν, n1, n2, ?_⟩
      refine m_rd (fm := fc) hs4 hn hQ6 (by rw [hν _ _ (by omega) (by omega) (by omega)]; exact e624) (by rw [hν _ _ (by omega) (by omega) (by omega)]; exact e623) (fun p hp hp13 k65 a6 m hm1 hm2 => ?_) hM1 hPn ha (fun p hp => (hM2 p hp).1) (fun k hk => ?_) (fun p hp => ?_)
      · rw [hν _ _ (by omega) (by omega) (by omega)] at hm1 hm2
        rcases hcell with ⟨h1, h2⟩ | ⟨l, z, hl, hz, h1, h2, h3, -⟩
        · rw [h2]
          exact m_fopn k65 hs4 (hm1.trans h1)
        · rw [h3, ← fl_eq hz hp13 ?_]
          · exact m_fop k65 hs4 hl hz hp13 (hm1.trans h1) (hm2.trans h2)
          · by_cases h0 : p = 0
            · exact Or.inl h0
            · refine Or.inr ?_
              have h4 := (hM2 0 (by omega)).1
              rw [h3] at h4
              unfold flP at h4
              by_cases c1 : a1 = nI l
              · rw [if_pos c1] at h4
                cases c2 : inb a2 z with
                | false => rw [c2, if_neg (show ¬ (false = true) by decide)] at h4; exact absurd h4 (by decide)
                | true => rfl
              · rw [if_neg c1] at h4
                exact absurd h4 (by decide)
      · obtain ⟨w1, -, w2⟩ := hW k hk
        rw [hν _ _ (by omega) (by omega) (by omega)]
        exact ⟨W k, by omega, w2⟩
      · obtain ⟨q1, q2, q3, q4⟩ := hq p hp
        have hA1 := (ha (by omega)).2
        rcases hcell with ⟨-, h1⟩ | ⟨l, z, -, -, -, -, -, h1⟩
        · have := (hM2 p hp).1
          rw [h1] at this
          exact absurd this (by decide)
        · rw [hν _ _ (by omega) (by omega) (by omega), hν _ _ (by omega) (by omega) (by omega), Nat.add_assoc, Nat.add_assoc, ← h1 _ (by omega), Nat.add_assoc, ← Nat.add_assoc A, ← h1 _ (by omega)]
          exact ⟨q1, q2, q3, q4⟩
    /- some come -/
    have hcome : ∀ f : Int32, (∀ ξ ν : Mem, f_X9_read_0 (nI s) a1 a2 (nI Pn) μ = some (nI M, ξ) → True) → f_X9_read_0 (nI s) a1 a2 (nI Pn) μ = some (nI M, pI (wm 0 9 q w μ M) 0 5 f) → (∀ ν, setW (pI (wm 0 9 q w μ M) 0 5 f) ν 79 0 6 (fun k => (pI (wm 0 9 q w μ M) 0 5 f).1 63 (21 + k)) → f_X10_read_62 (nI s) a1 a2 (nI Pn) (pI (wm 0 9 q w μ M) 0 5 f) = it4 (f_X10_read_62_L65 (nI s) a1 a2 (nI Pn)) FU (0 : Int32) (0 : Int32) (0 : Int32) ν → it4 (f_X10_read_62_L65 (nI s) a1 a2 (nI Pn)) FU 0 0 0 ν = some (nI M, pI (wm 21 63 q w ν M) 62 38 f) → ∃ v μ1 μ2, f_X9_read_0 (nI s) a1 a2 (nI Pn) μ = some (v, μ1) ∧ f_X10_read_62 (nI s) a1 a2 (nI Pn) μ1 = some (v, μ2) ∧ INV μ2) := by
      intro f _ h1 ν h2 h3 h4
      refine ⟨_, _, _, h1, h3.trans h4, n, Q, ?_⟩
      have hfin : ∀ p k, p ≠ 9 → p ≠ 79 → ¬ (p = 0 ∧ k = 5) → ¬ (p = 62 ∧ k = 38) → ¬ (p = 63 ∧ 21 ≤ k ∧ k < 27) → (pI (wm 21 63 q w ν M) 62 38 f).1 p k = μ.1 p k := by
        intro p k c1 c2 c3 c4 c5
        have e1 : (pI (wm 21 63 q w ν M) 62 38 f).1 p k = (wm 21 63 q w ν M).1 p k := by
          by_cases hp : p = 62
          · subst hp; exact rd_i (by omega)
          · exact rd_p hp
        have e2 : (wm 21 63 q w ν M).1 p k = ν.1 p k := by
          by_cases hp : p = 63
          · subst hp
            exact wm_o (by omega) M (fun j hj => by have := (hq j hj).1; omega)
          · exact wm_p hp M
        have e3 : (pI (wm 0 9 q w μ M) 0 5 f).1 p k = (wm 0 9 q w μ M).1 p k := by
          by_cases hp : p = 0
          · subst hp; exact rd_i (by omega)
          · exact rd_p hp
        rw [e1, e2, h2.1 p k (by omega), e3, wm_p c1 M]
      have h05 : (pI (wm 21 63 q w ν M) 62 38 f).1 0 5 = f := by
        rw [rd_p (by omega), wm_p (by omega) M, h2.1 0 5 (by omega), rd_s]
      have h6238 : (pI (wm 21 63 q w ν M) 62 38 f).1 62 38 = f := rd_s
      have hwt : ∀ k, k < 6 → ∃ u, u < 3 ^ n ∧ (pI (wm 21 63 q w ν M) 62 38 f).1 9 k = nI u ∧ (pI (wm 21 63 q w ν M) 62 38 f).1 63 (21 + k) = nI u := by
        intro k hk
        obtain ⟨u, u1, u2, u3⟩ := wv_rel (n := n) (q := q) (w := w) (v := fun k => μ.1 9 (0 + k)) (v' := fun k => ν.1 63 (21 + k)) (M := M) (fun p hp => (hq p hp).2.1) (fun k hk => by
          obtain ⟨w1, w2, w3⟩ := hW k hk
          refine ⟨W k, w1, by rw [Nat.zero_add]; exact w2, ?_⟩
          rw [h2.1 63 _ (by omega), rd_p (by omega), wm_p (by omega) M]
          exact w3) M (Nat.le_refl _) k hk
        refine ⟨u, u1, ?_, ?_⟩
        · rw [rd_p (by omega), wm_p (by omega) M, h2.1 9 k (by omega), rd_p (by omega)]
          have := wm_v (b := 0) (pl := 9) (q := q) (w := w) (m := μ) k M
          rw [Nat.zero_add] at this
          rw [this]
          exact u2
        · rw [rd_p (by omega), wm_v]
          exact u3
      generalize pI (wm 21 63 q w ν M) 62 38 f = fin at hfin h05 h6238 hwt
      have hC1 : Core n Q (pI (pI μ 0 5 f) 62 38 f) := by
        refine Core.sheets (fun p k _ _ _ _ c1 c2 => ?_) (fun k hk => ?_) ?_ hC0
        · have e1 : (pI (pI μ 0 5 f) 62 38 f).1 p k = (pI μ 0 5 f).1 p k := by
            by_cases hp : p = 62
            · subst hp; exact rd_i (by omega)
            · exact rd_p hp
          have e2 : (pI μ 0 5 f).1 p k = μ.1 p k := by
            by_cases hp : p = 0
            · subst hp; exact rd_i (by omega)
            · exact rd_p hp
          rw [e1, e2]
        · refine (hS k hk).fr (fun i => ?_) (fun i => ?_) ?_ ?_ (fun i _ => ?_) <;> rw [rd_p (by omega), rd_p (by omega)]
        · rw [rd_s, rd_p (by omega), rd_s]
      have hC2 : Core n Q (fun p k => if p = 79 then μ.1 79 k else fin.1 p k, fin.2) := by
        refine Core.post (fun p k c1 c2 => ?_) (PostR.wt (μ := μ) (fun p k c1 c2 => ?_) (fun k c1 c2 => ?_) (fun k hk => ?_) hP) hC1
        · show (if p = 79 then μ.1 79 k else fin.1 p k) = _
          by_cases h79 : p = 79
          · subst h79
            rw [if_pos rfl, rd_p (by omega), rd_p (by omega)]
          · rw [if_neg h79]
            by_cases a1 : p = 0 ∧ k = 5
            · obtain ⟨rfl, rfl⟩ := a1
              rw [h05, rd_p (by omega), rd_s]
            · by_cases a2 : p = 62 ∧ k = 38
              · obtain ⟨rfl, rfl⟩ := a2
                rw [h6238, rd_s]
              · rw [hfin p k (by omega) h79 a1 a2 (by omega)]
                have e1 : (pI (pI μ 0 5 f) 62 38 f).1 p k = (pI μ 0 5 f).1 p k := by
                  by_cases hp : p = 62
                  · subst hp; exact rd_i (by omega)
                  · exact rd_p hp
                have e2 : (pI μ 0 5 f).1 p k = μ.1 p k := by
                  by_cases hp : p = 0
                  · subst hp; exact rd_i (by omega)
                  · exact rd_p hp
                rw [e1, e2]
        · show (if p = 79 then μ.1 79 k else fin.1 p k) = _
          rw [if_neg (by omega), hfin p k (by omega) (by omega) (by omega) (by omega) (by omega)]
        · show fin.1 63 k = _
          rw [hfin 63 k (by omega) (by omega) (by omega) (by omega) (by omega)]
        · exact hwt k hk
      refine hC2.sm (fun p k hc => ?_)
      show fin.1 p k = if p = 79 then μ.1 79 k else fin.1 p k
      by_cases h79 : p = 79
      · subst h79
        rcases hc with hc | hc
        · exact absurd (show (false : Bool) = true from hc) (by decide)
        · omega
      · rw [if_neg h79]
    rcases hM3 with hM3 | ⟨hM3, hM4⟩
    · obtain ⟨ν, n1, n2, m1, m2, m3⟩ := hmod (pI (wm 0 9 q w μ M) 0 5 0) (fun p k c1 c2 => by
        by_cases hp : p = 0
        · subst hp; rw [rd_i (by omega), wm_p c1 M]
        · rw [rd_p hp, wm_p c1 M])
      exact hcome 0 (fun _ _ _ => trivial) (C1 hM3) ν n2 n1 (m1 hM3)
    · by_cases hf : fc M = 0
      · obtain ⟨hA1, hA2, hA3⟩ := hA0 M hf
        have hA3 := hA3 (by omega)
        have hbad : (inb (μ.1 (28 + 2 * s) (A + 2 * M)) Q && inb (μ.1 (28 + 2 * s) (A + 2 * M + 1)) (3 ^ n)) = false := by
          cases h : (inb (μ.1 (28 + 2 * s) (A + 2 * M)) Q && inb (μ.1 (28 + 2 * s) (A + 2 * M + 1)) (3 ^ n)) with
          | false => rfl
          | true => exact absurd ⟨hf, h⟩ hM4
        obtain ⟨ν, n1, n2, m1, m2, m3⟩ := hmod μ (fun p k _ _ => rfl)
        have hcl : ∀ i, i < 40 → μ.1 (28 + 2 * s) i = μ.1 78 (40 * s + i) := by
          rcases hcell with ⟨-, h1⟩ | ⟨l, z, -, -, -, -, -, h1⟩
          · rw [h1] at hf
            exact absurd hf (by decide)
          · exact h1
        obtain ⟨μ', r1, r2⟩ := m3 hM3 hf hA1 hA3 (by
          rw [n2.1 _ _ (by omega), n2.1 _ _ (by omega), Nat.add_assoc, Nat.add_assoc, ← hcl _ (by omega), Nat.add_assoc, ← Nat.add_assoc A, ← hcl _ (by omega)]
          exact hbad)
        refine ⟨_, _, _, C3 hM3 hf hA1 hA3 hbad, n1.trans r1, n, Q, hC0.sm (fun p k hc => ?_)⟩
        have h79 : p ≠ 79 := by
          rintro rfl
          rcases hc with hc | hc
          · exact absurd (show (false : Bool) = true from hc) (by decide)
          · omega
        by_cases c : p = 63 ∧ 21 ≤ k ∧ k < 27
        · obtain ⟨rfl, c1, c2⟩ := c
          have h5 := r2.2.1 (k - 21) (by omega)
          rw [show 21 + (k - 21) = k by omega] at h5
          have h6 := n2.2.1 (k - 21) (by omega)
          rw [Nat.zero_add] at h6
          rw [h5]
          show ν.1 79 (k - 21) = _
          rw [h6]
          show μ.1 63 (21 + (k - 21)) = _
          rw [show 21 + (k - 21) = k by omega]
        · rw [r2.1 p k (by omega)]
          by_cases hp : p = 63
          · subst hp
            rw [wm_o (by omega) M (fun j hj => by have := (hq j hj).1; omega), n2.1 _ _ (by omega)]
          · rw [wm_p hp M, n2.1 _ _ (by omega)]
      · obtain ⟨ν, n1, n2, m1, m2, m3⟩ := hmod (pI (wm 0 9 q w μ M) 0 5 (fc M)) (fun p k c1 c2 => by
          by_cases hp : p = 0
          · subst hp; rw [rd_i (by omega), wm_p c1 M]
          · rw [rd_p hp, wm_p c1 M])
        exact hcome (fc M) (fun _ _ _ => trivial) (C2 hM3 hf) ν n2 n1 (m2 hM3 hf)
  · refine ⟨-1, μ, μ, ?_, ?_, n, Q, hC0⟩
    · unfold f_X9_read_0
      rw [bnd (p_isSheet _ μ)]
      dsimp only
      cases h0 : inb a0 4 with
      | false => rfl
      | true =>
        rw [if_neg (by decide), bnd (p_isLane _ μ)]
        dsimp only
        cases h1 : inb a1 3 with
        | false => rfl
        | true =>
          rw [if_neg (by decide), rngL (N := 13) (n := 13) rfl]
          cases h3 : inb a3 (13 + 1) with
          | false => rfl
          | true => exact absurd (by rw [h0, h1, h3]; rfl) hg
    · unfold f_X10_read_62
      have hsh : f_X10_isSheet a0 a1 μ = some (b2i (inb a0 4 && inb a1 3), μ) := by
        unfold f_X10_isSheet
        rw [bnd (in_lit (hi := 3) (n := 3) rfl μ)]
        dsimp only
        cases h0 : inb a0 (3 + 1) with
        | false => rfl
        | true =>
          rw [if_neg (by decide), bnd (in_lit (hi := 2) (n := 2) rfl μ)]
          cases h1 : inb a1 (2 + 1) <;> rfl
      rw [bnd hsh]
      dsimp only
      cases h0 : (inb a0 4 && inb a1 3) with
      | false => rfl
      | true =>
        rw [if_neg (by decide), bnd (in_lit (hi := 13) (n := 13) rfl μ)]
        dsimp only
        cases h3 : inb a3 (13 + 1) with
        | false => rfl
        | true => exact absurd (by rw [h0, h3]; rfl) hg
