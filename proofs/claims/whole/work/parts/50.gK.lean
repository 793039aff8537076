/-- what was heard, as numbers -/
def HR (h : Nat) (Hq Hd Hx : Nat → Nat) (μ : Mem) : Prop := h ≤ 8 ∧ μ.1 4 6 = nI h ∧ μ.1 63 29 = nI h ∧ ∀ i, i < h → Hq i < 6 ∧ Hd i < 4 ∧ Hx i < 2 ∧ μ.1 10 i = nI ((Hq i * 4 + Hd i) * 2 + Hx i) ∧ μ.1 63 (30 + 3 * i) = nI (Hq i) ∧ μ.1 63 (31 + 3 * i) = nI (Hd i) ∧ μ.1 63 (32 + 3 * i) = nI (Hx i)
theorem HR.get {n Q : Nat} {μ : Mem} (hQ : Q ≤ 6) (h : PostR n Q μ 4 0) : ∃ c Hq Hd Hx, HR c Hq Hd Hx μ := by
  obtain ⟨c, c8, c1, c2, c3⟩ := h.2.2.2.2.2
  have c2 : μ.1 63 29 = nI c := by simpa using c2
  refine ⟨c, fun i => (μ.1 63 (30 + 3 * i)).toNatClampNeg, fun i => (μ.1 63 (31 + 3 * i)).toNatClampNeg, fun i => (μ.1 63 (32 + 3 * i)).toNatClampNeg, c8, c1, c2, fun i hi => ?_⟩
  obtain ⟨q, d, x, g1, g2, g3, g4, g5, g6, g7⟩ := c3 i hi
  have g4 : μ.1 10 i = nI ((q * 4 + d) * 2 + x) := g4
  have g5 : μ.1 63 (30 + 3 * i) = nI q := by simpa using g5
  have g6 : μ.1 63 (31 + 3 * i) = nI d := by simpa using g6
  have g7 : μ.1 63 (32 + 3 * i) = nI x := by simpa using g7
  dsimp only
  rw [g4, g5, g6, g7, nI_clamp (by omega), nI_clamp (by omega), nI_clamp (by omega)]
  exact ⟨by omega, g2, g3, rfl, rfl, rfl, rfl⟩
theorem HR.sm {h : Nat} {Hq Hd Hx : Nat → Nat} {μ μ' : Mem} (hs : smE μ μ') (hh : HR h Hq Hd Hx μ) : HR h Hq Hd Hx μ' := by
  have c0 : ∀ k, μ'.1 10 k = μ.1 10 k := fun k => hs _ _ (Or.inl rfl)
  have c3 : ∀ k, μ'.1 63 k = μ.1 63 k := fun k => hs _ _ (Or.inl rfl)
  unfold HR
  rw [hs 4 6 (Or.inl rfl)]
  simp only [c0, c3]
  exact hh
section
variable (n x Z : Nat) (K S F Hq Hd Hx : Nat → Nat) (w : Nat)
def hdB (d : Nat) : Nat := if cn n x K S F (shut w) d 6 = 0 then 0 else 1
def okH (i : Nat) : Bool := !decide (Hq i = Z) || decide (hdB n x K S F w (Hd i) = Hx i)
def fitF : Nat → Bool
  | 0 => true
  | i + 1 => fitF i && okH n x Z K S F Hq Hd Hx w i
end
theorem fitF_f {n x Z : Nat} {K S F Hq Hd Hx : Nat → Nat} {w i : Nat} (h : fitF n x Z K S F Hq Hd Hx w i = false) : ∀ j, i ≤ j → fitF n x Z K S F Hq Hd Hx w j = false := by
  intro j
  induction j with
  | zero => intro h2; rw [show i = 0 by omega] at h; exact h
  | succ j ih =>
    intro h2
    by_cases hc : i = j + 1
    · rw [← hc]; exact h
    · show (fitF n x Z K S F Hq Hd Hx w j && okH n x Z K S F Hq Hd Hx w j) = false
      rw [ih (by omega)]
      rfl
theorem hx1 : ∀ q, q < 6 → ∀ d, d < 4 → ∀ x, x < 2 → (nI ((q * 4 + d) * 2 + x) &&& 1) = nI x ∧ (nI ((q * 4 + d) * 2 + x)) >>> ((1 : Int32) &&& 31) = nI (q * 4 + d) ∧ nI (q * 4 + d) / (4 : Int32) = nI q ∧ nI (q * 4 + d) - nI (q * 4 + d) / (4 : Int32) * 4 = nI d := by decide +kernel
theorem le0 {c : Nat} (h : c < 2 ^ 31) : (nI c ≤ (0 : Int32)) ↔ c = 0 := by
  rw [show (0 : Int32) = nI 0 from rfl, nI_leI h (by omega)]
  omega
theorem p_isAsHeard {n Z w h : Nat} {K S F T N G W Hq Hd Hx : Nat → Nat} {μ : Mem} (hV : HV n K S μ) (hP : PV n F T N G W μ) (hS : SightR n 3 K S F μ) (hH : HR h Hq Hd Hx μ) (hw : w < 3 ^ n) (hZ : Z < 6) : f_X9_isAsHeard_0 (nI Z) (nI w) μ = some (b2i (fitF n 3 Z K S F Hq Hd Hx w h), μ) := by
  have h27 := p3 hV.1
  have hn := hV.1
  obtain ⟨m, hm, h1⟩ := p_openBy hS (w := w) (by omega)
  obtain ⟨h8, hc1, -, hi0⟩ := hH
  unfold f_X9_isAsHeard_0
  rw [bnd h1]
  have := for_ex (body := f_X9_isAsHeard_0_L12 (nI Z) (nI (mk6 m))) nI h (fun i ν => ν = μ ∧ fitF n 3 Z K S F Hq Hd Hx w i = true) (fun r => r = (b2i (fitF n 3 Z K S F Hq Hd Hx w h), μ)) (fun k i ν hi hQ => ?_) (fun k ν hQ => ?_) FU 0 μ (by omega) (fu_gt (by omega)) ⟨rfl, rfl⟩
  · obtain ⟨r, g1, rfl⟩ := this
    exact g1
  · obtain ⟨rfl, hf⟩ := hQ
    obtain ⟨a1, a2, a3, a4, -⟩ := hi0 i hi
    obtain ⟨b1, b2, b3, b4⟩ := hx1 _ a1 _ a2 _ a3
    have hx : (nI (Hx i) = 1) ↔ Hx i = 1 := nI_eq (b := 1) (by omega) (by omega)
    have hq : (nI (Hq i) = nI Z) ↔ Hq i = Z := nI_eq (by omega) (by omega)
    unfold f_X9_isAsHeard_0_L12
    rw [hc1, if_neg (nI_ge hi (by omega)), inb_nI (by omega) (by omega), if_neg (show ¬ (true = false) by decide), if_neg (show ¬ (true = false) by decide), nI_clamp (by omega), a4, b1, b2]
    have hJ : ∀ t, t = Hx i → (∃ r, f_X9_isAsHeard_0_J59 k (nI Z) (nI (mk6 m)) (nI i) (nI (Hq i * 4 + Hd i)) (nI t) ν = some r ∧ r = (b2i (fitF n 3 Z K S F Hq Hd Hx w h), ν)) ∨ (∃ μ', f_X9_isAsHeard_0_J59 k (nI Z) (nI (mk6 m)) (nI i) (nI (Hq i * 4 + Hd i)) (nI t) ν = k (nI (i + 1)) μ' ∧ μ' = ν ∧ fitF n 3 Z K S F Hq Hd Hx w (i + 1) = true) := by
      intro t ht
      subst ht
      have hgo : okH n 3 Z K S F Hq Hd Hx w i = true → fitF n 3 Z K S F Hq Hd Hx w (i + 1) = true := fun ho => by
        show (fitF n 3 Z K S F Hq Hd Hx w i && okH n 3 Z K S F Hq Hd Hx w i) = true
        rw [hf, ho]
        rfl
      unfold f_X9_isAsHeard_0_J59
      rw [b4, b3]
      by_cases hqZ : Hq i = Z
      · rw [if_pos (hq.mpr hqZ), bnd (p_countOf (fun e he => (hV.2.2.2.2.2 e he).1) (fun s hs => (hP.1 s (by omega)).1) hS hm a2)]
        dsimp only
        have hB : ∀ b, b = hdB n 3 K S F w (Hd i) → b < 2 → (∃ r, f_X9_isAsHeard_0_J89 k (nI Z) (nI (mk6 m)) (nI i) (nI (Hx i)) (nI b) ν = some r ∧ r = (b2i (fitF n 3 Z K S F Hq Hd Hx w h), ν)) ∨ (∃ μ', f_X9_isAsHeard_0_J89 k (nI Z) (nI (mk6 m)) (nI i) (nI (Hx i)) (nI b) ν = k (nI (i + 1)) μ' ∧ μ' = ν ∧ fitF n 3 Z K S F Hq Hd Hx w (i + 1) = true) := by
          intro b hb b2'
          have he : (nI b = nI (Hx i)) ↔ b = Hx i := nI_eq (by omega) (by omega)
          unfold f_X9_isAsHeard_0_J89 f_X9_isAsHeard_0_J96
          by_cases hbx : b = Hx i
          · right
            rw [if_pos (he.mpr hbx), al1]
            refine ⟨ν, rfl, rfl, hgo ?_⟩
            unfold okH
            rw [← hb, decide_eq_true hbx]
            simp
          · left
            rw [if_neg (fun h => hbx (he.mp h))]
            refine ⟨_, rfl, ?_⟩
            have hff : fitF n 3 Z K S F Hq Hd Hx w (i + 1) = false := by
              show (fitF n 3 Z K S F Hq Hd Hx w i && okH n 3 Z K S F Hq Hd Hx w i) = false
              unfold okH
              rw [← hb, decide_eq_false hbx, decide_eq_true hqZ]
              simp
            rw [fitF_f hff h (by omega)]
            rfl
        have hc0 := le0 (c := cn n 3 K S F (shut w) (Hd i) 6) (Nat.lt_of_le_of_lt (cn_le 6) (by decide))
        by_cases hc : cn n 3 K S F (shut w) (Hd i) 6 = 0
        · rw [if_pos (hc0.mpr hc)]
          exact hB 0 (by unfold hdB; rw [if_pos hc]) (by omega)
        · rw [if_neg (fun h => hc (hc0.mp h))]
          exact hB 1 (by unfold hdB; rw [if_neg hc]) (by omega)
      · rw [if_neg (fun h => hqZ (hq.mp h))]
        right
        unfold f_X9_isAsHeard_0_J96
        rw [al1]
        refine ⟨ν, rfl, rfl, hgo ?_⟩
        unfold okH
        rw [decide_eq_false hqZ]
        rfl
    by_cases hx' : Hx i = 1
    · rw [if_pos (hx.mpr hx')]
      exact hJ 1 hx'.symm
    · rw [if_neg (fun h => hx' (hx.mp h))]
      exact hJ 0 (by omega)
  · obtain ⟨rfl, hf⟩ := hQ
    unfold f_X9_isAsHeard_0_L12
    rw [hc1, if_pos (nI_le (Nat.le_refl _) (by omega)), hf]
    exact ⟨_, rfl, rfl⟩
theorem m_isFit {n Z w h : Nat} {K S F T N G W Hq Hd Hx : Nat → Nat} {μ : Mem} (hV : HV n K S μ) (hP : PV n F T N G W μ) (hx : AbsR 3 μ) (hH : HR h Hq Hd Hx μ) (hw : w < 3 ^ n) (hZ : Z < 6) : f_X10_isFit_62 (nI Z) (nI w) μ = some (b2i (fitF n 3 Z K S F Hq Hd Hx w h), μ) := by
  have hn := hV.1
  obtain ⟨h8, -, hc1, hi0⟩ := hH
  unfold f_X10_isFit_62
  have := for_acc3 (body := f_X10_isFit_62_L5 (nI Z) (nI w)) nI h (fun i a ν => ν = μ ∧ a = b2i (fitF n 3 Z K S F Hq Hd Hx w i)) (fun r => r = (b2i (fitF n 3 Z K S F Hq Hd Hx w h), μ)) (fun k i a ν hi hQ => ?_) (fun k a ν hQ => ?_) FU 0 1 μ (by omega) (fu_gt (by omega)) ⟨rfl, rfl⟩
  · obtain ⟨r, g1, rfl⟩ := this
    exact g1
  · obtain ⟨rfl, rfl⟩ := hQ
    obtain ⟨a1, a2, a3, -, a4, a5, a6⟩ := hi0 i hi
    have hq : (nI (Hq i) = nI Z) ↔ Hq i = Z := nI_eq (by omega) (by omega)
    have hx' : (nI (Hx i) = 1) ↔ Hx i = 1 := nI_eq (b := 1) (by omega) (by omega)
    have hfin : ∀ c : Bool, c = (fitF n 3 Z K S F Hq Hd Hx w i && okH n 3 Z K S F Hq Hd Hx w i) → ∃ a' ν', k (b2i c) (nI (i + 1)) ν = k a' (nI (i + 1)) ν' ∧ ν' = ν ∧ a' = b2i (fitF n 3 Z K S F Hq Hd Hx w (i + 1)) := fun c hc => ⟨_, ν, rfl, rfl, by rw [hc]; rfl⟩
    have h93 : ∀ c : Bool, f_X10_isFit_62_J93 k (nI Z) (nI w) (nI i) (b2i c) ν = k (b2i c) (nI (i + 1)) ν := fun c => by unfold f_X10_isFit_62_J93; rw [al1]
    unfold f_X10_isFit_62_L5 f_X10_isFit_62_J92 f_X10_isFit_62_J88
    rw [hc1, if_neg (nI_ge hi (by omega))]
    simp only [b2i_z]
    by_cases hf : fitF n 3 Z K S F Hq Hd Hx w i = false
    · rw [if_pos hf, show (0 : Int32) = b2i false from rfl, h93]
      exact hfin false (by rw [hf]; rfl)
    · have hf' : fitF n 3 Z K S F Hq Hd Hx w i = true := by simpa using hf
      rw [if_neg hf, lm3, la30, inb_nI (by omega) (by omega), if_neg (show ¬ (true = false) by decide), nI_clamp (by omega), a4]
      by_cases hqZ : Hq i = Z
      · rw [if_pos (hq.mpr hqZ), al1, inb_nI (by omega) (by omega), if_neg (show ¬ (true = false) by decide), bnd (m_shutBy hV.2.2.1 hn hw), nI_clamp (by omega), show 30 + 3 * i + 1 = 31 + 3 * i by omega, a5, bnd (m_countOf hV (fun s hs => ⟨(hP.1 s (by omega)).1, (hP.1 s (by omega)).2.2⟩) hx a2)]
        dsimp only
        have hB : ∀ b, b = hdB n 3 K S F w (Hd i) → b < 2 → ∃ a' ν', f_X10_isFit_62_J67 k (nI Z) (nI w) (nI i) (nI (30 + 3 * i)) (nI b) ν = k a' (nI (i + 1)) ν' ∧ ν' = ν ∧ a' = b2i (fitF n 3 Z K S F Hq Hd Hx w (i + 1)) := by
          intro b hb b2'
          have hy : ∀ y, y = Hx i → y < 2 → ∃ a' ν', f_X10_isFit_62_J85 k (nI Z) (nI w) (nI i) (nI b) (nI y) ν = k a' (nI (i + 1)) ν' ∧ ν' = ν ∧ a' = b2i (fitF n 3 Z K S F Hq Hd Hx w (i + 1)) := by
            intro y hy y2
            have he : (nI b = nI y) ↔ b = y := nI_eq (by omega) (by omega)
            unfold f_X10_isFit_62_J85 f_X10_isFit_62_J92 f_X10_isFit_62_J88
            by_cases hbx : b = y
            · rw [if_pos (he.mpr hbx), show (1 : Int32) = b2i true from rfl, h93]
              refine hfin true ?_
              rw [hf']
              unfold okH
              rw [← hb, decide_eq_true (show b = Hx i by omega)]
              simp
            · rw [if_neg (fun h => hbx (he.mp h)), show (0 : Int32) = b2i false from rfl, h93]
              refine hfin false ?_
              unfold okH
              rw [← hb, decide_eq_false (show ¬ b = Hx i by omega), decide_eq_true hqZ]
              simp
          unfold f_X10_isFit_62_J67
          rw [al2, inb_nI (by omega) (by omega), if_neg (show ¬ (true = false) by decide), nI_clamp (by omega), show 30 + 3 * i + 2 = 32 + 3 * i by omega, a6]
          by_cases h1 : Hx i = 1
          · rw [if_pos (hx'.mpr h1)]
            exact hy 1 h1.symm (by omega)
          · rw [if_neg (fun h => h1 (hx'.mp h))]
            exact hy 0 (by omega) (by omega)
        have hc0 := le0 (c := cn n 3 K S F (shut w) (Hd i) 6) (Nat.lt_of_le_of_lt (cn_le 6) (by decide))
        by_cases hc : cn n 3 K S F (shut w) (Hd i) 6 = 0
        · rw [if_pos (hc0.mpr hc)]
          exact hB 0 (by unfold hdB; rw [if_pos hc]) (by omega)
        · rw [if_neg (fun h => hc (hc0.mp h))]
          exact hB 1 (by unfold hdB; rw [if_neg hc]) (by omega)
      · rw [if_neg (fun h => hqZ (hq.mp h)), show (1 : Int32) = b2i true from rfl, h93]
        refine hfin true ?_
        rw [hf']
        unfold okH
        rw [decide_eq_false hqZ]
        rfl
  · obtain ⟨rfl, rfl⟩ := hQ
    unfold f_X10_isFit_62_L5
    rw [hc1, if_pos (nI_le (Nat.le_refl _) (by omega)), b2i_zb, if_neg (show ¬ (true = false) by decide)]
    exact ⟨_, rfl, rfl⟩

theorem for_acc6 {ρ : Type} {body : (Int32 → Int32 → Int32 → Int32 → Int32 → Mem → Option ρ) → Int32 → Int32 → Int32 → Int32 → Int32 → Mem → Option ρ} (N : Nat) (A B C D : Nat → Int32) (μ : Mem) (r : Option ρ) {a b c d : Int32} (hA : a = A 0) (hB : b = B 0) (hC : c = C 0) (hD : d = D 0) (hstep : ∀ k i, i < N → body k (A i) (B i) (C i) (D i) (nI i) μ = k (A (i + 1)) (B (i + 1)) (C (i + 1)) (D (i + 1)) (nI (i + 1)) μ) (hend : ∀ k, body k (A N) (B N) (C N) (D N) (nI N) μ = r) (hf : N < FU) : it6 body FU a b c d (nI 0) μ = r := by
  rw [hA, hB, hC, hD]
  have key : ∀ fuel i, i ≤ N → N < fuel + i → it6 body fuel (A i) (B i) (C i) (D i) (nI i) μ = r := by
    intro fuel
    induction fuel with
    | zero => intro i h1 h2; omega
    | succ m ih =>
      intro i h1 h2
      show body (it6 body m) (A i) (B i) (C i) (D i) (nI i) μ = r
      by_cases hi : i < N
      · rw [hstep _ i hi]
        exact ih (i + 1) (by omega) (by omega)
      · have : i = N := by omega
        subst this
        exact hend _
  exact key FU 0 (by omega) (by omega)
section
variable (n : Nat) (fit : Nat → Bool)
def ftC : Nat → Nat
  | 0 => 0
  | i + 1 => if fit i = true then ftC i + 1 else ftC i
def ftF : Nat → Int32
  | 0 => -4
  | i + 1 => if fit i = true then (if ftC fit i = 0 then nI i else ftF i) else ftF i
def ftA : Nat → Int32
  | 0 => nI (mk6 fun e => decide (e < 2 * n))
  | i + 1 => if fit i = true then ftA i &&& nI (mk6 (shut i)) else ftA i
def ftO : Nat → Int32
  | 0 => 0
  | i + 1 => if fit i = true then ftO i ||| nI (mk6 (shut i)) else ftO i
end
theorem ftC_le (fit : Nat → Bool) : ∀ i, ftC fit i ≤ i
  | 0 => Nat.le_refl _
  | i + 1 => by
    have := ftC_le fit i
    show (if fit i = true then ftC fit i + 1 else ftC fit i) ≤ i + 1
    split <;> omega
theorem ftF_0 (fit : Nat → Bool) : ∀ i, ftC fit i = 0 → ftF fit i = -4
  | 0, _ => rfl
  | i + 1, h => by
    have h : (if fit i = true then ftC fit i + 1 else ftC fit i) = 0 := h
    show (if fit i = true then (if ftC fit i = 0 then nI i else ftF fit i) else ftF fit i) = -4
    by_cases hf : fit i = true
    · rw [if_pos hf] at h
      omega
    · rw [if_neg hf] at h
      rw [if_neg hf]
      exact ftF_0 fit i h
def ftR (n : Nat) (fit : Nat → Bool) (a : Int32) : Int32 := if a = 0 then nI (ftC fit (3 ^ n)) else if ftC fit (3 ^ n) = 0 then -4 else if a = 1 then ftF fit (3 ^ n) else if a = 2 then ftA n fit (3 ^ n) else nI (mk6 fun e => decide (e < 2 * n)) &&& (ftO fit (3 ^ n) ^^^ (-1))

set_option maxRecDepth 100000 in
theorem s_fits (a0 a1 : Int32) : PStp (f_X9_fits_0 a0 a1) (f_X10_fits_62 a0 a1) := by
  intro μ hI0
  obtain ⟨n, Q, hC⟩ := hI0
  have hC0 := hC
  obtain ⟨⟨hn, hQ1, hQ6, e10, e622, e624, e11, e623, hk, hs⟩, hP, hI, hS, hT, hR⟩ := hC
  have h27 := p3 hn
  cases h1 : inb a0 Q with
  | false =>
    refine ⟨-1, μ, μ, ?_, ?_, n, Q, hC0⟩
    · unfold f_X9_fits_0
      simp only [p_isSide, p_isEither, p_hasSister e10 hn, p_hasEye e10 hn, p_hasQuarter e11 hQ6, p_hasWatch e10 hn, p_canTell e10 hn e11 hQ6, m_isSide, m_isPart, m_isSister e622 hn, m_isEye e622 hn, m_isQuarter e623 hQ6, m_isWatch e624 hn, Option.bind_some, b2i_z, Bool.true_eq_false, Bool.false_eq_true, if_false, if_true, Bool.and_true, Bool.true_and, Bool.false_and, Bool.and_false, la0, la3, la9, la13, la21, la30, rd_p, rd_i, rd_s, h1]
    · unfold f_X10_fits_62
      simp only [p_isSide, p_isEither, p_hasSister e10 hn, p_hasEye e10 hn, p_hasQuarter e11 hQ6, p_hasWatch e10 hn, p_canTell e10 hn e11 hQ6, m_isSide, m_isPart, m_isSister e622 hn, m_isEye e622 hn, m_isQuarter e623 hQ6, m_isWatch e624 hn, Option.bind_some, b2i_z, Bool.true_eq_false, Bool.false_eq_true, if_false, if_true, Bool.and_true, Bool.true_and, Bool.false_and, Bool.and_false, la0, la3, la9, la13, la21, la30, rd_p, rd_i, rd_s, h1]
  | true =>
    have rg := @rngL Int32 a1 3 3 rfl
    cases h2 : inb a1 4 with
    | false =>
      refine ⟨-1, μ, μ, ?_, ?_, n, Q, hC0⟩
      · unfold f_X9_fits_0
        simp only [p_isSide, p_isEither, p_hasSister e10 hn, p_hasEye e10 hn, p_hasQuarter e11 hQ6, p_hasWatch e10 hn, p_canTell e10 hn e11 hQ6, m_isSide, m_isPart, m_isSister e622 hn, m_isEye e622 hn, m_isQuarter e623 hQ6, m_isWatch e624 hn, Option.bind_some, b2i_z, Bool.true_eq_false, Bool.false_eq_true, if_false, if_true, Bool.and_true, Bool.true_and, Bool.false_and, Bool.and_false, la0, la3, la9, la13, la21, la30, rd_p, rd_i, rd_s, h1]
        rw [rngL (n := 3) rfl, if_neg (by rw [h2]; decide)]
      · unfold f_X10_fits_62
        simp only [p_isSide, p_isEither, p_hasSister e10 hn, p_hasEye e10 hn, p_hasQuarter e11 hQ6, p_hasWatch e10 hn, p_canTell e10 hn e11 hQ6, m_isSide, m_isPart, m_isSister e622 hn, m_isEye e622 hn, m_isQuarter e623 hQ6, m_isWatch e624 hn, Option.bind_some, b2i_z, Bool.true_eq_false, Bool.false_eq_true, if_false, if_true, Bool.and_true, Bool.true_and, Bool.false_and, Bool.and_false, la0, la3, la9, la13, la21, la30, rd_p, rd_i, rd_s, h1, in_lit (x := a1) (hi := 3) (n := 3) rfl, h2]
    | true =>
    obtain ⟨Z, hZ, rfl⟩ := inb_of h1 (by omega)
    obtain ⟨K, S, hV⟩ := HV.get hC0.1
    obtain ⟨F, T, N, G, W, hPV⟩ := PV.get hn hP
    obtain ⟨ν, l1, l2, l3⟩ := p_look0 hV hPV.1
    have lsm := only4.sm l2
    have hV' := hV.sm lsm
    have hPV' := hPV.sm lsm
    have hC' := hC0.sm lsm
    have hA' := hC'.abs
    have f623 : ν.1 62 3 = nI Q := by rw [lsm 62 3 (Or.inl rfl)]; exact e623
    obtain ⟨h, Hq, Hd, Hx, hH⟩ := HR.get hQ6 hP
    have hH' := hH.sm lsm
    obtain ⟨fit, hfit⟩ : ∃ fit : Nat → Bool, fit = fun w => fitF n 3 Z K S F Hq Hd Hx w h := ⟨_, rfl⟩
    have hpf : ∀ w, w < 3 ^ n → f_X9_isAsHeard_0 (nI Z) (nI w) ν = some (b2i (fit w), ν) := fun w hw => by rw [hfit]; exact p_isAsHeard hV' hPV' l3 hH' hw (by omega)
    have hmf : ∀ w, w < 3 ^ n → f_X10_isFit_62 (nI Z) (nI w) ν = some (b2i (fit w), ν) := fun w hw => by rw [hfit]; exact m_isFit hV' hPV' hA' hH' hw (by omega)
    have hms : nI (mk6 fun e => hr n 3 (e / 2)) = nI (mk6 fun e => decide (e < 2 * n)) := congrArg nI (mk6_congr fun e he => by
      rw [hr3 hn]
      exact decide_eq_decide.mpr (by omega))
    have hcz : ∀ i, i ≤ 3 ^ n → ((nI (ftC fit i) = 0) ↔ ftC fit i = 0) := fun i hi => nI_eq (b := 0) (by have := ftC_le fit i; omega) (by omega)
    refine ⟨ftR n fit a1, ν, ν, ?_, ?_, n, Q, hC'⟩
    · unfold f_X9_fits_0
      simp only [p_isSide, p_isEither, p_hasSister e10 hn, p_hasEye e10 hn, p_hasQuarter e11 hQ6, p_hasWatch e10 hn, p_canTell e10 hn e11 hQ6, m_isSide, m_isPart, m_isSister e622 hn, m_isEye e622 hn, m_isQuarter e623 hQ6, m_isWatch e624 hn, Option.bind_some, b2i_z, Bool.true_eq_false, Bool.false_eq_true, if_false, if_true, Bool.and_true, Bool.true_and, Bool.false_and, Bool.and_false, la0, la3, la9, la13, la21, la30, rd_p, rd_i, rd_s, h1]
      rw [rngL (n := 3) rfl, if_pos (by rw [h2]), bnd l1, l3.1, hms]
      refine for_acc6 (3 ^ n) (fun i => nI (ftC fit i)) (fun i => ftF fit i) (fun i => ftA n fit i) (fun i => ftO fit i) ν _ rfl rfl rfl rfl (fun k i hi => ?_) (fun k => ?_) (fu_gt (by omega))
      · unfold f_X9_fits_0_L48
        rw [bnd (p_watches hV'.2.1 hn)]
        dsimp only
        rw [if_neg (nI_ge hi (by omega)), bnd (hpf i hi)]
        simp only [b2i_z]
        show _ = k (nI (if fit i = true then ftC fit i + 1 else ftC fit i)) (if fit i = true then (if ftC fit i = 0 then nI i else ftF fit i) else ftF fit i) (if fit i = true then ftA n fit i &&& nI (mk6 (shut i)) else ftA n fit i) (if fit i = true then ftO fit i ||| nI (mk6 (shut i)) else ftO fit i) (nI (i + 1)) ν
        unfold f_X9_fits_0_J108
        cases hf : fit i with
        | false =>
          rw [if_pos rfl, if_neg (by decide), if_neg (by decide), if_neg (by decide), if_neg (by decide), al1]
        | true =>
          rw [if_neg (by decide), if_pos rfl, if_pos rfl, if_pos rfl, if_pos rfl]
          have hJ : ∀ t, f_X9_fits_0_J81 k (nI Z) a1 (nI (ftC fit i)) (ftA n fit i) (ftO fit i) (nI i) t ν = k (nI (ftC fit i + 1)) t (ftA n fit i &&& nI (mk6 (shut i))) (ftO fit i ||| nI (mk6 (shut i))) (nI (i + 1)) ν := by
            intro t
            unfold f_X9_fits_0_J81 f_X9_fits_0_J108
            rw [inb_nI (by omega) (by omega), if_neg (show ¬ (true = false) by decide), if_neg (show ¬ (true = false) by decide), nI_clamp (by omega), shu_T i (by omega), al1, al1]
          by_cases hc : ftC fit i = 0
          · rw [if_pos ((hcz i (by omega)).mpr hc), if_pos hc, hJ]
          · rw [if_neg (fun h => hc ((hcz i (by omega)).mp h)), if_neg hc, hJ]
      · unfold f_X9_fits_0_L48
        rw [bnd (p_watches hV'.2.1 hn)]
        dsimp only
        rw [if_pos (nI_le (Nat.le_refl _) (by omega)), l3.1, hms]
        unfold ftR
        by_cases ha : a1 = 0
        · rw [if_pos ha, if_pos ha]
        · rw [if_neg ha, if_neg ha]
          by_cases hc : ftC fit (3 ^ n) = 0
          · rw [if_pos ((hcz _ (by omega)).mpr hc), if_pos hc, ftF_0 fit _ hc]
          · rw [if_neg (fun h => hc ((hcz _ (by omega)).mp h)), if_neg hc]
            split
            · rfl
            · split <;> rfl
    · unfold f_X10_fits_62
      simp only [p_isSide, p_isEither, p_hasSister e10 hn, p_hasEye e10 hn, p_hasQuarter e11 hQ6, p_hasWatch e10 hn, p_canTell e10 hn e11 hQ6, m_isSide, m_isPart, m_isSister hV'.2.2.1 hn, m_isEye hV'.2.2.1 hn, m_isQuarter f623 hQ6, m_isWatch hV'.2.2.2.1 hn, Option.bind_some, b2i_z, Bool.true_eq_false, Bool.false_eq_true, if_false, if_true, Bool.and_true, Bool.true_and, Bool.false_and, Bool.and_false, la0, la3, la9, la13, la21, la30, rd_p, rd_i, rd_s, h1, in_lit (x := a1) (hi := 3) (n := 3) rfl, h2]
      rw [hV'.2.2.1, m2n n (by omega)]
      refine for_acc6 (3 ^ n) (fun i => nI (ftC fit i)) (fun i => ftF fit i) (fun i => ftA n fit i) (fun i => ftO fit i) ν _ rfl rfl rfl rfl (fun k i hi => ?_) (fun k => ?_) (fu_gt (by omega))
      · unfold f_X10_fits_62_L46
        rw [hV'.2.2.2.1, if_neg (nI_ge hi (by omega)), bnd (hmf i hi)]
        simp only [b2i_z]
        show _ = k (nI (if fit i = true then ftC fit i + 1 else ftC fit i)) (if fit i = true then (if ftC fit i = 0 then nI i else ftF fit i) else ftF fit i) (if fit i = true then ftA n fit i &&& nI (mk6 (shut i)) else ftA n fit i) (if fit i = true then ftO fit i ||| nI (mk6 (shut i)) else ftO fit i) (nI (i + 1)) ν
        unfold f_X10_fits_62_J103
        cases hf : fit i with
        | false =>
          rw [if_pos rfl, if_neg (by decide), if_neg (by decide), if_neg (by decide), if_neg (by decide), al1]
        | true =>
          rw [if_neg (by decide), if_pos rfl, if_pos rfl, if_pos rfl, if_pos rfl]
          have hJ : ∀ t, f_X10_fits_62_J76 k (nI Z) a1 (nI (ftC fit i)) (ftA n fit i) (ftO fit i) (nI i) t ν = k (nI (ftC fit i + 1)) t (ftA n fit i &&& nI (mk6 (shut i))) (ftO fit i ||| nI (mk6 (shut i))) (nI (i + 1)) ν := by
            intro t
            unfold f_X10_fits_62_J76 f_X10_fits_62_J103
            rw [bnd (m_shutBy hV'.2.2.1 hn hi), bnd (m_shutBy hV'.2.2.1 hn hi)]
            dsimp only
            rw [al1, al1]
          by_cases hc : ftC fit i = 0
          · rw [if_pos ((hcz i (by omega)).mpr hc), if_pos hc, hJ]
          · rw [if_neg (fun h => hc ((hcz i (by omega)).mp h)), if_neg hc, hJ]
      · unfold f_X10_fits_62_L46 f_X10_fits_62_J117
        rw [hV'.2.2.2.1, if_pos (nI_le (Nat.le_refl _) (by omega)), hV'.2.2.1, m2n n (by omega)]
        unfold ftR
        by_cases ha : a1 = 0
        · rw [if_pos ha, if_pos ha, if_pos ha]
        · rw [if_neg ha, if_neg ha]
          by_cases hc : ftC fit (3 ^ n) = 0
          · rw [if_pos ((hcz _ (by omega)).mpr hc), if_pos hc, if_neg ha]
          · rw [if_neg (fun h => hc ((hcz _ (by omega)).mp h)), if_neg hc]
            split
            · rfl
            · split <;> rfl
