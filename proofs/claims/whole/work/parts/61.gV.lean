/-! PURE: the model's tables -/
theorem m_power {b k : Nat} {μ : Mem} (hk : k < 1000) : f_X10_power (nI b) (nI k) μ = some (nI (b ^ k), μ) := by
  unfold f_X10_power
  refine for_accG nI k (fun i => nI (b ^ i)) _ (fun kk i hi => ?_) (fun kk => ?_) FU 0 (by omega) (fu_gt (by omega))
  · unfold f_X10_power_L4
    rw [if_neg (nI_ge hi (by omega)), pk_mul, al1, Nat.pow_succ]
  · unfold f_X10_power_L4
    rw [if_pos (nI_le (Nat.le_refl _) (by omega))]
def MF (μ ν : Mem) : Prop := ∀ p k, p ≠ 72 → p ≠ 73 → p ≠ 74 → ¬ (p = 62 ∧ (k = 28 ∨ k = 32 ∨ k = 33)) → ν.1 p k = μ.1 p k
theorem MF.rf (μ : Mem) : MF μ μ := fun _ _ _ _ _ _ => rfl
theorem MF.tr {a b c : Mem} (h : MF a b) (k : MF b c) : MF a c := fun p i h1 h2 h3 h4 => (k p i h1 h2 h3 h4).trans (h p i h1 h2 h3 h4)
theorem MF.sm {μ ν : Mem} (h : MF μ ν) : smE μ ν := by
  intro p k hr
  refine h p k ?_ ?_ ?_ ?_
  · rintro rfl
    rcases hr with hr | hr
    · exact absurd (show (false : Bool) = true from hr) (by decide)
    · omega
  · rintro rfl
    rcases hr with hr | hr
    · exact absurd (show (false : Bool) = true from hr) (by decide)
    · omega
  · rintro rfl
    rcases hr with hr | hr
    · exact absurd (show (false : Bool) = true from hr) (by decide)
    · omega
  · rintro ⟨rfl, rfl | rfl | rfl⟩
    · rcases hr with hr | hr
      · exact absurd (show (false : Bool) = true from hr) (by decide)
      · omega
    · rcases hr with hr | hr
      · exact absurd (show (false : Bool) = true from hr) (by decide)
      · omega
    · rcases hr with hr | hr
      · exact absurd (show (false : Bool) = true from hr) (by decide)
      · omega
theorem AbsR.fr {x : Nat} {μ ν : Mem} (h : AbsR x μ) (e : ν.1 62 26 = μ.1 62 26) : AbsR x ν := by
  unfold AbsR
  rw [e]
  exact h
theorem cn_ext {C : Nat → Bool} {a : Nat} (h : ∀ e, a ≤ e → C e = false) : ∀ k, a ≤ k → cnC C k = cnC C a ∧ evC C k = evC C a
  | 0, hk => by rw [show a = 0 by omega]; exact ⟨rfl, rfl⟩
  | k + 1, hk => by
    by_cases hk2 : a = k + 1
    · rw [hk2]; exact ⟨rfl, rfl⟩
    · obtain ⟨h1, h2⟩ := cn_ext h k (by omega)
      have hf := h k (by omega)
      refine ⟨by rw [cnC_f (by rw [hf]; decide), h1], ?_⟩
      rw [← h2]
      funext j
      show (if C k = true ∧ j = cnC C k then k else evC C k j) = _
      rw [if_neg (by rw [hf]; rintro ⟨hh, _⟩; cases hh)]
theorem ct_out {n x e : Nat} {K : Nat → Nat} (h : 2 * n ≤ e) : ctQ n x K e = false := by
  unfold ctQ hr
  rw [decide_eq_false (show ¬ e / 2 < n by omega)]
  rfl
theorem m_findEyes {n x : Nat} {K S : Nat → Nat} {μ : Mem} (hV : HV n K S μ) (hx : AbsR x μ) :
    ∃ μ', f_X10_findEyes_62 μ = some μ' ∧ MF μ μ' ∧ μ'.1 62 28 = nI (cnC (ctQ n x K) 6) ∧ ∀ k, k < cnC (ctQ n x K) 6 → μ'.1 72 k = nI (evC (ctQ n x K) 6 k) := by
  have hn := hV.1
  have h622 := hV.2.2.1
  obtain ⟨c1, c2⟩ := cn_ext (C := ctQ n x K) (a := 2 * n) (fun e he => ct_out he) 6 (by omega)
  rw [c1, c2]
  unfold f_X10_findEyes_62
  refine for_rel (ρ := Mem) nI (2 * n) (fun i ν => MF μ ν ∧ ν.1 62 28 = nI (cnC (ctQ n x K) i) ∧ ∀ k, k < cnC (ctQ n x K) i → ν.1 72 k = nI (evC (ctQ n x K) i k)) (fun ν => MF μ ν ∧ ν.1 62 28 = nI (cnC (ctQ n x K) (2 * n)) ∧ ∀ k, k < cnC (ctQ n x K) (2 * n) → ν.1 72 k = nI (evC (ctQ n x K) (2 * n) k)) (fun k i ν hi hP => ?_) (fun k ν hP => ?_) FU 0 _ (by omega) (fu_gt (by omega)) ⟨?_, ?_, ?_⟩
  · obtain ⟨q1, q2, q3⟩ := hP
    have hV' := hV.sm q1.sm
    have hx' := hx.fr (q1 62 26 (by omega) (by omega) (by omega) (by omega))
    have hc6 : cnC (ctQ n x K) i ≤ i := cnC_le i
    have hct : ctQ n x K i = (!decide (i / 2 = x) && !glE K i) := by
      unfold ctQ hr
      rw [decide_eq_true (show i / 2 < n by omega), Bool.true_and]
    have hno : ctQ n x K i = false → cnC (ctQ n x K) (i + 1) = cnC (ctQ n x K) i ∧ evC (ctQ n x K) (i + 1) = evC (ctQ n x K) i := by
      intro hf
      refine ⟨cnC_f (by rw [hf]; decide), ?_⟩
      funext j
      show (if ctQ n x K i = true ∧ j = cnC (ctQ n x K) i then i else evC (ctQ n x K) i j) = _
      rw [if_neg (by rw [hf]; rintro ⟨hh, _⟩; cases hh)]
    unfold f_X10_findEyes_62_L7 f_X10_findEyes_62_J53
    rw [hV'.2.2.1, lm2, if_neg (nI_ge hi (by omega)), bnd (m_isGlass hV' hi)]
    dsimp only
    rw [al1]
    cases hg : glE K i with
    | true =>
      obtain ⟨n1, n2⟩ := hno (by rw [hct, hg]; simp)
      rw [if_neg (show ¬ b2i true = 0 by decide), n1, n2]
      exact ⟨ν, rfl, q1, q2, q3⟩
    | false =>
      rw [if_pos (show b2i false = 0 from rfl), bnd (m_isHere hx' i (by omega))]
      dsimp only
      cases hd : decide (i / 2 = x) with
      | true =>
        obtain ⟨n1, n2⟩ := hno (by rw [hct, hd]; rfl)
        rw [if_pos (show b2i (!true) = 0 from rfl), n1, n2]
        exact ⟨ν, rfl, q1, q2, q3⟩
      | false =>
        have hC : ctQ n x K i = true := by rw [hct, hd, hg]; rfl
        rw [if_neg (show ¬ b2i (!false) = 0 by decide), q2, inb_nI (by omega) (by omega), if_neg (show ¬ (true = false) by decide), nI_clamp (by omega), al1]
        refine ⟨_, rfl, fun p k h1 h2 h3 h4 => ?_, ?_, fun k hk => ?_⟩
        · by_cases hp : p = 62
          · subst hp
            rw [rd_i (by omega), rd_p (by omega)]
            exact q1 62 k h1 h2 h3 h4
          · rw [rd_p hp, rd_p h1]
            exact q1 p k h1 h2 h3 h4
        · rw [rd_s, cnC_t hC]
        · rw [cnC_t hC] at hk
          rw [rd_p (by omega)]
          show _ = nI (if ctQ n x K i = true ∧ k = cnC (ctQ n x K) i then i else evC (ctQ n x K) i k)
          by_cases hkc : k = cnC (ctQ n x K) i
          · rw [hkc, rd_s, if_pos ⟨hC, rfl⟩]
          · rw [rd_i hkc, if_neg (fun hh => hkc hh.2)]
            exact q3 k (by omega)
  · obtain ⟨q1, q2, q3⟩ := hP
    have hV' := hV.sm q1.sm
    unfold f_X10_findEyes_62_L7
    rw [hV'.2.2.1, lm2, if_pos (nI_le (Nat.le_refl _) (by omega))]
    exact ⟨ν, rfl, q1, q2, q3⟩
  · intro p k h1 h2 h3 h4
    by_cases hp : p = 62
    · subst hp
      exact rd_i (by omega)
    · exact rd_p hp
  · rw [rd_s]
    rfl
  · intro k hk
    have : k < 0 := hk
    omega
def MX (A : Nat → Nat → Bool) (C : Nat → Bool) (n many : Nat) (μ : Mem) : Prop := μ.1 62 2 = nI n ∧ μ.1 62 4 = nI (3 ^ n) ∧ μ.1 62 28 = nI (cnC C 6) ∧ (∀ k, k < cnC C 6 → μ.1 72 k = nI (evC C 6 k)) ∧ ∀ q, q < many → ∀ w, w < 3 ^ n → μ.1 73 (27 * q + w) = b2i (A q w)
def CFQ (μ ν : Mem) : Prop := ∀ p k, p ≠ 74 → ¬ (p = 62 ∧ (k = 32 ∨ k = 33)) → ν.1 p k = μ.1 p k
theorem CFQ.tr {a b c : Mem} (h : CFQ a b) (k : CFQ b c) : CFQ a c := fun p i h1 h2 => (k p i h1 h2).trans (h p i h1 h2)
theorem CFQ.mf {μ ν : Mem} (h : CFQ μ ν) : MF μ ν := fun p k _ _ h3 h4 => h p k h3 (by omega)
theorem MX.fr {A : Nat → Nat → Bool} {C : Nat → Bool} {n many : Nat} {μ ν : Mem} (h : MX A C n many μ) (hs : CFQ μ ν) : MX A C n many ν := by
  unfold MX at h ⊢
  simp (disch := omega) only [hs 62 2 (by omega) (by omega), hs 62 4 (by omega) (by omega), hs 62 28 (by omega) (by omega), hs 72 _ (by omega) (by omega), hs 73 _ (by omega) (by omega)]
  exact h
theorem for_accG3 {ρ : Type} {body : (Int32 → Int32 → Int32 → Int32 → Option ρ) → Int32 → Int32 → Int32 → Int32 → Option ρ} (N : Nat) (F G H : Nat → Int32) (r : Option ρ) (hstep : ∀ k i, i < N → body k (F i) (G i) (H i) (nI i) = k (F (i + 1)) (G (i + 1)) (H (i + 1)) (nI (i + 1))) (hexit : ∀ k, body k (F N) (G N) (H N) (nI N) = r) : ∀ n i, i ≤ N → N < i + n → it4 body n (F i) (G i) (H i) (nI i) = r := by
  intro n
  induction n with
  | zero =>
    intro i h1 h2
    omega
  | succ n ih =>
    intro i h1 h2
    show body (it4 body n) (F i) (G i) (H i) (nI i) = r
    by_cases hi : i = N
    · subst hi
      exact hexit _
    · rw [hstep (it4 body n) i (by omega)]
      exact ih (i + 1) (by omega) (by omega)
theorem m_lacksThen {A : Nat → Nat → Bool} {C : Nat → Bool} {n many b v w : Nat} {μ : Mem} (h : MX A C n many μ) (hb : 0 < b) (hb7 : b ≤ 5000) (hW : wtC C b 6 ≤ 4096) (hv : v < wtC C b 6) (h32 : μ.1 62 32 = nI b) : f_X10_lacksThen_62 (nI v) (nI (mk6 (shut w))) μ = some (nI (nxC C b v w), μ) := by
  obtain ⟨-, -, h28, h72, -⟩ := h
  have hc6 : cnC C 6 ≤ 6 := cnC_le 6
  have hG0 : nI 0 = nI (encC C b (stQ (dgC C b v) w) (epC C 0)) := by
    rw [← enc_cn (C := C) (b := b) (L := stQ (dgC C b v) w) (a := 0) (epC C 0) (by omega) (by rw [epC_cn (by omega)]; rfl)]
    rfl
  have hF0 : nI v = nI (v / b ^ 0) := by rw [Nat.pow_zero, Nat.div_one]
  unfold f_X10_lacksThen_62
  have := for_accG3 (body := f_X10_lacksThen_62_L11 (nI (mk6 (shut w))) μ) (cnC C 6) (fun k => nI (v / b ^ k)) (fun k => nI (encC C b (stQ (dgC C b v) w) (epC C k))) (fun k => nI (b ^ k)) (some (nI (nxC C b v w), μ)) (fun kk k hk => by
    obtain ⟨e6, eC, ec⟩ := evC_ok (C := C) 6 k hk
    have hdv : v / b ^ k ≤ v := Nat.div_le_self _ _
    have hdg : v / b ^ k % b = dgC C b v (evC C 6 k) := by
      unfold dgC
      rw [wtC_pow, ec]
    have hdl := dg_lt (C := C) (b := b) (v := v) (e := evC C 6 k) hb
    have hep : epC C k = evC C 6 k := if_pos hk
    have hnx := enc_nx (C := C) (b := b) (L := stQ (dgC C b v) w) hk
    have hwt : wtC C b (evC C 6 k) = b ^ k := by rw [wtC_pow, ec]
    unfold f_X10_lacksThen_62_L11
    rw [h28, if_neg (nI_ge hk (by omega)), h32, if_neg (nI_ne0 hb (by omega)), pk_rem (by omega) hb (by omega), hdg, inb_nI (by omega) (by omega), if_neg (show ¬ (true = false) by decide), nI_clamp (by omega), h72 k hk, mk6_bit _ _ e6]
    unfold f_X10_lacksThen_62_J50
    rw [h32, if_neg (nI_ne0 hb (by omega)), if_neg (nI_ne0 hb (by omega)), pk_div (by omega) hb (by omega), pk_mul, al1, Nat.div_div_eq_div_mul, ← Nat.pow_succ, hnx, hep, hwt]
    have hst : stQ (dgC C b v) w (evC C 6 k) = dgC C b v (evC C 6 k) - (shut w (evC C 6 k)).toNat := rfl
    by_cases h0 : dgC C b v (evC C 6 k) = 0
    · rw [h0] at hst ⊢
      rw [if_pos (show nI 0 ≤ 0 by decide), show nI 0 - (0 : Int32) = nI 0 from rfl, hst, Nat.zero_sub, pk_mul, nI_add, Nat.mul_zero, Nat.zero_mul]
    · have hsl : ∀ b : Bool, b.toNat ≤ 1 := by decide
      have hsl := hsl (shut w (evC C 6 k))
      rw [if_neg (nI_nle (by omega) (by omega)), b2i_nI, pk_sub (by omega), ← hst, pk_mul, nI_add, Nat.mul_comm (b ^ k)]) (fun kk => by
    unfold f_X10_lacksThen_62_L11
    rw [h28, if_pos (nI_le (Nat.le_refl _) (by omega)), show epC C (cnC C 6) = 6 from if_neg (by omega)]
    rfl) FU 0 (by omega) (fu_gt (by omega))
  refine Eq.trans ?_ this
  show it4 _ FU (nI v) (nI 0) (nI 1) (nI 0) = it4 _ FU (nI (v / b ^ 0)) (nI (encC C b (stQ (dgC C b v) w) (epC C 0))) (nI (b ^ 0)) (nI 0)
  rw [← hF0, ← hG0, Nat.pow_zero]
theorem m_allLack {A : Nat → Nat → Bool} {C : Nat → Bool} {n many r : Nat} {μ : Mem} (h : MX A C n many μ) (h32 : μ.1 62 32 = nI (r + 1)) : f_X10_allLack_62 (nI r) μ = some (nI (wtC C (r + 1) 6 - 1), μ) := by
  obtain ⟨-, -, h28, -, -⟩ := h
  have hc6 : cnC C 6 ≤ 6 := cnC_le 6
  unfold f_X10_allLack_62
  rw [wtC_pow]
  refine for_accG nI (cnC C 6) (fun k => nI ((r + 1) ^ k - 1)) _ (fun kk k hk => ?_) (fun kk => ?_) FU 0 (by omega) (fu_gt (by omega))
  · unfold f_X10_allLack_62_L4
    rw [h28, if_neg (nI_ge hk (by omega)), h32, pk_mul, nI_add, al1, Nat.pow_succ]
    have hp : 0 < (r + 1) ^ k := Nat.pow_pos (by omega)
    obtain ⟨Y, hY⟩ : ∃ Y, (r + 1) ^ k = Y + 1 := ⟨(r + 1) ^ k - 1, by omega⟩
    rw [hY, Nat.add_sub_cancel, Nat.add_mul, Nat.one_mul, ← Nat.add_assoc, Nat.add_sub_cancel]
  · unfold f_X10_allLack_62_L4
    rw [h28, if_pos (nI_le (Nat.le_refl _) (by omega))]
theorem anyB_ext {f : Nat → Bool} {a b : Nat} (h : a ≤ b) (hf : ∀ i, a ≤ i → i < b → f i = false) : anyB f b = anyB f a := by
  cases ha : anyB f a with
  | true =>
    obtain ⟨i, hi, h2⟩ := (anyB_iff a).mp ha
    exact (anyB_iff b).mpr ⟨i, by omega, h2⟩
  | false =>
    refine anyB_f.mpr (fun i hi => ?_)
    by_cases hia : i < a
    · exact anyB_f.mp ha i hia
    · exact hf i (by omega) hi
def TBQ (A : Nat → Nat → Bool) (C : Nat → Bool) (b many : Nat) (μ : Mem) (q : Nat) : Prop := ∀ v, v < wtC C b 6 → μ.1 74 (q * wtC C b 6 + v) = b2i (cvQ A C (many - q) q (dgC C b v))
def gQ (A : Nat → Nat → Bool) (C : Nat → Bool) (b many q v w : Nat) : Bool := A q w && cvQ A C (many - (q + 1)) (q + 1) (stQ (dgC C b v) w)
def BFQ (C : Nat → Bool) (b : Nat) (μ ν : Mem) : Prop := CFQ μ ν ∧ ν.1 62 32 = nI b ∧ ν.1 62 33 = nI (wtC C b 6)
theorem BFQ.w {C : Nat → Bool} {b j : Nat} {x : Int32} {μ ν : Mem} (h : BFQ C b μ ν) : BFQ C b μ (pI ν 74 j x) := ⟨fun p k h1 h2 => by rw [rd_p h1]; exact h.1 p k h1 h2, by rw [rd_p (by omega)]; exact h.2.1, by rw [rd_p (by omega)]; exact h.2.2⟩
theorem m_row {A : Nat → Nat → Bool} {C : Nat → Bool} {n many b q w : Nat} {a2 : Int32} {k64 k104 : Int32 → Mem → Option (Int32 × Mem)} {μ ν : Mem} (hX : MX A C n many μ) (hn : n ≤ 3) (hb : 0 < b) (hb7 : b ≤ 5000) (hW : wtC C b 6 ≤ 4096) (hm : many ≤ 6) (hq : q < many) (hw : w < 3 ^ n) (hB : BFQ C b μ ν) (hT : ∀ q', q < q' → q' ≤ many → TBQ A C b many ν q') (hR : ∀ v, v < wtC C b 6 → ν.1 74 (q * wtC C b 6 + v) = b2i (anyB (gQ A C b many q v) w)) :
    ∃ μ', it2 (f_X10_canRest_62_L124 a2 (nI q) (nI w) (nI (mk6 (shut w))) k64 k104) FU (0 : Int32) ν = k104 (nI (w + 1)) μ' ∧ BFQ C b μ μ' ∧ (∀ q', q < q' → q' ≤ many → TBQ A C b many μ' q') ∧ (∀ v, v < wtC C b 6 → μ'.1 74 (q * wtC C b 6 + v) = b2i (anyB (gQ A C b many q v) (w + 1))) := by
  have h27 := p3 hn
  have hwp := wtC_pos (C := C) hb 6
  have e1 : (q + 1) * wtC C b 6 = q * wtC C b 6 + wtC C b 6 := Nat.succ_mul q _
  have e2 : q * wtC C b 6 ≤ 5 * 4096 := Nat.mul_le_mul (by omega) hW
  have hXν := hX.fr hB.1
  have h73 := hXν.2.2.2.2 q hq w hw
  by_cases hA : A q w = true
  · refine for_con (body := f_X10_canRest_62_L124 a2 (nI q) (nI w) (nI (mk6 (shut w))) k64 k104) nI (wtC C b 6) (fun v ξ => BFQ C b μ ξ ∧ (∀ q', q < q' → q' ≤ many → TBQ A C b many ξ q') ∧ ∀ u, u < wtC C b 6 → ξ.1 74 (q * wtC C b 6 + u) = b2i (anyB (gQ A C b many q u) (if u < v then w + 1 else w))) (fun ξ => k104 (nI (w + 1)) ξ) (fun ξ => BFQ C b μ ξ ∧ (∀ q', q < q' → q' ≤ many → TBQ A C b many ξ q') ∧ (∀ v, v < wtC C b 6 → ξ.1 74 (q * wtC C b 6 + v) = b2i (anyB (gQ A C b many q v) (w + 1)))) (fun k v ξ hv hP => ?_) (fun k ξ hP => ?_) FU 0 ν (by omega) (fu_gt (by omega)) ⟨hB, hT, fun u hu => by rw [if_neg (by omega)]; exact hR u hu⟩
    · obtain ⟨g1, g2, g3⟩ := hP
      have hXξ := hX.fr g1.1
      have hkeep : anyB (gQ A C b many q v) w = anyB (gQ A C b many q v) (w + 1) → ∀ u, u < wtC C b 6 → ξ.1 74 (q * wtC C b 6 + u) = b2i (anyB (gQ A C b many q u) (if u < v + 1 then w + 1 else w)) := by
        intro hh u hu
        rw [g3 u hu]
        by_cases huv : u = v
        · subst huv
          rw [if_neg (by omega), if_pos (by omega), hh]
        · by_cases h1 : u < v
          · rw [if_pos h1, if_pos (by omega)]
          · rw [if_neg h1, if_neg (by omega)]
      have hgv : anyB (gQ A C b many q v) (w + 1) = (anyB (gQ A C b many q v) w || gQ A C b many q v w) := rfl
      have hrv := g3 v hv
      rw [if_neg (by omega)] at hrv
      have hlk := m_lacksThen (v := v) (w := w) hXξ hb hb7 hW hv g1.2.1
      have hnl := nxC_lt (C := C) (b := b) (v := v) (w := w) hb
      have htn := g2 (q + 1) (by omega) (by omega) (nxC C b v w) hnl
      rw [cv_congr (nxC_dg hb)] at htn
      unfold f_X10_canRest_62_L124 f_X10_canRest_62_J205
      rw [g1.2.2, if_neg (nI_ge hv (by omega)), lm27, nI_add, inb_nI (by omega) (by omega), if_neg (show ¬ (true = false) by decide), nI_clamp (by omega), hXξ.2.2.2.2 q hq w hw, hA, if_neg (show ¬ b2i true = 0 by decide), pk_mul, nI_add, inb_nI (by omega) (by omega), if_neg (show ¬ (true = false) by decide), nI_clamp (by omega), hrv, al1, al1]
      cases h0 : anyB (gQ A C b many q v) w with
      | true =>
        rw [if_neg (show ¬ b2i true = 0 by decide)]
        exact ⟨ξ, rfl, g1, g2, hkeep (by rw [hgv, h0]; rfl)⟩
      | false =>
        rw [if_pos (show b2i false = 0 from rfl), bnd hlk]
        dsimp only
        rw [g1.2.2, pk_mul, pk_mul, nI_add, nI_add, inb_nI (by omega) (by omega), if_neg (show ¬ (true = false) by decide), nI_clamp (by omega), htn]
        cases hc : cvQ A C (many - (q + 1)) (q + 1) (stQ (dgC C b v) w) with
        | false =>
          rw [if_pos (show b2i false = 0 from rfl)]
          refine ⟨ξ, rfl, g1, g2, hkeep ?_⟩
          rw [hgv, h0]
          unfold gQ
          rw [hc, Bool.and_false]
          rfl
        | true =>
          rw [if_neg (show ¬ b2i true = 0 by decide), inb_nI (by omega) (by omega), if_neg (show ¬ (true = false) by decide), nI_clamp (by omega)]
          refine ⟨_, rfl, g1.w, fun q' h1 h2 u hu => ?_, fun u hu => ?_⟩
          · have h3 : (q + 1) * wtC C b 6 ≤ q' * wtC C b 6 := Nat.mul_le_mul_right _ h1
            rw [rd_i (by omega)]
            exact g2 q' h1 h2 u hu
          · by_cases huv : u = v
            · subst huv
              rw [rd_s, if_pos (by omega), hgv]
              unfold gQ
              rw [hc, hA, show (true && true) = true from rfl, Bool.or_true]
              rfl
            · rw [rd_i (by omega), g3 u hu]
              by_cases h1 : u < v
              · rw [if_pos h1, if_pos (by omega)]
              · rw [if_neg h1, if_neg (by omega)]
    · obtain ⟨g1, g2, g3⟩ := hP
      unfold f_X10_canRest_62_L124 f_X10_canRest_62_J211
      rw [g1.2.2, if_pos (nI_le (Nat.le_refl _) (by omega)), al1]
      exact ⟨ξ, rfl, g1, g2, fun u hu => by rw [g3 u hu, if_pos hu]⟩
  · have hAf : A q w = false := by cases h : A q w <;> simp [h] at hA ⊢
    refine ⟨ν, ?_, hB, hT, fun v hv => ?_⟩
    · rw [show FU = 999999 + 1 from rfl, it2_s]
      generalize it2 (f_X10_canRest_62_L124 a2 (nI q) (nI w) (nI (mk6 (shut w))) k64 k104) 999999 = kk
      unfold f_X10_canRest_62_L124 f_X10_canRest_62_J211
      rw [hB.2.2, if_neg (show ¬ nI (wtC C b 6) ≤ (0 : Int32) from nI_nle hwp (by omega)), lm27, nI_add, inb_nI (by omega) (by omega), if_neg (show ¬ (true = false) by decide), nI_clamp (by omega), h73, hAf, if_pos (show b2i false = 0 from rfl), al1]
    · rw [hR v hv]
      show _ = b2i (anyB (gQ A C b many q v) w || gQ A C b many q v w)
      unfold gQ
      rw [hAf, Bool.false_and, Bool.or_false]
theorem m_canRest {A : Nat → Nat → Bool} {C : Nat → Bool} {n many r : Nat} {μ : Mem} (hX : MX A C n many μ) (hn : n ≤ 3) (hr : r ≤ 4000) (hW : wtC C (r + 1) 6 ≤ 4096) (hm1 : 1 ≤ many) (hm : many ≤ 6) (hA : ∀ q w, 3 ^ n ≤ w → w < 27 → A q w = false) :
    ∃ μ', f_X10_canRest_62 (nI many) (nI r) μ = some (b2i (cvQ A C many 0 (fun _ => r)), μ') ∧ BFQ C (r + 1) μ μ' ∧ ∀ q, q ≤ many → TBQ A C (r + 1) many μ' q := by
  have h27 := p3 hn
  have hb : 0 < r + 1 := by omega
  have hwp := wtC_pos (C := C) hb 6
  have hc6 : cnC C 6 ≤ 6 := cnC_le 6
  have em : many * wtC C (r + 1) 6 ≤ 6 * 4096 := Nat.mul_le_mul hm hW
  unfold f_X10_canRest_62
  rw [al1, hX.2.2.1, bnd (m_power (b := r + 1) (k := cnC C 6) (by omega))]
  dsimp only
  rw [← wtC_pow]
  have hB0 : BFQ C (r + 1) μ (pI (pI μ 62 32 (nI (r + 1))) 62 33 (nI (wtC C (r + 1) 6))) := by
    refine ⟨fun p k h1 h2 => ?_, ?_, rd_s⟩
    · by_cases hp : p = 62
      · subst hp
        rw [rd_i (by omega), rd_i (by omega)]
      · rw [rd_p hp, rd_p hp]
    · rw [rd_i (by omega), rd_s]
  have := for_rel (body := f_X10_canRest_62_L24 (nI many) (nI r)) nI (wtC C (r + 1) 6) (fun v ν => BFQ C (r + 1) μ ν ∧ ∀ u, u < v → ν.1 74 (many * wtC C (r + 1) 6 + u) = b2i (decide (u = 0))) (fun rr => rr.1 = b2i (cvQ A C many 0 (fun _ => r)) ∧ BFQ C (r + 1) μ rr.2 ∧ ∀ q, q ≤ many → TBQ A C (r + 1) many rr.2 q) (fun k v ν hv hP => by
    obtain ⟨g1, g2⟩ := hP
    unfold f_X10_canRest_62_L24 f_X10_canRest_62_J53
    rw [g1.2.2, if_neg (nI_ge hv (by omega)), pk_mul, nI_add, inb_nI (by omega) (by omega), if_neg (show ¬ (true = false) by decide), if_neg (show ¬ (true = false) by decide), nI_clamp (by omega), al1]
    have hfin : ∀ x : Int32, x = b2i (decide (v = 0)) → BFQ C (r + 1) μ (pI ν 74 (many * wtC C (r + 1) 6 + v) x) ∧ ∀ u, u < v + 1 → (pI ν 74 (many * wtC C (r + 1) 6 + v) x).1 74 (many * wtC C (r + 1) 6 + u) = b2i (decide (u = 0)) := by
      intro x hx
      refine ⟨g1.w, fun u hu => ?_⟩
      by_cases huv : u = v
      · subst huv
        rw [rd_s]; exact hx
      · rw [rd_i (by omega)]
        exact g2 u (by omega)
    by_cases h0 : v = 0
    · rw [if_pos ((nI_z (by omega)).mpr h0), show zb (1 : Int32) = true from by decide, if_neg (show ¬ (true = false) by decide)]
      exact ⟨_, rfl, hfin _ (by rw [decide_eq_true h0]; rfl)⟩
    · rw [if_neg (fun h => h0 ((nI_z (by omega)).mp h)), show zb (0 : Int32) = true from by decide, if_neg (show ¬ (true = false) by decide)]
      exact ⟨_, rfl, hfin _ (by rw [decide_eq_false h0]; rfl)⟩) (fun k ν hP => by
    obtain ⟨g1, g2⟩ := hP
    unfold f_X10_canRest_62_L24
    rw [g1.2.2, if_pos (nI_le (Nat.le_refl _) (by omega)), pm_sub]
    exact for_rel (body := f_X10_canRest_62_L64 (nI r)) (fun i => pm (many - i)) many (fun i ξ => BFQ C (r + 1) μ ξ ∧ ∀ q, many - i ≤ q → q ≤ many → TBQ A C (r + 1) many ξ q) (fun rr => rr.1 = b2i (cvQ A C many 0 (fun _ => r)) ∧ BFQ C (r + 1) μ rr.2 ∧ ∀ q, q ≤ many → TBQ A C (r + 1) many rr.2 q) (fun kk i ξ hi hR => by
      obtain ⟨t1, t2⟩ := hR
      obtain ⟨q, hqi⟩ : ∃ q, many - i = q + 1 := ⟨many - i - 1, by omega⟩
      have e1 : (q + 1) * wtC C (r + 1) 6 = q * wtC C (r + 1) 6 + wtC C (r + 1) 6 := Nat.succ_mul q _
      have e2 : q * wtC C (r + 1) 6 ≤ 5 * 4096 := Nat.mul_le_mul (by omega) hW
      show ∃ μ', f_X10_canRest_62_L64 (nI r) kk (pm (many - i)) ξ = kk (pm (many - (i + 1))) μ' ∧ _
      rw [show many - (i + 1) = q by omega, hqi, pm_s]
      unfold f_X10_canRest_62_L64
      rw [if_neg (nI_pos (by omega))]
      have hz := for_con (body := f_X10_canRest_62_L71 (nI r) (nI q) kk) nI (wtC C (r + 1) 6) (fun v ζ => BFQ C (r + 1) μ ζ ∧ (∀ q', q < q' → q' ≤ many → TBQ A C (r + 1) many ζ q') ∧ ∀ u, u < v → ζ.1 74 (q * wtC C (r + 1) 6 + u) = 0) (fun ζ => it2 (f_X10_canRest_62_L104 (nI r) (nI q) kk) FU (0 : Int32) ζ) (fun ζ => BFQ C (r + 1) μ ζ ∧ (∀ q', q < q' → q' ≤ many → TBQ A C (r + 1) many ζ q') ∧ ∀ u, u < wtC C (r + 1) 6 → ζ.1 74 (q * wtC C (r + 1) 6 + u) = 0) (fun k3 v ζ hv hS => by
        obtain ⟨s1, s2, s3⟩ := hS
        unfold f_X10_canRest_62_L71
        rw [s1.2.2, if_neg (nI_ge hv (by omega)), pk_mul, nI_add, inb_nI (by omega) (by omega), if_neg (show ¬ (true = false) by decide), nI_clamp (by omega), al1]
        refine ⟨_, rfl, s1.w, fun q' h1 h2 u hu => ?_, fun u hu => ?_⟩
        · have h3 : (q + 1) * wtC C (r + 1) 6 ≤ q' * wtC C (r + 1) 6 := Nat.mul_le_mul_right _ h1
          rw [rd_i (by omega)]
          exact s2 q' h1 h2 u hu
        · by_cases huv : u = v
          · rw [huv, rd_s]
          · rw [rd_i (by omega)]
            exact s3 u (by omega)) (fun k3 ζ hS => by
        obtain ⟨s1, s2, s3⟩ := hS
        unfold f_X10_canRest_62_L71
        rw [s1.2.2, if_pos (nI_le (Nat.le_refl _) (by omega))]
        exact ⟨ζ, rfl, s1, s2, s3⟩) FU 0 ξ (by omega) (fu_gt (by omega)) ⟨t1, fun q' h1 h2 => t2 q' (by omega) h2, fun u hu => by omega⟩
      obtain ⟨ζ, z1, z2, z3, z4⟩ := hz
      have hw := for_con (body := f_X10_canRest_62_L104 (nI r) (nI q) kk) nI (3 ^ n) (fun w η => BFQ C (r + 1) μ η ∧ (∀ q', q < q' → q' ≤ many → TBQ A C (r + 1) many η q') ∧ ∀ v, v < wtC C (r + 1) 6 → η.1 74 (q * wtC C (r + 1) 6 + v) = b2i (anyB (gQ A C (r + 1) many q v) w)) (fun η => kk (pm q) η) (fun η => BFQ C (r + 1) μ η ∧ (∀ q', q < q' → q' ≤ many → TBQ A C (r + 1) many η q') ∧ ∀ v, v < wtC C (r + 1) 6 → η.1 74 (q * wtC C (r + 1) 6 + v) = b2i (anyB (gQ A C (r + 1) many q v) (3 ^ n))) (fun k3 w η hw hS => by
        obtain ⟨s1, s2, s3⟩ := hS
        have hXη := hX.fr s1.1
        unfold f_X10_canRest_62_L104
        rw [hXη.2.1, if_neg (nI_ge hw (by omega)), bnd (m_shutBy hXη.1 hn hw)]
        exact m_row hX hn hb (by omega) hW hm (by omega) hw s1 s2 s3) (fun k3 η hS => by
        obtain ⟨s1, s2, s3⟩ := hS
        have hXη := hX.fr s1.1
        unfold f_X10_canRest_62_L104
        rw [hXη.2.1, if_pos (nI_le (Nat.le_refl _) (by omega))]
        exact ⟨η, rfl, s1, s2, s3⟩) FU 0 ζ (by omega) (fu_gt (by omega)) ⟨z2, z3, fun v hv => by rw [z4 v hv]; rfl⟩
      obtain ⟨η, w1, w2, w3, w4⟩ := hw
      refine ⟨η, z1.trans w1, w2, fun q' h1 h2 => ?_⟩
      by_cases hqq : q' = q
      · subst hqq
        intro v hv
        rw [w4 v hv, show many - q' = (many - (q' + 1)) + 1 by omega]
        refine congrArg b2i ?_
        show _ = anyB (fun w => A q' w && cvQ A C (many - (q' + 1)) (q' + 1) (stQ (dgC C (r + 1) v) w)) 27
        exact (anyB_ext (f := gQ A C (r + 1) many q' v) (by omega) (fun w h1 h2 => by
          unfold gQ
          rw [hA q' w h1 h2, Bool.false_and])).symm
      · exact w3 q' (by omega) h2) (fun kk ξ hR => by
      obtain ⟨t1, t2⟩ := hR
      have hXξ := hX.fr t1.1
      have ht := t2 0 (by omega) (by omega) (wtC C (r + 1) 6 - 1) (by omega)
      rw [Nat.zero_mul, Nat.zero_add, Nat.sub_zero, cv_congr dg_all] at ht
      show ∃ rr, f_X10_canRest_62_L64 (nI r) kk (pm (many - many)) ξ = some rr ∧ _
      rw [Nat.sub_self]
      unfold f_X10_canRest_62_L64
      rw [if_pos (show pm 0 < 0 by decide), bnd (m_allLack hXξ t1.2.1)]
      dsimp only
      rw [inb_nI (by omega) (by omega), if_neg (show ¬ (true = false) by decide), nI_clamp (by omega), ht, b2i_zb, if_neg (show ¬ (true = false) by decide)]
      exact ⟨_, rfl, rfl, t1, fun q hq => t2 q (by omega) hq⟩) FU 0 ν (by omega) (fu_gt (by omega)) ⟨g1, fun q h1 h2 => by
        have : q = many := by omega
        subst this
        intro v hv
        rw [g2 v hv, Nat.sub_self]
        exact congrArg b2i (az_code hb hv).symm⟩) FU 0 _ (by omega) (fu_gt (by omega)) ⟨hB0, fun u hu => by omega⟩
  obtain ⟨rr, r1, r2, r3⟩ := this
  exact ⟨rr.2, by rw [← r2]; exact r1, r3⟩
/-! the first row, watch by watch -/
def vsQ (A : Nat → Nat → Bool) (C : Nat → Bool) (b many : Nat) : Nat → Nat
  | 0 => wtC C b 6 - 1
  | q + 1 => nxC C b (vsQ A C b many q) (fsB (gQ A C b many q (vsQ A C b many q)) 27)
theorem vsQ_lt {A : Nat → Nat → Bool} {C : Nat → Bool} {b many : Nat} (hb : 0 < b) : ∀ q, vsQ A C b many q < wtC C b 6
  | 0 => by have := wtC_pos (C := C) hb 6; show wtC C b 6 - 1 < wtC C b 6; omega
  | q + 1 => nxC_lt hb
theorem vsQ_cv {A : Nat → Nat → Bool} {C : Nat → Bool} {r many : Nat} (h : cvQ A C many 0 (fun _ => r) = true) : ∀ q, q ≤ many → cvQ A C (many - q) q (dgC C (r + 1) (vsQ A C (r + 1) many q)) = true ∧ (q < many → anyB (gQ A C (r + 1) many q (vsQ A C (r + 1) many q)) 27 = true)
  | 0, _ => by
    have h0 : cvQ A C (many - 0) 0 (dgC C (r + 1) (vsQ A C (r + 1) many 0)) = true := by
      rw [Nat.sub_zero, ← h]
      exact cv_congr dg_all
    refine ⟨h0, fun hq => ?_⟩
    rw [show many - 0 = (many - (0 + 1)) + 1 by omega] at h0
    exact h0
  | q + 1, hq => by
    obtain ⟨-, h2⟩ := vsQ_cv (A := A) (C := C) (r := r) (many := many) h q (by omega)
    obtain ⟨f1, f2, f3⟩ := fsB_ok 27 (h2 (by omega))
    have h0 : cvQ A C (many - (q + 1)) (q + 1) (dgC C (r + 1) (vsQ A C (r + 1) many (q + 1))) = true := by
      have hg : (A q (fsB (gQ A C (r + 1) many q (vsQ A C (r + 1) many q)) 27) && cvQ A C (many - (q + 1)) (q + 1) (stQ (dgC C (r + 1) (vsQ A C (r + 1) many q)) (fsB (gQ A C (r + 1) many q (vsQ A C (r + 1) many q)) 27))) = true := f2
      rw [Bool.and_eq_true] at hg
      rw [← hg.2]
      exact cv_congr (nxC_dg (by omega))
    refine ⟨h0, fun hlt => ?_⟩
    rw [show many - (q + 1) = (many - (q + 1 + 1)) + 1 by omega] at h0
    exact h0
theorem vsQ_gp {A : Nat → Nat → Bool} {C : Nat → Bool} {r many : Nat} : ∀ q, q ≤ many → ∀ j, gpQ A C many 0 (fun _ => r) (q + j) = gpQ A C (many - q) q (dgC C (r + 1) (vsQ A C (r + 1) many q)) j
  | 0, _, j => by
    rw [Nat.zero_add, Nat.sub_zero]
    exact (gp_congr many 0 _ _ dg_all j).symm
  | q + 1, hq, j => by
    rw [show q + 1 + j = q + (j + 1) by omega, vsQ_gp q (by omega) (j + 1), show many - q = (many - (q + 1)) + 1 by omega]
    show gpQ A C (many - (q + 1)) (q + 1) (stQ (dgC C (r + 1) (vsQ A C (r + 1) many q)) (fsB (gQ A C (r + 1) many q (vsQ A C (r + 1) many q)) 27)) j = _
    exact (gp_congr _ _ _ _ (nxC_dg (by omega)) j).symm
theorem vsQ_ws {A : Nat → Nat → Bool} {C : Nat → Bool} {r many q : Nat} (hq : q < many) : gpQ A C many 0 (fun _ => r) q = fsB (gQ A C (r + 1) many q (vsQ A C (r + 1) many q)) 27 := by
  have := vsQ_gp (A := A) (C := C) (r := r) (many := many) q (by omega) 0
  rw [Nat.add_zero, show many - q = (many - (q + 1)) + 1 by omega] at this
  exact this
theorem m_rowAt {A : Nat → Nat → Bool} {C : Nat → Bool} {n many r i : Nat} {μ : Mem} (hX : MX A C n many μ) (hn : n ≤ 3) (hr : r ≤ 4000) (hW : wtC C (r + 1) 6 ≤ 4096) (hm : many ≤ 6) (hA : ∀ q w, 3 ^ n ≤ w → w < 27 → A q w = false) (h32 : μ.1 62 32 = nI (r + 1)) (h33 : μ.1 62 33 = nI (wtC C (r + 1) 6)) (hT : ∀ q, q ≤ many → TBQ A C (r + 1) many μ q) (hc : cvQ A C many 0 (fun _ => r) = true) (hi : i < many) :
    f_X10_rowAt_62 (nI r) (nI i) μ = some (nI (gpQ A C many 0 (fun _ => r) i), μ) := by
  have h27 := p3 hn
  have hb : 0 < r + 1 := by omega
  rw [vsQ_ws hi]
  unfold f_X10_rowAt_62
  rw [bnd (m_allLack hX h32)]
  have := for_acc4 (body := f_X10_rowAt_62_L12 (nI i)) nI (i + 1) (fun q => nI (vsQ A C (r + 1) many q)) (fun q => if q = 0 then (0 : Int32) else nI (fsB (gQ A C (r + 1) many (q - 1) (vsQ A C (r + 1) many (q - 1))) 27)) μ (some (nI (fsB (gQ A C (r + 1) many i (vsQ A C (r + 1) many i)) 27), μ)) (fun k q hq => by
    have hqm : q < many := by omega
    obtain ⟨-, hv2⟩ := vsQ_cv (A := A) (C := C) (r := r) (many := many) hc q (by omega)
    obtain ⟨f1, f2, f3⟩ := fsB_ok 27 (hv2 hqm)
    have hvl := vsQ_lt (A := A) (C := C) (b := r + 1) (many := many) hb q
    have e1 : (q + 1) * wtC C (r + 1) 6 = q * wtC C (r + 1) 6 + wtC C (r + 1) 6 := Nat.succ_mul q _
    have e2 : q * wtC C (r + 1) 6 ≤ 5 * 4096 := Nat.mul_le_mul (by omega) hW
    have hf3n : fsB (gQ A C (r + 1) many q (vsQ A C (r + 1) many q)) 27 < 3 ^ n := by
      by_cases hh : fsB (gQ A C (r + 1) many q (vsQ A C (r + 1) many q)) 27 < 3 ^ n
      · exact hh
      · have f2' : (A q (fsB (gQ A C (r + 1) many q (vsQ A C (r + 1) many q)) 27) && _) = true := f2
        rw [hA q _ (by omega) f1, Bool.false_and] at f2'
        cases f2'
    show f_X10_rowAt_62_L12 (nI i) k (nI (vsQ A C (r + 1) many q)) _ (nI q) μ = k (nI (nxC C (r + 1) (vsQ A C (r + 1) many q) (fsB (gQ A C (r + 1) many q (vsQ A C (r + 1) many q)) 27))) (if q + 1 = 0 then (0 : Int32) else nI (fsB (gQ A C (r + 1) many q (vsQ A C (r + 1) many q)) 27)) (nI (q + 1)) μ
    rw [if_neg (show ¬ q + 1 = 0 by omega)]
    generalize vsQ A C (r + 1) many q = v at *
    generalize hws : fsB (gQ A C (r + 1) many q v) 27 = ws at *
    unfold f_X10_rowAt_62_L12
    rw [if_neg (nI_nlt (by omega) (by omega))]
    have hbody : ∀ (kk : Int32 → Mem → Option (Int32 × Mem)) (w : Nat), w < 3 ^ n → f_X10_rowAt_62_L21 (nI i) (nI v) (nI q) k kk (nI w) μ = if gQ A C (r + 1) many q v w = true then k (nI (nxC C (r + 1) v w)) (nI w) (nI (q + 1)) μ else kk (nI (w + 1)) μ := by
      intro kk w hw
      have hnl := nxC_lt (C := C) (b := r + 1) (v := v) (w := w) hb
      have htn := hT (q + 1) (by omega) (nxC C (r + 1) v w) hnl
      rw [cv_congr (nxC_dg hb)] at htn
      unfold f_X10_rowAt_62_L21 f_X10_rowAt_62_J66
      rw [lm27, nI_add, inb_nI (by omega) (by omega), if_neg (show ¬ (true = false) by decide), nI_clamp (by omega), hX.2.2.2.2 q hqm w hw, al1, bnd (m_shutBy hX.1 hn hw)]
      dsimp only
      rw [bnd (m_lacksThen hX hb (by omega) hW hvl h32)]
      dsimp only
      rw [al1, h33, pk_mul, nI_add, inb_nI (by omega) (by omega), if_neg (show ¬ (true = false) by decide), nI_clamp (by omega), htn, bnd (m_shutBy hX.1 hn hw)]
      dsimp only
      rw [bnd (m_lacksThen hX hb (by omega) hW hvl h32)]
      dsimp only
      unfold gQ
      cases A q w with
      | false => rfl
      | true =>
        rw [if_neg (show ¬ b2i true = 0 by decide)]
        cases cvQ A C (many - (q + 1)) (q + 1) (stQ (dgC C (r + 1) v) w) with
        | false => rfl
        | true => rfl
    obtain ⟨μ', g1, g2⟩ := for_con (body := f_X10_rowAt_62_L21 (nI i) (nI v) (nI q) k) nI ws (fun _ ν => ν = μ) (fun ν => k (nI (nxC C (r + 1) v ws)) (nI ws) (nI (q + 1)) ν) (fun ν => ν = μ) (fun kk w ν hw hP => by
      subst hP
      refine ⟨ν, ?_, rfl⟩
      rw [hbody kk w (by omega), if_neg (by rw [f3 w hw]; decide)]) (fun kk ν hP => by
      subst hP
      refine ⟨ν, ?_, rfl⟩
      rw [hbody kk ws hf3n, if_pos f2]) FU 0 μ (by omega) (fu_gt (by omega)) rfl
    subst g2
    exact g1) (fun k => by
    show f_X10_rowAt_62_L12 (nI i) k _ (if i + 1 = 0 then (0 : Int32) else nI (fsB (gQ A C (r + 1) many i (vsQ A C (r + 1) many i)) 27)) (nI (i + 1)) μ = _
    unfold f_X10_rowAt_62_L12
    rw [if_pos (nI_lt (by omega) (by omega)), if_neg (by omega)]) FU 0 (by omega) (fu_gt (by omega))
  exact this
