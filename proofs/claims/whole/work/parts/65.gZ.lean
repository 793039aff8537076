/-! PURE: beds -/
def FkQ (n k s : Nat) : Nat := k / 4 ^ (n - 1 - s) % 4
theorem Fk_bits : ∀ n, n < 4 → ∀ k, k < 64 → ∀ s, s < n → ((nI k >>> (((2 : Int32) * ((nI n - (1 : Int32)) - nI s)) &&& 31)) &&& (3 : Int32)) = nI (FkQ n k s) := by decide +kernel
theorem Fk_lt (n k s : Nat) : FkQ n k s < 4 := Nat.mod_lt _ (by omega)
theorem four_n : ∀ n, n < 4 → ((1 : Int32) <<< (((2 : Int32) * nI n) &&& 31)) = nI (4 ^ n) := by decide +kernel
theorem p4 {n : Nat} (h : n ≤ 3) : 4 ^ n ≤ 64 := by
  rcases (show n = 0 ∨ n = 1 ∨ n = 2 ∨ n = 3 by omega) with rfl | rfl | rfl | rfl <;> decide
def UkQ (n Q : Nat) (K S N G : Nat → Nat) (k : Nat) : Nat := UQ (lwQ n 3 K S (FkQ n k) N G) (ctQ n 3 K) Q
def buQ (U : Nat → Nat) : Nat → Nat
  | 0 => 0
  | k + 1 => max (buQ U k) (U k)
def bfQ (U : Nat → Nat) : Nat → Nat
  | 0 => 0
  | k + 1 => if buQ U k < U k then k else bfQ U k
theorem buQ_le {U : Nat → Nat} {c : Nat} (h : ∀ k, U k ≤ c) : ∀ k, buQ U k ≤ c
  | 0 => Nat.zero_le _
  | k + 1 => Nat.max_le.mpr ⟨buQ_le h k, h k⟩
theorem bfQ_lt {U : Nat → Nat} {c : Nat} (h0 : 0 < c) : ∀ k, k ≤ c → bfQ U k < c
  | 0, _ => h0
  | k + 1, h => by
    show (if buQ U k < U k then k else bfQ U k) < c
    split
    · omega
    · exact bfQ_lt h0 k (by omega)
theorem p_layBeds {n k : Nat} {μ : Mem} (hn : n ≤ 3) (h10 : μ.1 1 0 = nI n) (hk : k < 64) : ∃ μ', f_X9_layBeds_0 (nI k) μ = some μ' ∧ only [61] μ μ' ∧ ∀ s, s < n → μ'.1 61 s = nI (FkQ n k s) := by
  unfold f_X9_layBeds_0
  refine for_rel (ρ := Mem) nI n (fun i ν => only [61] μ ν ∧ ∀ s, s < i → ν.1 61 s = nI (FkQ n k s)) (fun ν => only [61] μ ν ∧ ∀ s, s < n → ν.1 61 s = nI (FkQ n k s)) (fun kk i ν hi hP => ?_) (fun kk ν hP => ?_) FU 0 μ (by omega) (fu_gt (by omega)) ⟨only.rf, fun s hs => by omega⟩
  · obtain ⟨q1, q2⟩ := hP
    unfold f_X9_layBeds_0_L2
    rw [q1.1 1 0 (by decide), h10, if_neg (nI_ge hi (by omega)), inb_nI (by omega) (by omega), if_neg (show ¬ (true = false) by decide), nI_clamp (by omega), Fk_bits n (by omega) k hk i hi, al1]
    refine ⟨_, rfl, q1.pI (by decide), fun s hs => ?_⟩
    by_cases hsi : s = i
    · rw [hsi, rd_s]
    · rw [rd_i hsi]
      exact q2 s (by omega)
  · obtain ⟨q1, q2⟩ := hP
    unfold f_X9_layBeds_0_L2
    rw [q1.1 1 0 (by decide), h10, if_pos (nI_le (Nat.le_refl _) (by omega))]
    exact ⟨ν, rfl, q1, q2⟩
theorem only61.sm {μ μ' : Mem} (h : only [61] μ μ') : smE μ μ' := h.sm (by decide)
def bdV (n Q : Nat) (K S N G : Nat → Nat) (a : Int32) : Int32 := if buQ (UkQ n Q K S N G) (4 ^ n) = 0 then -4 else if a = 0 then pm (buQ (UkQ n Q K S N G) (4 ^ n)) else nI (FkQ n (bfQ (UkQ n Q K S N G) (4 ^ n)) ((a - 10).toNatClampNeg))
theorem HV.fr2 {n : Nat} {K S : Nat → Nat} {μ ν : Mem} (h1 : ∀ p k, (p = 1 ∨ p = 2 ∨ p = 3 ∨ p = 65 ∨ p = 66) → ν.1 p k = μ.1 p k) (h2 : ∀ k, (k = 2 ∨ k = 4) → ν.1 62 k = μ.1 62 k) (h : HV n K S μ) : HV n K S ν := by
  obtain ⟨a1, a2, a3, a4, a5, a6⟩ := h
  refine ⟨a1, by rw [h1 1 0 (by omega)]; exact a2, by rw [h2 2 (by omega)]; exact a3, by rw [h2 4 (by omega)]; exact a4, fun s hs => ?_, fun e he => ?_⟩
  · rw [h1 2 _ (by omega), h1 65 _ (by omega)]; exact a5 s hs
  · rw [h1 3 _ (by omega), h1 66 _ (by omega)]; exact a6 e he
/-- the greatest as the model tells it -/
def bmQ (u : Nat) : Int32 := if u = 0 then -4 else pm u
theorem bm_cmp : ∀ a, a < 8 → ∀ b, b < 8 → (bmQ a ≤ bmQ b ↔ a ≤ b) := by decide +kernel
theorem m_bedsLoop {n Q : Nat} {K S F T N G W : Nat → Nat} {μ : Mem} {a1 : Int32} (hV : HV n K S μ) (hPV : PV n F T N G W μ) (h3 : μ.1 62 3 = nI Q) (hx : AbsR 3 μ) (hQ1 : 1 ≤ Q) (hQ : Q ≤ 6) (ha : a1 = 0 ∨ inb (a1 - 10) n = true) :
    ∃ μ', f_X10_beds_62_J17 a1 μ = some (bdV n Q K S N G a1, μ') ∧ smE μ μ' := by
  have hn := hV.1
  have h64 := p4 hn
  have hUle : ∀ k, UkQ n Q K S N G k ≤ 7 := fun k => by
    have h1 := UQ_le (lwQ n 3 K S (FkQ n k) N G) (ctQ n 3 K) Q
    have h2 := clC_le (ctQ n 3 K) Q
    unfold UkQ
    omega
  have hbl := buQ_le hUle
  have h4p : 0 < 4 ^ n := Nat.pow_pos (by omega)
  have hbf := bfQ_lt (U := UkQ n Q K S N G) h4p
  unfold f_X10_beds_62_J17
  /- what stays: all but 63 0..2, 75 and the scratch of the search -/
  have hFR : ∀ ν : Mem, (∀ p k, p ≠ 75 → p ≠ 72 → p ≠ 73 → p ≠ 74 → ¬ (p = 62 ∧ (k = 28 ∨ k = 32 ∨ k = 33)) → ¬ (p = 63 ∧ k < 3) → ν.1 p k = μ.1 p k) → ∀ k, (∀ s, s < n → ν.1 63 s = nI (FkQ n k s)) → MM n 3 Q K S (FkQ n k) N G ν := by
    intro ν hν k hF
    refine ⟨hV.fr2 (fun p k hp => hν p k (by omega) (by omega) (by omega) (by omega) (by omega) (by omega)) (fun k hk => hν 62 k (by omega) (by omega) (by omega) (by omega) (by omega) (by omega)), fun s hs => ⟨Fk_lt n k s, hF s hs⟩, fun d hd => ?_, fun q hq => ?_, ?_, ?_⟩
    · rw [hν 63 _ (by omega) (by omega) (by omega) (by omega) (by omega) (by omega)]
      exact ⟨(hPV.2.2.1 d hd).1, (hPV.2.2.1 d hd).2.2⟩
    · rw [hν 63 _ (by omega) (by omega) (by omega) (by omega) (by omega) (by omega)]
      exact ⟨(hPV.2.2.2.1 q hq).1, (hPV.2.2.2.1 q hq).2.2⟩
    · rw [hν 62 3 (by omega) (by omega) (by omega) (by omega) (by omega) (by omega)]; exact h3
    · exact hx.fr (hν 62 26 (by omega) (by omega) (by omega) (by omega) (by omega) (by omega))
  have := for_rel (body := f_X10_beds_62_L19 a1) nI 3 (fun i ν => (∀ p k, p ≠ 75 → ν.1 p k = μ.1 p k) ∧ ∀ s, s < i → ν.1 75 s = μ.1 63 s) (fun r => r.1 = bdV n Q K S N G a1 ∧ smE μ r.2) (fun kk i ν hi hP => by
    obtain ⟨q1, q2⟩ := hP
    unfold f_X10_beds_62_L19
    rw [if_neg (show ¬ (3 : Int32) ≤ nI i from nI_ge (b := 3) hi (by omega)), la0, inb_nI (by omega) (by omega), if_neg (show ¬ (true = false) by decide), inb_nI (by omega) (by omega), if_neg (show ¬ (true = false) by decide), nI_clamp (by omega), q1 63 i (by omega), al1]
    refine ⟨_, rfl, fun p k hp => by rw [rd_p hp]; exact q1 p k hp, fun s hs => ?_⟩
    by_cases hsi : s = i
    · rw [hsi, rd_s]
    · rw [rd_i hsi]
      exact q2 s (by omega)) (fun kk ν hP => by
    obtain ⟨q1, q2⟩ := hP
    unfold f_X10_beds_62_L19
    rw [if_pos (show (3 : Int32) ≤ nI 3 from by decide)]
    /- over the facings -/
    have hend : ∀ ξ : Mem, (∀ p k, p ≠ 75 → p ≠ 72 → p ≠ 73 → p ≠ 74 → ¬ (p = 62 ∧ (k = 28 ∨ k = 32 ∨ k = 33)) → ¬ (p = 63 ∧ k < 3) → ξ.1 p k = μ.1 p k) → (∀ s, s < 3 → ξ.1 75 s = μ.1 63 s) → ∃ r, it2 (f_X10_beds_62_L149 a1 (bmQ (buQ (UkQ n Q K S N G) (4 ^ n))) (nI (bfQ (UkQ n Q K S N G) (4 ^ n)))) FU (0 : Int32) ξ = some r ∧ (r.1 = bdV n Q K S N G a1 ∧ smE μ r.2) := by
      intro ξ x1 x2
      exact for_rel (body := f_X10_beds_62_L149 a1 (bmQ (buQ (UkQ n Q K S N G) (4 ^ n))) (nI (bfQ (UkQ n Q K S N G) (4 ^ n)))) nI 3 (fun i ζ => (∀ p k, p ≠ 75 → p ≠ 72 → p ≠ 73 → p ≠ 74 → ¬ (p = 62 ∧ (k = 28 ∨ k = 32 ∨ k = 33)) → ¬ (p = 63 ∧ k < 3) → ζ.1 p k = μ.1 p k) ∧ (∀ s, s < 3 → ζ.1 75 s = μ.1 63 s) ∧ ∀ s, s < i → ζ.1 63 s = μ.1 63 s) (fun r => r.1 = bdV n Q K S N G a1 ∧ smE μ r.2) (fun k2 i ζ hi hR => by
        obtain ⟨z1, z2, z3⟩ := hR
        unfold f_X10_beds_62_L149
        rw [if_neg (show ¬ (3 : Int32) ≤ nI i from nI_ge (b := 3) hi (by omega)), la0, inb_nI (by omega) (by omega), if_neg (show ¬ (true = false) by decide), inb_nI (by omega) (by omega), if_neg (show ¬ (true = false) by decide), nI_clamp (by omega), z2 i hi, al1]
        refine ⟨_, rfl, fun p k p1 p2 p3 p4 p5 p6 => ?_, fun s hs => by rw [rd_p (by omega)]; exact z2 s hs, fun s hs => ?_⟩
        · by_cases hp : p = 63
          · subst hp
            rw [rd_i (by omega)]
            exact z1 63 k p1 p2 p3 p4 p5 p6
          · rw [rd_p hp]
            exact z1 p k p1 p2 p3 p4 p5 p6
        · by_cases hsi : s = i
          · rw [hsi, rd_s]
          · rw [rd_i hsi]
            exact z3 s (by omega)) (fun k2 ζ hR => by
        obtain ⟨z1, z2, z3⟩ := hR
        have hsm : smE μ ζ := by
          intro p k hr
          have hne : ∀ x, (coreB x k = false) → x ≠ 62 → p ≠ x := by
            rintro x hx1 hx2 rfl
            rcases hr with hr | hr
            · rw [hx1] at hr; cases hr
            · exact hx2 hr.1
          by_cases hp : p = 63 ∧ k < 3
          · obtain ⟨rfl, hk⟩ := hp
            exact z3 k hk
          · refine z1 p k (hne 75 rfl (by omega)) (hne 72 rfl (by omega)) (hne 73 rfl (by omega)) (hne 74 rfl (by omega)) ?_ hp
            rintro ⟨rfl, rfl | rfl | rfl⟩
            · rcases hr with hr | hr
              · exact absurd (show (false : Bool) = true from hr) (by decide)
              · omega
            · rcases hr with hr | hr
              · exact absurd (show (false : Bool) = true from hr) (by decide)
              · omega
            · rcases hr with hr | hr
              · exact absurd (show (false : Bool) = true from hr) (by decide)
              · omega
        have e622 : ζ.1 62 2 = nI n := by rw [z1 62 2 (by omega) (by omega) (by omega) (by omega) (by omega) (by omega)]; exact hV.2.2.1
        have hb7 := hbl (4 ^ n)
        unfold f_X10_beds_62_L149 f_X10_beds_62_J187
        rw [if_pos (show (3 : Int32) ≤ nI 3 from by decide)]
        unfold bmQ bdV
        by_cases hu : buQ (UkQ n Q K S N G) (4 ^ n) = 0
        · rw [if_pos hu, if_pos hu, if_pos (show (-4 : Int32) = -4 from rfl)]
          exact ⟨_, rfl, rfl, hsm⟩
        · obtain ⟨u, hu2⟩ : ∃ u, buQ (UkQ n Q K S N G) (4 ^ n) = u + 1 := ⟨buQ (UkQ n Q K S N G) (4 ^ n) - 1, by omega⟩
          have hn4 : ¬ nI u = (-4 : Int32) := by
            rw [i32_eq, nI_toInt (by omega), show (-4 : Int32).toInt = -4 from rfl]
            omega
          rw [if_neg hu, if_neg hu, hu2, pm_s, if_neg hn4]
          by_cases h0 : a1 = 0
          · rw [if_pos h0, if_pos h0]
            exact ⟨_, rfl, rfl, hsm⟩
          · obtain ⟨j, hj, haj⟩ := inb_of (ha.resolve_left h0) (by omega)
            have hfl := hbf (4 ^ n) (Nat.le_refl _)
            rw [if_neg h0, if_neg h0, haj, e622, Fk_bits n (by omega) _ (by omega) j hj, nI_clamp (by omega)]
            exact ⟨_, rfl, rfl, hsm⟩) FU 0 ξ (by omega) (fu_gt (by omega)) ⟨x1, x2, fun s hs => by omega⟩
    have hbody : ∀ (k52 : Int32 → Int32 → Int32 → Mem → Option (Int32 × Mem)) k ξ, k < 4 ^ n → (∀ p k, p ≠ 75 → p ≠ 72 → p ≠ 73 → p ≠ 74 → ¬ (p = 62 ∧ (k = 28 ∨ k = 32 ∨ k = 33)) → ¬ (p = 63 ∧ k < 3) → ξ.1 p k = μ.1 p k) → (∀ s, s < 3 → ξ.1 75 s = μ.1 63 s) → ∃ μ', f_X10_beds_62_L52 a1 k52 (bmQ (buQ (UkQ n Q K S N G) k)) (nI (bfQ (UkQ n Q K S N G) k)) (nI k) ξ = k52 (bmQ (buQ (UkQ n Q K S N G) (k + 1))) (nI (bfQ (UkQ n Q K S N G) (k + 1))) (nI (k + 1)) μ' ∧ (∀ p k, p ≠ 75 → p ≠ 72 → p ≠ 73 → p ≠ 74 → ¬ (p = 62 ∧ (k = 28 ∨ k = 32 ∨ k = 33)) → ¬ (p = 63 ∧ k < 3) → μ'.1 p k = μ.1 p k) ∧ (∀ s, s < 3 → μ'.1 75 s = μ.1 63 s) := by
      intro k52 k ξ hk x1 x2
      have e622 : ∀ ζ : Mem, (∀ p k, p ≠ 75 → p ≠ 72 → p ≠ 73 → p ≠ 74 → ¬ (p = 62 ∧ (k = 28 ∨ k = 32 ∨ k = 33)) → ¬ (p = 63 ∧ k < 3) → ζ.1 p k = μ.1 p k) → ζ.1 62 2 = nI n := fun ζ hζ => by rw [hζ 62 2 (by omega) (by omega) (by omega) (by omega) (by omega) (by omega)]; exact hV.2.2.1
      have hbk := hbl k
      have hUk := hUle k
      have hbk1 : buQ (UkQ n Q K S N G) (k + 1) = max (buQ (UkQ n Q K S N G) k) (UkQ n Q K S N G k) := rfl
      have hfk1 : bfQ (UkQ n Q K S N G) (k + 1) = if buQ (UkQ n Q K S N G) k < UkQ n Q K S N G k then k else bfQ (UkQ n Q K S N G) k := rfl
      unfold f_X10_beds_62_L52
      rw [e622 ξ x1, show (4 : Int32) = nI 4 from rfl, bnd (m_power (b := 4) (k := n) (by omega))]
      dsimp only
      rw [if_neg (nI_ge hk (by omega))]
      exact for_con (body := f_X10_beds_62_L68 a1 (bmQ (buQ (UkQ n Q K S N G) k)) (nI (bfQ (UkQ n Q K S N G) k)) (nI k) k52) nI n (fun i ζ => (∀ p k, p ≠ 75 → p ≠ 72 → p ≠ 73 → p ≠ 74 → ¬ (p = 62 ∧ (k = 28 ∨ k = 32 ∨ k = 33)) → ¬ (p = 63 ∧ k < 3) → ζ.1 p k = μ.1 p k) ∧ (∀ s, s < 3 → ζ.1 75 s = μ.1 63 s) ∧ ∀ s, s < i → ζ.1 63 s = nI (FkQ n k s)) (fun ζ => k52 (bmQ (buQ (UkQ n Q K S N G) (k + 1))) (nI (bfQ (UkQ n Q K S N G) (k + 1))) (nI (k + 1)) ζ) (fun ζ => (∀ p k, p ≠ 75 → p ≠ 72 → p ≠ 73 → p ≠ 74 → ¬ (p = 62 ∧ (k = 28 ∨ k = 32 ∨ k = 33)) → ¬ (p = 63 ∧ k < 3) → ζ.1 p k = μ.1 p k) ∧ (∀ s, s < 3 → ζ.1 75 s = μ.1 63 s)) (fun k68 i ζ hi hR => by
        obtain ⟨z1, z2, z3⟩ := hR
        unfold f_X10_beds_62_L68
        rw [e622 ζ z1, if_neg (nI_ge hi (by omega)), la0, inb_nI (by omega) (by omega), if_neg (show ¬ (true = false) by decide), nI_clamp (by omega), Fk_bits n (by omega) k (by omega) i hi, al1]
        refine ⟨_, rfl, fun p k p1 p2 p3 p4 p5 p6 => ?_, fun s hs => by rw [rd_p (by omega)]; exact z2 s hs, fun s hs => ?_⟩
        · by_cases hp : p = 63
          · subst hp
            rw [rd_i (by omega)]
            exact z1 63 k p1 p2 p3 p4 p5 p6
          · rw [rd_p hp]
            exact z1 p k p1 p2 p3 p4 p5 p6
        · by_cases hsi : s = i
          · rw [hsi, rd_s]
          · rw [rd_i hsi]
            exact z3 s (by omega)) (fun k68 ζ hR => by
        obtain ⟨z1, z2, z3⟩ := hR
        obtain ⟨η, b1, b2, -⟩ := m_bestRest (hFR ζ z1 k z3) (by omega) hQ1 hQ
        have b1 : f_X10_bestRest_62 ζ = some (bmQ (UkQ n Q K S N G k), η) := b1
        unfold f_X10_beds_62_L68 f_X10_beds_62_J126 f_X10_beds_62_J139
        rw [e622 ζ z1, if_pos (nI_le (Nat.le_refl _) (by omega)), bnd b1]
        dsimp only
        rw [al1]
        refine ⟨η, ?_, fun p k p1 p2 p3 p4 p5 p6 => (b2 p k p2 p3 p4 p5).trans (z1 p k p1 p2 p3 p4 p5 p6), fun s hs => (b2 75 s (by omega) (by omega) (by omega) (by omega)).trans (z2 s hs)⟩
        have hcmp := bm_cmp (UkQ n Q K S N G k) (by omega) (buQ (UkQ n Q K S N G) k) (by omega)
        by_cases hle : UkQ n Q K S N G k ≤ buQ (UkQ n Q K S N G) k
        · rw [if_pos (hcmp.mpr hle), if_pos (hcmp.mpr hle), hbk1, hfk1, Nat.max_eq_left hle, if_neg (by omega)]
        · rw [if_neg (fun hh => hle (hcmp.mp hh)), if_neg (fun hh => hle (hcmp.mp hh)), hbk1, hfk1, Nat.max_eq_right (by omega), if_pos (by omega)]) FU 0 ξ (by omega) (fu_gt (by omega)) ⟨x1, x2, fun s hs => by omega⟩
    /- the loop over the facings -/
    have hloop : ∀ f i ξ, i ≤ 4 ^ n → 4 ^ n < i + f → (∀ p k, p ≠ 75 → p ≠ 72 → p ≠ 73 → p ≠ 74 → ¬ (p = 62 ∧ (k = 28 ∨ k = 32 ∨ k = 33)) → ¬ (p = 63 ∧ k < 3) → ξ.1 p k = μ.1 p k) → (∀ s, s < 3 → ξ.1 75 s = μ.1 63 s) → ∃ r, it4 (f_X10_beds_62_L52 a1) f (bmQ (buQ (UkQ n Q K S N G) i)) (nI (bfQ (UkQ n Q K S N G) i)) (nI i) ξ = some r ∧ (r.1 = bdV n Q K S N G a1 ∧ smE μ r.2) := by
      intro f
      induction f with
      | zero => intro i ξ h1 h2; omega
      | succ f ih =>
        intro i ξ h1 h2 x1 x2
        rw [it4_s]
        by_cases hi : i = 4 ^ n
        · subst hi
          have e622 : ξ.1 62 2 = nI n := by rw [x1 62 2 (by omega) (by omega) (by omega) (by omega) (by omega) (by omega)]; exact hV.2.2.1
          unfold f_X10_beds_62_L52
          rw [e622, show (4 : Int32) = nI 4 from rfl, bnd (m_power (b := 4) (k := n) (by omega))]
          dsimp only
          rw [if_pos (nI_le (Nat.le_refl _) (by omega))]
          exact hend ξ x1 x2
        · obtain ⟨μ', g1, g2, g3⟩ := hbody (it4 (f_X10_beds_62_L52 a1) f) i ξ (by omega) x1 x2
          rw [g1]
          exact ih (i + 1) μ' (by omega) (by omega) g2 g3
    exact hloop FU 0 ν (by omega) (fu_gt (by omega)) (fun p k p1 p2 p3 p4 p5 p6 => q1 p k p1) (fun s hs => q2 s hs)) FU 0 μ (by omega) (fu_gt (by omega)) ⟨fun _ _ _ => rfl, fun s hs => by omega⟩
  obtain ⟨r, r1, r2, r3⟩ := this
  exact ⟨r.2, by rw [← r2]; exact r1, r3⟩

theorem p_bedsBody {n Q : Nat} {K S F T N G W : Nat → Nat} {μ : Mem} {a0 : Int32} (hV : HV n K S μ) (hPV : PV n F T N G W μ) (e10 : μ.1 1 0 = nI n) (e11 : μ.1 1 1 = nI Q) (hQ1 : 1 ≤ Q) (hQ6 : Q ≤ 6) : ∀ (k46 : Int32 → Int32 → Int32 → Mem → Option (Int32 × Mem)) k ξ, k < 4 ^ n → smE μ ξ → ∃ μ', f_X9_beds_0_L46 a0 (nI (4 ^ n)) k46 (pm (buQ (UkQ n Q K S N G) k)) (nI (bfQ (UkQ n Q K S N G) k)) (nI k) ξ = k46 (pm (buQ (UkQ n Q K S N G) (k + 1))) (nI (bfQ (UkQ n Q K S N G) (k + 1))) (nI (k + 1)) μ' ∧ smE μ μ' := by
  have hn := hV.1
  have h64 := p4 hn
  have hUle : ∀ k, UkQ n Q K S N G k ≤ 7 := fun k => by
    have h1 := UQ_le (lwQ n 3 K S (FkQ n k) N G) (ctQ n 3 K) Q
    have h2 := clC_le (ctQ n 3 K) Q
    unfold UkQ
    omega
  have hbl := buQ_le hUle
  have h4p : 0 < 4 ^ n := Nat.pow_pos (by omega)
  have hbf := bfQ_lt (U := UkQ n Q K S N G) h4p
  intro k46 k ξ hk hξ
  have hbk := hbl k
  have hUk := hUle k
  have hbk1 : buQ (UkQ n Q K S N G) (k + 1) = max (buQ (UkQ n Q K S N G) k) (UkQ n Q K S N G k) := rfl
  have hfk1 : bfQ (UkQ n Q K S N G) (k + 1) = if buQ (UkQ n Q K S N G) k < UkQ n Q K S N G k then k else bfQ (UkQ n Q K S N G) k := rfl
  obtain ⟨ν1, b1, b2, b3⟩ := p_layBeds hn (show ξ.1 1 0 = nI n by rw [hξ 1 0 (Or.inl rfl)]; exact e10) (show k < 64 by omega)
  have s1 := hξ.tr (only61.sm b2)
  obtain ⟨ν2, l1, l2, l3⟩ := p_look_61 (x := 3) (a3 := nI (2 ^ n - 1)) (F := FkQ n k) (mask_all n (by omega)) (hV.sm s1) (fun s hs => ⟨Fk_lt n k s, b3 s hs⟩)
  have s2 := s1.tr (only4.sm l2)
  have hPV2 := hPV.sm s2
  obtain ⟨ν3, ζ, x1, z1, zsm, zPF, -⟩ := p_plan (u0 := buQ (UkQ n Q K S N G) k) (N := N) (G := G) hn hQ1 hQ6 (by rw [s2 1 1 (Or.inl rfl)]; exact e11) (fun e he => (hV.2.2.2.2.2 e he).1) (fun s hs => Fk_lt n k s) l3 (fun d hd => ⟨(hPV2.2.2.1 d hd).1, (hPV2.2.2.1 d hd).2.1⟩) (fun q hq => ⟨(hPV2.2.2.2.1 q hq).1, (hPV2.2.2.2.1 q hq).2.1⟩) (by omega)
  have z1 : f_X3_greatest_51 (pm (buQ (UkQ n Q K S N G) k)) ν3 = some (pm (max (buQ (UkQ n Q K S N G) k) (UkQ n Q K S N G k)), ζ) := z1
  unfold f_X9_beds_0_L46 f_X9_beds_0_J122
  rw [if_neg (nI_ge hk (by omega)), bnd b1, bnd (p_everybody (show ν1.1 1 0 = nI n by rw [s1 1 0 (Or.inl rfl)]; exact e10) hn)]
  dsimp only
  rw [bnd l1, bnd x1, bnd z1]
  dsimp only
  rw [al1]
  refine ⟨ζ, ?_, s2.tr zsm⟩
  have hcmp := pm_cmp (a := max (buQ (UkQ n Q K S N G) k) (UkQ n Q K S N G k)) (b := buQ (UkQ n Q K S N G) k) (by omega) (by omega)
  by_cases hle : UkQ n Q K S N G k ≤ buQ (UkQ n Q K S N G) k
  · rw [if_pos (hcmp.mpr (by omega)), hbk1, hfk1, Nat.max_eq_left hle, if_neg (by omega)]
  · rw [if_neg (fun hh => by have := hcmp.mp hh; omega), hbk1, hfk1, if_pos (by omega)]
theorem p_bedsLoop {n Q : Nat} {K S F T N G W : Nat → Nat} {μ : Mem} {a0 : Int32} (hV : HV n K S μ) (hPV : PV n F T N G W μ) (e10 : μ.1 1 0 = nI n) (e11 : μ.1 1 1 = nI Q) (hQ1 : 1 ≤ Q) (hQ6 : Q ≤ 6) (hok : a0 = 0 ∨ inb (a0 - 10) n = true) : ∀ f i ξ, i ≤ 4 ^ n → 4 ^ n < i + f → smE μ ξ → ∃ r, it4 (f_X9_beds_0_L46 a0 (nI (4 ^ n))) f (pm (buQ (UkQ n Q K S N G) i)) (nI (bfQ (UkQ n Q K S N G) i)) (nI i) ξ = some r ∧ (r.1 = bdV n Q K S N G a0 ∧ smE μ r.2) := by
  have hn := hV.1
  have h64 := p4 hn
  have hUle : ∀ k, UkQ n Q K S N G k ≤ 7 := fun k => by
    have h1 := UQ_le (lwQ n 3 K S (FkQ n k) N G) (ctQ n 3 K) Q
    have h2 := clC_le (ctQ n 3 K) Q
    unfold UkQ
    omega
  have hbl := buQ_le hUle
  have h4p : 0 < 4 ^ n := Nat.pow_pos (by omega)
  have hbf := bfQ_lt (U := UkQ n Q K S N G) h4p
  intro f
  induction f with
  | zero => intro i ξ h1 h2; omega
  | succ f ih =>
    intro i ξ h1 h2 hξ
    rw [it4_s]
    by_cases hi : i = 4 ^ n
    · subst hi
      have hb7 := hbl (4 ^ n)
      have hfl := hbf (4 ^ n) (Nat.le_refl _)
      obtain ⟨ν1, b1, b2, b3⟩ := p_layBeds (k := bfQ (UkQ n Q K S N G) (4 ^ n)) hn (show ξ.1 1 0 = nI n by rw [hξ 1 0 (Or.inl rfl)]; exact e10) (by omega)
      have s1 := hξ.tr (only61.sm b2)
      unfold f_X9_beds_0_L46 bdV
      rw [if_pos (nI_le (Nat.le_refl _) (by omega))]
      by_cases hu : buQ (UkQ n Q K S N G) (4 ^ n) = 0
      · rw [if_neg (by rw [pm_ge0 (by omega)]; omega), if_pos hu]
        exact ⟨_, rfl, rfl, hξ⟩
      · rw [if_pos ((pm_ge0 (by omega)).mpr (by omega)), if_neg hu, bnd b1]
        by_cases h0 : a0 = 0
        · rw [if_pos h0, if_pos h0]
          exact ⟨_, rfl, rfl, s1⟩
        · obtain ⟨j, hj, haj⟩ := inb_of (hok.resolve_left h0) (by omega)
          rw [if_neg h0, if_neg h0, haj, inb_nI (by omega) (by omega), if_neg (show ¬ (true = false) by decide), nI_clamp (by omega), b3 j hj]
          exact ⟨_, rfl, rfl, s1⟩
    · obtain ⟨μ', g1, g2⟩ := p_bedsBody hV hPV e10 e11 hQ1 hQ6 (it4 (f_X9_beds_0_L46 a0 (nI (4 ^ n))) f) i ξ (by omega) hξ
      rw [g1]
      exact ih (i + 1) μ' (by omega) (by omega) g2

set_option maxRecDepth 100000 in
theorem s_beds (a0 : Int32) : PStp (f_X9_beds_0 a0) (f_X10_beds_62 a0) := by
  intro μ hI0
  obtain ⟨n, Q, hC⟩ := hI0
  have hC0 := hC
  obtain ⟨⟨hn, hQ1, hQ6, e10, e622, e624, e11, e623, hk, hs⟩, hP, hI, hS, hT, hR⟩ := hC
  have h27 := p3 hn
  have h64 := p4 hn
  by_cases hok : a0 = 0 ∨ inb (a0 - 10) n = true
  · obtain ⟨K, S, hV⟩ := HV.get hC0.1
    obtain ⟨F, T, N, G, W, hPV⟩ := PV.get hn hP
    have hUle : ∀ k, UkQ n Q K S N G k ≤ 7 := fun k => by
      have h1 := UQ_le (lwQ n 3 K S (FkQ n k) N G) (ctQ n 3 K) Q
      have h2 := clC_le (ctQ n 3 K) Q
      unfold UkQ
      omega
    have hbl := buQ_le hUle
    have h4p : 0 < 4 ^ n := Nat.pow_pos (by omega)
    have hbf := bfQ_lt (U := UkQ n Q K S N G) h4p
    have hcls : f_X9_beds_0 a0 μ = f_X9_beds_0_J26 a0 μ := by
      unfold f_X9_beds_0
      rcases hok with h | h
      · rw [if_pos h]
      · by_cases h0 : a0 = 0
        · rw [if_pos h0]
        · have h10 : ¬ a0 < 10 := fun hh => by rw [sub10 (by omega) hh] at h; cases h
          rw [if_neg h0, if_neg h10, bnd (p_hasSister e10 hn _), h]
          dsimp only
          rw [if_neg (show ¬ b2i true = 0 by decide)]
    have hmod : ∀ ω : Mem, smE μ ω → f_X10_beds_62 a0 ω = f_X10_beds_62_J17 a0 ω := by
      intro ω hω
      have f622 : ω.1 62 2 = nI n := by rw [hω 62 2 (Or.inl rfl)]; exact e622
      unfold f_X10_beds_62
      rcases hok with h | h
      · rw [if_pos h]
      · by_cases h0 : a0 = 0
        · rw [if_pos h0]
        · rw [if_neg h0, bnd (m_isSister f622 hn _), h]
          dsimp only
          rw [if_neg (show ¬ b2i true = 0 by decide)]
    have hp : ∃ ω, f_X9_beds_0_J26 a0 μ = some (bdV n Q K S N G a0, ω) ∧ smE μ ω := by
      unfold f_X9_beds_0_J26
      rw [e10, four_n n (by omega)]
      have hl := p_bedsLoop (a0 := a0) hV hPV e10 e11 hQ1 hQ6 hok FU 0 μ (by omega) (fu_gt (by omega)) (smE.rf μ)
      rw [show buQ (UkQ n Q K S N G) 0 = 0 from rfl, show bfQ (UkQ n Q K S N G) 0 = 0 from rfl, pm_0, nI_0] at hl
      obtain ⟨r, r1, r2, r3⟩ := hl
      exact ⟨r.2, by rw [← r2]; exact r1, r3⟩
    obtain ⟨ω, p1, p2⟩ := hp
    have hCω := hC0.sm p2
    obtain ⟨η, m1, m2⟩ := m_bedsLoop (a1 := a0) (hV.sm p2) (hPV.sm p2) (show ω.1 62 3 = nI Q by rw [p2 62 3 (Or.inl rfl)]; exact e623) hCω.abs hQ1 hQ6 hok
    exact ⟨_, ω, η, hcls.trans p1, (hmod ω p2).trans m1, n, Q, hCω.sm m2⟩
  · have h0 : ¬ a0 = 0 := fun h => hok (Or.inl h)
    have hf : inb (a0 - 10) n = false := by
      cases h : inb (a0 - 10) n with
      | false => rfl
      | true => exact absurd (Or.inr h) hok
    refine ⟨-1, μ, μ, ?_, ?_, n, Q, hC0⟩
    · unfold f_X9_beds_0
      rw [if_neg h0]
      by_cases h10 : a0 < 10
      · rw [if_pos h10]
      · rw [if_neg h10, bnd (p_hasSister e10 hn _), hf]
        rfl
    · unfold f_X10_beds_62
      rw [if_neg h0, bnd (m_isSister e622 hn _), hf]
      rfl
