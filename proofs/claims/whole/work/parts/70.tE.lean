/-! PURE: the class's reading of a text, line by line -/
def sgS (T : Nat) (t : Nat → Nat) (X : XT) : XT := match X with
  | Sum.inl a => Sum.inl a
  | Sum.inr (D, p) => if tO T t p = false then xf 1 (tA T t p) else if tK T t p ≠ 3 then xf 2 (tA T t p) else xd D (tE T t p)
theorem sgS_f (T : Nat) (t : Nat → Nat) (f w : Nat) : sgS T t (xf f w) = xf f w := rfl
theorem sgS_d (T : Nat) (t : Nat → Nat) (D : Nat → Nat) (p : Nat) : sgS T t (xd D p) = if tO T t p = false then xf 1 (tA T t p) else if tK T t p ≠ 3 then xf 2 (tA T t p) else xd D (tE T t p) := rfl
theorem p_sign {T : Nat} {t D : Nat → Nat} {p : Nat} {μ0 μ : Mem} (h : CS T t D p μ) (hF : CFr μ0 μ) : ∃ r, ((f_X5_sign_35 μ).bind fun q => if q.1 = 0 then some ((0 : Int32), q.2) else some ((1 : Int32), q.2)) = some r ∧ CLr T t (sgS T t (xd D p)) μ0 r := by
  obtain ⟨h1, h2, h3, h4, h5⟩ := h
  obtain ⟨ν, n1, n2, n3, n4⟩ := p_next h1 h4 h3
  have hle := tE_le (t := t) h4
  have hFν := hF.tr n2.cf
  rw [sgS_d]
  unfold f_X5_sign_35
  rw [bnd n1]
  dsimp only
  cases hO : tO T t p with
  | false =>
    obtain ⟨e1, e2⟩ := n4 hO
    rw [if_pos (show b2i false = 0 from rfl), if_pos (show false = false from rfl), Option.bind_some]
    dsimp only
    rw [if_pos (show (0 : Int32) = 0 from rfl)]
    exact ⟨_, rfl, CLr.f hFν rfl e1 e2⟩
  | true =>
    obtain ⟨e2, e3, e7, e8, e10, e9⟩ := n3 hO
    have hk4 := tK_le T t p
    rw [if_neg (show ¬ b2i true = 0 by decide), if_neg (show ¬ true = false by decide), e7]
    by_cases hK : tK T t p = 3
    · rw [if_pos (show nI (tK T t p) = (3 : Int32) by rw [hK]; rfl), if_neg (show ¬ tK T t p ≠ 3 from fun hh => hh hK), Option.bind_some]
      dsimp only
      rw [if_neg (show ¬ (1 : Int32) = 0 by decide)]
      exact ⟨_, rfl, CLr.d hFν rfl ⟨h1.fr n2, h2.nx n2, e10, hle.2, by rw [e2]; exact h5⟩⟩
    · rw [if_neg (show ¬ nI (tK T t p) = (3 : Int32) from fun hh => hK ((nI_eq (b := 3) (by omega) (by omega)).mp hh)), if_pos hK, e8, bnd (refuse_ok 2 (nI (tA T t p)) ν)]
      dsimp only
      rw [show zb (0 : Int32) = true from by decide, if_neg (show ¬ true = false by decide), Option.bind_some]
      dsimp only
      rw [if_pos (show (0 : Int32) = 0 from rfl)]
      refine ⟨_, rfl, CLr.f ((hFν.w (by omega)).w (by omega)) rfl ?_ rd_s⟩
      show (pI (pI ν 35 2 2) 35 3 (nI (tA T t p))).1 35 2 = nI 2
      rw [pI_35 (by omega), rd_s]
      rfl
theorem p_sgn {T : Nat} {t : Nat → Nat} {X : XT} {f : Option (Int32 × Mem)} {μ0 : Mem} (h : ∃ r, f = some r ∧ CLr T t X μ0 r) : ∃ r, (f.bind fun q => if q.1 = 0 then some ((0 : Int32), q.2) else (f_X5_sign_35 q.2).bind fun q2 => if q2.1 = 0 then some ((0 : Int32), q2.2) else some ((1 : Int32), q2.2)) = some r ∧ CLr T t (sgS T t X) μ0 r := by
  obtain ⟨r, h1, h2, h3, h4⟩ := h
  rw [bnd h1]
  rcases XT.cs X with ⟨f, w, rfl⟩ | ⟨D, p, rfl⟩
  · obtain ⟨g1, g2, g3⟩ := h3 f w rfl
    rw [if_pos g1, sgS_f]
    exact ⟨_, rfl, CLr.f h2 rfl g2 g3⟩
  · obtain ⟨g1, g2⟩ := h4 D p rfl
    rw [if_neg (by rw [g1]; decide)]
    exact p_sign g2 h2
def lineS (T : Nat) (t D : Nat → Nat) (p : Nat) : XT := if tK T t p ≠ 1 then xf 2 (tA T t p) else if lnB t (tA T t p) (tE T t p) = 0 then sgS T t (sisterS T t D (tE T t p) (tA T t p)) else if lnB t (tA T t p) (tE T t p) = 1 then sgS T t (quartersS T t D (tE T t p) (tA T t p)) else if lnB t (tA T t p) (tE T t p) = 2 then sgS T t (needS T t D (tE T t p)) else if lnB t (tA T t p) (tE T t p) = 3 then sgS T t (stormS T t D (tE T t p)) else if lnB t (tA T t p) (tE T t p) = 4 then sgS T t (watchS T t D (tE T t p)) else if lnB t (tA T t p) (tE T t p) = 5 then sgS T t (bedS T t D (tE T t p)) else xf 2 (tA T t p)
theorem p_line {T : Nat} {t D : Nat → Nat} {p : Nat} {μ0 μ : Mem} (hD : DW D) (hp : p ≤ T) (h : CS T t D (tE T t p) μ) (hF : CFr μ0 μ) (h7 : μ.1 35 7 = nI (tK T t p)) (h8 : μ.1 35 8 = nI (tA T t p)) : ∃ r, f_X5_line_35 μ = some r ∧ CLr T t (lineS T t D p) μ0 r := by
  have hk4 := tK_le T t p
  have hle := tE_le (t := t) hp
  have h10 := h.2.2.1
  unfold f_X5_line_35 lineS
  rw [h7]
  by_cases hK : tK T t p = 1
  · rw [if_pos (show nI (tK T t p) = (1 : Int32) by rw [hK]; rfl), if_neg (show ¬ tK T t p ≠ 1 from fun hh => hh hK), bnd (p_isName_82 h.1 hle.1 hle.2 h8 h10)]
    dsimp only
    unfold lnB
    cases c0 : nmB t (tA T t p) (tE T t p) 0 with
    | true =>
      rw [if_neg (show ¬ b2i true = 0 by decide), if_pos (show true = true from rfl), if_pos (show (0 : Nat) = 0 from rfl)]
      exact p_sgn (p_sister hD h hF h8)
    | false =>
      rw [if_pos (show b2i false = 0 from rfl), bnd (p_isName_83 h.1 hle.1 hle.2 h8 h10), if_neg (show ¬ false = true by decide)]
      dsimp only
      cases c1 : nmB t (tA T t p) (tE T t p) 1 with
      | true =>
        rw [if_neg (show ¬ b2i true = 0 by decide), if_pos (show true = true from rfl), if_neg (show ¬ (1 : Nat) = 0 by omega), if_pos (show (1 : Nat) = 1 from rfl)]
        exact p_sgn (p_quarters hD h hF h8)
      | false =>
        rw [if_pos (show b2i false = 0 from rfl), bnd (p_isName_84 h.1 hle.1 hle.2 h8 h10), if_neg (show ¬ false = true by decide)]
        dsimp only
        cases c2 : nmB t (tA T t p) (tE T t p) 2 with
        | true =>
          rw [if_neg (show ¬ b2i true = 0 by decide), if_pos (show true = true from rfl), if_neg (show ¬ (2 : Nat) = 0 by omega), if_neg (show ¬ (2 : Nat) = 1 by omega), if_pos (show (2 : Nat) = 2 from rfl)]
          exact p_sgn (p_need hD h hF)
        | false =>
          rw [if_pos (show b2i false = 0 from rfl), bnd (p_isName_85 h.1 hle.1 hle.2 h8 h10), if_neg (show ¬ false = true by decide)]
          dsimp only
          cases c3 : nmB t (tA T t p) (tE T t p) 3 with
          | true =>
            rw [if_neg (show ¬ b2i true = 0 by decide), if_pos (show true = true from rfl), if_neg (show ¬ (3 : Nat) = 0 by omega), if_neg (show ¬ (3 : Nat) = 1 by omega), if_neg (show ¬ (3 : Nat) = 2 by omega), if_pos (show (3 : Nat) = 3 from rfl)]
            exact p_sgn (p_storm hD h hF)
          | false =>
            rw [if_pos (show b2i false = 0 from rfl), bnd (p_isName_86 h.1 hle.1 hle.2 h8 h10), if_neg (show ¬ false = true by decide)]
            dsimp only
            cases c4 : nmB t (tA T t p) (tE T t p) 4 with
            | true =>
              rw [if_neg (show ¬ b2i true = 0 by decide), if_pos (show true = true from rfl), if_neg (show ¬ (4 : Nat) = 0 by omega), if_neg (show ¬ (4 : Nat) = 1 by omega), if_neg (show ¬ (4 : Nat) = 2 by omega), if_neg (show ¬ (4 : Nat) = 3 by omega), if_pos (show (4 : Nat) = 4 from rfl)]
              exact p_sgn (p_watchL hD h hF)
            | false =>
              rw [if_pos (show b2i false = 0 from rfl), bnd (p_isName_87 h.1 hle.1 hle.2 h8 h10), if_neg (show ¬ false = true by decide)]
              dsimp only
              cases c5 : nmB t (tA T t p) (tE T t p) 5 with
              | true =>
                rw [if_neg (show ¬ b2i true = 0 by decide), if_pos (show true = true from rfl), if_neg (show ¬ (5 : Nat) = 0 by omega), if_neg (show ¬ (5 : Nat) = 1 by omega), if_neg (show ¬ (5 : Nat) = 2 by omega), if_neg (show ¬ (5 : Nat) = 3 by omega), if_neg (show ¬ (5 : Nat) = 4 by omega), if_pos (show (5 : Nat) = 5 from rfl)]
                exact p_sgn (p_bed hD h hF)
              | false =>
                rw [if_pos (show b2i false = 0 from rfl), if_neg (show ¬ false = true by decide), if_neg (show ¬ (6 : Nat) = 0 by omega), if_neg (show ¬ (6 : Nat) = 1 by omega), if_neg (show ¬ (6 : Nat) = 2 by omega), if_neg (show ¬ (6 : Nat) = 3 by omega), if_neg (show ¬ (6 : Nat) = 4 by omega), if_neg (show ¬ (6 : Nat) = 5 by omega)]
                exact p_ref (f := 2) hF h8
  · rw [if_neg (show ¬ nI (tK T t p) = (1 : Int32) from fun hh => hK ((nI_eq (b := 1) (by omega) (by omega)).mp hh)), if_pos hK]
    exact p_ref (f := 2) hF h8
/-! what a line leaves -/
theorem nbS_inv {T : Nat} {t D : Nat → Nat} {p lo hi p' : Nat} {K : Nat → Nat → XT} (h : nbS T t p lo hi K = xd D p') : K (tV T t p) (tE T t p) = xd D p' ∧ tO T t p = true ∧ tK T t p = 2 ∧ lo ≤ tV T t p ∧ tV T t p ≤ hi := by
  unfold nbS at h
  cases hO : tO T t p with
  | false => rw [hO, if_pos (show false = false from rfl)] at h; exact (xf_xd h).elim
  | true =>
    rw [hO, if_neg (show ¬ true = false by decide)] at h
    by_cases hK : tK T t p = 2
    · rw [if_neg (show ¬ tK T t p ≠ 2 from fun hh => hh hK)] at h
      by_cases hc : tV T t p < lo ∨ hi < tV T t p
      · rw [if_pos hc] at h; exact (xf_xd h).elim
      · rw [if_neg hc] at h
        exact ⟨h, rfl, hK, by omega, by omega⟩
    · rw [if_pos hK] at h; exact (xf_xd h).elim
theorem sgS_inv {T : Nat} {t D : Nat → Nat} {p' : Nat} {X : XT} (h : sgS T t X = xd D p') : ∃ p, X = xd D p ∧ p' = tE T t p := by
  rcases XT.cs X with ⟨f, w, rfl⟩ | ⟨D', p, rfl⟩
  · rw [sgS_f] at h; exact (xf_xd h).elim
  · rw [sgS_d] at h
    cases hO : tO T t p with
    | false => rw [hO, if_pos (show false = false from rfl)] at h; exact (xf_xd h).elim
    | true =>
      rw [hO, if_neg (show ¬ true = false by decide)] at h
      by_cases hK : tK T t p = 3
      · rw [if_neg (show ¬ tK T t p ≠ 3 from fun hh => hh hK)] at h
        obtain ⟨rfl, rfl⟩ := xd_inj h
        exact ⟨p, rfl, rfl⟩
      · rw [if_pos hK] at h; exact (xf_xd h).elim
theorem tE_ge {T p : Nat} {t : Nat → Nat} (h : p ≤ T) : p ≤ tE T t p ∧ tE T t p ≤ T := ⟨Nat.le_trans (tA_le h).1 (tE_le h).1, (tE_le h).2⟩
theorem bl_set : ∀ v, v < 64 → ∀ d, d < 6 → v / 2 ^ d % 2 ≠ 1 → blN (v + 2 ^ d) = max (blN v) (d + 1) := by decide +kernel
theorem bit_lt0 : ∀ v, v < 64 → ∀ d, d < 6 → v / 2 ^ d % 2 = 1 ∨ ((8 ≤ v ∨ 3 ≤ d ∨ v + 2 ^ d < 8) ∧ (16 ≤ v ∨ 4 ≤ d ∨ v + 2 ^ d < 16) ∧ v + 2 ^ d < 64) := by decide +kernel
theorem bit_lt (v : Nat) (hv : v < 64) (d : Nat) (hd : d < 6) (hb : v / 2 ^ d % 2 ≠ 1) : (v < 8 → d < 3 → v + 2 ^ d < 8) ∧ (v < 16 → d < 4 → v + 2 ^ d < 16) ∧ v + 2 ^ d < 64 := by
  rcases bit_lt0 v hv d hd with h | ⟨h1, h2, h3⟩
  · exact absurd h hb
  · exact ⟨fun a b => by omega, fun a b => by omega, h3⟩
theorem bt_set : ∀ v, v < 64 → ∀ d, d < 6 → v / 2 ^ d % 2 ≠ 1 → ∀ q, q < 6 → bt (v + 2 ^ d) q = (bt v q || decide (q = d)) := by decide +kernel
theorem bl_mk : ∀ a b c d e f : Bool, ∀ q, q < 6 → blN (mk6 fun x => c6 a b c d e f x || decide (x = q)) = max (blN (mk6 (c6 a b c d e f))) (q + 1) := by decide +kernel
theorem bl_mk6 (f : Nat → Bool) {q : Nat} (hq : q < 6) : blN (mk6 fun x => f x || decide (x = q)) = max (blN (mk6 f)) (q + 1) := bl_mk (f 0) (f 1) (f 2) (f 3) (f 4) (f 5) q hq
theorem dw_need {T : Nat} {t D D' : Nat → Nat} {p p' : Nat} (hD : DW D) (hp : p ≤ T) (h : needS T t D p = xd D' p') : DW D' ∧ p ≤ p' ∧ p' ≤ T := by
  obtain ⟨h, -, -, -, a2⟩ := nbS_inv h
  by_cases hb : D 3 / 2 ^ tV T t p % 2 = 1
  · rw [if_pos hb] at h; exact (xf_xd h).elim
  · rw [if_neg hb] at h
    obtain ⟨h, -, -, -, b2⟩ := nbS_inv h
    obtain ⟨rfl, rfl⟩ := xd_inj h
    have e1 := tE_ge (t := t) hp
    have e2 := tE_ge (t := t) e1.2
    obtain ⟨w0, w1, w2, w3, w4, w5, w6, w7, w8, w9, w10, w11⟩ := hD
    have hb3 := (bit_lt (D 3) (by omega) (tV T t p) (by omega) hb).2.1 w3 (by omega)
    have hq : mk6 (qmB (ud (ud D 3 (D 3 + 2 ^ tV T t p)) (50 + tV T t p) (tV T t (tE T t p)))) = mk6 (qmB D) := mk6_congr (fun q hq => by
      unfold qmB
      rw [ud_n (by omega), ud_n (by omega), ud_n (by omega), ud_n (by omega)])
    refine ⟨⟨?_, ?_, ?_, ?_, ?_, ?_, ?_, ?_, fun s hs => ?_, fun e he => ?_, fun d hd => ?_, fun q hq => ?_⟩, by omega, by omega⟩
    · simp (disch := omega) only [ud_n]; exact w0
    · simp (disch := omega) only [ud_n]; exact w1
    · simp (disch := omega) only [ud_n]; exact w2
    · simp (disch := omega) only [ud_n, ud_s]; exact hb3
    · simp (disch := omega) only [ud_n]; exact w4
    · simp (disch := omega) only [ud_n]; exact w5
    · simp (disch := omega) only [ud_n]; exact w6
    · rw [hq]; simp (disch := omega) only [ud_n]; exact w7
    · simp (disch := omega) only [ud_n]; exact w8 s hs
    · simp (disch := omega) only [ud_n]; exact w9 e he
    · by_cases hdd : d = tV T t p
      · subst hdd
        rw [ud_s]; omega
      · rw [ud_n (by omega), ud_n (by omega)]; exact w10 d hd
    · simp (disch := omega) only [ud_n]; exact w11 q hq
theorem dw_quarters {T : Nat} {t D D' : Nat → Nat} {p a p' : Nat} (hD : DW D) (hp : p ≤ T) (h : quartersS T t D p a = xd D' p') : DW D' ∧ p ≤ p' ∧ p' ≤ T := by
  unfold quartersS at h
  by_cases hb : D 2 = 1
  · rw [if_pos hb] at h; exact (xf_xd h).elim
  · rw [if_neg hb] at h
    obtain ⟨h, -, -, b1, b2⟩ := nbS_inv h
    obtain ⟨rfl, rfl⟩ := xd_inj h
    have e1 := tE_ge (t := t) hp
    obtain ⟨w0, w1, w2, w3, w4, w5, w6, w7, w8, w9, w10, w11⟩ := hD
    have hq : mk6 (qmB (ud (ud D 2 1) 1 (tV T t p))) = mk6 (qmB D) := mk6_congr (fun q hq => by
      unfold qmB
      rw [ud_n (by omega), ud_n (by omega), ud_n (by omega), ud_n (by omega)])
    refine ⟨⟨?_, ?_, ?_, ?_, ?_, ?_, ?_, ?_, fun s hs => ?_, fun e he => ?_, fun d hd => ?_, fun q hq => ?_⟩, by omega, by omega⟩
    · simp (disch := omega) only [ud_n]; exact w0
    · rw [ud_s]; exact ⟨b1, b2⟩
    · rw [ud_n (by omega), ud_s]; omega
    · simp (disch := omega) only [ud_n]; exact w3
    · simp (disch := omega) only [ud_n]; exact w4
    · simp (disch := omega) only [ud_n]; exact w5
    · simp (disch := omega) only [ud_n]; exact w6
    · rw [hq]; simp (disch := omega) only [ud_n]; exact w7
    · simp (disch := omega) only [ud_n]; exact w8 s hs
    · simp (disch := omega) only [ud_n]; exact w9 e he
    · simp (disch := omega) only [ud_n]; exact w10 d hd
    · simp (disch := omega) only [ud_n]; exact w11 q hq
theorem dw_storm {T : Nat} {t D D' : Nat → Nat} {p p' : Nat} (hD : DW D) (hp : p ≤ T) (h : stormS T t D p = xd D' p') : DW D' ∧ p ≤ p' ∧ p' ≤ T := by
  obtain ⟨h, -, -, -, a2⟩ := nbS_inv h
  obtain ⟨h, -, -, -, b2⟩ := nbS_inv h
  by_cases hb : D (60 + tV T t p) / 2 ^ tV T t (tE T t p) % 2 = 1
  · rw [if_pos hb] at h; exact (xf_xd h).elim
  · rw [if_neg hb] at h
    obtain ⟨rfl, rfl⟩ := xd_inj h
    have e1 := tE_ge (t := t) hp
    have e2 := tE_ge (t := t) e1.2
    obtain ⟨w0, w1, w2, w3, w4, w5, w6, w7, w8, w9, w10, w11⟩ := hD
    have hb3 := (bit_lt (D (60 + tV T t p)) (by have := (w11 (tV T t p) (by omega)).1; omega) (tV T t (tE T t p)) (by omega) hb).2.1 (w11 (tV T t p) (by omega)).1 (by omega)
    have hp2 : 0 < 2 ^ tV T t (tE T t p) := Nat.two_pow_pos _
    have hq : mk6 (qmB (ud (ud D (60 + tV T t p) (D (60 + tV T t p) + 2 ^ tV T t (tE T t p))) 7 (max (D 7) (tV T t p + 1)))) = mk6 (fun x => qmB D x || decide (x = tV T t p)) := mk6_congr (fun q hq => by
      unfold qmB
      rw [ud_n (by omega)]
      by_cases hqq : q = tV T t p
      · subst hqq
        rw [ud_s, decide_eq_true (show D (60 + tV T t p) + 2 ^ tV T t (tE T t p) ≠ 0 by omega), decide_eq_true (show tV T t p = tV T t p from rfl), Bool.or_true]
        rfl
      · rw [ud_n (by omega), ud_n (by omega), ud_n (by omega), decide_eq_false hqq, Bool.or_false])
    refine ⟨⟨?_, ?_, ?_, ?_, ?_, ?_, ?_, ?_, fun s hs => ?_, fun e he => ?_, fun d hd => ?_, fun q hq => ?_⟩, by omega, by omega⟩
    · simp (disch := omega) only [ud_n]; exact w0
    · simp (disch := omega) only [ud_n]; exact w1
    · simp (disch := omega) only [ud_n]; exact w2
    · simp (disch := omega) only [ud_n]; exact w3
    · simp (disch := omega) only [ud_n]; exact w4
    · simp (disch := omega) only [ud_n]; exact w5
    · simp (disch := omega) only [ud_n]; exact w6
    · rw [hq, bl_mk6 _ (by omega), ud_s, w7]
    · simp (disch := omega) only [ud_n]; exact w8 s hs
    · simp (disch := omega) only [ud_n]; exact w9 e he
    · simp (disch := omega) only [ud_n]; exact w10 d hd
    · refine ⟨?_, by simp (disch := omega) only [ud_n]; exact (w11 q hq).2⟩
      by_cases hqq : q = tV T t p
      · subst hqq
        rw [ud_n (by omega), ud_s]; exact hb3
      · rw [ud_n (by omega), ud_n (by omega)]; exact (w11 q hq).1
theorem dw_watch {T : Nat} {t D D' : Nat → Nat} {p p' : Nat} (hD : DW D) (hp : p ≤ T) (h : watchS T t D p = xd D' p') : DW D' ∧ p ≤ p' ∧ p' ≤ T := by
  obtain ⟨h, -, -, -, a2⟩ := nbS_inv h
  by_cases hb : D 4 / 2 ^ tV T t p % 2 = 1
  · rw [if_pos hb] at h; exact (xf_xd h).elim
  · rw [if_neg hb] at h
    obtain ⟨h, -, -, -, b2⟩ := nbS_inv h
    obtain ⟨rfl, rfl⟩ := xd_inj h
    have e1 := tE_ge (t := t) hp
    have e2 := tE_ge (t := t) e1.2
    obtain ⟨w0, w1, w2, w3, w4, w5, w6, w7, w8, w9, w10, w11⟩ := hD
    have hb3 := (bit_lt (D 4) w4 (tV T t p) (by omega) hb).2.2
    have hbt := bt_set (D 4) w4 (tV T t p) (by omega) hb
    have hq : mk6 (qmB (ud (ud (ud D 4 (D 4 + 2 ^ tV T t p)) 7 (max (D 7) (tV T t p + 1))) (70 + tV T t p) (tV T t (tE T t p)))) = mk6 (fun x => qmB D x || decide (x = tV T t p)) := mk6_congr (fun q hq => by
      unfold qmB
      simp (disch := omega) only [ud_n, ud_s]
      rw [hbt q hq, Bool.or_assoc])
    refine ⟨⟨?_, ?_, ?_, ?_, ?_, ?_, ?_, ?_, fun s hs => ?_, fun e he => ?_, fun d hd => ?_, fun q hq => ?_⟩, by omega, by omega⟩
    · simp (disch := omega) only [ud_n]; exact w0
    · simp (disch := omega) only [ud_n]; exact w1
    · simp (disch := omega) only [ud_n]; exact w2
    · simp (disch := omega) only [ud_n]; exact w3
    · simp (disch := omega) only [ud_n, ud_s]; exact hb3
    · simp (disch := omega) only [ud_n]; exact w5
    · simp (disch := omega) only [ud_n]; exact w6
    · rw [hq, bl_mk6 _ (by omega), ud_n (by omega), ud_s, w7]
    · simp (disch := omega) only [ud_n]; exact w8 s hs
    · simp (disch := omega) only [ud_n]; exact w9 e he
    · simp (disch := omega) only [ud_n]; exact w10 d hd
    · refine ⟨by simp (disch := omega) only [ud_n]; exact (w11 q hq).1, ?_⟩
      by_cases hqq : q = tV T t p
      · subst hqq
        rw [ud_s]; omega
      · rw [ud_n (by omega), ud_n (by omega), ud_n (by omega)]; exact (w11 q hq).2
theorem dw_bed {T : Nat} {t D D' : Nat → Nat} {p p' : Nat} (hD : DW D) (hp : p ≤ T) (h : bedS T t D p = xd D' p') : DW D' ∧ p ≤ p' ∧ p' ≤ T := by
  obtain ⟨h, -, -, -, a2⟩ := nbS_inv h
  by_cases hb : D 5 / 2 ^ tV T t p % 2 = 1
  · rw [if_pos hb] at h; exact (xf_xd h).elim
  · rw [if_neg hb] at h
    obtain ⟨h, -, -, -, b2⟩ := nbS_inv h
    obtain ⟨rfl, rfl⟩ := xd_inj h
    have e1 := tE_ge (t := t) hp
    have e2 := tE_ge (t := t) e1.2
    obtain ⟨w0, w1, w2, w3, w4, w5, w6, w7, w8, w9, w10, w11⟩ := hD
    have hb3 := (bit_lt (D 5) (by omega) (tV T t p) (by omega) hb).1 w5 (by omega)
    have hbl := bl_set (D 5) (by omega) (tV T t p) (by omega) hb
    have hq : mk6 (qmB (ud (ud (ud D 5 (D 5 + 2 ^ tV T t p)) 6 (max (D 6) (tV T t p + 1))) (30 + tV T t p) (tV T t (tE T t p)))) = mk6 (qmB D) := mk6_congr (fun q hq => by
      unfold qmB
      simp (disch := omega) only [ud_n])
    refine ⟨⟨?_, ?_, ?_, ?_, ?_, ?_, ?_, ?_, fun s hs => ?_, fun e he => ?_, fun d hd => ?_, fun q hq => ?_⟩, by omega, by omega⟩
    · simp (disch := omega) only [ud_n]; exact w0
    · simp (disch := omega) only [ud_n]; exact w1
    · simp (disch := omega) only [ud_n]; exact w2
    · simp (disch := omega) only [ud_n]; exact w3
    · simp (disch := omega) only [ud_n]; exact w4
    · simp (disch := omega) only [ud_n, ud_s]; exact hb3
    · simp (disch := omega) only [ud_n, ud_s]; rw [hbl, w6]
    · rw [hq]; simp (disch := omega) only [ud_n]; exact w7
    · refine ⟨by simp (disch := omega) only [ud_n]; exact (w8 s hs).1, ?_⟩
      by_cases hss : s = tV T t p
      · subst hss
        rw [ud_s]; omega
      · rw [ud_n (by omega), ud_n (by omega), ud_n (by omega)]; exact (w8 s hs).2
    · simp (disch := omega) only [ud_n]; exact w9 e he
    · simp (disch := omega) only [ud_n]; exact w10 d hd
    · simp (disch := omega) only [ud_n]; exact w11 q hq
theorem knB_le (t : Nat → Nat) (a e : Nat) : knB t a e ≤ 4 := by
  unfold knB
  split
  · omega
  · split
    · omega
    · split
      · omega
      · split <;> omega
theorem dw_sister {T : Nat} {t D D' : Nat → Nat} {p a p' : Nat} (hD : DW D) (hp : p ≤ T) (h : sisterS T t D p a = xd D' p') : DW D' ∧ p ≤ p' ∧ p' ≤ T := by
  unfold sisterS at h
  by_cases hc : 3 ≤ D 0
  · rw [if_pos hc] at h; exact (xf_xd h).elim
  · rw [if_neg hc] at h
    cases hO : tO T t p with
    | false => rw [hO, if_pos (show false = false from rfl)] at h; exact (xf_xd h).elim
    | true =>
      rw [hO, if_neg (show ¬ true = false by decide)] at h
      by_cases hK : tK T t p = 1
      · rw [if_neg (show ¬ tK T t p ≠ 1 from fun hh => hh hK)] at h
        have hkl := knB_le t (tA T t p) (tE T t p)
        by_cases h4 : knB t (tA T t p) (tE T t p) = 4
        · rw [if_pos h4] at h; exact (xf_xd h).elim
        · rw [if_neg h4] at h
          obtain ⟨h, -, -, -, b1⟩ := nbS_inv h
          obtain ⟨h, -, -, -, b2⟩ := nbS_inv h
          obtain ⟨h, -, -, -, b3⟩ := nbS_inv h
          obtain ⟨h, -, -, -, b4⟩ := nbS_inv h
          obtain ⟨rfl, rfl⟩ := xd_inj h
          have e1 := tE_ge (t := t) hp
          have e2 := tE_ge (t := t) e1.2
          have e3 := tE_ge (t := t) e2.2
          have e4 := tE_ge (t := t) e3.2
          have e5 := tE_ge (t := t) e4.2
          refine ⟨?_, by omega, by omega⟩
          generalize knB t (tA T t p) (tE T t p) = k at *
          generalize tV T t (tE T t p) = s0 at *
          generalize tV T t (tE T t (tE T t p)) = s1 at *
          generalize tV T t (tE T t (tE T t (tE T t p))) = t0 at *
          generalize tV T t (tE T t (tE T t (tE T t (tE T t p)))) = t1 at *
          obtain ⟨w0, w1, w2, w3, w4, w5, w6, w7, w8, w9, w10, w11⟩ := hD
          have hq : mk6 (qmB (sisD D k s0 s1 t0 t1)) = mk6 (qmB D) := mk6_congr (fun q hq => by
            unfold qmB sisD
            simp (disch := omega) only [ud_n])
          refine ⟨?_, ?_, ?_, ?_, ?_, ?_, ?_, ?_, fun s hs => ?_, fun e he => ?_, fun d hd => ?_, fun q hq => ?_⟩
          · unfold sisD; rw [ud_s]; omega
          · unfold sisD; simp (disch := omega) only [ud_n]; exact w1
          · unfold sisD; simp (disch := omega) only [ud_n]; exact w2
          · unfold sisD; simp (disch := omega) only [ud_n]; exact w3
          · unfold sisD; simp (disch := omega) only [ud_n]; exact w4
          · unfold sisD; simp (disch := omega) only [ud_n]; exact w5
          · unfold sisD; simp (disch := omega) only [ud_n]; exact w6
          · rw [hq]; unfold sisD; simp (disch := omega) only [ud_n]; exact w7
          · unfold sisD
            refine ⟨?_, by simp (disch := omega) only [ud_n]; exact (w8 s hs).2⟩
            by_cases hss : s = D 0
            · subst hss
              simp (disch := omega) only [ud_n, ud_s]; omega
            · simp (disch := omega) only [ud_n]; exact (w8 s hs).1
          · unfold sisD
            have w9e := w9 e he
            by_cases he0 : e = 2 * D 0
            · subst he0
              refine ⟨?_, ?_, fun hh => ?_⟩
              · rw [ud_n (by omega), ud_n (by omega), ud_n (by omega), ud_n (by omega), ud_s]; omega
              · rw [ud_n (by omega), ud_n (by omega), ud_s]; omega
              · rw [ud_s] at hh; omega
            · by_cases he1 : e = 2 * D 0 + 1
              · subst he1
                refine ⟨?_, ?_, fun hh => ?_⟩
                · rw [ud_n (by omega), ud_n (by omega), ud_n (by omega), show 20 + (2 * D 0 + 1) = 21 + 2 * D 0 by omega, ud_s]; omega
                · rw [ud_n (by omega), show 40 + (2 * D 0 + 1) = 41 + 2 * D 0 by omega, ud_s]; omega
                · rw [ud_s] at hh; omega
              · refine ⟨?_, ?_, fun hh => ?_⟩
                · simp (disch := omega) only [ud_n]; exact w9e.1
                · simp (disch := omega) only [ud_n]; exact w9e.2.1
                · rw [ud_s] at hh
                  simp (disch := omega) only [ud_n]; exact w9e.2.2 (by omega)
          · unfold sisD; simp (disch := omega) only [ud_n]; exact w10 d hd
          · unfold sisD; simp (disch := omega) only [ud_n]; exact w11 q hq
      · rw [if_pos hK] at h; exact (xf_xd h).elim
theorem dw_line {T : Nat} {t D D' : Nat → Nat} {p p' : Nat} (hD : DW D) (hp : p ≤ T) (hk : tK T t p ≠ 0) (h : lineS T t D p = xd D' p') : DW D' ∧ p < p' ∧ p' ≤ T := by
  have hgt := tE_gt (t := t) hp hk
  have hta := tA_le (t := t) hp
  have e1 := tE_ge (t := t) hp
  have hfin : ∀ X : XT, sgS T t X = xd D' p' → (∀ q, X = xd D' q → DW D' ∧ tE T t p ≤ q ∧ q ≤ T) → DW D' ∧ p < p' ∧ p' ≤ T := by
    intro X h1 h2
    obtain ⟨q, g1, g2⟩ := sgS_inv h1
    obtain ⟨g3, g4, g5⟩ := h2 q g1
    have e2 := tE_ge (t := t) g5
    rw [g2]
    exact ⟨g3, by omega, e2.2⟩
  unfold lineS at h
  by_cases hK : tK T t p = 1
  · rw [if_neg (show ¬ tK T t p ≠ 1 from fun hh => hh hK)] at h
    by_cases c0 : lnB t (tA T t p) (tE T t p) = 0
    · rw [if_pos c0] at h; exact hfin _ h (fun q hq => dw_sister hD e1.2 hq)
    · rw [if_neg c0] at h
      by_cases c1 : lnB t (tA T t p) (tE T t p) = 1
      · rw [if_pos c1] at h; exact hfin _ h (fun q hq => dw_quarters hD e1.2 hq)
      · rw [if_neg c1] at h
        by_cases c2 : lnB t (tA T t p) (tE T t p) = 2
        · rw [if_pos c2] at h; exact hfin _ h (fun q hq => dw_need hD e1.2 hq)
        · rw [if_neg c2] at h
          by_cases c3 : lnB t (tA T t p) (tE T t p) = 3
          · rw [if_pos c3] at h; exact hfin _ h (fun q hq => dw_storm hD e1.2 hq)
          · rw [if_neg c3] at h
            by_cases c4 : lnB t (tA T t p) (tE T t p) = 4
            · rw [if_pos c4] at h; exact hfin _ h (fun q hq => dw_watch hD e1.2 hq)
            · rw [if_neg c4] at h
              by_cases c5 : lnB t (tA T t p) (tE T t p) = 5
              · rw [if_pos c5] at h; exact hfin _ h (fun q hq => dw_bed hD e1.2 hq)
              · rw [if_neg c5] at h; exact (xf_xd h).elim
  · rw [if_pos hK] at h; exact (xf_xd h).elim
