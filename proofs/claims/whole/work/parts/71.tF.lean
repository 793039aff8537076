/-! PURE: the class's reading of a text, to its end -/
def wkB (D : Nat → Nat) : Bool := alB (fun q => decide (D (70 + q) < 3 ^ D 0)) 6
def endS (T : Nat) (D : Nat → Nat) (l : Nat) : XT := if D 0 < D 6 ∨ D 1 < D 7 then xf 6 T else if wkB D = false then xf 7 T else xd D l
def runS (T : Nat) (t : Nat → Nat) : Nat → (Nat → Nat) → Nat → Nat → XT
  | 0, _, _, _ => xf 0 0
  | k + 1, D, p, l => if tO T t p = false then xf 1 (tA T t p) else if tK T t p = 0 then endS T D l else match lineS T t D p with
    | Sum.inl a => Sum.inl a
    | Sum.inr (D', p') => runS T t k D' p' (l + 1)
theorem runS_f {T : Nat} {t D : Nat → Nat} {k p l f w : Nat} (h1 : tO T t p = true) (h2 : tK T t p ≠ 0) (h3 : lineS T t D p = xf f w) : runS T t (k + 1) D p l = xf f w := by
  show (if tO T t p = false then xf 1 (tA T t p) else if tK T t p = 0 then endS T D l else match lineS T t D p with
    | Sum.inl a => Sum.inl a
    | Sum.inr (D', p') => runS T t k D' p' (l + 1)) = _
  rw [if_neg (by rw [h1]; decide), if_neg h2, h3]
  rfl
theorem runS_d {T : Nat} {t D D' : Nat → Nat} {k p l p' : Nat} (h1 : tO T t p = true) (h2 : tK T t p ≠ 0) (h3 : lineS T t D p = xd D' p') : runS T t (k + 1) D p l = runS T t k D' p' (l + 1) := by
  show (if tO T t p = false then xf 1 (tA T t p) else if tK T t p = 0 then endS T D l else match lineS T t D p with
    | Sum.inl a => Sum.inl a
    | Sum.inr (D', p') => runS T t k D' p' (l + 1)) = _
  rw [if_neg (by rw [h1]; decide), if_neg h2, h3]
  rfl
theorem runS_1 {T : Nat} {t D : Nat → Nat} {k p l : Nat} (h1 : tO T t p = false) : runS T t (k + 1) D p l = xf 1 (tA T t p) := by
  show (if tO T t p = false then xf 1 (tA T t p) else _) = _
  rw [if_pos h1]
theorem runS_0 {T : Nat} {t D : Nat → Nat} {k p l : Nat} (h1 : tO T t p = true) (h2 : tK T t p = 0) : runS T t (k + 1) D p l = endS T D l := by
  show (if tO T t p = false then xf 1 (tA T t p) else if tK T t p = 0 then endS T D l else _) = _
  rw [if_neg (by rw [h1]; decide), if_pos h2]
/-- the end of the class's reading -/
def RRc (T : Nat) (t : Nat → Nat) (X : XT) (μ0 : Mem) (r : Int32 × Mem) : Prop := (∀ q k, ¬ (37 ≤ q ∧ q ≤ 45 ∧ q ≠ 40) → ¬ (q = 35 ∧ k ≠ 1) → r.2.1 q k = μ0.1 q k) ∧ (∀ f w, X = xf f w → r.1 = 0 ∧ r.2.1 35 2 = nI f ∧ r.2.1 35 3 = nI w) ∧ (∀ D l, X = xd D l → r.1 = 1 ∧ CRd D r.2 ∧ DW D ∧ D 6 ≤ D 0 ∧ D 7 ≤ D 1 ∧ wkB D = true ∧ r.2.1 35 4 = nI l ∧ r.2.1 35 2 = 0)
theorem bl_sh3 : ∀ v, v < 8 → ∀ n, n ≤ 3 → ((nI v >>> (nI n &&& 31)) = 0 ↔ blN v ≤ n) := by decide +kernel
theorem bl_sh6 : ∀ v, v < 64 → ∀ n, n ≤ 6 → ((nI v >>> (nI n &&& 31)) = 0 ↔ blN v ≤ n) := by decide +kernel
theorem p_hasWatch37 {n : Nat} {μ : Mem} {x : Nat} (h : μ.1 37 0 = nI n) (hn : n ≤ 3) (hx : x < 1000) : f_X1_hasWatch_37 (nI x) μ = some (b2i (decide (x < 3 ^ n)), μ) := by
  have h27 := p3 hn
  have hw : f_X1_watches_37 μ = some (nI (3 ^ n), μ) := by
    unfold f_X1_watches_37
    rw [h, inb_nI (by omega) (by omega), nI_clamp (by omega), pow_F n (by omega)]
    rfl
  unfold f_X1_hasWatch_37
  rw [if_neg (nI_pos (by omega)), bnd hw]
  dsimp only
  by_cases hc : x < 3 ^ n
  · rw [if_neg (nI_ge hc (by omega)), decide_eq_true hc]
    rfl
  · rw [if_pos (nI_le (by omega) (by omega)), decide_eq_false hc]
    rfl
theorem p_agrees {T l : Nat} {t D : Nat → Nat} {p : Nat} {μ : Mem} (hD : DW D) (h : CS T t D p μ) : ∃ r : Bool × Mem, f_X5_agrees_35 μ = some (b2i r.1, r.2) ∧ CFr μ r.2 ∧ ((r.1 = true ∧ endS T D l = xd D l ∧ CS T t D p r.2 ∧ D 6 ≤ D 0 ∧ D 7 ≤ D 1 ∧ wkB D = true) ∨ (r.1 = false ∧ ∃ f, endS T D l = xf f T ∧ r.2.1 35 2 = nI f ∧ r.2.1 35 3 = nI T)) := by
  obtain ⟨c0, c1, c2, c3, c4, c5, c6', c7, c8, c9, c10, c11, c12⟩ := h.2.1
  have w0 := hD.1
  have w1 := hD.2.1.2
  have w4 := hD.2.2.2.2.1
  have w5 := hD.2.2.2.2.2.1
  have w6 := hD.2.2.2.2.2.2.1
  have w7 := hD.2.2.2.2.2.2.2.1
  have w11 := hD.2.2.2.2.2.2.2.2.2.2.2
  have hT1 := h.1.2.1
  have h6 : ∃ r, f_X5_agrees_35_J70 μ = some (b2i false, r) ∧ CFr μ r ∧ r.1 35 2 = nI 6 ∧ r.1 35 3 = nI T := by
    unfold f_X5_agrees_35_J70
    rw [hT1, bnd (refuse_ok 6 (nI T) μ)]
    refine ⟨pI (pI μ 35 2 6) 35 3 (nI T), rfl, ((CFr.rf μ).w (by omega)).w (by omega), ?_, rd_s⟩
    rw [pI_35 (by omega), rd_s]
    rfl
  have hacc : ∀ r : Option (Int32 × Mem), (if ((μ.1 35 14) >>> ((μ.1 37 0) &&& 31)) = 0 then if ((nI (mk6 (fun q => decide (q < 6) && decide (D (60 + q) ≠ 0))) ||| (μ.1 35 13)) >>> ((μ.1 37 1) &&& 31)) = 0 then it2 (f_X5_agrees_35_L83) FU (0 : Int32) μ else f_X5_agrees_35_J70 μ else f_X5_agrees_35_J70 μ) = r → f_X5_agrees_35 μ = r := by
    intro r hr
    unfold f_X5_agrees_35
    refine for_accG (body := f_X5_agrees_35_L4 μ) nI 6 (fun i => nI (mk6 (fun q => decide (q < i) && decide (D (60 + q) ≠ 0)))) r (fun k i hi => ?_) (fun k => ?_) FU 0 (by omega) (fu_gt (by omega))
    · have hle := (w11 i hi).1
      unfold f_X5_agrees_35_L4 f_X5_agrees_35_J30
      rw [if_neg (show ¬ (6 : Int32) ≤ nI i from nI_ge (b := 6) hi (by omega)), inb_nI (by omega) (by omega), if_neg (show ¬ true = false by decide), nI_clamp (by omega), c11 i hi, al1]
      by_cases hz : D (60 + i) = 0
      · rw [if_pos ((nI_z (by omega)).mpr hz), z_mk6, mk6_or]
        refine congrArg (fun x => k x (nI (i + 1))) (congrArg nI (mk6_congr fun q _ => ?_))
        rw [Bool.or_false]
        by_cases hqi : q = i
        · subst hqi
          rw [hz, decide_eq_false (show ¬ (0 : Nat) ≠ 0 by omega), Bool.and_false, Bool.and_false]
        · rw [show decide (q < i) = decide (q < i + 1) from decide_eq_decide.mpr (by omega)]
      · rw [if_neg (fun hh => hz ((nI_z (by omega)).mp hh)), sh1' i hi, mk6_or]
        refine congrArg (fun x => k x (nI (i + 1))) (congrArg nI (mk6_congr fun q _ => ?_))
        by_cases hqi : q = i
        · subst hqi
          rw [decide_eq_true (show q = q from rfl), Bool.or_true, decide_eq_true (show q < q + 1 by omega), decide_eq_true hz]
          rfl
        · rw [decide_eq_false hqi, Bool.or_false, show decide (q < i) = decide (q < i + 1) from decide_eq_decide.mpr (by omega)]
    · unfold f_X5_agrees_35_L4
      rw [if_pos (show (6 : Int32) ≤ nI 6 from by decide)]
      exact hr
  have hmk : nI (mk6 (fun q => decide (q < 6) && decide (D (60 + q) ≠ 0))) ||| nI (D 4) = nI (mk6 (qmB D)) := by
    rw [bt_mk (D 4) w4, mk6_or]
    refine congrArg nI (mk6_congr fun q hq => ?_)
    rw [decide_eq_true hq, Bool.true_and]
    rfl
  have hg := hacc _ rfl
  rw [c5, c0, c4, hmk, c1] at hg
  unfold endS
  by_cases e0 : D 0 < D 6
  · rw [if_neg (by rw [bl_sh3 _ w5 _ w0, ← w6]; omega)] at hg
    obtain ⟨r, g1, g2, g3, g4⟩ := h6
    rw [if_pos (Or.inl e0)]
    exact ⟨(false, r), hg.trans g1, g2, Or.inr ⟨rfl, 6, rfl, g3, g4⟩⟩
  · rw [if_pos ((bl_sh3 _ w5 _ w0).mpr (by rw [← w6]; omega))] at hg
    by_cases e1 : D 1 < D 7
    · rw [if_neg (by rw [bl_sh6 _ (mk6_lt _) _ w1, ← w7]; omega)] at hg
      obtain ⟨r, g1, g2, g3, g4⟩ := h6
      rw [if_pos (Or.inr e1)]
      exact ⟨(false, r), hg.trans g1, g2, Or.inr ⟨rfl, 6, rfl, g3, g4⟩⟩
    · rw [if_pos ((bl_sh6 _ (mk6_lt _) _ w1).mpr (by rw [← w7]; omega))] at hg
      rw [if_neg (by omega)]
      have hlp := for_ex (body := f_X5_agrees_35_L83) nI 6 (fun i ν => ν = μ ∧ ∀ q, q < i → decide (D (70 + q) < 3 ^ D 0) = true) (fun r => (r.1 = 1 ∧ r.2 = μ ∧ wkB D = true) ∨ (r.1 = 0 ∧ wkB D = false ∧ CFr μ r.2 ∧ r.2.1 35 2 = nI 7 ∧ r.2.1 35 3 = nI T)) (fun k i ν hi hP => by
        obtain ⟨rfl, q2⟩ := hP
        have hle := (w11 i hi).2
        unfold f_X5_agrees_35_L83
        rw [if_neg (show ¬ (6 : Int32) ≤ nI i from nI_ge (b := 6) hi (by omega)), inb_nI (by omega) (by omega), if_neg (show ¬ true = false by decide), nI_clamp (by omega), c12 i hi, bnd (p_hasWatch37 c0 w0 (by omega))]
        dsimp only
        cases hw : decide (D (70 + i) < 3 ^ D 0) with
        | true =>
          right
          rw [if_neg (show ¬ b2i true = 0 by decide), al1]
          refine ⟨ν, rfl, rfl, fun q hq => ?_⟩
          by_cases hqi : q = i
          · rw [hqi]; exact hw
          · exact q2 q (by omega)
        | false =>
          left
          rw [if_pos (show b2i false = 0 from rfl), hT1, bnd (refuse_ok 7 (nI T) ν)]
          refine ⟨_, rfl, Or.inr ⟨rfl, alB_f hw 6 hi, ((CFr.rf ν).w (by omega)).w (by omega), ?_, rd_s⟩⟩
          show (pI (pI ν 35 2 7) 35 3 (nI T)).1 35 2 = nI 7
          rw [pI_35 (by omega), rd_s]
          rfl) (fun k ν hP => by
        obtain ⟨rfl, q2⟩ := hP
        unfold f_X5_agrees_35_L83
        rw [if_pos (show (6 : Int32) ≤ nI 6 from by decide)]
        exact ⟨_, rfl, Or.inl ⟨rfl, rfl, alB_t 6 q2⟩⟩) FU 0 μ (by omega) (fu_gt (by omega)) ⟨rfl, fun q hq => by omega⟩
      obtain ⟨r, r1, r2⟩ := hlp
      rcases r2 with ⟨r2, r3, r4⟩ | ⟨r2, r3, r4, r5, r6⟩
      · refine ⟨(true, r.2), ?_, ?_, Or.inl ⟨rfl, ?_, ?_, by omega, by omega, r4⟩⟩
        · rw [hg]
          refine r1.trans ?_
          show some r = some ((1 : Int32), r.2)
          rw [← r2]
        · rw [r3]; exact CFr.rf μ
        · rw [r4]; rfl
        · rw [r3]; exact h
      · refine ⟨(false, r.2), ?_, r4, Or.inr ⟨rfl, 7, ?_, r5, r6⟩⟩
        · rw [hg]
          refine r1.trans ?_
          show some r = some ((0 : Int32), r.2)
          rw [← r2]
        · rw [r3]; rfl
theorem p_run {T : Nat} {t : Nat → Nat} {μ0 : Mem} (G : Nat) : ∀ k i D p l μ, i + k = 322 → i ≤ p → DW D → CS T t D p μ → μ.1 35 4 = nI l → (∀ q j, ¬ (37 ≤ q ∧ q ≤ 45 ∧ q ≠ 40) → ¬ (q = 35 ∧ j ≠ 1) → μ.1 q j = μ0.1 q j) → ∃ r, it2 f_X5_readAll_35_L6 (k + G) (nI i) μ = some r ∧ RRc T t (runS T t k D p l) μ0 r := by
  intro k
  induction k with
  | zero =>
    intro i D p l μ hik hip hD h hl hF
    have := h.2.2.2.1
    have := h.1.1
    omega
  | succ k ih =>
    intro i D p l μ hik hip hD h hl hF
    have hpT := h.2.2.2.1
    have hT3 := h.1.1
    obtain ⟨ν, n1, n2, n3, n4⟩ := p_next h.1 hpT h.2.2.1
    have hle := tE_le (t := t) hpT
    have hFν : ∀ q j, ¬ (37 ≤ q ∧ q ≤ 45 ∧ q ≠ 40) → ¬ (q = 35 ∧ j ≠ 1) → ν.1 q j = μ0.1 q j := fun q j h1 h2 => (n2 q j (by omega)).trans (hF q j h1 h2)
    rw [Nat.add_right_comm k 1 G, it2_s]
    generalize hkk : it2 f_X5_readAll_35_L6 (k + G) = kk
    unfold f_X5_readAll_35_L6
    rw [if_neg (show ¬ (320 : Int32) < nI i from nI_nlt (a := 320) (by omega) (by omega)), bnd n1]
    dsimp only
    cases hO : tO T t p with
    | false =>
      obtain ⟨e1, e2⟩ := n4 hO
      rw [if_pos (show b2i false = 0 from rfl), runS_1 hO]
      refine ⟨_, rfl, hFν, fun f w hx => ?_, fun D' l' hx => (xf_xd hx).elim⟩
      obtain ⟨rfl, rfl⟩ := xf_inj hx
      exact ⟨rfl, e1, e2⟩
    | true =>
      obtain ⟨e2, e3, e7, e8, e10, e9⟩ := n3 hO
      have hk4 := tK_le T t p
      have hCν : CS T t D (tE T t p) ν := ⟨h.1.fr n2, h.2.1.nx n2, e10, hle.2, by rw [e2]; exact h.2.2.2.2⟩
      have e4 : ν.1 35 4 = nI l := by rw [n2 35 4 (by omega)]; exact hl
      rw [if_neg (show ¬ b2i true = 0 by decide), e7]
      by_cases hK : tK T t p = 0
      · rw [if_pos ((nI_z (by omega)).mpr hK), runS_0 hO hK]
        obtain ⟨r, g1, g2, g3⟩ := p_agrees (l := l) hD hCν
        rw [bnd g1]
        dsimp only
        rw [b2i_zb, if_neg (show ¬ true = false by decide)]
        have hFr : ∀ q j, ¬ (37 ≤ q ∧ q ≤ 45 ∧ q ≠ 40) → ¬ (q = 35 ∧ j ≠ 1) → r.2.1 q j = μ0.1 q j := fun q j h1 h2 => (g2 q j h1 (by omega)).trans (hFν q j h1 h2)
        refine ⟨_, rfl, hFr, fun f w hx => ?_, fun D' l' hx => ?_⟩
        · rcases g3 with ⟨a1, a2, -⟩ | ⟨a1, f', a2, a3, a4⟩
          · rw [a2] at hx; exact (xf_xd hx.symm).elim
          · rw [a2] at hx
            obtain ⟨rfl, rfl⟩ := xf_inj hx
            refine ⟨?_, a3, a4⟩
            show b2i r.1 = 0
            rw [a1]; rfl
        · rcases g3 with ⟨a1, a2, a3, a4, a5, a6⟩ | ⟨a1, f', a2, a3, a4⟩
          · rw [a2] at hx
            obtain ⟨rfl, rfl⟩ := xd_inj hx
            refine ⟨?_, a3.2.1, hD, a4, a5, a6, ?_, a3.2.2.2.2⟩
            · show b2i r.1 = 1
              rw [a1]; rfl
            · rw [g2 35 4 (by omega) (by omega)]; exact e4
          · rw [a2] at hx; exact (xf_xd hx).elim
      · rw [if_neg (fun hh => hK ((nI_z (by omega)).mp hh))]
        obtain ⟨r, g1, g2, g3, g4⟩ := p_line (μ0 := ν) hD hpT hCν (CFr.rf ν) e7 e8
        rw [bnd g1]
        rcases XT.cs (lineS T t D p) with ⟨f, w, hx⟩ | ⟨D', p', hx⟩
        · obtain ⟨a1, a2, a3⟩ := g3 f w hx
          rw [if_pos a1, runS_f hO hK hx]
          refine ⟨_, rfl, fun q j h1 h2 => (g2 q j h1 (by omega)).trans (hFν q j h1 h2), fun f' w' hy => ?_, fun D' l' hy => (xf_xd hy).elim⟩
          obtain ⟨rfl, rfl⟩ := xf_inj hy
          exact ⟨rfl, a2, a3⟩
        · obtain ⟨a1, a2⟩ := g4 D' p' hx
          obtain ⟨d1, d2, d3⟩ := dw_line hD hpT hK hx
          rw [if_neg (by rw [a1]; decide), runS_d hO hK hx, g2 35 4 (by omega) (by omega), e4, al1, al1, ← hkk]
          refine ih (i + 1) D' p' (l + 1) (pI r.2 35 4 (nI (l + 1))) (by omega) (by omega) d1 ?_ rd_s (fun q j h1 h2 => ?_)
          · have c := a2.2.1
            refine ⟨⟨a2.1.1, by rw [pI_35 (by omega)]; exact a2.1.2.1, fun i hi => by rw [rd_p (by omega)]; exact a2.1.2.2 i hi⟩, ?_, by rw [pI_35 (by omega)]; exact a2.2.2.1, a2.2.2.2.1, by rw [pI_35 (by omega)]; exact a2.2.2.2.2⟩
            unfold CRd at c ⊢
            simp (disch := omega) only [rd_p, rd_i]
            exact c
          · have : (pI r.2 35 4 (nI (l + 1))).1 q j = r.2.1 q j := by
              by_cases hq : q = 35
              · subst hq
                exact rd_i (by omega)
              · exact rd_p hq
            rw [this]
            exact (g2 q j h1 (by omega)).trans (hFν q j h1 h2)
