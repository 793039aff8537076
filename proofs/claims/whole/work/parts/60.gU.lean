/-! PURE: rounds of the class -/
theorem it4_s {σ1 σ2 σ3 σ4 ρ : Type} (body : (σ1 → σ2 → σ3 → σ4 → Option ρ) → σ1 → σ2 → σ3 → σ4 → Option ρ) (k : Nat) (x : σ1) (y : σ2) (z : σ3) (u : σ4) : it4 body (k + 1) x y z u = body (it4 body k) x y z u := rfl
def cmQ (n : Nat) (K S F N : Nat → Nat) (w : Nat) : Bool := subQ n 3 w && decide (LKS n 3 K S F N (shut w) 0 = 0)
theorem p_fillQ {a : Nat → Bool} {C : Nat → Bool} {len : Nat} (hl : len ≤ 3) :
    ∀ k i U f μ, i + k = len → k < f → (∀ e, e < 6 → U e = true → C e = true) → (∀ w, w < 27 → bI (μ.1 57 1) w = a w) → ∃ μ' r, it4 f_X0_fill_57_B f (nI i) (nI len) (nI (mk6 U)) μ = some (b2i r, μ') ∧ r = cvQ (fun _ => a) C k i (fun e => (U e).toNat) ∧ only [58] μ μ' ∧ (∀ j, j < i → μ'.1 58 j = μ.1 58 j) ∧ (r = true → ∀ j, j < k → μ'.1 58 (i + j) = nI (gpQ (fun _ => a) C k i (fun e => (U e).toNat) j)) := by
  intro k
  induction k with
  | zero =>
    intro i U f μ hi hf hU hB
    obtain ⟨g, rfl⟩ : ∃ g, f = g + 1 := ⟨f - 1, by omega⟩
    refine ⟨μ, decide (mk6 U = 0), ?_, ?_, only.rf, fun _ _ => rfl, fun _ j hj => by omega⟩
    · rw [it4_s]
      unfold f_X0_fill_57_B f_X0_fill_57_J10
      rw [if_pos (nI_le (by omega) (by omega))]
      by_cases hz : mk6 U = 0
      · rw [if_pos ((mk6_z _ (mk6_lt _)).mpr hz), decide_eq_true hz]
        rfl
      · rw [if_neg (fun h => hz ((mk6_z _ (mk6_lt _)).mp h)), decide_eq_false hz]
        rfl
    · show _ = azQ C (fun e => (U e).toNat)
      have hz : ∀ b : Bool, b.toNat = 0 → b = false := by decide
      by_cases h0 : mk6 U = 0
      · rw [decide_eq_true h0]
        refine (azQ_iff.mpr (fun e he _ => ?_)).symm
        rw [mk6_eq0.mp h0 e he]
        rfl
      · rw [decide_eq_false h0]
        cases hc : azQ C (fun e => (U e).toNat) with
        | false => rfl
        | true =>
          refine absurd (mk6_eq0.mpr (fun e he => ?_)) h0
          cases hu : U e with
          | false => rfl
          | true =>
            have := azQ_iff.mp hc e he (hU e he hu)
            rw [hu] at this
            cases this
  | succ k ih =>
    intro i U f μ hi hf hU hB
    obtain ⟨g, rfl⟩ : ∃ g, f = g + 1 := ⟨f - 1, by omega⟩
    rw [it4_s]
    unfold f_X0_fill_57_B
    rw [if_neg (nI_ge (by omega) (by omega)), if_pos (show nI i < (3 : Int32) from nI_lt (b := 3) (by omega) (by omega))]
    have := for_ex (body := f_X0_fill_57_L23 (it4 f_X0_fill_57_B g) (nI i) (nI len) (nI (mk6 U))) nI 27 (fun w ν => only [58] μ ν ∧ (∀ j, j < i → ν.1 58 j = μ.1 58 j) ∧ ∀ w', w' < w → (a w' && cvQ (fun _ => a) C k (i + 1) (stQ (fun e => (U e).toNat) w')) = false) (fun r => ∃ rb, r.1 = b2i rb ∧ rb = cvQ (fun _ => a) C (k + 1) i (fun e => (U e).toNat) ∧ only [58] μ r.2 ∧ (∀ j, j < i → r.2.1 58 j = μ.1 58 j) ∧ (rb = true → ∀ j, j < k + 1 → r.2.1 58 (i + j) = nI (gpQ (fun _ => a) C (k + 1) i (fun e => (U e).toNat) j))) (fun kk w ν hw hP => by
      obtain ⟨q1, q2, q3⟩ := hP
      have hnext : (a w && cvQ (fun _ => a) C k (i + 1) (stQ (fun e => (U e).toNat) w)) = false → ∀ w', w' < w + 1 → (a w' && cvQ (fun _ => a) C k (i + 1) (stQ (fun e => (U e).toNat) w')) = false := by
        intro h0 w' hw'
        by_cases hh : w' = w
        · rw [hh]; exact h0
        · exact q3 w' (by omega)
      have hBν : ∀ w, w < 27 → bI (ν.1 57 1) w = a w := fun w hw => by rw [q1.1 57 1 (by decide)]; exact hB w hw
      unfold f_X0_fill_57_L23 f_X0_fill_57_J74
      rw [if_neg (show ¬ (27 : Int32) ≤ nI w from nI_ge (b := 27) hw (by omega)), inb_nI (show i < 3 by omega) (by omega), if_neg (show ¬ (true = false) by decide), inb_nI hw (by omega), if_neg (show ¬ (true = false) by decide), nI_clamp (by omega), nI_clamp (by omega), shu_T w hw, mk6_andn, al1, al1]
      cases hA : a w with
      | false =>
        right
        rw [if_neg (by rw [bI_test (by omega), hBν w hw, hA]; decide)]
        exact ⟨ν, rfl, q1, q2, hnext (by rw [hA]; rfl)⟩
      | true =>
        rw [if_pos (by rw [bI_test (by omega), hBν w hw, hA])]
        have hst : ∀ e, e < 6 → C e = true → ((U e && !shut w e).toNat) = stQ (fun e => (U e).toNat) w e := by
          intro e _ _
          show (U e && !shut w e).toNat = (U e).toNat - (shut w e).toNat
          cases U e <;> cases shut w e <;> rfl
        have hcv := cv_congr (A := fun _ => a) (k := k) (q := i + 1) hst
        have hx1 : only [58] μ (pI ν 58 i (nI w)) := q1.pI (by decide)
        have hx2 : ∀ j, j < i → (pI ν 58 i (nI w)).1 58 j = μ.1 58 j := fun j hj => by rw [rd_i (by omega)]; exact q2 j hj
        obtain ⟨μ2, r, i1, i2, i3, i4, i5⟩ := ih (i + 1) (fun e => U e && !shut w e) g (pI ν 58 i (nI w)) (by omega) (by omega) (fun e he h => hU e he (by cases hu : U e <;> simp [hu] at h ⊢)) (fun w hw => by rw [rd_p (by omega)]; exact hBν w hw)
        rw [bnd i1]
        dsimp only
        cases r with
        | false =>
          right
          rw [if_pos (show b2i false = 0 from rfl)]
          refine ⟨_, rfl, hx1.tr i3, fun j hj => (i4 j (by omega)).trans (hx2 j hj), hnext ?_⟩
          rw [← hcv, ← i2, Bool.and_false]
        | true =>
          left
          rw [if_neg (show ¬ b2i true = 0 by decide)]
          have hAt : (a w && cvQ (fun _ => a) C k (i + 1) (stQ (fun e => (U e).toNat) w)) = true := by rw [hA, ← hcv, ← i2]; rfl
          have hfs : fsB (fun w => a w && cvQ (fun _ => a) C k (i + 1) (stQ (fun e => (U e).toNat) w)) 27 = w := fsB_at hAt q3 27 hw
          refine ⟨_, rfl, true, rfl, ?_, hx1.tr i3, fun j hj => (i4 j (by omega)).trans (hx2 j hj), fun _ j hj => ?_⟩
          · exact ((anyB_iff 27).mpr ⟨w, hw, hAt⟩).symm
          · cases j with
            | zero =>
              rw [Nat.add_zero, i4 i (by omega), rd_s]
              exact congrArg nI hfs.symm
            | succ j =>
              rw [show i + (j + 1) = i + 1 + j by omega, i5 rfl j (by omega)]
              refine congrArg nI ?_
              show _ = gpQ (fun _ => a) C k (i + 1) (stQ (fun e => (U e).toNat) (fsB (fun w => a w && cvQ (fun _ => a) C k (i + 1) (stQ (fun e => (U e).toNat) w)) 27)) j
              rw [hfs]
              exact gp_congr k (i + 1) _ _ hst j) (fun kk ν hP => by
      obtain ⟨q1, q2, q3⟩ := hP
      have hcf : cvQ (fun _ => a) C (k + 1) i (fun e => (U e).toNat) = false := anyB_f.mpr q3
      unfold f_X0_fill_57_L23
      rw [if_pos (show (27 : Int32) ≤ nI 27 from by decide)]
      exact ⟨_, rfl, false, rfl, hcf.symm, q1, q2, fun h => by cases h⟩) FU 0 μ (by omega) (fu_gt (by omega)) ⟨only.rf, fun _ _ => rfl, fun w' hw' => by omega⟩
    obtain ⟨r, r1, rb, r2, r3, r4, r5, r6⟩ := this
    exact ⟨r.2, rb, by rw [← r2]; exact r1, r3, r4, r5, r6⟩
def rdQ (f : Nat → Bool) : Nat := if f 1 = true then 1 else if f 2 = true then 2 else if f 3 = true then 3 else 0
theorem rdQ_at {f : Nat → Bool} {l : Nat} (h1 : 1 ≤ l) (h3 : l ≤ 3) (hf : f l = true) (hlt : ∀ j, 1 ≤ j → j < l → f j = false) : rdQ f = l := by
  unfold rdQ
  rcases (show l = 1 ∨ l = 2 ∨ l = 3 by omega) with rfl | rfl | rfl
  · rw [if_pos hf]
  · rw [if_neg (by rw [hlt 1 (by omega) (by omega)]; decide), if_pos hf]
  · rw [if_neg (by rw [hlt 1 (by omega) (by omega)]; decide), if_neg (by rw [hlt 2 (by omega) (by omega)]; decide), if_pos hf]
theorem rdQ_0 {f : Nat → Bool} (h : ∀ j, 1 ≤ j → j ≤ 3 → f j = false) : rdQ f = 0 := by
  unfold rdQ
  rw [if_neg (by rw [h 1 (by omega) (by omega)]; decide), if_neg (by rw [h 2 (by omega) (by omega)]; decide), if_neg (by rw [h 3 (by omega) (by omega)]; decide)]
theorem p_shortest {n : Nat} {K S F N : Nat → Nat} {μ : Mem} (hn : n ≤ 3) (hS : ∀ e, e < 2 * n → S e < 16) (hF : ∀ s, s < n → F s < 4) (h : SightR n 3 K S F μ) (hN : ∀ d, d < 4 → N d < 7 ∧ μ.1 7 d = nI (N d)) :
    ∃ μ', f_X0_shortest_57_47_7 μ = some (nI (rdQ (fun l => cvQ (fun _ => cmQ n K S F N) (ctQ n 3 K) l 0 (fun _ => 1))), μ') ∧ only [57, 58] μ μ' ∧ (∀ j, j < rdQ (fun l => cvQ (fun _ => cmQ n K S F N) (ctQ n 3 K) l 0 (fun _ => 1)) → μ'.1 58 j = nI (gpQ (fun _ => cmQ n K S F N) (ctQ n 3 K) (rdQ (fun l => cvQ (fun _ => cmQ n K S F N) (ctQ n 3 K) l 0 (fun _ => 1))) 0 (fun _ => 1) j)) := by
  have hct : nI (mk6 fun e => hr n 3 (e / 2)) &&& (nI (mk6 fun e => hr n 3 (e / 2) && glE K e) ^^^ (-1 : Int32)) = nI (mk6 (ctQ n 3 K)) := by
    rw [mk6_andn]
    refine congrArg nI (mk6_congr fun e _ => ?_)
    unfold ctQ
    cases hr n 3 (e / 2) <;> cases glE K e <;> rfl
  have hone : ∀ e, e < 6 → ctQ n 3 K e = true → (ctQ n 3 K e).toNat = 1 := fun e _ h => by rw [h]; rfl
  unfold f_X0_shortest_57_47_7
  have := for_rel (body := f_X0_shortest_57_47_7_L7) nI 27 (fun w ν => only [57, 58] μ ν ∧ ∀ j, j < 27 → bI (ν.1 57 1) j = (decide (j < w) && cmQ n K S F N j)) (fun r => r.1 = nI (rdQ (fun l => cvQ (fun _ => cmQ n K S F N) (ctQ n 3 K) l 0 (fun _ => 1))) ∧ only [57, 58] μ r.2 ∧ (∀ j, j < rdQ (fun l => cvQ (fun _ => cmQ n K S F N) (ctQ n 3 K) l 0 (fun _ => 1)) → r.2.1 58 j = nI (gpQ (fun _ => cmQ n K S F N) (ctQ n 3 K) (rdQ (fun l => cvQ (fun _ => cmQ n K S F N) (ctQ n 3 K) l 0 (fun _ => 1))) 0 (fun _ => 1) j))) (fun k w ν hw hP => by
    obtain ⟨q1, q3⟩ := hP
    have hS' := h.fr q1 (by decide) (by decide)
    have hno : cmQ n K S F N w = false → (∀ j, j < 27 → bI (ν.1 57 1) j = (decide (j < w + 1) && cmQ n K S F N j)) := by
      intro h0 j hj
      rw [q3 j hj]
      by_cases hjw : j = w
      · rw [hjw, h0, Bool.and_false, Bool.and_false]
      · rw [show decide (j < w) = decide (j < w + 1) from decide_eq_decide.mpr (by omega)]
    have hsub : (nI (mk6 (shut w)) &&& (nI (mk6 fun e => hr n 3 (e / 2)) ^^^ (-1 : Int32)) = 0) ↔ subQ n 3 w = true := by
      rw [mk6_andn, mk6_z _ (mk6_lt _)]
      unfold subQ
      rw [decide_eq_true_eq]
    unfold f_X0_shortest_57_47_7_L7
    rw [if_neg (show ¬ (27 : Int32) ≤ nI w from nI_ge (b := 27) hw (by omega)), inb_nI hw (by omega), if_neg (show ¬ (true = false) by decide), nI_clamp (by omega), shu_T w hw, hS'.1]
    unfold f_X0_shortest_57_47_7_J33 f_X0_shortest_57_47_7_J66
    rw [al1]
    by_cases hsb : subQ n 3 w = true
    · rw [if_pos (hsub.mpr hsb), if_neg (show ¬ (1 : Int32) = 0 by decide)]
      obtain ⟨mm, m1, m2⟩ := p_openBy hS' hw
      have hlk := p_lacking (st := 0) (m := mm) (q := shut w) (N := N) hS hF hS' m1 (fun d hd => ⟨(hN d hd).1, by rw [q1.1 7 d (by decide)]; exact (hN d hd).2⟩) (by omega)
      have hlk : f_X7_lacking_47_7 (0 : Int32) (nI (mk6 mm)) ν = some (nI (LKS n 3 K S F N (shut w) 0), ν) := hlk
      rw [bnd m2]
      dsimp only
      rw [bnd hlk]
      dsimp only
      by_cases hl : LKS n 3 K S F N (shut w) 0 = 0
      · have hA : cmQ n K S F N w = true := by
          unfold cmQ
          rw [hsb, decide_eq_true hl]
          rfl
        rw [if_pos ((mk6_z _ LKS_lt).mpr hl)]
        refine ⟨_, rfl, q1.pI (by decide), fun j hj => ?_⟩
        rw [rd_s, bI_set (by omega), q3 j hj]
        by_cases hjw : j = w
        · subst hjw
          rw [hA, decide_eq_false (Nat.lt_irrefl j), decide_eq_true (show j < j + 1 by omega), decide_eq_true (show j = j from rfl)]
          rfl
        · rw [decide_eq_false hjw, Bool.or_false, show decide (j < w) = decide (j < w + 1) from decide_eq_decide.mpr (by omega)]
      · have hA : cmQ n K S F N w = false := by
          unfold cmQ
          rw [decide_eq_false hl, Bool.and_false]
        rw [if_neg (fun hh => hl ((mk6_z _ LKS_lt).mp hh))]
        exact ⟨_, rfl, q1, hno hA⟩
    · have hA : cmQ n K S F N w = false := by
        unfold cmQ
        cases hc : subQ n 3 w with
        | false => rfl
        | true => exact absurd hc hsb
      rw [if_neg (fun hh => hsb (hsub.mp hh)), if_pos (show (0 : Int32) = 0 from rfl)]
      exact ⟨_, rfl, q1, hno hA⟩) (fun k ν hP => by
    obtain ⟨q1, q3⟩ := hP
    unfold f_X0_shortest_57_47_7_L7
    rw [if_pos (show (27 : Int32) ≤ nI 27 from by decide)]
    exact for_ex (body := f_X0_shortest_57_47_7_L74) (fun i => nI (1 + i)) 3 (fun i ξ => only [57, 58] μ ξ ∧ (∀ j, j < 27 → bI (ξ.1 57 1) j = cmQ n K S F N j) ∧ ∀ l, 1 ≤ l → l < 1 + i → cvQ (fun _ => cmQ n K S F N) (ctQ n 3 K) l 0 (fun _ => 1) = false) (fun r => r.1 = nI (rdQ (fun l => cvQ (fun _ => cmQ n K S F N) (ctQ n 3 K) l 0 (fun _ => 1))) ∧ only [57, 58] μ r.2 ∧ (∀ j, j < rdQ (fun l => cvQ (fun _ => cmQ n K S F N) (ctQ n 3 K) l 0 (fun _ => 1)) → r.2.1 58 j = nI (gpQ (fun _ => cmQ n K S F N) (ctQ n 3 K) (rdQ (fun l => cvQ (fun _ => cmQ n K S F N) (ctQ n 3 K) l 0 (fun _ => 1))) 0 (fun _ => 1) j))) (fun kk i ξ hi hR => by
      obtain ⟨g1, g2, g3⟩ := hR
      have hS' := h.fr g1 (by decide) (by decide)
      obtain ⟨ζ, r, r1, r2, r3, r4, r5⟩ := p_fillQ (a := cmQ n K S F N) (C := ctQ n 3 K) (len := 1 + i) (by omega) (1 + i) 0 (ctQ n 3 K) 12 ξ (by omega) (by omega) (fun e _ h => h) g2
      have r1 : it4 f_X0_fill_57_B 12 (0 : Int32) (nI (1 + i)) (nI (mk6 (ctQ n 3 K))) ξ = some (b2i r, ζ) := r1
      rw [cv_congr hone] at r2
      show (∃ r, f_X0_shortest_57_47_7_L74 kk (nI (1 + i)) ξ = some r ∧ _) ∨ ∃ μ', f_X0_shortest_57_47_7_L74 kk (nI (1 + i)) ξ = kk (nI (1 + (i + 1))) μ' ∧ _
      unfold f_X0_shortest_57_47_7_L74 f_X0_fill_57
      rw [if_neg (show ¬ (3 : Int32) < nI (1 + i) from nI_nlt (a := 3) (by omega) (by omega)), hS'.1, hS'.2.1, hct, bnd r1]
      dsimp only
      have hg1 : only [57, 58] μ ζ := g1.tr (r3.mono (by decide))
      cases r with
      | false =>
        right
        rw [if_pos (show b2i false = 0 from rfl), al1]
        refine ⟨ζ, rfl, hg1, fun j hj => by rw [r3.1 57 1 (by decide)]; exact g2 j hj, fun l hl1 hl2 => ?_⟩
        by_cases hl : l = 1 + i
        · rw [hl]; exact r2.symm
        · exact g3 l hl1 (by omega)
      | true =>
        left
        rw [if_neg (show ¬ b2i true = 0 by decide)]
        have hrd : rdQ (fun l => cvQ (fun _ => cmQ n K S F N) (ctQ n 3 K) l 0 (fun _ => 1)) = 1 + i := rdQ_at (by omega) (by omega) r2.symm g3
        rw [hrd]
        refine ⟨_, rfl, rfl, hg1, fun j hj => ?_⟩
        have := r5 rfl j hj
        rw [Nat.zero_add] at this
        rw [this, gp_congr (1 + i) 0 _ _ hone]) (fun kk ξ hR => by
      obtain ⟨g1, g2, g3⟩ := hR
      show ∃ r, f_X0_shortest_57_47_7_L74 kk (nI (1 + 3)) ξ = some r ∧ _
      unfold f_X0_shortest_57_47_7_L74
      rw [if_pos (show (3 : Int32) < nI (1 + 3) from by decide), rdQ_0 (fun j h1 h2 => g3 j h1 (by omega))]
      exact ⟨_, rfl, rfl, g1, fun j hj => by omega⟩) FU 0 ν (by omega) (fu_gt (by omega)) ⟨q1, fun j hj => by rw [q3 j hj, decide_eq_true hj, Bool.true_and], fun l h1 h2 => by omega⟩) FU 0 (pI μ 57 1 0) (by omega) (fu_gt (by omega)) ⟨only.rf.pI (by decide), fun j hj => by rw [rd_s, bI_0, decide_eq_false (by omega)]; rfl⟩
  obtain ⟨r, r1, r2, r3⟩ := this
  exact ⟨r.2, by rw [← r2]; exact r1, r3⟩
