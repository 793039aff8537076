theorem p_fop_27 {μ : Mem} {z l : Nat} (hz : z ≤ 40) (h1 : μ.1 27 1 = nI z) (h0 : μ.1 27 0 = nI l) (x a b : Int32) : f_X6_faultOfPair_27 x a b μ = some (if x = nI l then (if inb a z = true then (if inb (a + (2 : Int32) * b + 1) z = true then (0 : Int32) else 2) else 2) else 3, μ) := by
  have e0 : f_X6_isNothing_27 μ = some (0, μ) := by
    unfold f_X6_isNothing_27
    rw [h1, if_pos (nI_pos' (by omega))]
  unfold f_X6_faultOfPair_27
  rw [bnd e0]
  dsimp only
  rw [if_pos rfl, h0, h1, bnd (p_fault_27 hz h1 _)]
  have hl : (a < nI z) ↔ a.toInt < z := by
    rw [i32_lt, nI_toInt (by omega)]
  have h00 : (a < 0) ↔ a.toInt < 0 := i32_lt a 0
  by_cases hx : x = nI l
  · rw [if_pos hx, if_pos hx]
    cases hi : inb a z with
    | true =>
      have := inb_iff.mp hi
      rw [if_neg (by rw [h00]; omega), if_pos (hl.mpr this.2), if_pos rfl]
    | false =>
      rw [if_neg (show ¬ (false = true) by decide)]
      rcases inb_f hi with h | h
      · rw [if_pos (h00.mpr h)]
      · by_cases h2 : a < 0
        · rw [if_pos h2]
        · rw [if_neg h2, if_neg (by rw [hl]; omega)]
  · rw [if_neg hx, if_neg hx]
theorem p_fopn_27 {μ : Mem} (h1 : μ.1 27 1 = -1) (x a b : Int32) : f_X6_faultOfPair_27 x a b μ = some (1, μ) := by
  unfold f_X6_faultOfPair_27
  rw [bnd (p_none_27 h1)]
  rfl

theorem p_fop_29 {μ : Mem} {z l : Nat} (hz : z ≤ 40) (h1 : μ.1 29 1 = nI z) (h0 : μ.1 29 0 = nI l) (x a b : Int32) : f_X6_faultOfPair_29 x a b μ = some (if x = nI l then (if inb a z = true then (if inb (a + (2 : Int32) * b + 1) z = true then (0 : Int32) else 2) else 2) else 3, μ) := by
  have e0 : f_X6_isNothing_29 μ = some (0, μ) := by
    unfold f_X6_isNothing_29
    rw [h1, if_pos (nI_pos' (by omega))]
  unfold f_X6_faultOfPair_29
  rw [bnd e0]
  dsimp only
  rw [if_pos rfl, h0, h1, bnd (p_fault_29 hz h1 _)]
  have hl : (a < nI z) ↔ a.toInt < z := by
    rw [i32_lt, nI_toInt (by omega)]
  have h00 : (a < 0) ↔ a.toInt < 0 := i32_lt a 0
  by_cases hx : x = nI l
  · rw [if_pos hx, if_pos hx]
    cases hi : inb a z with
    | true =>
      have := inb_iff.mp hi
      rw [if_neg (by rw [h00]; omega), if_pos (hl.mpr this.2), if_pos rfl]
    | false =>
      rw [if_neg (show ¬ (false = true) by decide)]
      rcases inb_f hi with h | h
      · rw [if_pos (h00.mpr h)]
      · by_cases h2 : a < 0
        · rw [if_pos h2]
        · rw [if_neg h2, if_neg (by rw [hl]; omega)]
  · rw [if_neg hx, if_neg hx]
theorem p_fopn_29 {μ : Mem} (h1 : μ.1 29 1 = -1) (x a b : Int32) : f_X6_faultOfPair_29 x a b μ = some (1, μ) := by
  unfold f_X6_faultOfPair_29
  rw [bnd (p_none_29 h1)]
  rfl

theorem p_fop_31 {μ : Mem} {z l : Nat} (hz : z ≤ 40) (h1 : μ.1 31 1 = nI z) (h0 : μ.1 31 0 = nI l) (x a b : Int32) : f_X6_faultOfPair_31 x a b μ = some (if x = nI l then (if inb a z = true then (if inb (a + (2 : Int32) * b + 1) z = true then (0 : Int32) else 2) else 2) else 3, μ) := by
  have e0 : f_X6_isNothing_31 μ = some (0, μ) := by
    unfold f_X6_isNothing_31
    rw [h1, if_pos (nI_pos' (by omega))]
  unfold f_X6_faultOfPair_31
  rw [bnd e0]
  dsimp only
  rw [if_pos rfl, h0, h1, bnd (p_fault_31 hz h1 _)]
  have hl : (a < nI z) ↔ a.toInt < z := by
    rw [i32_lt, nI_toInt (by omega)]
  have h00 : (a < 0) ↔ a.toInt < 0 := i32_lt a 0
  by_cases hx : x = nI l
  · rw [if_pos hx, if_pos hx]
    cases hi : inb a z with
    | true =>
      have := inb_iff.mp hi
      rw [if_neg (by rw [h00]; omega), if_pos (hl.mpr this.2), if_pos rfl]
    | false =>
      rw [if_neg (show ¬ (false = true) by decide)]
      rcases inb_f hi with h | h
      · rw [if_pos (h00.mpr h)]
      · by_cases h2 : a < 0
        · rw [if_pos h2]
        · rw [if_neg h2, if_neg (by rw [hl]; omega)]
  · rw [if_neg hx, if_neg hx]
theorem p_fopn_31 {μ : Mem} (h1 : μ.1 31 1 = -1) (x a b : Int32) : f_X6_faultOfPair_31 x a b μ = some (1, μ) := by
  unfold f_X6_faultOfPair_31
  rw [bnd (p_none_31 h1)]
  rfl

theorem p_fop_33 {μ : Mem} {z l : Nat} (hz : z ≤ 40) (h1 : μ.1 33 1 = nI z) (h0 : μ.1 33 0 = nI l) (x a b : Int32) : f_X6_faultOfPair_33 x a b μ = some (if x = nI l then (if inb a z = true then (if inb (a + (2 : Int32) * b + 1) z = true then (0 : Int32) else 2) else 2) else 3, μ) := by
  have e0 : f_X6_isNothing_33 μ = some (0, μ) := by
    unfold f_X6_isNothing_33
    rw [h1, if_pos (nI_pos' (by omega))]
  unfold f_X6_faultOfPair_33
  rw [bnd e0]
  dsimp only
  rw [if_pos rfl, h0, h1, bnd (p_fault_33 hz h1 _)]
  have hl : (a < nI z) ↔ a.toInt < z := by
    rw [i32_lt, nI_toInt (by omega)]
  have h00 : (a < 0) ↔ a.toInt < 0 := i32_lt a 0
  by_cases hx : x = nI l
  · rw [if_pos hx, if_pos hx]
    cases hi : inb a z with
    | true =>
      have := inb_iff.mp hi
      rw [if_neg (by rw [h00]; omega), if_pos (hl.mpr this.2), if_pos rfl]
    | false =>
      rw [if_neg (show ¬ (false = true) by decide)]
      rcases inb_f hi with h | h
      · rw [if_pos (h00.mpr h)]
      · by_cases h2 : a < 0
        · rw [if_pos h2]
        · rw [if_neg h2, if_neg (by rw [hl]; omega)]
  · rw [if_neg hx, if_neg hx]
theorem p_fopn_33 {μ : Mem} (h1 : μ.1 33 1 = -1) (x a b : Int32) : f_X6_faultOfPair_33 x a b μ = some (1, μ) := by
  unfold f_X6_faultOfPair_33
  rw [bnd (p_none_33 h1)]
  rfl

theorem it2_s {σ1 σ2 ρ : Type} (body : (σ1 → σ2 → Option ρ) → σ1 → σ2 → Option ρ) (k : Nat) : it2 body (k + 1) = body (it2 body k) := rfl
/-- the model's place of a cell, wide -/
def wId (a : Int32) (p c : Nat) : Int64 := (a.toInt64 + (((2 : Int32) * nI p).toInt64)) + ((nI c).toInt64)
theorem wId_int {a : Int32} {p c : Nat} (hp : p ≤ 20) (hc : c ≤ 2) : (wId a p c).toInt = a.toInt + 2 * p + c := by
  have h1 := Int32.le_toInt a
  have h2 := Int32.toInt_lt a
  unfold wId
  rw [lm2, Int64.toInt_add, Int64.toInt_add, wide_int, wide_int, wide_int, nI_toInt (by omega), nI_toInt (by omega)]
  simp only [Int.bmod_def]
  omega
def flM (x : Int32) (l z : Nat) (a : Int32) (p c : Nat) : Int32 := if nI l = x then (if (wId a p c).toInt < 0 then 2 else if (wId a p c).toInt < z then 0 else 2) else 3

theorem m_fop {s l z p : Nat} {x a P a6 : Int32} {μ : Mem} (k65 : Int32 → Int32 → Int32 → Mem → Option (Int32 × Mem)) (hs : s < 4) (hl : l < 3) (hz : z ≤ 40) (hp : p ≤ 13) (h76 : μ.1 76 s = nI l) (h77 : μ.1 77 s = nI z) : it2 (f_X10_read_62_L80 (nI s) x a P a6 (nI p) μ k65) FU 0 (nI 0) = f_X10_read_62_J167 k65 (nI s) x a P (if flM x l z a p 0 = 0 then flM x l z a p 1 else flM x l z a p 0) a6 (nI p) μ := by
  have hne : ∀ l, l < 3 → ¬ nI l = -4 := by decide
  have hstep : ∀ k c, c < 2 → f_X10_read_62_L80 (nI s) x a P a6 (nI p) μ k65 k 0 (nI c) = k (flM x l z a p c) (nI (c + 1)) := by
    intro k c hc
    have hw := wId_int (a := a) (p := p) (c := c) (by omega) (by omega)
    have c1 : (lg_cmp (wId a p c) (0 : Int64) < 0) ↔ (wId a p c).toInt < 0 := by rw [cmp_lt, i64_lt]; rfl
    have c2 : (lg_cmp (wId a p c) (nI z).toInt64 < 0) ↔ (wId a p c).toInt < z := by rw [cmp_lt, i64_lt, wide_int, nI_toInt (by omega)]
    unfold f_X10_read_62_L80
    rw [if_neg (show ¬ (2 : Int32) ≤ nI c from nI_ge (b := 2) hc (by omega)), if_pos rfl, inb_nI (by omega) (by omega), if_neg (show ¬ (true = false) by decide), if_neg (show ¬ (true = false) by decide), if_neg (show ¬ (true = false) by decide), nI_clamp (by omega), h76, if_neg (hne l hl), h77]
    unfold f_X10_read_62_J154 f_X10_read_62_J159 flM
    rw [al1]
    show (if nI l = x then (if lg_cmp (wId a p c) (0 : Int64) < 0 then k 2 (nI (c + 1)) else if lg_cmp (wId a p c) (nI z).toInt64 < 0 then k 0 (nI (c + 1)) else k 2 (nI (c + 1))) else k 3 (nI (c + 1))) = _
    by_cases d0 : nI l = x
    · rw [if_pos d0, if_pos d0]
      by_cases d1 : (wId a p c).toInt < 0
      · rw [if_pos (c1.mpr d1), if_pos d1]
      · rw [if_neg (fun h => d1 (c1.mp h)), if_neg d1]
        by_cases d2 : (wId a p c).toInt < z
        · rw [if_pos (c2.mpr d2), if_pos d2]
        · rw [if_neg (fun h => d2 (c2.mp h)), if_neg d2]
    · rw [if_neg d0, if_neg d0]
  rw [show FU = 999997 + 1 + 1 + 1 from rfl, it2_s, hstep _ 0 (by omega), it2_s]
  by_cases h0 : flM x l z a p 0 = 0
  · rw [if_pos h0, h0, hstep _ 1 (by omega), it2_s]
    unfold f_X10_read_62_L80
    rw [if_pos (show (2 : Int32) ≤ nI (1 + 1) from by decide)]
  · rw [if_neg h0]
    unfold f_X10_read_62_L80
    rw [if_neg (show ¬ (2 : Int32) ≤ nI (0 + 1) from by decide), if_neg h0]

def flP (x : Int32) (l z : Nat) (a : Int32) (p : Nat) : Int32 := if x = nI l then (if inb a z = true then (if inb (a + (2 : Int32) * nI p + 1) z = true then (0 : Int32) else 2) else 2) else 3
def fl3 (z : Nat) (w : Int) : Int32 := if w < 0 then 2 else if w < z then 0 else 2
theorem fl3_in {z : Nat} {w : Int} (h1 : 0 ≤ w) (h2 : w < z) : fl3 z w = 0 := by unfold fl3; rw [if_neg (by omega), if_pos h2]
theorem fl3_out {z : Nat} {w : Int} (h : w < 0 ∨ (z : Int) ≤ w) : fl3 z w = 2 := by
  unfold fl3
  by_cases h1 : w < 0
  · rw [if_pos h1]
  · rw [if_neg h1, if_neg (by omega)]
theorem fl_eq {x a : Int32} {l z p : Nat} (hz : z ≤ 40) (hp : p ≤ 13) (hr : p = 0 ∨ inb a z = true) : (if flM x l z a p 0 = 0 then flM x l z a p 1 else flM x l z a p 0) = flP x l z a p := by
  have w0 := wId_int (a := a) (p := p) (c := 0) (by omega) (by omega)
  have w1 := wId_int (a := a) (p := p) (c := 1) (by omega) (by omega)
  by_cases hx : x = nI l
  · have e0 : flM x l z a p 0 = fl3 z (wId a p 0).toInt := by unfold flM fl3; rw [if_pos hx.symm]
    have e1 : flM x l z a p 1 = fl3 z (wId a p 1).toInt := by unfold flM fl3; rw [if_pos hx.symm]
    rw [e0, e1, w0, w1]
    unfold flP
    rw [if_pos hx]
    cases hi : inb a z with
    | true =>
      obtain ⟨A, hA, rfl⟩ := inb_of hi (by omega)
      have hAi : (nI A).toInt = (A : Int) := nI_toInt (by omega)
      rw [lm2, nI_add, al1, hAi, if_pos (show true = true from rfl)]
      by_cases hin : A + 2 * p + 1 < z
      · rw [inb_nI hin (by omega), fl3_in (w := (A : Int) + 2 * (p : Int) + ((0 : Nat) : Int)) (by omega) (by omega), fl3_in (by omega) (by omega), if_pos rfl, if_pos rfl]
      · rw [inb_nIf (by omega) (by omega), fl3_out (w := (A : Int) + 2 * (p : Int) + ((1 : Nat) : Int)) (by omega), if_neg (show ¬ (false = true) by decide)]
        by_cases h2 : A + 2 * p < z
        · rw [fl3_in (by omega) (by omega), if_pos rfl]
        · rw [fl3_out (by omega), if_neg (by decide)]
    | false =>
      have hp0 : p = 0 := by
        rcases hr with h | h
        · exact h
        · rw [hi] at h; cases h
      have hf := inb_f hi
      rw [if_neg (show ¬ (false = true) by decide), fl3_out (w := a.toInt + 2 * (p : Int) + ((0 : Nat) : Int)) (by omega), if_neg (by decide)]
  · have hx' : ¬ nI l = x := fun h => hx h.symm
    have e : ∀ c, flM x l z a p c = 3 := fun c => by unfold flM; rw [if_neg hx']
    unfold flP
    rw [e, e, if_neg hx, if_neg (by decide)]
