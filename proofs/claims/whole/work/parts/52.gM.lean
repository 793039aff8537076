theorem p_fop_27 {μ : Mem} {z l : Nat} (hz : z ≤ 40) (h1 : μ.1 27 1 = nI z) (h0 : μ.1 27 0 = nI l) (x a b : Int32) : f_X6_faultOfPair_27 x a b μ = some (if x = nI l then (if inb a z = true then (if inb (a + (2 : Int32) * b + 1) z = true then (0 : Int32) else 2) else 2) else 3, μ) := by
  have e0 : f_X6_isNothing_27 μ = some (0, μ) := by
    unfold f_X6_isNothing_27
    rw [h1, if_pos (nI_pos' (by omega))]
  unfold f_X6_faultOfPair_27
  rw [bnd e0]
  dsimp only
  rw [if_pos rfl, h0, h1, bnd (p_fault_27 hz h1 _)]
  have hl : (a < nI z) ↔ a.toInt < z := by
    rw [i32_lt, nI_toInt (by omega)]
  have h00 : (a < 0) ↔ a.toInt < 0 := i32_lt a 0
  by_cases hx : x = nI l
  · rw [if_pos hx, if_pos hx]
    cases hi : inb a z with
    | true =>
      have := inb_iff.mp hi
      rw [if_neg (by rw [h00]; omega), if_pos (hl.mpr this.2), if_pos rfl]
    | false =>
      rw [if_neg (show ¬ (false = true) by decide)]
      rcases inb_f hi with h | h
      · rw [if_pos (h00.mpr h)]
      · by_cases h2 : a < 0
        · rw [if_pos h2]
        · rw [if_neg h2, if_neg (by rw [hl]; omega)]
  · rw [if_neg hx, if_neg hx]
theorem p_fopn_27 {μ : Mem} (h1 : μ.1 27 1 = -1) (x a b : Int32) : f_X6_faultOfPair_27 x a b μ = some (1, μ) := by
  unfold f_X6_faultOfPair_27
  rw [bnd (p_none_27 h1)]
  rfl

theorem p_fop_29 {μ : Mem} {z l : Nat} (hz : z ≤ 40) (h1 : μ.1 29 1 = nI z) (h0 : μ.1 29 0 = nI l) (x a b : Int32) : f_X6_faultOfPair_29 x a b μ = some (if x = nI l then (if inb a z = true then (if inb (a + (2 : Int32) * b + 1) z = true then (0 : Int32) else 2) else 2) else 3, μ) := by
  have e0 : f_X6_isNothing_29 μ = some (0, μ) := by
    unfold f_X6_isNothing_29
    rw [h1, if_pos (nI_pos' (by omega))]
  unfold f_X6_faultOfPair_29
  rw [bnd e0]
  dsimp only
  rw [if_pos rfl, h0, h1, bnd (p_fault_29 hz h1 _)]
  have hl : (a < nI z) ↔ a.toInt < z := by
    rw [i32_lt, nI_toInt (by omega)]
  have h00 : (a < 0) ↔ a.toInt < 0 := i32_lt a 0
  by_cases hx : x = nI l
  · rw [if_pos hx, if_pos hx]
    cases hi : inb a z with
    | true =>
      have := inb_iff.mp hi
      rw [if_neg (by rw [h00]; omega), if_pos (hl.mpr this.2), if_pos rfl]
    | false =>
      rw [if_neg (show ¬ (false = true) by decide)]
      rcases inb_f hi with h | h
      · rw [if_pos (h00.mpr h)]
      · by_cases h2 : a < 0
        · rw [if_pos h2]
        · rw [if_neg h2, if_neg (by rw [hl]; omega)]
  · rw [if_neg hx, if_neg hx]
theorem p_fopn_29 {μ : Mem} (h1 : μ.1 29 1 = -1) (x a b : Int32) : f_X6_faultOfPair_29 x a b μ = some (1, μ) := by
  unfold f_X6_faultOfPair_29
  rw [bnd (p_none_29 h1)]
  rfl

theorem p_fop_31 {μ : Mem} {z l : Nat} (hz : z ≤ 40) (h1 : μ.1 31 1 = nI z) (h0 : μ.1 31 0 = nI l) (x a b : Int32) : f_X6_faultOfPair_31 x a b μ = some (if x = nI l then (if inb a z = true then (if inb (a + (2 : Int32) * b + 1) z = true then (0 : Int32) else 2) else 2) else 3, μ) := by
  have e0 : f_X6_isNothing_31 μ = some (0, μ) := by
    unfold f_X6_isNothing_31
    rw [h1, if_pos (nI_pos' (by omega))]
  unfold f_X6_faultOfPair_31
  rw [bnd e0]
  dsimp only
  rw [if_pos rfl, h0, h1, bnd (p_fault_31 hz h1 _)]
  have hl : (a < nI z) ↔ a.toInt < z := by
    rw [i32_lt, nI_toInt (by omega)]
  have h00 : (a < 0) ↔ a.toInt < 0 := i32_lt a 0
  by_cases hx : x = nI l
  · rw [if_pos hx, if_pos hx]
    cases hi : inb a z with
    | true =>
      have := inb_iff.mp hi
      rw [if_neg (by rw [h00]; omega), if_pos (hl.mpr this.2), if_pos rfl]
    | false =>
      rw [if_neg (show ¬ (false = true) by decide)]
      rcases inb_f hi with h | h
      · rw [if_pos (h00.mpr h)]
      · by_cases h2 : a < 0
        · rw [if_pos h2]
        · rw [if_neg h2, if_neg (by rw [hl]; omega)]
  · rw [if_neg hx, if_neg hx]
theorem p_fopn_31 {μ : Mem} (h1 : μ.1 31 1 = -1) (x a b : Int32) : f_X6_faultOfPair_31 x a b μ = some (1, μ) := by
  unfold f_X6_faultOfPair_31
  rw [bnd (p_none_31 h1)]
  rfl

theorem p_fop_33 {μ : Mem} {z l : Nat} (hz : z ≤ 40) (h1 : μ.1 33 1 = nI z) (h0 : μ.1 33 0 = nI l) (x a b : Int32) : f_X6_faultOfPair_33 x a b μ = some (if x = nI l then (if inb a z = true then (if inb (a + (2 : Int32) * b + 1) z = true then (0 : Int32) else 2) else 2) else 3, μ) := by
  have e0 : f_X6_isNothing_33 μ = some (0, μ) := by
    unfold f_X6_isNothing_33
    rw [h1, if_pos (nI_pos' (by omega))]
  unfold f_X6_faultOfPair_33
  rw [bnd e0]
  dsimp only
  rw [if_pos rfl, h0, h1, bnd (p_fault_33 hz h1 _)]
  have hl : (a < nI z) ↔ a.toInt < z := by
    rw [i32_lt, nI_toInt (by omega)]
  have h00 : (a < 0) ↔ a.toInt < 0 := i32_lt a 0
  by_cases hx : x = nI l
  · rw [if_pos hx, if_pos hx]
    cases hi : inb a z with
    | true =>
      have := inb_iff.mp hi
      rw [if_neg (by rw [h00]; omega), if_pos (hl.mpr this.2), if_pos rfl]
    | false =>
      rw [if_neg (show ¬ (false = true) by decide)]
      rcases inb_f hi with h | h
      · rw [if_pos (h00.mpr h)]
      · by_cases h2 : a < 0
        · rw [if_pos h2]
        · rw [if_neg h2, if_neg (by rw [hl]; omega)]
  · rw [if_neg hx, if_neg hx]
theorem p_fopn_33 {μ : Mem} (h1 : μ.1 33 1 = -1) (x a b : Int32) : f_X6_faultOfPair_33 x a b μ = some (1, μ) := by
  unfold f_X6_faultOfPair_33
  rw [bnd (p_none_33 h1)]
  rfl

theorem it2_s {σ1 σ2 ρ : Type} (body : (σ1 → σ2 → Option ρ) → σ1 → σ2 → Option ρ) (k : Nat) : it2 body (k + 1) = body (it2 body k) := rfl
/-- the model's place of a cell, wide -/
def wId (a : Int32) (p c : Nat) : Int64 := (a.toInt64 + (((2 : Int32) * nI p).toInt64)) + ((nI c).toInt64)
theorem wId_int {a : Int32} {p c : Nat} (hp : p ≤ 20) (hc : c ≤ 2) : (wId a p c).toInt = a.toInt + 2 * p + c := by
  have h1 := Int32.le_toInt a
  have h2 := Int32.toInt_lt a
  unfold wId
  rw [lm2, Int64.toInt_add, Int64.toInt_add, wide_int, wide_int, wide_int, nI_toInt (by omega), nI_toInt (by omega)]
  simp only [Int.bmod_def]
  omega
def flM (x : Int32) (l z : Nat) (a : Int32) (p c : Nat) : Int32 := if nI l = x then (if (wId a p c).toInt < 0 then 2 else if (wId a p c).toInt < z then 0 else 2) else 3
