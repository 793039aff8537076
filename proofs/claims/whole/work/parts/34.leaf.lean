/-! PURE: leaves -/
theorem rng {α : Sort _} {x N : Int32} {n : Nat} (hN : N.toInt = n) (a b : α) : (if x < 0 then a else if N ≤ x then a else b) = if inb x n = true then b else a := by
  have h0 : (0 : Int32).toInt = 0 := rfl
  by_cases h : inb x n = true
  · rw [if_pos h]
    rw [inb_iff] at h
    rw [if_neg (by rw [i32_lt, h0]; omega), if_neg (by rw [i32_le, hN]; omega)]
  · rw [if_neg h]
    rw [inb_iff] at h
    by_cases h1 : x < 0
    · rw [if_pos h1]
    · rw [i32_lt, h0] at h1
      rw [if_neg (by rw [i32_lt, h0]; omega), if_pos (by rw [i32_le, hN]; omega)]
theorem rngL {α : Sort _} {x N : Int32} {n : Nat} (hN : N.toInt = n) (a b : α) : (if x < 0 then a else if x ≤ N then b else a) = if inb x (n + 1) = true then b else a := by
  have h0 : (0 : Int32).toInt = 0 := rfl
  by_cases h : inb x (n + 1) = true
  · rw [if_pos h]
    rw [inb_iff] at h
    rw [if_neg (by rw [i32_lt, h0]; omega), if_pos (by rw [i32_le, hN]; omega)]
  · rw [if_neg h]
    rw [inb_iff] at h
    by_cases h1 : x < 0
    · rw [if_pos h1]
    · rw [i32_lt, h0] at h1
      rw [if_neg (by rw [i32_lt, h0]; omega), if_neg (by rw [i32_le, hN]; omega)]
theorem bsel (b : Bool) (μ : Mem) : (if b = true then some ((1 : Int32), μ) else some ((0 : Int32), μ)) = some (b2i b, μ) := by cases b <;> rfl
theorem la1 (b : Nat) : (1 : Int32) + nI b = nI (1 + b) := nI_add 1 b
theorem la2 (b : Nat) : (2 : Int32) + nI b = nI (2 + b) := nI_add 2 b
theorem la3 (b : Nat) : (3 : Int32) + nI b = nI (3 + b) := nI_add 3 b
theorem la4 (b : Nat) : (4 : Int32) + nI b = nI (4 + b) := nI_add 4 b
theorem la9 (b : Nat) : (9 : Int32) + nI b = nI (9 + b) := nI_add 9 b
theorem la10 (b : Nat) : (10 : Int32) + nI b = nI (10 + b) := nI_add 10 b
theorem la13 (b : Nat) : (13 : Int32) + nI b = nI (13 + b) := nI_add 13 b
theorem la21 (b : Nat) : (21 : Int32) + nI b = nI (21 + b) := nI_add 21 b
theorem la30 (b : Nat) : (30 : Int32) + nI b = nI (30 + b) := nI_add 30 b
theorem la31 (b : Nat) : (31 : Int32) + nI b = nI (31 + b) := nI_add 31 b
theorem la32 (b : Nat) : (32 : Int32) + nI b = nI (32 + b) := nI_add 32 b
theorem al1 (b : Nat) : nI b + (1 : Int32) = nI (b + 1) := nI_add b 1
theorem al2 (b : Nat) : nI b + (2 : Int32) = nI (b + 2) := nI_add b 2
theorem al3 (b : Nat) : nI b + (3 : Int32) = nI (b + 3) := nI_add b 3
theorem al4 (b : Nat) : nI b + (4 : Int32) = nI (b + 4) := nI_add b 4
theorem lm2 (b : Nat) : (2 : Int32) * nI b = nI (2 * b) := pk_mul 2 b
theorem lm3 (b : Nat) : (3 : Int32) * nI b = nI (3 * b) := pk_mul 3 b
theorem lm4 (b : Nat) : (4 : Int32) * nI b = nI (4 * b) := pk_mul 4 b
theorem lm10 (b : Nat) : (10 : Int32) * nI b = nI (10 * b) := pk_mul 10 b
theorem lm27 (b : Nat) : (27 : Int32) * nI b = nI (27 * b) := pk_mul 27 b
theorem lm40 (b : Nat) : (40 : Int32) * nI b = nI (40 * b) := pk_mul 40 b
theorem ml2 (b : Nat) : nI b * (2 : Int32) = nI (b * 2) := pk_mul b 2
theorem ml3 (b : Nat) : nI b * (3 : Int32) = nI (b * 3) := pk_mul b 3
theorem ml4 (b : Nat) : nI b * (4 : Int32) = nI (b * 4) := pk_mul b 4
theorem la0 (b : Nat) : (0 : Int32) + nI b = nI b := by rw [show (0 : Int32) = nI 0 from rfl, nI_add, Nat.zero_add]
theorem p3 {n : Nat} (h : n ≤ 3) : 3 ^ n ≤ 27 ∧ 1 ≤ 3 ^ n := by
  rcases (show n = 0 ∨ n = 1 ∨ n = 2 ∨ n = 3 by omega) with rfl | rfl | rfl | rfl <;> decide
theorem p_isSide (x : Int32) (μ : Mem) : f_X9_isSide x μ = some (b2i (inb x 4), μ) := by
  unfold f_X9_isSide
  rw [rng (N := 4) (n := 4) rfl, bsel]
theorem p_isImage (x : Int32) (μ : Mem) : f_X9_isImage x μ = some (b2i (inb x 2), μ) := by
  unfold f_X9_isImage
  rw [rng (N := 2) (n := 2) rfl, bsel]
theorem p_isSheet (x : Int32) (μ : Mem) : f_X9_isSheet x μ = some (b2i (inb x 4), μ) := by
  unfold f_X9_isSheet
  rw [rng (N := 4) (n := 4) rfl, bsel]
theorem p_isLane (x : Int32) (μ : Mem) : f_X9_isLane x μ = some (b2i (inb x 3), μ) := by
  unfold f_X9_isLane
  rw [rng (N := 3) (n := 3) rfl, bsel]
theorem inb2 (x : Int32) : inb x 2 = (decide (x = 0) || decide (x = 1)) := by
  apply inb_eq
  have h0 : (0 : Int32).toInt = 0 := rfl
  have h1 : (1 : Int32).toInt = 1 := rfl
  simp only [Bool.or_eq_true, decide_eq_true_eq, i32_eq, h0, h1]
  omega
theorem p_isEither (x : Int32) (μ : Mem) : f_X9_isEither x μ = some (b2i (inb x 2), μ) := by
  unfold f_X9_isEither f_X9_isEither_J9
  rw [inb2]
  by_cases h0 : x = 0
  · rw [if_pos h0]; simp [h0, b2i]
  · by_cases h1 : x = 1
    · rw [if_neg h0, if_pos h1]; simp [h1, b2i]
    · rw [if_neg h0, if_neg h1]; simp [h0, h1, b2i]
theorem p_hasSister {n : Nat} {μ : Mem} (h : μ.1 1 0 = nI n) (hn : n ≤ 3) (x : Int32) : f_X1_hasSister_1 x μ = some (b2i (inb x n), μ) := by
  unfold f_X1_hasSister_1
  rw [rng (n := n) (by rw [h, nI_toInt (by omega)]), bsel]
theorem p_hasEye {n : Nat} {μ : Mem} (h : μ.1 1 0 = nI n) (hn : n ≤ 3) (x : Int32) : f_X1_hasEye_1 x μ = some (b2i (inb x (2 * n)), μ) := by
  unfold f_X1_hasEye_1
  rw [rng (n := 2 * n) (by rw [h, lm2, nI_toInt (by omega)]), bsel]
theorem p_hasQuarter {Q : Nat} {μ : Mem} (h : μ.1 1 1 = nI Q) (hQ : Q ≤ 6) (x : Int32) : f_X1_hasQuarter_1 x μ = some (b2i (inb x Q), μ) := by
  unfold f_X1_hasQuarter_1
  rw [rng (n := Q) (by rw [h, nI_toInt (by omega)]), bsel]
theorem pow_F : ∀ n, n < 4 → powF n = nI (3 ^ n) := by decide +kernel
theorem p_watches {n : Nat} {μ : Mem} (h : μ.1 1 0 = nI n) (hn : n ≤ 3) : f_X1_watches_1 μ = some (nI (3 ^ n), μ) := by
  unfold f_X1_watches_1
  rw [h, inb_nI (by omega) (by omega), nI_clamp (by omega), pow_F n (by omega)]
  rfl
theorem p_hasWatch {n : Nat} {μ : Mem} (h : μ.1 1 0 = nI n) (hn : n ≤ 3) (x : Int32) : f_X1_hasWatch_1 x μ = some (b2i (inb x (3 ^ n)), μ) := by
  unfold f_X1_hasWatch_1
  simp only [p_watches h hn, Option.bind_some]
  have := (p3 hn).1
  rw [rng (n := 3 ^ n) (by rw [nI_toInt (by omega)]), bsel]
theorem p_canTell {n Q : Nat} {μ : Mem} (h : μ.1 1 0 = nI n) (hn : n ≤ 3) (h2 : μ.1 1 1 = nI Q) (hQ : Q ≤ 6) (q w : Int32) : f_X9_canTell_0 q w μ = some (b2i (inb q Q && inb w (3 ^ n)), μ) := by
  unfold f_X9_canTell_0
  simp only [p_hasQuarter h2 hQ, p_hasWatch h hn, Option.bind_some, b2i_z]
  cases inb q Q <;> cases inb w (3 ^ n) <;> rfl
theorem two_n : ∀ n, n < 4 → ((1 : Int32) <<< (nI n &&& 31)) - 1 = nI (2 ^ n - 1) := by decide +kernel
theorem p_everybody {n : Nat} {μ : Mem} (h : μ.1 1 0 = nI n) (hn : n ≤ 3) : f_X1_everybody_1 μ = some (nI (2 ^ n - 1), μ) := by
  unfold f_X1_everybody_1
  rw [h, two_n n (by omega)]
theorem m_isSide (x : Int32) (μ : Mem) : f_X10_isSide x μ = some (b2i (inb x 4), μ) := by
  unfold f_X10_isSide
  simp only [p_in, Option.bind_some, b2i_zb]
  rw [inL_inb (n := 4) (by rfl)]
  rfl
theorem m_isPart (x : Int32) (μ : Mem) : f_X10_isPart x μ = some (b2i (inb x 2), μ) := by
  unfold f_X10_isPart
  simp only [p_in, Option.bind_some, b2i_zb]
  rw [inL_inb (n := 2) (by rfl)]
  rfl
theorem m_isSister {n : Nat} {μ : Mem} (h : μ.1 62 2 = nI n) (hn : n ≤ 3) (x : Int32) : f_X10_isSister_62 x μ = some (b2i (inb x n), μ) := by
  unfold f_X10_isSister_62
  simp only [p_in, Option.bind_some, b2i_zb]
  rw [inL_inb (n := n) (by rw [h]; exact nI_m1 (by omega))]
  rfl
theorem m_isEye {n : Nat} {μ : Mem} (h : μ.1 62 2 = nI n) (hn : n ≤ 3) (x : Int32) : f_X10_isEye_62 x μ = some (b2i (inb x (2 * n)), μ) := by
  unfold f_X10_isEye_62
  simp only [p_in, Option.bind_some, b2i_zb]
  rw [inL_inb (n := 2 * n) (by rw [h, lm2]; exact nI_m1 (by omega))]
  rfl
theorem m_isQuarter {Q : Nat} {μ : Mem} (h : μ.1 62 3 = nI Q) (hQ : Q ≤ 6) (x : Int32) : f_X10_isQuarter_62 x μ = some (b2i (inb x Q), μ) := by
  unfold f_X10_isQuarter_62
  simp only [p_in, Option.bind_some, b2i_zb]
  rw [inL_inb (n := Q) (by rw [h]; exact nI_m1 (by omega))]
  rfl
theorem m_isWatch {n : Nat} {μ : Mem} (h : μ.1 62 4 = nI (3 ^ n)) (hn : n ≤ 3) (x : Int32) : f_X10_isWatch_62 x μ = some (b2i (inb x (3 ^ n)), μ) := by
  have := (p3 hn).1
  unfold f_X10_isWatch_62
  simp only [p_in, Option.bind_some, b2i_zb]
  rw [inL_inb (n := 3 ^ n) (by rw [h]; exact nI_m1 (by omega))]
  rfl
theorem in_lit {x : Int32} {hi : Int64} {n : Nat} (h : hi.toInt = n) (μ : Mem) : f_X10_in x.toInt64 0 hi μ = some (b2i (inb x (n + 1)), μ) := by
  rw [p_in, inL_inb (n := n + 1) (by rw [h]; omega)]
/-- a glass eye -/
def gl (μ : Mem) (j : Nat) : Bool := decide (j % 2 = 0) && decide (μ.1 2 (j / 2) = 1)
theorem nI_and1 {j : Nat} (h : j < 2 ^ 31) : nI j &&& (1 : Int32) = nI (j % 2) := pk_andN (by omega) 1 (by decide)
theorem nI_div2 {j : Nat} (h : j < 2 ^ 31) : nI j / (2 : Int32) = nI (j / 2) := pk_div (d := 2) h (by omega) (by omega)
theorem nI_rem2 {j : Nat} (h : j < 2 ^ 31) : nI j - nI j / (2 : Int32) * (2 : Int32) = nI (j % 2) := pk_rem (d := 2) h (by omega) (by omega)
theorem nI_z {j : Nat} (h : j < 2 ^ 31) : (nI j = 0) ↔ j = 0 := nI_eq (b := 0) h (by omega)
theorem p_glass {n : Nat} {μ : Mem} {j : Nat} (hn : n ≤ 3) (hj : j < 2 * n) : f_X1_isGlassEye_1 (nI j) μ = some (b2i (gl μ j), μ) := by
  unfold f_X1_isGlassEye_1 gl
  rw [nI_and1 (by omega), nI_div2 (by omega), inb_nI (by omega) (by omega), nI_clamp (by omega)]
  simp only [nI_z (j := j % 2) (by omega), Bool.true_eq_false, if_false]
  by_cases h1 : j % 2 = 0 <;> by_cases h2 : μ.1 2 (j / 2) = 1 <;> simp [h1, h2, b2i]
theorem m_glass {n : Nat} {μ : Mem} {j : Nat} (hn : n ≤ 3) (hk : ∀ s, s < n → ∃ k, k < 4 ∧ μ.1 2 s = nI k ∧ μ.1 65 s = nI k) (hj : j < 2 * n) : f_X10_isGlass_62 (nI j) μ = some (b2i (gl μ j), μ) := by
  obtain ⟨k, -, h3, h4⟩ := hk (j / 2) (by omega)
  unfold f_X10_isGlass_62 gl
  rw [nI_rem2 (by omega), nI_div2 (by omega), inb_nI (by omega) (by omega), nI_clamp (by omega), h4, ← h3]
  simp only [nI_z (j := j % 2) (by omega), Bool.true_eq_false, if_false]
  by_cases h1 : j % 2 = 0 <;> by_cases h2 : μ.1 2 (j / 2) = 1 <;> simp [h1, h2, b2i]
theorem st_set : ∀ v, v < 16 → ∀ d, d < 4 → ∃ x, x < 16 ∧ (nI v ||| ((1 : Int32) <<< (nI d &&& 31))) = nI x := by decide +kernel
theorem st_clr : ∀ v, v < 16 → ∀ d, d < 4 → ∃ x, x < 16 ∧ (nI v &&& (((1 : Int32) <<< (nI d &&& 31)) ^^^ (-1 : Int32))) = nI x := by decide +kernel
