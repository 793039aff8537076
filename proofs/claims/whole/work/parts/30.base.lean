/-! PURE: numbers -/
def b2i (b : Bool) : Int32 := if b = true then 1 else 0
theorem b2i_t : b2i true = 1 := rfl
theorem b2i_f : b2i false = 0 := rfl
theorem b2i_z (b : Bool) : (b2i b = 0) ↔ b = false := by cases b <;> decide
theorem b2i_zb (b : Bool) : zb (b2i b) = true := by cases b <;> decide
theorem inb_iff {x : Int32} {n : Nat} : inb x n = true ↔ 0 ≤ x.toInt ∧ x.toInt < n := by
  rw [← vp_in_iff]
  constructor
  · exact inb_in
  · intro h
    simp only [inb, Bool.and_eq_true, Bool.not_eq_true', decide_eq_false_iff_not, decide_eq_true_eq]
    exact ⟨fun q => h (Or.inl q), Nat.not_le.mp (fun q => h (Or.inr q))⟩
theorem inb_nI {j n : Nat} (h : j < n) (hn : n ≤ 2 ^ 31) : inb (nI j) n = true := by
  rw [inb_iff, nI_toInt (by omega)]
  omega
theorem inb_of {x : Int32} {n : Nat} (h : inb x n = true) (hn : n < 2 ^ 31) : ∃ j, j < n ∧ x = nI j := vp_in_of (inb_in h) hn
theorem inb_nIf {j n : Nat} (h : n ≤ j) (hj : j < 2 ^ 31) : inb (nI j) n = false := by
  cases hx : inb (nI j) n with
  | false => rfl
  | true =>
    rw [inb_iff, nI_toInt hj] at hx
    omega
theorem inb_f {x : Int32} {n : Nat} (h : inb x n = false) : x.toInt < 0 ∨ (n : Int) ≤ x.toInt := by
  have h1 : ¬ (inb x n = true) := by rw [h]; decide
  rw [inb_iff] at h1
  omega
theorem inb_eq {x : Int32} {n : Nat} {b : Bool} (h : (0 ≤ x.toInt ∧ x.toInt < n) ↔ b = true) : inb x n = b := by
  cases hx : inb x n with
  | true => rw [inb_iff] at hx; exact (h.mp hx).symm
  | false =>
    cases b with
    | false => rfl
    | true =>
      have := inb_iff.mpr (h.mpr rfl)
      rw [hx] at this; cases this
theorem lit (n : Nat) : (OfNat.ofNat n : Int32) = nI n := rfl
theorem litL (n : Nat) : (OfNat.ofNat n : Int64) = lN n := rfl
theorem i32_lt (x y : Int32) : x < y ↔ x.toInt < y.toInt := Int32.lt_iff_toInt_lt
theorem i32_le (x y : Int32) : x ≤ y ↔ x.toInt ≤ y.toInt := Int32.le_iff_toInt_le
theorem i32_eq (x y : Int32) : x = y ↔ x.toInt = y.toInt := Int32.toInt_inj.symm
theorem i64_lt (x y : Int64) : x < y ↔ x.toInt < y.toInt := Int64.lt_iff_toInt_lt
theorem i64_le (x y : Int64) : x ≤ y ↔ x.toInt ≤ y.toInt := Int64.le_iff_toInt_le
theorem i64_eq (x y : Int64) : x = y ↔ x.toInt = y.toInt := Int64.toInt_inj.symm
theorem wide_int (x : Int32) : x.toInt64.toInt = x.toInt := Int32.toInt_toInt64 x
theorem cmp_lt (x y : Int64) : (lg_cmp x y < 0) ↔ x < y := by
  have h := lg_cmp_ge x y
  rw [i32_le] at h
  rw [i32_lt]
  rw [i64_le] at h
  rw [i64_lt]
  omega
theorem cmp_gt (x y : Int64) : (0 < lg_cmp x y) ↔ y < x := by
  unfold lg_cmp
  by_cases h : x > y
  · rw [if_pos h]
    exact ⟨fun _ => h, fun _ => by decide⟩
  · rw [if_neg h]
    refine ⟨fun q => ?_, fun q => absurd q h⟩
    split at q
    · exact absurd q (by decide)
    · exact absurd q (by decide)
theorem cmp_eq (x y : Int64) : (lg_cmp x y = 0) ↔ x = y := by
  unfold lg_cmp
  by_cases h : x > y
  · rw [if_pos h]
    refine ⟨fun q => absurd q (by decide), fun q => ?_⟩
    subst q
    rw [gt_iff_lt, i64_lt] at h
    omega
  · rw [if_neg h]
    by_cases h2 : x = y
    · rw [if_pos h2]
      exact ⟨fun _ => h2, fun _ => rfl⟩
    · rw [if_neg h2]
      exact ⟨fun q => absurd q (by decide), fun q => absurd q h2⟩
def inL (v lo hi : Int64) : Bool := decide (lo ≤ v) && decide (v ≤ hi)
theorem p_in (v lo hi : Int64) (μ : Mem) : f_X10_in v lo hi μ = some (b2i (inL v lo hi), μ) := by
  unfold f_X10_in
  simp only [cmp_lt, cmp_gt]
  by_cases h1 : v < lo
  · have h2 : ¬ lo ≤ v := by rw [i64_le]; rw [i64_lt] at h1; omega
    rw [if_pos h1]
    simp [inL, h2, b2i]
  · have h2 : lo ≤ v := by rw [i64_le]; rw [i64_lt] at h1; omega
    rw [if_neg h1]
    by_cases h3 : hi < v
    · have h4 : ¬ v ≤ hi := by rw [i64_le]; rw [i64_lt] at h3; omega
      rw [if_pos h3]
      simp [inL, h4, b2i]
    · have h4 : v ≤ hi := by rw [i64_le]; rw [i64_lt] at h3; omega
      rw [if_neg h3]
      simp [inL, h2, h4, b2i]
theorem lN_i64 {n : Nat} (h : n < 2 ^ 31) : (lN n).toInt = (n : Int) := lN_toInt h
/-- a whole number between 0 and n - 1, asked as longs -/
theorem inL_inb {x : Int32} {n : Nat} {hi : Int64} (h : hi.toInt = (n : Int) - 1) : inL x.toInt64 0 hi = inb x n := by
  refine (inb_eq ?_).symm
  simp only [inL, Bool.and_eq_true, decide_eq_true_eq, i64_le, wide_int, h]
  have h0 : (0 : Int64).toInt = 0 := rfl
  rw [h0]
  omega
theorem nI_m1 {n : Nat} (h : n < 2 ^ 31) : ((nI n) - 1).toInt64.toInt = (n : Int) - 1 := by
  rw [wide_int]
  cases n with
  | zero => rfl
  | succ n =>
    rw [nI_pred, nI_toInt (by omega)]
    omega
