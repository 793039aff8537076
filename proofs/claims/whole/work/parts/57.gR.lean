/-! PURE: bits of a row of watches, of what is marked -/
def bI (x : Int32) (j : Nat) : Bool := x.toBitVec.getLsbD j
def bL (x : Int64) (j : Nat) : Bool := x.toBitVec.getLsbD j
theorem bI_0 (j : Nat) : bI 0 j = false := by
  show (0#32).getLsbD j = false
  simp
theorem bL_0 (j : Nat) : bL 0 j = false := by
  show (0#64).getLsbD j = false
  simp
theorem sh_am : ∀ w, w < 31 → ((nI w &&& 31).toBitVec.smod 32).toNat = w := by decide +kernel
theorem sh_amL : ∀ w, w < 64 → (((nI w).toInt64 &&& 63).toBitVec.smod 64).toNat = w := by decide +kernel
theorem bI_test {x : Int32} {w : Nat} (hw : w < 31) : ((x >>> (nI w &&& 31)) &&& 1 = 1) ↔ bI x w = true := by
  have e : (x >>> (nI w &&& 31)).toBitVec = x.toBitVec.sshiftRight w := by
    show x.toBitVec.sshiftRight ((nI w &&& 31).toBitVec.smod 32).toNat = _
    rw [sh_am w hw]
  rw [← Int32.toBitVec_inj, Int32.toBitVec_and, e]
  show x.toBitVec.sshiftRight w &&& 1#32 = 1#32 ↔ x.toBitVec.getLsbD w = true
  have h32 : w < 32 := by omega
  constructor
  · intro h
    have t : (x.toBitVec.sshiftRight w &&& 1#32).getLsbD 0 = (1#32).getLsbD 0 := by rw [h]
    rw [BitVec.getLsbD_and, BitVec.getLsbD_sshiftRight, Nat.add_zero, if_pos h32, show (1#32).getLsbD 0 = true from rfl, Bool.and_true] at t
    simpa using t
  · intro h
    apply BitVec.eq_of_getLsbD_eq
    intro i hi
    rw [BitVec.getLsbD_and]
    by_cases e : i = 0
    · subst e
      simp [BitVec.getLsbD_sshiftRight, h32, h]
    · simp [BitVec.getLsbD_one, e]
theorem bL_test {x : Int64} {w : Nat} (hw : w < 64) : ((x >>> ((nI w).toInt64 &&& 63)) &&& 1 = 1) ↔ bL x w = true := by
  have e : (x >>> ((nI w).toInt64 &&& 63)).toBitVec = x.toBitVec.sshiftRight w := by
    show x.toBitVec.sshiftRight (((nI w).toInt64 &&& 63).toBitVec.smod 64).toNat = _
    rw [sh_amL w hw]
  rw [← Int64.toBitVec_inj, Int64.toBitVec_and, e]
  show x.toBitVec.sshiftRight w &&& 1#64 = 1#64 ↔ x.toBitVec.getLsbD w = true
  constructor
  · intro h
    have t : (x.toBitVec.sshiftRight w &&& 1#64).getLsbD 0 = (1#64).getLsbD 0 := by rw [h]
    rw [BitVec.getLsbD_and, BitVec.getLsbD_sshiftRight, Nat.add_zero, if_pos hw, show (1#64).getLsbD 0 = true from rfl, Bool.and_true] at t
    simpa using t
  · intro h
    apply BitVec.eq_of_getLsbD_eq
    intro i hi
    rw [BitVec.getLsbD_and]
    by_cases e : i = 0
    · subst e
      simp [BitVec.getLsbD_sshiftRight, hw, h]
    · simp [BitVec.getLsbD_one, e]
theorem bI_set {x : Int32} {w j : Nat} (hw : w < 31) : bI (x ||| ((1 : Int32) <<< (nI w &&& 31))) j = (bI x j || decide (j = w)) := by
  have e : ((1 : Int32) <<< (nI w &&& 31)).toBitVec = BitVec.twoPow 32 w := by
    show (1#32) <<< ((nI w &&& 31).toBitVec.smod 32).toNat = _
    rw [sh_am w hw]
    rfl
  unfold bI
  rw [Int32.toBitVec_or, e, BitVec.getLsbD_or, BitVec.getLsbD_twoPow, decide_eq_true (show w < 32 by omega), Bool.true_and, show decide (w = j) = decide (j = w) from decide_eq_decide.mpr ⟨Eq.symm, Eq.symm⟩]
theorem bL_set {x : Int64} {w j : Nat} (hw : w < 64) : bL (x ||| ((1 : Int64) <<< ((nI w).toInt64 &&& 63))) j = (bL x j || decide (j = w)) := by
  have e : ((1 : Int64) <<< ((nI w).toInt64 &&& 63)).toBitVec = BitVec.twoPow 64 w := by
    show (1#64) <<< (((nI w).toInt64 &&& 63).toBitVec.smod 64).toNat = _
    rw [sh_amL w hw]
    rfl
  unfold bL
  rw [Int64.toBitVec_or, e, BitVec.getLsbD_or, BitVec.getLsbD_twoPow, decide_eq_true hw, Bool.true_and, show decide (w = j) = decide (j = w) from decide_eq_decide.mpr ⟨Eq.symm, Eq.symm⟩]
/-! figures -/
def wtC (C : Nat → Bool) (b : Nat) : Nat → Nat
  | 0 => 1
  | e + 1 => if C e = true then wtC C b e * b else wtC C b e
def encC (C : Nat → Bool) (b : Nat) (L : Nat → Nat) : Nat → Nat
  | 0 => 0
  | e + 1 => if C e = true then encC C b L e + L e * wtC C b e else encC C b L e
def dgC (C : Nat → Bool) (b v e : Nat) : Nat := v / wtC C b e % b
def cnC (C : Nat → Bool) : Nat → Nat
  | 0 => 0
  | e + 1 => if C e = true then cnC C e + 1 else cnC C e
theorem wtC_pos {C : Nat → Bool} {b : Nat} (hb : 0 < b) : ∀ e, 0 < wtC C b e
  | 0 => by show 0 < 1; omega
  | e + 1 => by
    unfold wtC
    split
    · exact Nat.mul_pos (wtC_pos hb e) hb
    · exact wtC_pos hb e
theorem wtC_t {C : Nat → Bool} {b e : Nat} (h : C e = true) : wtC C b (e + 1) = wtC C b e * b := by
  show (if C e = true then wtC C b e * b else wtC C b e) = _
  rw [if_pos h]
theorem wtC_f {C : Nat → Bool} {b e : Nat} (h : ¬ C e = true) : wtC C b (e + 1) = wtC C b e := by
  show (if C e = true then wtC C b e * b else wtC C b e) = _
  rw [if_neg h]
theorem encC_t {C : Nat → Bool} {b e : Nat} {L : Nat → Nat} (h : C e = true) : encC C b L (e + 1) = encC C b L e + L e * wtC C b e := by
  show (if C e = true then encC C b L e + L e * wtC C b e else encC C b L e) = _
  rw [if_pos h]
theorem encC_f {C : Nat → Bool} {b e : Nat} {L : Nat → Nat} (h : ¬ C e = true) : encC C b L (e + 1) = encC C b L e := by
  show (if C e = true then encC C b L e + L e * wtC C b e else encC C b L e) = _
  rw [if_neg h]
theorem cnC_t {C : Nat → Bool} {e : Nat} (h : C e = true) : cnC C (e + 1) = cnC C e + 1 := by
  show (if C e = true then cnC C e + 1 else cnC C e) = _
  rw [if_pos h]
theorem cnC_f {C : Nat → Bool} {e : Nat} (h : ¬ C e = true) : cnC C (e + 1) = cnC C e := by
  show (if C e = true then cnC C e + 1 else cnC C e) = _
  rw [if_neg h]
theorem wtC_pow {C : Nat → Bool} {b : Nat} : ∀ e, wtC C b e = b ^ cnC C e
  | 0 => rfl
  | e + 1 => by
    by_cases h : C e = true
    · rw [wtC_t h, cnC_t h, wtC_pow e, Nat.pow_succ]
    · rw [wtC_f h, cnC_f h, wtC_pow e]
theorem cnC_mono {C : Nat → Bool} {a : Nat} : ∀ k, a ≤ k → cnC C a ≤ cnC C k
  | 0, h => by rw [show a = 0 by omega]; exact Nat.le_refl _
  | k + 1, h => by
    by_cases hk : a = k + 1
    · rw [hk]; exact Nat.le_refl _
    · have := cnC_mono (C := C) (a := a) k (by omega)
      by_cases hc : C k = true
      · rw [cnC_t hc]; omega
      · rw [cnC_f hc]; exact this
theorem cnC_le {C : Nat → Bool} : ∀ e, cnC C e ≤ e
  | 0 => Nat.le_refl _
  | e + 1 => by
    have := cnC_le (C := C) e
    by_cases h : C e = true
    · rw [cnC_t h]; omega
    · rw [cnC_f h]; omega
theorem encC_congr {C : Nat → Bool} {b : Nat} {L M : Nat → Nat} : ∀ k, (∀ e, e < k → C e = true → L e = M e) → encC C b L k = encC C b M k
  | 0, _ => rfl
  | k + 1, h => by
    have ih := encC_congr (C := C) (b := b) (L := L) (M := M) k (fun e he => h e (by omega))
    by_cases hc : C k = true
    · rw [encC_t hc, encC_t hc, ih, h k (by omega) hc]
    · rw [encC_f hc, encC_f hc, ih]
theorem encC_lt {C : Nat → Bool} {b : Nat} {L : Nat → Nat} (hb : 0 < b) : ∀ k, (∀ e, e < k → C e = true → L e < b) → encC C b L k < wtC C b k
  | 0, _ => by show 0 < 1; omega
  | k + 1, h => by
    have ih := encC_lt (C := C) (b := b) (L := L) hb k (fun e he => h e (by omega))
    by_cases hc : C k = true
    · rw [encC_t hc, wtC_t hc]
      have h1 := h k (by omega) hc
      have h2 : (L k + 1) * wtC C b k ≤ b * wtC C b k := Nat.mul_le_mul_right _ h1
      rw [Nat.add_mul, Nat.one_mul, Nat.mul_comm b] at h2
      omega
    · rw [encC_f hc, wtC_f hc]; exact ih
/-- a weight further up is a multiple of b times this one -/
theorem wtC_mul {C : Nat → Bool} {b e : Nat} (h : C e = true) : ∀ k, e < k → ∃ m, wtC C b k = wtC C b e * (b * m)
  | 0, hk => by omega
  | k + 1, hk => by
    by_cases he : e = k
    · subst he
      exact ⟨1, by rw [wtC_t h, Nat.mul_one]⟩
    · obtain ⟨m, hm⟩ := wtC_mul h k (by omega)
      by_cases hc : C k = true
      · exact ⟨m * b, by rw [wtC_t hc, hm, Nat.mul_assoc, Nat.mul_assoc]⟩
      · exact ⟨m, by rw [wtC_f hc, hm]⟩
theorem dg_enc {C : Nat → Bool} {b : Nat} {L : Nat → Nat} (hb : 0 < b) : ∀ k, (∀ e, e < k → C e = true → L e < b) → ∀ e, e < k → C e = true → dgC C b (encC C b L k) e = L e
  | 0, _, e, he, _ => by omega
  | k + 1, h, e, he, hce => by
    have hk : ∀ e, e < k → C e = true → L e < b := fun e he => h e (by omega)
    have ih := dg_enc (C := C) (b := b) (L := L) hb k hk
    by_cases hc : C k = true
    · rw [encC_t hc]
      unfold dgC at ih ⊢
      by_cases hek : e = k
      · subst hek
        rw [Nat.add_mul_div_right _ _ (wtC_pos hb e), Nat.div_eq_of_lt (encC_lt hb e hk), Nat.zero_add, Nat.mod_eq_of_lt (h e (by omega) hc)]
      · obtain ⟨m, hm⟩ := wtC_mul (b := b) hce k (by omega)
        have hx : encC C b L k + L k * wtC C b k = encC C b L k + wtC C b e * (b * (m * L k)) := by
          rw [hm, Nat.mul_comm (L k), Nat.mul_assoc, Nat.mul_assoc]
        rw [hx, Nat.add_mul_div_left _ _ (wtC_pos hb e), Nat.add_mul_mod_self_left]
        exact ih e (by omega) hce
    · rw [encC_f hc]
      have : e ≠ k := by rintro rfl; exact hc hce
      exact ih e (by omega) hce
theorem enc_dg {C : Nat → Bool} {b v : Nat} : ∀ k, encC C b (dgC C b v) k = v % wtC C b k
  | 0 => by show 0 = v % 1; omega
  | k + 1 => by
    by_cases hc : C k = true
    · rw [encC_t hc, wtC_t hc, enc_dg k, Nat.mod_mul]
      unfold dgC
      rw [Nat.mul_comm (wtC C b k)]
    · rw [encC_f hc, wtC_f hc, enc_dg k]
theorem dg_lt {C : Nat → Bool} {b v e : Nat} (hb : 0 < b) : dgC C b v e < b := Nat.mod_lt _ hb
theorem enc_one {C : Nat → Bool} {b i : Nat} {L M : Nat → Nat} (hi : C i = true) (h1 : M i + 1 = L i) (h2 : ∀ e, e ≠ i → M e = L e) : ∀ k, i < k → encC C b M k + wtC C b i = encC C b L k
  | 0, h => by omega
  | k + 1, h => by
    by_cases hk : i = k
    · subst hk
      rw [encC_t hi, encC_t hi, encC_congr (M := L) i (fun e he _ => h2 e (by omega)), ← h1, Nat.add_mul, Nat.one_mul, Nat.add_assoc]
    · have ih := enc_one (C := C) (b := b) hi h1 h2 k (by omega)
      by_cases hc : C k = true
      · rw [encC_t hc, encC_t hc, ← ih, h2 k (by omega)]
        omega
      · rw [encC_f hc, encC_f hc, ih]
theorem enc_cn {C : Nat → Bool} {b a : Nat} {L : Nat → Nat} : ∀ k, a ≤ k → cnC C a = cnC C k → encC C b L a = encC C b L k
  | 0, h, _ => by rw [show a = 0 by omega]
  | k + 1, h, hc => by
    by_cases hk : a = k + 1
    · rw [hk]
    · by_cases hk2 : C k = true
      · have := cnC_mono (C := C) (a := a) k (by omega)
        rw [cnC_t hk2] at hc
        omega
      · rw [cnC_f hk2] at hc
        rw [encC_f hk2]
        exact enc_cn k (by omega) hc
/-- all lack the most: the highest number -/
theorem enc_all {C : Nat → Bool} {r : Nat} : ∀ k, encC C (r + 1) (fun _ => r) k + 1 = wtC C (r + 1) k
  | 0 => rfl
  | k + 1 => by
    have ih := enc_all (C := C) (r := r) k
    by_cases hc : C k = true
    · rw [encC_t hc, wtC_t hc, ← ih]
      generalize encC C (r + 1) (fun _ => r) k = E
      rw [Nat.mul_succ (E + 1) r, Nat.mul_comm r (E + 1)]
      omega
    · rw [encC_f hc, wtC_f hc, ih]
/-! which eyes count, in order -/
def evC (C : Nat → Bool) : Nat → Nat → Nat
  | 0 => fun _ => 0
  | e + 1 => fun k => if C e = true ∧ k = cnC C e then e else evC C e k
theorem evC_ok {C : Nat → Bool} : ∀ e k, k < cnC C e → evC C e k < e ∧ C (evC C e k) = true ∧ cnC C (evC C e k) = k
  | 0, k, h => by have : k < 0 := h; omega
  | e + 1, k, h => by
    show (if C e = true ∧ k = cnC C e then e else evC C e k) < e + 1 ∧ C (if C e = true ∧ k = cnC C e then e else evC C e k) = true ∧ cnC C (if C e = true ∧ k = cnC C e then e else evC C e k) = k
    by_cases hc : C e = true ∧ k = cnC C e
    · rw [if_pos hc]
      exact ⟨by omega, hc.1, hc.2.symm⟩
    · rw [if_neg hc]
      have hk : k < cnC C e := by
        by_cases h1 : C e = true
        · rw [cnC_t h1] at h
          have : k ≠ cnC C e := fun h2 => hc ⟨h1, h2⟩
          omega
        · rw [cnC_f h1] at h; exact h
      obtain ⟨g1, g2, g3⟩ := evC_ok e k hk
      exact ⟨by omega, g2, g3⟩
def epC (C : Nat → Bool) (k : Nat) : Nat := if k < cnC C 6 then evC C 6 k else 6
theorem epC_cn {C : Nat → Bool} {k : Nat} (h : k ≤ cnC C 6) : cnC C (epC C k) = k := by
  unfold epC
  by_cases hk : k < cnC C 6
  · rw [if_pos hk]; exact (evC_ok 6 k hk).2.2
  · rw [if_neg hk]; omega
theorem epC_nx {C : Nat → Bool} {k : Nat} (h : k < cnC C 6) : evC C 6 k + 1 ≤ epC C (k + 1) ∧ cnC C (evC C 6 k + 1) = k + 1 := by
  obtain ⟨g1, g2, g3⟩ := evC_ok (C := C) 6 k h
  have hc : cnC C (evC C 6 k + 1) = k + 1 := by rw [cnC_t g2, g3]
  refine ⟨?_, hc⟩
  have h1 := epC_cn (C := C) (k := k + 1) (by omega)
  by_cases hlt : epC C (k + 1) < evC C 6 k + 1
  · have := cnC_mono (C := C) (a := epC C (k + 1)) (evC C 6 k) (by omega)
    omega
  · omega
theorem enc_nx {C : Nat → Bool} {b k : Nat} {L : Nat → Nat} (h : k < cnC C 6) : encC C b L (epC C (k + 1)) = encC C b L (evC C 6 k) + L (evC C 6 k) * wtC C b (evC C 6 k) := by
  obtain ⟨h1, h2⟩ := epC_nx h
  rw [← encC_t (evC_ok 6 k h).2.1, ← enc_cn (epC C (k + 1)) h1 (by rw [h2, epC_cn (by omega)])]
theorem wt_nx {C : Nat → Bool} {b k : Nat} (h : k < cnC C 6) : wtC C b (epC C (k + 1)) = wtC C b (evC C 6 k) * b := by
  rw [wtC_pow, wtC_pow, epC_cn (by omega), (evC_ok 6 k h).2.2, Nat.pow_succ]
/-! what can be done from a quarter on -/
def anyB (f : Nat → Bool) : Nat → Bool
  | 0 => false
  | k + 1 => anyB f k || f k
theorem anyB_iff {f : Nat → Bool} : ∀ k, anyB f k = true ↔ ∃ i, i < k ∧ f i = true
  | 0 => by
    constructor
    · intro h; cases h
    · rintro ⟨i, h, _⟩; omega
  | k + 1 => by
    show (anyB f k || f k) = true ↔ _
    rw [Bool.or_eq_true, anyB_iff k]
    constructor
    · rintro (⟨i, h1, h2⟩ | h)
      · exact ⟨i, by omega, h2⟩
      · exact ⟨k, by omega, h⟩
    · rintro ⟨i, h1, h2⟩
      by_cases h : i = k
      · subst h; exact Or.inr h2
      · exact Or.inl ⟨i, by omega, h2⟩
theorem anyB_f {f : Nat → Bool} {k : Nat} : anyB f k = false ↔ ∀ i, i < k → f i = false := by
  constructor
  · intro h i hi
    cases hf : f i with
    | false => rfl
    | true =>
      have := (anyB_iff k).mpr ⟨i, hi, hf⟩
      rw [h] at this; cases this
  · intro h
    cases ha : anyB f k with
    | false => rfl
    | true =>
      obtain ⟨i, hi, h2⟩ := (anyB_iff k).mp ha
      rw [h i hi] at h2; cases h2
def fsB (f : Nat → Bool) : Nat → Nat
  | 0 => 0
  | k + 1 => if anyB f k = true then fsB f k else k
theorem fsB_at {f : Nat → Bool} {i : Nat} (h1 : f i = true) (h2 : ∀ j, j < i → f j = false) : ∀ k, i < k → fsB f k = i
  | 0, h => by omega
  | k + 1, h => by
    show (if anyB f k = true then fsB f k else k) = i
    by_cases hk : i = k
    · subst hk
      rw [if_neg (by rw [anyB_f.mpr h2]; decide)]
    · rw [if_pos ((anyB_iff k).mpr ⟨i, by omega, h1⟩)]
      exact fsB_at h1 h2 k (by omega)
theorem fsB_ok {f : Nat → Bool} : ∀ k, anyB f k = true → fsB f k < k ∧ f (fsB f k) = true ∧ ∀ j, j < fsB f k → f j = false
  | 0, h => by cases h
  | k + 1, h => by
    show (if anyB f k = true then fsB f k else k) < k + 1 ∧ f (if anyB f k = true then fsB f k else k) = true ∧ ∀ j, j < (if anyB f k = true then fsB f k else k) → f j = false
    by_cases ha : anyB f k = true
    · rw [if_pos ha]
      obtain ⟨g1, g2, g3⟩ := fsB_ok k ha
      exact ⟨by omega, g2, g3⟩
    · rw [if_neg ha]
      have hf : anyB f k = false := by cases h : anyB f k <;> simp [h] at ha ⊢
      have h' : (anyB f k || f k) = true := h
      rw [hf, Bool.false_or] at h'
      exact ⟨by omega, h', anyB_f.mp hf⟩
theorem anyB_congr {f g : Nat → Bool} {k : Nat} (h : ∀ i, i < k → f i = g i) : anyB f k = anyB g k := by
  cases hg : anyB g k with
  | true =>
    obtain ⟨i, hi, h2⟩ := (anyB_iff k).mp hg
    exact (anyB_iff k).mpr ⟨i, hi, by rw [h i hi]; exact h2⟩
  | false => exact anyB_f.mpr (fun i hi => by rw [h i hi]; exact anyB_f.mp hg i hi)
theorem fsB_congr {f g : Nat → Bool} : ∀ k, (∀ i, i < k → f i = g i) → fsB f k = fsB g k
  | 0, _ => rfl
  | k + 1, h => by
    show (if anyB f k = true then fsB f k else k) = (if anyB g k = true then fsB g k else k)
    rw [anyB_congr (fun i hi => h i (by omega)), fsB_congr k (fun i hi => h i (by omega))]
def stQ (L : Nat → Nat) (w e : Nat) : Nat := L e - (shut w e).toNat
def azQ (C : Nat → Bool) (L : Nat → Nat) : Bool := (!C 0 || decide (L 0 = 0)) && (!C 1 || decide (L 1 = 0)) && (!C 2 || decide (L 2 = 0)) && (!C 3 || decide (L 3 = 0)) && (!C 4 || decide (L 4 = 0)) && (!C 5 || decide (L 5 = 0))
theorem azQ_iff {C : Nat → Bool} {L : Nat → Nat} : azQ C L = true ↔ ∀ e, e < 6 → C e = true → L e = 0 := by
  have h1 : ∀ e, (!C e || decide (L e = 0)) = true ↔ (C e = true → L e = 0) := by
    intro e
    cases C e <;> simp
  unfold azQ
  rw [Bool.and_eq_true, Bool.and_eq_true, Bool.and_eq_true, Bool.and_eq_true, Bool.and_eq_true, h1, h1, h1, h1, h1, h1]
  constructor
  · rintro ⟨⟨⟨⟨⟨g0, g1⟩, g2⟩, g3⟩, g4⟩, g5⟩
    exact six g0 g1 g2 g3 g4 g5
  · intro h
    exact ⟨⟨⟨⟨⟨h 0 (by omega), h 1 (by omega)⟩, h 2 (by omega)⟩, h 3 (by omega)⟩, h 4 (by omega)⟩, h 5 (by omega)⟩
def cvQ (A : Nat → Nat → Bool) (C : Nat → Bool) : Nat → Nat → (Nat → Nat) → Bool
  | 0, _, L => azQ C L
  | k + 1, q, L => anyB (fun w => A q w && cvQ A C k (q + 1) (stQ L w)) 27
theorem cv_mono {A : Nat → Nat → Bool} {C : Nat → Bool} : ∀ k q L M, (∀ e, e < 6 → C e = true → M e ≤ L e) → cvQ A C k q L = true → cvQ A C k q M = true
  | 0, q, L, M, h, hc => by
    have hc := azQ_iff.mp (show azQ C L = true from hc)
    refine azQ_iff.mpr (fun e he hC => ?_)
    have := h e he hC
    have := hc e he hC
    omega
  | k + 1, q, L, M, h, hc => by
    obtain ⟨w, hw, h2⟩ := (anyB_iff 27).mp hc
    rw [Bool.and_eq_true] at h2
    refine (anyB_iff 27).mpr ⟨w, hw, ?_⟩
    rw [Bool.and_eq_true]
    refine ⟨h2.1, cv_mono k (q + 1) _ _ (fun e he hC => ?_) h2.2⟩
    have := h e he hC
    unfold stQ
    omega
theorem cv_congr {A : Nat → Nat → Bool} {C : Nat → Bool} {k q : Nat} {L M : Nat → Nat} (h : ∀ e, e < 6 → C e = true → L e = M e) : cvQ A C k q L = cvQ A C k q M := by
  cases h1 : cvQ A C k q M with
  | true => exact cv_mono k q M L (fun e he hC => by rw [h e he hC]; exact Nat.le_refl _) h1
  | false =>
    cases h2 : cvQ A C k q L with
    | false => rfl
    | true =>
      have := cv_mono k q L M (fun e he hC => by rw [h e he hC]; exact Nat.le_refl _) h2
      rw [h1] at this; cases this
/-- the first way, quarter by quarter -/
def gpQ (A : Nat → Nat → Bool) (C : Nat → Bool) : Nat → Nat → (Nat → Nat) → Nat → Nat
  | 0, _, _, _ => 0
  | k + 1, q, L, 0 => fsB (fun w => A q w && cvQ A C k (q + 1) (stQ L w)) 27
  | k + 1, q, L, j + 1 => gpQ A C k (q + 1) (stQ L (fsB (fun w => A q w && cvQ A C k (q + 1) (stQ L w)) 27)) j
theorem stp_congr {C : Nat → Bool} {L M : Nat → Nat} {w : Nat} (h : ∀ e, e < 6 → C e = true → L e = M e) : ∀ e, e < 6 → C e = true → stQ L w e = stQ M w e := by
  intro e he hC
  unfold stQ
  rw [h e he hC]
theorem gp_congr {A : Nat → Nat → Bool} {C : Nat → Bool} : ∀ k q L M, (∀ e, e < 6 → C e = true → L e = M e) → ∀ j, gpQ A C k q L j = gpQ A C k q M j
  | 0, _, _, _, _, _ => rfl
  | k + 1, q, L, M, h, j => by
    have hf : fsB (fun w => A q w && cvQ A C k (q + 1) (stQ L w)) 27 = fsB (fun w => A q w && cvQ A C k (q + 1) (stQ M w)) 27 := fsB_congr 27 (fun w _ => by
      show (A q w && cvQ A C k (q + 1) (stQ L w)) = (A q w && cvQ A C k (q + 1) (stQ M w))
      rw [cv_congr (stp_congr h)])
    cases j with
    | zero => exact hf
    | succ j =>
      show gpQ A C k (q + 1) (stQ L (fsB (fun w => A q w && cvQ A C k (q + 1) (stQ L w)) 27)) j = gpQ A C k (q + 1) (stQ M (fsB (fun w => A q w && cvQ A C k (q + 1) (stQ M w)) 27)) j
      rw [hf]
      exact gp_congr k (q + 1) _ _ (stp_congr h) j
/-! the time there is -/
def lkC (C : Nat → Bool) (L : Nat → Nat) (e : Nat) : Nat := if C e = true then L e else 0
def popW (C : Nat → Bool) (w : Nat) : Nat := popN (mk6 fun e => shut w e && C e)
theorem popN_mk (f : Nat → Bool) : popN (mk6 f) = (f 0).toNat + (f 1).toNat + (f 2).toNat + (f 3).toNat + (f 4).toNat + (f 5).toNat := by
  unfold popN mk6
  have h : ∀ b : Bool, b.toNat ≤ 1 := by decide
  have h0 := h (f 0)
  have h1 := h (f 1)
  have h2 := h (f 2)
  have h3 := h (f 3)
  have h4 := h (f 4)
  have h5 := h (f 5)
  omega
def mtC (m : Nat → Nat) : Nat → Nat → Nat
  | 0, _ => 0
  | k + 1, q => m q + mtC m k (q + 1)
theorem shut_one : ∀ w, w < 27 → ∀ s, s < 3 → (shut w (2 * s)).toNat + (shut w (2 * s + 1)).toNat ≤ 1 := by decide +kernel
theorem lk_stp {C : Nat → Bool} {L : Nat → Nat} {w e : Nat} : lkC C L e ≤ lkC C (stQ L w) e + (shut w e && C e).toNat ∧ lkC C L e ≤ lkC C (stQ L w) e + (shut w e).toNat := by
  unfold lkC stQ
  cases C e with
  | false => simp
  | true => simp; omega
theorem cv_time {A : Nat → Nat → Bool} {C : Nat → Bool} {m : Nat → Nat} (hm : ∀ q w, w < 27 → A q w = true → popW C w ≤ m q) : ∀ k q L, cvQ A C k q L = true → (∀ s, s < 3 → lkC C L (2 * s) + lkC C L (2 * s + 1) ≤ k) ∧ lkC C L 0 + lkC C L 1 + lkC C L 2 + lkC C L 3 + lkC C L 4 + lkC C L 5 ≤ mtC m k q
  | 0, q, L, h => by
    have h := azQ_iff.mp (show azQ C L = true from h)
    have hz : ∀ e, e < 6 → lkC C L e = 0 := fun e he => by
      unfold lkC
      split
      · exact h e he (by assumption)
      · rfl
    refine ⟨fun s hs => ?_, ?_⟩
    · rw [hz _ (by omega), hz _ (by omega)]; exact Nat.le_refl _
    · rw [hz 0 (by omega), hz 1 (by omega), hz 2 (by omega), hz 3 (by omega), hz 4 (by omega), hz 5 (by omega)]; exact Nat.zero_le _
  | k + 1, q, L, h => by
    obtain ⟨w, hw, h2⟩ := (anyB_iff 27).mp h
    rw [Bool.and_eq_true] at h2
    obtain ⟨g1, g2⟩ := cv_time hm k (q + 1) _ h2.2
    have hp := hm q w hw h2.1
    unfold popW at hp
    rw [popN_mk] at hp
    refine ⟨fun s hs => ?_, ?_⟩
    · have := g1 s hs
      have := shut_one w hw s hs
      have := (lk_stp (C := C) (L := L) (w := w) (e := 2 * s)).2
      have := (lk_stp (C := C) (L := L) (w := w) (e := 2 * s + 1)).2
      omega
    · have := (lk_stp (C := C) (L := L) (w := w) (e := 0)).1
      have := (lk_stp (C := C) (L := L) (w := w) (e := 1)).1
      have := (lk_stp (C := C) (L := L) (w := w) (e := 2)).1
      have := (lk_stp (C := C) (L := L) (w := w) (e := 3)).1
      have := (lk_stp (C := C) (L := L) (w := w) (e := 4)).1
      have := (lk_stp (C := C) (L := L) (w := w) (e := 5)).1
      show _ ≤ m q + mtC m k (q + 1)
      omega
/-! the next code -/
def nxC (C : Nat → Bool) (b v w : Nat) : Nat := encC C b (stQ (dgC C b v) w) 6
theorem nxC_lt {C : Nat → Bool} {b v w : Nat} (hb : 0 < b) : nxC C b v w < wtC C b 6 := encC_lt hb 6 (fun e _ _ => Nat.lt_of_le_of_lt (Nat.sub_le _ _) (dg_lt hb))
theorem nxC_dg {C : Nat → Bool} {b v w : Nat} (hb : 0 < b) : ∀ e, e < 6 → C e = true → dgC C b (nxC C b v w) e = stQ (dgC C b v) w e := fun e he hC => dg_enc hb 6 (fun e _ _ => Nat.lt_of_le_of_lt (Nat.sub_le _ _) (dg_lt hb)) e he hC
theorem enc_id {C : Nat → Bool} {b v : Nat} (h : v < wtC C b 6) : encC C b (dgC C b v) 6 = v := by rw [enc_dg, Nat.mod_eq_of_lt h]
theorem az_code {C : Nat → Bool} {b v : Nat} (hb : 0 < b) (h : v < wtC C b 6) : azQ C (dgC C b v) = decide (v = 0) := by
  have key : azQ C (dgC C b v) = true ↔ v = 0 := by
    rw [azQ_iff]
    refine ⟨fun hz => ?_, fun hz e _ _ => ?_⟩
    · have h0 : encC C b (dgC C b v) 6 = encC C b (fun _ => 0) 6 := encC_congr 6 hz
      have h1 : ∀ k, encC C b (fun _ => 0) k = 0 := by
        intro k
        induction k with
        | zero => rfl
        | succ k ih =>
          by_cases hc : C k = true
          · rw [encC_t hc, ih, Nat.zero_mul]
          · rw [encC_f hc, ih]
      rw [enc_id h, h1] at h0
      exact h0
    · subst hz
      unfold dgC
      rw [Nat.zero_div, Nat.zero_mod]
  by_cases hv : v = 0
  · rw [decide_eq_true hv]; exact key.mpr hv
  · rw [decide_eq_false hv]
    cases hz : azQ C (dgC C b v) with
    | false => rfl
    | true => exact absurd (key.mp hz) hv
theorem dg_all {C : Nat → Bool} {r : Nat} : ∀ e, e < 6 → C e = true → dgC C (r + 1) (wtC C (r + 1) 6 - 1) e = r := by
  intro e he hC
  have h := enc_all (C := C) (r := r) 6
  have h2 := dg_enc (C := C) (b := r + 1) (L := fun _ => r) (by omega) 6 (fun _ _ _ => by omega) e he hC
  rw [show wtC C (r + 1) 6 - 1 = encC C (r + 1) (fun _ => r) 6 by omega]
  exact h2
def prC (C : Nat → Bool) : Bool := (C 0 && C 1) || (C 2 && C 3) || (C 4 && C 5)
def c6 (a b c d e f : Bool) (i : Nat) : Bool := if i = 0 then a else if i = 1 then b else if i = 2 then c else if i = 3 then d else if i = 4 then e else f
theorem pr_c6 : ∀ a b c d e f : Bool, anyB (fun k => decide (1 ≤ k) && decide (evC (c6 a b c d e f) 6 k / 2 = evC (c6 a b c d e f) 6 (k - 1) / 2)) (cnC (c6 a b c d e f) 6) = prC (c6 a b c d e f) ∧ (prC (c6 a b c d e f) = false → cnC (c6 a b c d e f) 6 ≤ 3) := by decide +kernel
theorem c6_cn (C : Nat → Bool) : cnC C 6 = cnC (c6 (C 0) (C 1) (C 2) (C 3) (C 4) (C 5)) 6 := rfl
theorem c6_ev (C : Nat → Bool) (k : Nat) : evC C 6 k = evC (c6 (C 0) (C 1) (C 2) (C 3) (C 4) (C 5)) 6 k := rfl
theorem pr_ev (C : Nat → Bool) : anyB (fun k => decide (1 ≤ k) && decide (evC C 6 k / 2 = evC C 6 (k - 1) / 2)) (cnC C 6) = prC C := by
  have h := (pr_c6 (C 0) (C 1) (C 2) (C 3) (C 4) (C 5)).1
  rw [c6_cn, anyB_congr (g := fun k => decide (1 ≤ k) && decide (evC (c6 (C 0) (C 1) (C 2) (C 3) (C 4) (C 5)) 6 k / 2 = evC (c6 (C 0) (C 1) (C 2) (C 3) (C 4) (C 5)) 6 (k - 1) / 2)) (fun i _ => by
    show (decide (1 ≤ i) && decide (evC C 6 i / 2 = evC C 6 (i - 1) / 2)) = _
    rw [c6_ev C i, c6_ev C (i - 1)]), h]
  rfl
theorem pr_cn {C : Nat → Bool} (h : prC C = false) : cnC C 6 ≤ 3 := (pr_c6 (C 0) (C 1) (C 2) (C 3) (C 4) (C 5)).2 h
/-- the most that an eye can rest -/
def clC (C : Nat → Bool) (Q : Nat) : Nat := if prC C = true then Q / 2 else Q
theorem wt_cap {C : Nat → Bool} {Q r : Nat} (hQ : Q ≤ 6) (hr : r ≤ clC C Q) : wtC C (r + 1) 6 ≤ 4096 := by
  rw [wtC_pow]
  unfold clC at hr
  by_cases hp : prC C = true
  · rw [if_pos hp] at hr
    have h1 : (r + 1) ^ cnC C 6 ≤ 4 ^ cnC C 6 := Nat.pow_le_pow_left (by omega) _
    have h2 : 4 ^ cnC C 6 ≤ 4 ^ 6 := Nat.pow_le_pow_right (by omega) (cnC_le 6)
    exact Nat.le_trans h1 h2
  · rw [if_neg hp] at hr
    have hc := pr_cn (C := C) (by cases h : prC C <;> simp [h] at hp ⊢)
    have h1 : (r + 1) ^ cnC C 6 ≤ 7 ^ cnC C 6 := Nat.pow_le_pow_left (by omega) _
    have h2 : 7 ^ cnC C 6 ≤ 7 ^ 3 := Nat.pow_le_pow_right (by omega) hc
    exact Nat.le_trans h1 (Nat.le_trans h2 (by decide))
