/-! PURE: by sleep -/
theorem lN_div {a b : Nat} (ha : a < 2 ^ 31) (hb : b < 2 ^ 31) (h0 : 0 < b) : lN a / lN b = lN (a / b) := by
  apply Int64.toInt_inj.mp
  rw [lg_ldiv_nonneg (by rw [lN_toInt ha]; omega) (by rw [lN_toInt hb]; omega), lN_toInt ha, lN_toInt hb, lN_toInt (Nat.lt_of_le_of_lt (Nat.div_le_self a b) ha)]
  first | rfl | exact (Int.natCast_ediv _ _).symm
theorem lN_rem {a b : Nat} (ha : a < 2 ^ 31) (hb : b < 2 ^ 31) (h0 : 0 < b) : lN a - lN a / lN b * lN b = lN (a % b) := by
  rw [lN_div ha hb h0, lN_mul, lN_sub (Nat.div_mul_le_self a b)]
  exact congrArg lN (by have := Nat.div_add_mod' a b; omega)
theorem lN_z {a : Nat} (ha : a < 2 ^ 31) : (lN a = 0) ↔ a = 0 := lN_eq (b := 0) ha (by omega)
theorem rdL_s {μ : Mem} {P k : Nat} {v : Int64} : (pL μ P k v).2 P k = v := by simp [pL]
theorem rdL_i {μ : Mem} {P k i : Nat} {v : Int64} (h : i ≠ k) : (pL μ P k v).2 P i = μ.2 P i := by simp [pL, h]
theorem rdL_p {μ : Mem} {P k p i : Nat} {v : Int64} (h : p ≠ P) : (pL μ P k v).2 p i = μ.2 p i := by simp [pL, h]
theorem gcd_st (a b : Nat) : Nat.gcd a b = Nat.gcd b (a % b) := by
  rw [Nat.gcd_comm a b, Nat.gcd_rec b a, Nat.gcd_comm]
/-- Euclid: how many steps are enough -/
theorem euclid {ρ : Type} (B : Nat) (E : Nat → Nat → Nat → Option ρ) (r : Nat → Option ρ) (h0 : ∀ f a, f + 1 ≤ B → E (f + 1) a 0 = r a) (h1 : ∀ f a b, f + 1 ≤ B → a < 2 ^ 31 → b < 2 ^ 31 → 0 < b → E (f + 1) a b = E f b (a % b)) : ∀ j a b f, a < 2 ^ 31 → b < 2 ^ 31 → b < 2 ^ j → 2 * j + 1 ≤ f → f ≤ B → E f a b = r (Nat.gcd a b) := by
  intro j
  induction j with
  | zero =>
    intro a b f ha hb hj hf hB
    obtain ⟨g, rfl⟩ : ∃ g, f = g + 1 := ⟨f - 1, by omega⟩
    have : b = 0 := by omega
    subst this
    rw [h0 _ _ hB, Nat.gcd_zero_right]
  | succ j ih =>
    intro a b f ha hb hj hf hB
    obtain ⟨g, rfl⟩ : ∃ g, f = g + 1 + 1 := ⟨f - 2, by omega⟩
    by_cases hb0 : b = 0
    · subst hb0
      rw [h0 _ _ hB, Nat.gcd_zero_right]
    · have hm : a % b < b := Nat.mod_lt a (by omega)
      rw [h1 _ a b hB ha hb (by omega), gcd_st a b]
      by_cases hm0 : a % b = 0
      · rw [hm0, h0 _ _ (by omega), Nat.gcd_zero_right]
      · have hm2 : b % (a % b) < a % b := Nat.mod_lt b (by omega)
        rw [h1 _ b (a % b) (by omega) hb (by omega) (by omega), gcd_st b (a % b)]
        refine ih _ _ _ (by omega) (by omega) ?_ (by omega) (by omega)
        have hd := Nat.div_add_mod b (a % b)
        have h1d : 1 ≤ b / (a % b) := Nat.div_pos (by omega) (by omega)
        have : a % b * 1 ≤ a % b * (b / (a % b)) := Nat.mul_le_mul_left _ h1d
        rw [Nat.pow_succ] at hj
        omega
theorem m_common {a b : Nat} (ha : a < 2 ^ 31) (hb : b < 2 ^ 31) (μ : Mem) : f_X10_common (lN a) (lN b) μ = some (lN (Nat.gcd a b), μ) := by
  unfold f_X10_common
  refine euclid FU (fun f a b => it2 (f_X10_common_L6 μ) f (lN a) (lN b)) (fun d => some (lN d, μ)) (fun f a _ => ?_) (fun f a b _ ha hb h0 => ?_) 31 a b FU ha hb hb (by unfold FU; omega) (Nat.le_refl _)
  · show f_X10_common_L6 μ (it2 (f_X10_common_L6 μ) f) (lN a) (lN 0) = _
    unfold f_X10_common_L6
    rw [if_pos ((cmp_eq (lN 0) (0 : Int64)).mpr rfl)]
  · show f_X10_common_L6 μ (it2 (f_X10_common_L6 μ) f) (lN a) (lN b) = _
    have hz : ¬ lN b = 0 := fun h => by have := (lN_z hb).mp h; omega
    unfold f_X10_common_L6
    rw [if_neg (fun h => hz ((cmp_eq _ _).mp h)), if_neg hz, lN_rem ha hb h0]
theorem it3_s {σ1 σ2 σ3 ρ : Type} (body : (σ1 → σ2 → σ3 → Option ρ) → σ1 → σ2 → σ3 → Option ρ) (k : Nat) (x : σ1) (y : σ2) (z : σ3) : it3 body (k + 1) x y z = body (it3 body k) x y z := rfl
theorem p_commonG (G : Nat) {a b : Nat} (ha : a < 2 ^ 31) (hb : b < 2 ^ 31) (μ : Mem) : it3 (f_X8_commonDivisor_L9 μ) (200 + G) (lN a) (lN b) (nI 0) = some (lN (Nat.gcd a b), μ) := by
  have hE := euclid (ρ := Int64 × Mem) 200 (fun f a b => it3 (f_X8_commonDivisor_L9 μ) (f + G) (lN a) (lN b) (nI (200 - f))) (fun d => some (lN d, μ)) (fun f a hf => by
    show it3 (f_X8_commonDivisor_L9 μ) (f + 1 + G) (lN a) (lN 0) (nI (200 - (f + 1))) = _
    rw [Nat.add_right_comm f 1 G, it3_s]
    generalize it3 (f_X8_commonDivisor_L9 μ) (f + G) = kk
    unfold f_X8_commonDivisor_L9
    rw [if_neg (show ¬ (200 : Int32) ≤ nI (200 - (f + 1)) from nI_ge (b := 200) (by omega) (by omega)), if_pos ((cmp_eq (lN 0) (0 : Int64)).mpr rfl)]) (fun f a b hf ha hb h0 => by
    show it3 (f_X8_commonDivisor_L9 μ) (f + 1 + G) (lN a) (lN b) (nI (200 - (f + 1))) = it3 (f_X8_commonDivisor_L9 μ) (f + G) (lN b) (lN (a % b)) (nI (200 - f))
    have hz : ¬ lN b = 0 := fun h => by have := (lN_z hb).mp h; omega
    rw [Nat.add_right_comm f 1 G, it3_s]
    generalize it3 (f_X8_commonDivisor_L9 μ) (f + G) = kk
    unfold f_X8_commonDivisor_L9
    rw [if_neg (show ¬ (200 : Int32) ≤ nI (200 - (f + 1)) from nI_ge (b := 200) (by omega) (by omega)), if_neg (fun h => hz ((cmp_eq _ _).mp h)), if_neg hz, lN_rem ha hb h0, al1, show 200 - (f + 1) + 1 = 200 - f by omega]) 31 a b 200 ha hb hb (by omega) (Nat.le_refl _)
  exact hE
theorem p_common {a b : Nat} (ha : a < 2 ^ 31) (hb : b < 2 ^ 31) (μ : Mem) : f_X8_commonDivisor (lN a) (lN b) μ = some (lN (Nat.gcd a b), μ) := by
  unfold f_X8_commonDivisor
  rw [show FU = 200 + 999800 from rfl]
  exact p_commonG 999800 ha hb μ
/-! sums and products -/
def bt (i e : Nat) : Bool := decide (i / 2 ^ e % 2 = 1)
theorem bt_mk : ∀ i, i < 64 → nI i = nI (mk6 (bt i)) := by decide +kernel
def pw (g : Nat → Bool → Nat) (i : Nat) : Nat → Nat
  | 0 => 1
  | k + 1 => pw g i k * g k (bt i k)
def pp (g : Nat → Bool → Nat) : Nat → Nat
  | 0 => 1
  | k + 1 => pp g k * (g k false + g k true)
def sg (F : Nat → Nat) : Nat → Nat
  | 0 => 0
  | k + 1 => sg F k + F k
theorem sg_congr {F G : Nat → Nat} : ∀ k, (∀ i, i < k → F i = G i) → sg F k = sg G k
  | 0, _ => rfl
  | k + 1, h => by
    show sg F k + F k = sg G k + G k
    rw [sg_congr k (fun i hi => h i (by omega)), h k (by omega)]
theorem sg_mul {F : Nat → Nat} (c : Nat) : ∀ k, sg (fun i => c * F i) k = c * sg F k
  | 0 => rfl
  | k + 1 => by
    show sg (fun i => c * F i) k + c * F k = c * (sg F k + F k)
    rw [sg_mul c k, Nat.mul_add]
theorem sg_mulR {F : Nat → Nat} (c : Nat) : ∀ k, sg (fun i => F i * c) k = sg F k * c
  | 0 => by show 0 = 0 * c; rw [Nat.zero_mul]
  | k + 1 => by
    show sg (fun i => F i * c) k + F k * c = (sg F k + F k) * c
    rw [sg_mulR c k, Nat.add_mul]
theorem sg_app {F : Nat → Nat} (a : Nat) : ∀ b, sg F (a + b) = sg F a + sg (fun i => F (a + i)) b
  | 0 => rfl
  | b + 1 => by
    show sg F (a + b) + F (a + b) = sg F a + (sg (fun i => F (a + i)) b + F (a + b))
    rw [sg_app a b, Nat.add_assoc]
theorem sg_le {F : Nat → Nat} {c : Nat} : ∀ k, (∀ i, i < k → F i ≤ c) → sg F k ≤ k * c
  | 0, _ => Nat.zero_le _
  | k + 1, h => by
    have h1 := sg_le (F := F) (c := c) k (fun i hi => h i (by omega))
    have h2 := h k (by omega)
    show sg F k + F k ≤ (k + 1) * c
    rw [Nat.add_mul]
    omega
theorem sg_mono {F : Nat → Nat} {a : Nat} : ∀ b, a ≤ b → sg F a ≤ sg F b
  | 0, h => by rw [show a = 0 by omega]; exact Nat.le_refl _
  | b + 1, h => by
    by_cases hb : a = b + 1
    · rw [hb]; exact Nat.le_refl _
    · have := sg_mono (F := F) (a := a) b (by omega)
      show sg F a ≤ sg F b + F b
      omega
theorem sg_sub {F G : Nat → Nat} : ∀ k, (∀ i, i < k → F i ≤ G i) → sg F k ≤ sg G k
  | 0, _ => Nat.le_refl _
  | k + 1, h => by
    have h1 := sg_sub (F := F) (G := G) k (fun i hi => h i (by omega))
    have h2 := h k (by omega)
    show sg F k + F k ≤ sg G k + G k
    omega
theorem bt_sh {k i e : Nat} (he : e < k) : bt (2 ^ k + i) e = bt i e := by
  unfold bt
  have : 2 ^ k = 2 ^ e * (2 * 2 ^ (k - e - 1)) := by
    rw [← Nat.mul_assoc, ← Nat.pow_succ, ← Nat.pow_add]
    congr 1
    omega
  rw [this, Nat.mul_add_div (Nat.two_pow_pos e), Nat.mul_add_mod]
theorem bt_lo {k i : Nat} (h : i < 2 ^ k) : bt i k = false := by
  unfold bt
  rw [Nat.div_eq_of_lt h]
  rfl
theorem bt_hi {k i : Nat} (h : i < 2 ^ k) : bt (2 ^ k + i) k = true := by
  unfold bt
  rw [Nat.add_div_left _ (Nat.two_pow_pos k), Nat.div_eq_of_lt h]
  rfl
theorem pw_sh {g : Nat → Bool → Nat} {k i : Nat} : ∀ e, e ≤ k → pw g (2 ^ k + i) e = pw g i e
  | 0, _ => rfl
  | e + 1, h => by
    show pw g (2 ^ k + i) e * g e (bt (2 ^ k + i) e) = pw g i e * g e (bt i e)
    rw [pw_sh e (by omega), bt_sh (by omega)]
/-- over all ways the products add up to the product of the sums -/
theorem sg_pw (g : Nat → Bool → Nat) : ∀ k, sg (fun i => pw g i k) (2 ^ k) = pp g k
  | 0 => rfl
  | k + 1 => by
    rw [Nat.pow_succ, Nat.mul_two, sg_app, sg_congr (G := fun i => pw g i k * g k false) (2 ^ k) (fun i hi => by show pw g i k * g k (bt i k) = _; rw [bt_lo hi]), sg_congr (F := fun i => pw g (2 ^ k + i) (k + 1)) (G := fun i => pw g i k * g k true) (2 ^ k) (fun i hi => by show pw g (2 ^ k + i) k * g k (bt (2 ^ k + i) k) = _; rw [bt_hi hi, pw_sh k (Nat.le_refl _)]), sg_mulR, sg_mulR, sg_pw g k]
    show pp g k * g k false + pp g k * g k true = pp g k * (g k false + g k true)
    rw [Nat.mul_add]
theorem pw_congr {g h : Nat → Bool → Nat} {i : Nat} : ∀ k, (∀ e, e < k → g e (bt i e) = h e (bt i e)) → pw g i k = pw h i k
  | 0, _ => rfl
  | k + 1, hh => by
    show pw g i k * g k (bt i k) = pw h i k * h k (bt i k)
    rw [pw_congr k (fun e he => hh e (by omega)), hh k (by omega)]
theorem pw_z {g : Nat → Bool → Nat} {i e : Nat} (h : g e (bt i e) = 0) : ∀ k, e < k → pw g i k = 0
  | 0, hk => by omega
  | k + 1, hk => by
    show pw g i k * g k (bt i k) = 0
    by_cases he : e = k
    · rw [← he, h, Nat.mul_zero]
    · rw [pw_z h k (by omega), Nat.zero_mul]
theorem pw_le {g : Nat → Bool → Nat} {i : Nat} : ∀ k, (∀ e, e < k → ∀ b, g e b ≤ 10) → pw g i k ≤ 10 ^ k
  | 0, _ => Nat.le_refl _
  | k + 1, h => by
    show pw g i k * g k (bt i k) ≤ 10 ^ (k + 1)
    rw [Nat.pow_succ]
    exact Nat.mul_le_mul (pw_le k (fun e he => h e (by omega))) (h k (by omega) _)
/-- what an eye gives to a way: in the class, in the model -/
def gC (o : Nat → Bool) (t : Nat → Nat) (e : Nat) (f : Bool) : Nat := if f = true then (if o e = true then t e else 0) else if o e = true then 10 - t e else 1
def gM (o : Nat → Bool) (t : Nat → Nat) (e : Nat) (f : Bool) : Nat := if f = true then (if o e = true then t e else 0) else if o e = true then 10 - t e else 10
def cC (o : Nat → Bool) : Nat → Nat
  | 0 => 1
  | k + 1 => cC o k * (if o k = true then 1 else 10)
theorem pw_MC {o : Nat → Bool} {t : Nat → Nat} {i : Nat} : ∀ k, pw (gM o t) i k = cC o k * pw (gC o t) i k ∨ (∃ e, e < k ∧ bt i e = true ∧ o e = false)
  | 0 => Or.inl rfl
  | k + 1 => by
    rcases pw_MC (o := o) (t := t) (i := i) k with h | ⟨e, he, h1, h2⟩
    · by_cases hb : bt i k = true ∧ o k = false
      · exact Or.inr ⟨k, by omega, hb.1, hb.2⟩
      · left
        show pw (gM o t) i k * gM o t k (bt i k) = (cC o k * (if o k = true then 1 else 10)) * (pw (gC o t) i k * gC o t k (bt i k))
        rw [h, Nat.mul_assoc, Nat.mul_assoc, Nat.mul_left_comm (if o k = true then 1 else 10)]
        congr 2
        unfold gM gC
        cases hb1 : bt i k <;> cases ho : o k <;> simp [hb1, ho] at hb ⊢
    · exact Or.inr ⟨e, by omega, h1, h2⟩
theorem pw_M {o : Nat → Bool} {t : Nat → Nat} (i k : Nat) : pw (gM o t) i k = cC o k * pw (gC o t) i k := by
  rcases pw_MC (o := o) (t := t) (i := i) k with h | ⟨e, he, h1, h2⟩
  · exact h
  · rw [pw_z (e := e) (by unfold gM; rw [h1, h2]; rfl) k he, pw_z (e := e) (by unfold gC; rw [h1, h2]; rfl) k he, Nat.mul_zero]
theorem pp_C {o : Nat → Bool} {t : Nat → Nat} : ∀ k, (∀ e, e < k → t e ≤ 9) → cC o k * pp (gC o t) k = 10 ^ k
  | 0, _ => rfl
  | k + 1, h => by
    show (cC o k * (if o k = true then 1 else 10)) * (pp (gC o t) k * (gC o t k false + gC o t k true)) = 10 ^ (k + 1)
    have ih := pp_C (o := o) (t := t) k (fun e he => h e (by omega))
    have h9 := h k (by omega)
    have hk : (if o k = true then 1 else 10) * (gC o t k false + gC o t k true) = 10 := by
      unfold gC
      cases ho : o k <;> simp
      omega
    rw [Nat.mul_assoc, Nat.mul_left_comm (if o k = true then 1 else 10), ← Nat.mul_assoc, ih, hk, Nat.pow_succ]
/-- lowest terms of the same fraction told twice -/
theorem lo_eq {c v A B : Nat} (hc : 0 < c) (hA : 0 < A) (hB : c * A = B) : v / Nat.gcd v A = c * v / Nat.gcd B (c * v) ∧ A / Nat.gcd v A = B / Nat.gcd B (c * v) ∧ 0 < Nat.gcd v A ∧ 0 < Nat.gcd B (c * v) := by
  subst hB
  have h1 : Nat.gcd (c * A) (c * v) = c * Nat.gcd v A := by rw [Nat.gcd_mul_left, Nat.gcd_comm]
  have h2 : 0 < Nat.gcd v A := Nat.gcd_pos_of_pos_right _ hA
  rw [h1, Nat.mul_div_mul_left _ _ hc, Nat.mul_div_mul_left _ _ hc]
  exact ⟨rfl, rfl, h2, Nat.mul_pos hc h2⟩
theorem p_fraction {v A : Nat} {a : Int32} {μ : Mem} (hv : v < 2 ^ 31) (hA : A < 2 ^ 31) (hA0 : 0 < A) (h59 : μ.2 59 1 = lN A) : f_X8_fraction_59 (lN v) a μ = some (lN ((if a = 0 then v else A) / Nat.gcd v A), μ) := by
  have hd : 0 < Nat.gcd v A := Nat.gcd_pos_of_pos_right _ hA0
  have hdl : Nat.gcd v A < 2 ^ 31 := Nat.lt_of_le_of_lt (Nat.gcd_le_right v hA0) hA
  have hz : ¬ lN (Nat.gcd v A) = 0 := fun h => by have := (lN_z hdl).mp h; omega
  unfold f_X8_fraction_59
  rw [h59, bnd (p_common hv hA μ)]
  dsimp only
  rw [if_pos ((cmp_gt (lN (Nat.gcd v A)) (0 : Int64)).mpr (show lN 0 < lN (Nat.gcd v A) from (lN_lt (by omega) hdl).mpr hd)), h59]
  unfold f_X8_fraction_59_J31
  rw [if_neg hz, if_neg hz, lN_div hv hdl hd, lN_div hA hdl hd]
  by_cases h : a = 0
  · rw [if_pos h, if_pos h]
  · rw [if_neg h, if_neg h]
theorem m_lowest {v : Nat} {a : Int32} {μ : Mem} (hv : v < 2 ^ 31) : f_X10_lowest (lN v) a μ = some (lN ((if a = 0 then v else 1000000) / Nat.gcd 1000000 v), μ) := by
  have hd : 0 < Nat.gcd 1000000 v := Nat.gcd_pos_of_pos_left _ (by omega)
  have hdl : Nat.gcd 1000000 v < 2 ^ 31 := Nat.lt_of_le_of_lt (Nat.gcd_le_left v (by omega)) (by omega)
  have hz : ¬ lN (Nat.gcd 1000000 v) = 0 := fun h => by have := (lN_z hdl).mp h; omega
  unfold f_X10_lowest
  rw [show (1000000 : Int64) = lN 1000000 from rfl, bnd (m_common (by omega) hv μ)]
  dsimp only
  rw [if_neg hz, if_neg hz, lN_div hv hdl hd, lN_div (by omega) hdl hd]
  by_cases h : a = 0
  · rw [if_pos h, if_pos h]
  · rw [if_neg h, if_neg h]
theorem for_accG {α ρ : Type} {body : (α → Int32 → Option ρ) → α → Int32 → Option ρ} (ix : Nat → Int32) (N : Nat) (F : Nat → α) (r : Option ρ) (hstep : ∀ k i, i < N → body k (F i) (ix i) = k (F (i + 1)) (ix (i + 1))) (hexit : ∀ k, body k (F N) (ix N) = r) : ∀ n i, i ≤ N → N < i + n → it2 body n (F i) (ix i) = r := by
  intro n
  induction n with
  | zero =>
    intro i h1 h2
    omega
  | succ n ih =>
    intro i h1 h2
    show body (it2 body n) (F i) (ix i) = r
    by_cases hi : i = N
    · subst hi
      exact hexit _
    · rw [hstep (it2 body n) i (by omega)]
      exact ih (i + 1) (by omega) (by omega)
theorem for_accGm {α ρ : Type} {body : (α → Int32 → Mem → Option ρ) → α → Int32 → Mem → Option ρ} (ix : Nat → Int32) (N : Nat) (F : Nat → α) (P : Nat → Mem → Prop) (R : ρ → Prop) (hstep : ∀ k i μ, i < N → P i μ → ∃ μ', body k (F i) (ix i) μ = k (F (i + 1)) (ix (i + 1)) μ' ∧ P (i + 1) μ') (hexit : ∀ k μ, P N μ → ∃ r, body k (F N) (ix N) μ = some r ∧ R r) : ∀ n i μ, i ≤ N → N < i + n → P i μ → ∃ r, it3 body n (F i) (ix i) μ = some r ∧ R r := by
  intro n
  induction n with
  | zero =>
    intro i μ h1 h2
    omega
  | succ n ih =>
    intro i μ h1 h2 hP
    show ∃ r, body (it3 body n) (F i) (ix i) μ = some r ∧ R r
    by_cases hi : i = N
    · subst hi
      exact hexit _ μ hP
    · obtain ⟨μ', h3, h4⟩ := hstep (it3 body n) i μ (by omega) hP
      rw [h3]
      exact ih (i + 1) μ' (by omega) (by omega) h4
theorem mk6_eq0 {f : Nat → Bool} : mk6 f = 0 ↔ ∀ e, e < 6 → f e = false := by
  have hz : ∀ b : Bool, b.toNat = 0 → b = false := by decide
  constructor
  · intro h
    unfold mk6 at h
    exact six (hz _ (by omega)) (hz _ (by omega)) (hz _ (by omega)) (hz _ (by omega)) (hz _ (by omega)) (hz _ (by omega))
  · intro h
    rw [mk6_congr (g := fun _ => false) h]
    rfl
theorem ten_sub : ∀ v, v ≤ 9 → (10 : Int32) - nI v = nI (10 - v) := by decide +kernel
theorem b2i_L (b : Bool) : (b2i b).toInt64 = lN b.toNat := by cases b <;> rfl
theorem p_fill_60 (μ : Mem) : ∃ μ', f_J7_fill_d0a16_60 (0 : Int64) μ = some μ' ∧ μ'.1 = μ.1 ∧ ∀ d, d < 4 → μ'.2 60 d = lN 0 := by
  unfold f_J7_fill_d0a16_60
  refine for_rel (ρ := Mem) nI 4 (fun i ν => ν.1 = μ.1 ∧ ∀ d, d < i → ν.2 60 d = lN 0) (fun ν => ν.1 = μ.1 ∧ ∀ d, d < 4 → ν.2 60 d = lN 0) (fun k i ν hi hP => ?_) (fun k ν hP => ?_) FU 0 μ (by omega) (fu_gt (by omega)) ⟨rfl, fun d hd => by omega⟩
  · unfold f_J7_fill_d0a16_60_L6
    have c : ¬ (4 : Int32) ≤ nI i := nI_ge (b := 4) hi (by omega)
    rw [if_neg c, inb_nI (by omega) (by omega), if_neg (show ¬ (true = false) by decide), nI_clamp (by omega), al1]
    refine ⟨_, rfl, hP.1, fun d hd => ?_⟩
    by_cases hc : d = i
    · rw [hc]; exact rdL_s
    · rw [rdL_i hc]; exact hP.2 d (by omega)
  · unfold f_J7_fill_d0a16_60_L6
    rw [if_pos (show (4 : Int32) ≤ nI 4 from by decide)]
    exact ⟨_, rfl, hP⟩
def gW (o : Nat → Bool) (t : Nat → Nat) (e : Nat) (f : Bool) : Nat := if f = true then t e else if o e = true then 10 - t e else 1
theorem p_waysOf {f : Nat} {o : Nat → Bool} {t : Nat → Nat} {μ : Mem} (hf : f < 64) (h49 : μ.1 49 1 = nI (mk6 o)) (h50 : ∀ e, e < 6 → t e ≤ 9 ∧ μ.1 50 e = nI (t e)) : f_X8_waysOf_49 (nI f) μ = some (lN (pw (gW o t) f 6), μ) := by
  unfold f_X8_waysOf_49
  refine for_accG nI 6 (fun i => lN (pw (gW o t) f i)) _ (fun k i hi => ?_) (fun k => ?_) FU 0 (by omega) (fu_gt (by omega))
  · obtain ⟨t9, t1⟩ := h50 i hi
    unfold f_X8_waysOf_49_L5 f_X8_waysOf_49_J63
    rw [if_neg (show ¬ (6 : Int32) ≤ nI i from nI_ge (b := 6) hi (by omega)), bt_mk f hf, mk6_bit _ i hi, h49, mk6_bit _ i hi, inb_nI (by omega) (by omega), if_neg (show ¬ (true = false) by decide), if_neg (show ¬ (true = false) by decide), nI_clamp (by omega), t1, ten_sub _ t9, nI_l (by omega), nI_l (by omega), lN_mul, lN_mul, al1]
    show _ = k (lN (pw (gW o t) f i * gW o t i (bt f i))) (nI (i + 1))
    generalize pw (gW o t) f i = pr
    unfold gW
    cases bt f i with
    | true => rw [if_pos (show b2i true = 1 from rfl), if_pos (show true = true from rfl)]
    | false =>
      rw [if_neg (show ¬ b2i false = 1 by decide), if_neg (show ¬ false = true by decide)]
      cases o i with
      | true => rw [if_pos (show b2i true = 1 from rfl), if_pos (show true = true from rfl)]
      | false => rw [if_neg (show ¬ b2i false = 1 by decide), if_neg (show ¬ false = true by decide), Nat.mul_one]
  · unfold f_X8_waysOf_49_L5
    rw [if_pos (show (6 : Int32) ≤ nI 6 from by decide)]
def slQ (n w : Nat) (t : Nat → Nat) (f e : Nat) : Bool := shq n w t e || bt f e
/-- of a side: the ways in which it is missed, each weighed by g -/
def ms (n : Nat) (K S F N : Nat → Nat) (st w : Nat) (t : Nat → Nat) (g : Nat → Bool → Nat) (d f : Nat) : Nat := if lk n 3 K S F N (slQ n w t f) st d = true then pw g f 6 else 0
theorem opn_slQ {n w : Nat} {K t : Nat → Nat} {f e : Nat} (hn : n ≤ 3) (he : e < 6) : (opn n K w t e && !bt f e) = (hr n 3 (e / 2) && !glE K e && !slQ n w t f e) := by
  unfold opn slQ shq
  rw [hr3 hn]
  by_cases h : e / 2 < n
  · rw [decide_eq_true h, decide_eq_true (show e < 2 * n by omega)]
    cases glE K e <;> cases shut w e <;> cases decide (t e = 9) <;> cases bt f e <;> rfl
  · rw [decide_eq_false h]
    rfl
theorem p_weigh {n st w : Nat} {K S F N t : Nat → Nat} {μ : Mem} (hn : n ≤ 3) (hS : ∀ e, e < 2 * n → S e < 16) (hF : ∀ s, s < n → F s < 4) (h : SightR n 3 K S F μ) (hN : ∀ d, d < 4 → N d < 7 ∧ μ.1 7 d = nI (N d)) (hst : st < 16) (h49 : μ.1 49 1 = nI (mk6 (opn n K w t))) (h50 : ∀ e, e < 6 → t e ≤ 9 ∧ μ.1 50 e = nI (t e)) :
    ∃ μ', f_X8_weigh_59_49_47_7 (nI st) μ = some μ' ∧ μ'.1 = μ.1 ∧ μ'.2 59 1 = lN (sg (fun f => pw (gC (opn n K w t) t) f 6) 64) ∧ ∀ d, d < 4 → μ'.2 60 d = lN (sg (ms n K S F N st w t (gC (opn n K w t) t) d) 64) := by
  obtain ⟨μ0, f1, f2, f3⟩ := p_fill_60 μ
  unfold f_X8_weigh_59_49_47_7
  rw [bnd f1]
  refine for_rel (ρ := Mem) nI 64 (fun i ν => ν.1 = μ.1 ∧ ν.2 59 1 = lN (sg (fun f => pw (gC (opn n K w t) t) f 6) i) ∧ ∀ d, d < 4 → ν.2 60 d = lN (sg (ms n K S F N st w t (gC (opn n K w t) t) d) i)) (fun ν => ν.1 = μ.1 ∧ ν.2 59 1 = lN (sg (fun f => pw (gC (opn n K w t) t) f 6) 64) ∧ ∀ d, d < 4 → ν.2 60 d = lN (sg (ms n K S F N st w t (gC (opn n K w t) t) d) 64)) (fun k i ν hi hP => ?_) (fun k ν hP => ?_) FU 0 _ (by omega) (fu_gt (by omega)) ⟨f2, rdL_s, fun d hd => by rw [rdL_p (by omega)]; exact f3 d hd⟩
  · obtain ⟨q1, q2, q3⟩ := hP
    have e49 : ν.1 49 1 = nI (mk6 (opn n K w t)) := by rw [q1]; exact h49
    have e50 : ∀ e, e < 6 → t e ≤ 9 ∧ ν.1 50 e = nI (t e) := by rw [q1]; exact h50
    unfold f_X8_weigh_59_49_47_7_L16
    rw [if_neg (show ¬ (64 : Int32) ≤ nI i from nI_ge (b := 64) hi (by omega)), e49]
    have hz : (nI i &&& (nI (mk6 (opn n K w t)) ^^^ (-1 : Int32)) = 0) ↔ ∀ e, e < 6 → (bt i e && !opn n K w t e) = false := by
      rw [bt_mk i hi, mk6_andn, mk6_z _ (mk6_lt _)]
      exact mk6_eq0
    by_cases hc : ∀ e, e < 6 → (bt i e && !opn n K w t e) = false
    · have hpw : pw (gW (opn n K w t) t) i 6 = pw (gC (opn n K w t) t) i 6 := pw_congr 6 (fun e he => by
        have := hc e he
        unfold gW gC
        cases hb : bt i e with
        | false => rfl
        | true =>
          rw [hb] at this
          cases ho : opn n K w t e with
          | false => rw [ho] at this; cases this
          | true => rfl)
      have hS' : SightR n 3 K S F ν := by unfold SightR; rw [q1]; exact h
      have hlk := p_lacking (m := fun e => opn n K w t e && !bt i e) (q := slQ n w t i) hS hF hS' (fun e he => opn_slQ hn he) (show ∀ d, d < 4 → N d < 7 ∧ ν.1 7 d = nI (N d) by rw [q1]; exact hN) hst
      rw [if_pos (hz.mpr hc), bnd (p_waysOf hi e49 e50), hpw, e49, show nI (mk6 (opn n K w t)) &&& (nI i ^^^ (-1 : Int32)) = nI (mk6 fun e => opn n K w t e && !bt i e) by rw [bt_mk i hi, mk6_andn], bnd hlk]
      dsimp only
      rw [q2, lN_add]
      have := for_con (body := f_X8_weigh_59_49_47_7_L75 (nI st) (nI i) (lN (pw (gC (opn n K w t) t) i 6)) (nI (LKS n 3 K S F N (slQ n w t i) st)) k) nI 4 (fun j ξ => ξ.1 = μ.1 ∧ ξ.2 59 1 = lN (sg (fun f => pw (gC (opn n K w t) t) f 6) (i + 1)) ∧ ∀ d, d < 4 → ξ.2 60 d = lN (sg (ms n K S F N st w t (gC (opn n K w t) t) d) (if d < j then i + 1 else i))) (fun ξ => k (nI (i + 1)) ξ) (fun ξ => ξ.1 = μ.1 ∧ ξ.2 59 1 = lN (sg (fun f => pw (gC (opn n K w t) t) f 6) (i + 1)) ∧ ∀ d, d < 4 → ξ.2 60 d = lN (sg (ms n K S F N st w t (gC (opn n K w t) t) d) (i + 1))) (fun kk j ξ hj hR => by
        obtain ⟨r1, r2, r3⟩ := hR
        unfold f_X8_weigh_59_49_47_7_L75
        rw [if_neg (show ¬ (4 : Int32) ≤ nI j from nI_ge (b := 4) hj (by omega)), inb_nI (by omega) (by omega), if_neg (show ¬ (true = false) by decide), if_neg (show ¬ (true = false) by decide), nI_clamp (by omega), r3 j hj, if_neg (by omega)]
        unfold LKS
        rw [mk6_bit _ j (by omega), b2i_L, lN_mul, lN_add, al1]
        refine ⟨_, rfl, r1, ?_, fun d hd => ?_⟩
        · rw [rdL_p (by omega)]; exact r2
        · by_cases hdj : d = j
          · subst hdj
            rw [rdL_s, if_pos (by omega)]
            refine congrArg lN ?_
            show _ = sg (ms n K S F N st w t (gC (opn n K w t) t) d) i + ms n K S F N st w t (gC (opn n K w t) t) d i
            unfold ms
            rw [decide_eq_true hd, Bool.true_and]
            cases lk n 3 K S F N (slQ n w t i) st d with
            | true => rw [if_pos rfl]; show _ + 1 * _ = _; rw [Nat.one_mul]
            | false => rw [if_neg (by decide)]; show _ + 0 * _ = _; rw [Nat.zero_mul]
          · rw [rdL_i hdj, r3 d hd]
            by_cases h1 : d < j
            · rw [if_pos h1, if_pos (by omega)]
            · rw [if_neg h1, if_neg (by omega)]) (fun kk ξ hR => by
        obtain ⟨r1, r2, r3⟩ := hR
        unfold f_X8_weigh_59_49_47_7_L75 f_X8_weigh_59_49_47_7_J108
        rw [if_pos (show (4 : Int32) ≤ nI 4 from by decide), al1]
        exact ⟨_, rfl, r1, r2, fun d hd => by rw [r3 d hd, if_pos hd]⟩) FU 0 (pL ν 59 1 (lN (sg (fun f => pw (gC (opn n K w t) t) f 6) i + pw (gC (opn n K w t) t) i 6))) (by omega) (fu_gt (by omega)) ⟨q1, rdL_s, fun d hd => by rw [rdL_p (by omega), q3 d hd, if_neg (by omega)]⟩
      exact this
    · rw [if_neg (fun h => hc (hz.mp h))]
      unfold f_X8_weigh_59_49_47_7_J108
      rw [al1]
      have hpz : pw (gC (opn n K w t) t) i 6 = 0 := by
        by_cases hx : ∃ e, e < 6 ∧ (bt i e && !opn n K w t e) = true
        · obtain ⟨e, he, h1⟩ := hx
          refine pw_z (e := e) ?_ 6 he
          cases hb : bt i e with
          | false => rw [hb] at h1; cases h1
          | true =>
            cases ho : opn n K w t e with
            | true => rw [hb, ho] at h1; cases h1
            | false => unfold gC; rw [ho]; rfl
        · refine absurd (fun e he => ?_) hc
          cases h1 : (bt i e && !opn n K w t e) with
          | false => rfl
          | true => exact absurd ⟨e, he, h1⟩ hx
      refine ⟨_, rfl, q1, ?_, fun d hd => ?_⟩
      · rw [q2]
        show _ = lN (sg (fun f => pw (gC (opn n K w t) t) f 6) i + pw (gC (opn n K w t) t) i 6)
        rw [hpz, Nat.add_zero]
      · rw [q3 d hd]
        show _ = lN (sg (ms n K S F N st w t (gC (opn n K w t) t) d) i + ms n K S F N st w t (gC (opn n K w t) t) d i)
        have : ms n K S F N st w t (gC (opn n K w t) t) d i = 0 := by
          unfold ms
          rw [hpz]
          split <;> rfl
        rw [this, Nat.add_zero]
  · unfold f_X8_weigh_59_49_47_7_L16
    rw [if_pos (show (64 : Int32) ≤ nI 64 from by decide)]
    exact ⟨_, rfl, hP⟩
theorem p_weighSleep {n Z : Nat} {K S F T N G W : Nat → Nat} {μ : Mem} (hV : HV n K S μ) (hPV : PV n F T N G W μ) (hZ : Z < 6) :
    ∃ μ', f_X9_weighSleep_0 (nI Z) μ = some μ' ∧ smE μ μ' ∧ μ'.2 59 1 = lN (sg (fun f => pw (gC (opn n K (W Z) (tq n K W T Z)) (tq n K W T Z)) f 6) 64) ∧ ∀ d, d < 4 → μ'.2 60 d = lN (sg (ms n K S F N (G Z) (W Z) (tq n K W T Z) (gC (opn n K (W Z) (tq n K W T Z)) (tq n K W T Z)) d) 64) := by
  obtain ⟨ν, l1, l2, l3⟩ := p_look0 hV hPV.1
  have lsm := only4.sm l2
  have hV' := hV.sm lsm
  have hPV' := hPV.sm lsm
  obtain ⟨ξ, x1, x2, x3, x4⟩ := p_reach hV' hPV' l3 (Z := Z) hZ
  have xsm := only49.sm x2
  have hV'' := hV'.sm xsm
  have hPV'' := hPV'.sm xsm
  have hT := tq_le (n := n) (K := K) (W := W) (T := T) (fun e he => (hPV.2.1 e he).1)
  obtain ⟨ω, w1, w2, w3, w4⟩ := p_weigh (w := W Z) (t := tq n K W T Z) (st := G Z) (N := N) hV.1 (fun e he => (hV.2.2.2.2.2 e he).1) (fun s hs => (hPV.1 s (by have := hV.1; omega)).1) (l3.fr x2 (by decide) (by decide)) (fun d hd => ⟨(hPV''.2.2.1 d hd).1, (hPV''.2.2.1 d hd).2.1⟩) (hPV.2.2.2.1 Z hZ).1 x3 (fun e he => ⟨hT Z e he, x4 e he⟩)
  refine ⟨ω, ?_, (lsm.tr xsm).tr (fun p k _ => by rw [w2]), w3, w4⟩
  unfold f_X9_weighSleep_0
  rw [bnd l1, bnd x1, inb_nI (by omega) (by omega), if_neg (show ¬ (true = false) by decide), nI_clamp (by omega), (hPV''.2.2.2.1 Z hZ).2.1, bnd w1]
theorem m_neededAt {n Z d : Nat} {F T N G W : Nat → Nat} {μ : Mem} (hPV : PV n F T N G W μ) (hZ : Z < 6) (hd : d < 4) : f_X10_neededAt_62 (nI d) (nI Z) μ = some (nI (N d) + ((nI (G Z) >>> (nI d &&& 31)) &&& 1), μ) := by
  unfold f_X10_neededAt_62
  rw [la9, la13, inb_nI (by omega) (by omega), inb_nI (by omega) (by omega), if_neg (show ¬ (true = false) by decide), if_neg (show ¬ (true = false) by decide), nI_clamp (by omega), nI_clamp (by omega), (hPV.2.2.1 d hd).2.2, (hPV.2.2.2.1 Z hZ).2.2]
theorem m_missedOver {n Z d : Nat} {K S F T N G W : Nat → Nat} {μ : Mem} (hV : HV n K S μ) (hPV : PV n F T N G W μ) (hx : AbsR 3 μ) (hgl : ∀ e, e < 2 * n → glE K e = true → T e = 0) (hZ : Z < 6) (hd : d < 4) :
    ∃ μ', f_X10_missedOver_62 (nI d) (nI Z) μ = some (lN (sg (ms n K S F N (G Z) (W Z) (tq n K W T Z) (gM (opn n K (W Z) (tq n K W T Z)) (tq n K W T Z)) d) 64), μ') ∧ smE μ μ' := by
  have hn := hV.1
  have h27 := p3 hn
  obtain ⟨ν, g1, g2, g3⟩ := m_goes hV hPV hgl (Z := Z) (by omega)
  have gsm := only71.sm g2
  have hV' := hV.sm gsm
  have hPV' := hPV.sm gsm
  have hT := tq_le (n := n) (K := K) (W := W) (T := T) (fun e he => (hPV.2.1 e he).1)
  have hx' : AbsR 3 ν := by
    unfold AbsR
    rw [gsm 62 26 (Or.inl rfl)]
    exact hx
  have hs := m_shutNow (w := W Z) (t := tq n K W T Z) hV' hZ (hPV.2.2.2.2 Z hZ).1 (hPV'.2.2.2.2 Z hZ).2.2 (fun e he => ⟨hT Z e (by omega), g3 e he⟩)
  refine ⟨ν, ?_, gsm⟩
  unfold f_X10_missedOver_62
  rw [bnd g1, bnd hs]
  dsimp only
  have hz9 : ∀ e, glE K e = true → e < 2 * n → tq n K W T Z e = 0 := fun e h he => tq_gl h (hgl e he h) Z
  have hTZ : ∀ e, e < 6 → tq n K W T Z e ≤ 9 := fun e he => hT Z e he
  generalize tq n K W T Z = t at g3 hs hz9 hTZ ⊢
  have hin : ∀ (k17 : Int64 → Int32 → Mem → Option (Int64 × Mem)) (acc f : Nat), f < 64 → it2 (f_X10_missedOver_62_L30 (nI d) (nI Z) (nI (mk6 (shq n (W Z) t))) (lN acc) (nI f) ν k17) FU (1 : Int64) (0 : Int32) = k17 (lN (acc + ms n K S F N (G Z) (W Z) t (gM (opn n K (W Z) t) t) d f)) (nI (f + 1)) ν := by
    intro k17 acc f hf
    refine for_accG nI 6 (fun i => lN (pw (gM (opn n K (W Z) t) t) f i)) _ (fun k i hi => ?_) (fun k => ?_) FU 0 (by omega) (fu_gt (by omega))
    · have t9 : t i ≤ 9 := hTZ i hi
      have hJ80 : ∀ op : Bool, ((op = true ∧ i < 2 * n) ∨ op = false) → (gM (opn n K (W Z) t) t i (bt f i) = if op = true then (if bt f i = true then t i else 10 - t i) else if bt f i = true then 0 else 10) → f_X10_missedOver_62_J62 k17 k (nI d) (nI Z) (nI (mk6 (shq n (W Z) t))) (lN acc) (nI f) (lN (pw (gM (opn n K (W Z) t) t) f i)) (nI i) (b2i op) ν = k (lN (pw (gM (opn n K (W Z) t) t) f (i + 1))) (nI (i + 1)) := by
        intro op hop hg
        have hfin : lN (pw (gM (opn n K (W Z) t) t) f (i + 1)) = lN (pw (gM (opn n K (W Z) t) t) f i) * lN (gM (opn n K (W Z) t) t i (bt f i)) := (lN_mul _ _).symm
        rw [hfin, hg]
        unfold f_X10_missedOver_62_J62 f_X10_missedOver_62_J80 f_X10_missedOver_62_J131
        rw [al1, bt_mk f hf, mk6_bit _ i hi, inb_nI (by omega) (by omega), if_neg (show ¬ (true = false) by decide), if_neg (show ¬ (true = false) by decide), nI_clamp (by omega)]
        cases op with
        | true =>
          have h71 := g3 i (by rcases hop with h | h; exact h.2; cases h)
          rw [h71, ten_sub _ t9, nI_l (by omega), nI_l (by omega)]
          cases bt f i <;> rfl
        | false => cases bt f i <;> rfl
      have ho : opn n K (W Z) t i = (decide (i < 2 * n) && !glE K i && !shut (W Z) i && !decide (t i = 9)) := by
        unfold opn
        rw [hr3 hn, show (decide (i / 2 < n)) = decide (i < 2 * n) from decide_eq_decide.mpr (by omega)]
      unfold f_X10_missedOver_62_L30
      rw [if_neg (show ¬ (6 : Int32) ≤ nI i from nI_ge (b := 6) hi (by omega)), hV'.2.2.1, lm2]
      by_cases h2 : i < 2 * n
      · rw [if_neg (nI_ge h2 (by omega)), mk6_bit _ i hi]
        have hsh : shq n (W Z) t i = (shut (W Z) i || decide (t i = 9)) := by
          unfold shq
          rw [decide_eq_true h2, Bool.true_and]
        cases hc : shq n (W Z) t i with
        | true =>
          rw [if_neg (show ¬ b2i true = 0 by decide)]
          unfold f_X10_missedOver_62_J61
          refine hJ80 false (Or.inr rfl) ?_
          have : opn n K (W Z) t i = false := by
            rw [ho]
            rw [hsh] at hc
            cases h5 : shut (W Z) i <;> cases h6 : decide (t i = 9) <;> rw [h5, h6] at hc <;> first | (simp; done) | cases hc
          unfold gM
          rw [this]
          rfl
        | false =>
          rw [if_pos (show b2i false = 0 from rfl)]
          refine hJ80 true (Or.inl ⟨rfl, h2⟩) ?_
          rw [hsh] at hc
          have h5 : shut (W Z) i = false := by cases h5 : shut (W Z) i <;> rw [h5] at hc <;> first | rfl | cases hc
          have h6 : decide (t i = 9) = false := by cases h6 : decide (t i = 9) <;> rw [h5, h6] at hc <;> first | rfl | cases hc
          rw [h5, h6, decide_eq_true h2] at ho
          unfold gM
          cases h7 : glE K i with
          | false =>
            rw [ho, h7]
            cases bt f i <;> rfl
          | true =>
            rw [ho, h7, hz9 i h7 h2]
            cases bt f i <;> rfl
      · rw [if_pos (nI_le (by omega) (by omega))]
        unfold f_X10_missedOver_62_J61
        refine hJ80 false (Or.inr rfl) ?_
        have : opn n K (W Z) t i = false := by
          rw [ho, decide_eq_false h2]
          rfl
        unfold gM
        rw [this]
        rfl
    · have hp6 : pw (gM (opn n K (W Z) t) t) f 6 ≤ 10 ^ 6 := pw_le 6 (fun e he b => by
        have := hTZ e he
        unfold gM
        split <;> split <;> omega)
      have hp31 : pw (gM (opn n K (W Z) t) t) f 6 < 2 ^ 31 := by omega
      have hle : (lg_cmp (lN (pw (gM (opn n K (W Z) t) t) f 6)) (0 : Int64) ≤ 0) ↔ pw (gM (opn n K (W Z) t) t) f 6 = 0 := by
        have h1 := cmp_gt (lN (pw (gM (opn n K (W Z) t) t) f 6)) (0 : Int64)
        have h2 := lN_lt (a := 0) (b := pw (gM (opn n K (W Z) t) t) f 6) (by omega) hp31
        have h3 : (0 : Int64) = lN 0 := rfl
        have h4 : (0 : Int32).toInt = 0 := rfl
        rw [i32_lt, h4] at h1
        rw [i32_le, h4]
        rw [h3] at h1 ⊢
        rw [h2] at h1
        omega
      unfold f_X10_missedOver_62_L30 f_X10_missedOver_62_J174 f_X10_missedOver_62_J175
      rw [if_pos (show (6 : Int32) ≤ nI 6 from by decide), al1]
      unfold ms
      by_cases h0 : pw (gM (opn n K (W Z) t) t) f 6 = 0
      · rw [if_pos (hle.mpr h0), h0, ite_self, show (0 : Int64) = lN 0 from rfl, lN_add]
      · have hor : nI (mk6 (shq n (W Z) t)) ||| nI f = nI (mk6 (slQ n (W Z) t f)) := by
          rw [bt_mk f hf, mk6_or]
          rfl
        have hc := lk_cond (c := cn n 3 K S F (slQ n (W Z) t f) d 6) (need := N d) (Nat.le_trans (cn_le 6) (by omega)) (hPV.2.2.1 d hd).1 hd (hPV.2.2.2.1 Z hZ).1
        rw [if_neg (fun h => h0 (hle.mp h)), hor, bnd (m_countOf hV' (fun s hs => ⟨(hPV'.1 s (by omega)).1, (hPV'.1 s (by omega)).2.2⟩) hx' hd)]
        dsimp only
        rw [bnd (m_neededAt hPV' hZ hd)]
        dsimp only
        unfold lk
        by_cases hl : cn n 3 K S F (slQ n (W Z) t f) d 6 < 2 * (N d + G Z / 2 ^ d % 2)
        · rw [if_neg (by rw [hc]; exact fun h => h hl), decide_eq_true hl, if_pos rfl, lN_add]
        · rw [if_pos (hc.mpr hl), decide_eq_false hl, if_neg (by decide), show (0 : Int64) = lN 0 from rfl, lN_add]
  have := for_accGm (body := f_X10_missedOver_62_L17 (nI d) (nI Z) (nI (mk6 (shq n (W Z) t)))) nI 64 (fun i => lN (sg (ms n K S F N (G Z) (W Z) t (gM (opn n K (W Z) t) t) d) i)) (fun _ ω => ω = ν) (fun r => r = (lN (sg (ms n K S F N (G Z) (W Z) t (gM (opn n K (W Z) t) t) d) 64), ν)) (fun k i ω hi hP => by
    subst hP
    unfold f_X10_missedOver_62_L17
    rw [if_neg (show ¬ (64 : Int32) ≤ nI i from nI_ge (b := 64) hi (by omega)), hin _ _ i hi]
    exact ⟨_, rfl, rfl⟩) (fun k ω hP => by
    subst hP
    unfold f_X10_missedOver_62_L17
    rw [if_pos (show (64 : Int32) ≤ nI 64 from by decide)]
    exact ⟨_, rfl, rfl⟩) FU 0 ν (by omega) (fu_gt (by omega)) rfl
  obtain ⟨r, r1, rfl⟩ := this
  exact r1
/-- both sums of a side, and the whole -/
theorem ms_eq {n st w : Nat} {K S F N t : Nat → Nat} {o : Nat → Bool} (d k : Nat) : sg (ms n K S F N st w t (gM o t) d) k = cC o 6 * sg (ms n K S F N st w t (gC o t) d) k := by
  rw [← sg_mul]
  refine sg_congr k (fun f _ => ?_)
  unfold ms
  rw [pw_M]
  split
  · rfl
  · exact (Nat.mul_zero _).symm
theorem cC_pos (o : Nat → Bool) : ∀ k, 0 < cC o k
  | 0 => by show 0 < 1; omega
  | k + 1 => by
    have := cC_pos o k
    show 0 < cC o k * (if o k = true then 1 else 10)
    exact Nat.mul_pos this (by split <;> omega)
theorem ms_le {n st w : Nat} {K S F N t : Nat → Nat} {g : Nat → Bool → Nat} {d : Nat} (k : Nat) : sg (ms n K S F N st w t g d) k ≤ sg (fun f => pw g f 6) k := sg_sub k (fun f _ => by
  unfold ms
  split
  · exact Nat.le_refl _
  · exact Nat.zero_le _)
theorem all_C {o : Nat → Bool} {t : Nat → Nat} (h : ∀ e, e < 6 → t e ≤ 9) : cC o 6 * sg (fun f => pw (gC o t) f 6) 64 = 1000000 := by
  have h1 := sg_pw (gC o t) 6
  rw [show (2 : Nat) ^ 6 = 64 from rfl] at h1
  rw [h1]
  exact pp_C 6 h
theorem odds_eq {v A c M : Nat} (hc : 0 < c) (hcA : c * A = 1000000) (hM : M = c * v) (x : Int32) : (if x = 0 then v else A) / Nat.gcd v A = (if x = 0 then M else 1000000) / Nat.gcd 1000000 M := by
  have hA : 0 < A := by
    rcases Nat.eq_zero_or_pos A with h | h
    · rw [h] at hcA; omega
    · exact h
  obtain ⟨h1, h2, -, -⟩ := lo_eq (v := v) hc hA hcA
  subst hM
  by_cases h : x = 0
  · rw [if_pos h, if_pos h, h1]
  · rw [if_neg h, if_neg h, h2]

set_option maxRecDepth 100000 in
theorem s_odds (a0 a1 a2 : Int32) : PStpL (f_X9_odds_0 a0 a1 a2) (f_X10_odds_62 a0 a1 a2) := by
  intro μ hI0
  obtain ⟨n, Q, hC⟩ := hI0
  have hC0 := hC
  obtain ⟨⟨hn, hQ1, hQ6, e10, e622, e624, e11, e623, hk, hs⟩, hP, hI, hS, hT, hR⟩ := hC
  have h27 := p3 hn
  cases h1 : inb a0 4 with
  | false =>
    refine ⟨-1, μ, μ, ?_, ?_, n, Q, hC0⟩
    · unfold f_X9_odds_0
      rw [bnd (p_isSide _ μ), h1]
      rfl
    · unfold f_X10_odds_62
      rw [bnd (m_isSide _ μ), h1]
      rfl
  | true =>
    cases h2 : inb a1 Q with
    | false =>
      refine ⟨-1, μ, μ, ?_, ?_, n, Q, hC0⟩
      · unfold f_X9_odds_0
        rw [bnd (p_isSide _ μ), h1, if_neg (show ¬ b2i true = 0 by decide), bnd (p_hasQuarter e11 hQ6 _), h2]
        rfl
      · unfold f_X10_odds_62
        rw [bnd (m_isSide _ μ), h1, if_neg (show ¬ b2i true = 0 by decide), bnd (m_isQuarter e623 hQ6 _), h2]
        rfl
    | true =>
      cases h3 : inb a2 2 with
      | false =>
        refine ⟨-1, μ, μ, ?_, ?_, n, Q, hC0⟩
        · unfold f_X9_odds_0
          rw [bnd (p_isSide _ μ), h1, if_neg (show ¬ b2i true = 0 by decide), bnd (p_hasQuarter e11 hQ6 _), h2, if_neg (show ¬ b2i true = 0 by decide), bnd (p_isEither _ μ), h3]
          rfl
        · unfold f_X10_odds_62
          rw [bnd (m_isSide _ μ), h1, if_neg (show ¬ b2i true = 0 by decide), bnd (m_isQuarter e623 hQ6 _), h2, if_neg (show ¬ b2i true = 0 by decide), bnd (m_isPart _ μ), h3]
          rfl
      | true =>
        have h1' := h1
        have h2' := h2
        obtain ⟨d, hd, rfl⟩ := inb_of h1 (by omega)
        obtain ⟨Z, hZ, rfl⟩ := inb_of h2 (by omega)
        obtain ⟨K, S, hV⟩ := HV.get hC0.1
        obtain ⟨F, T, N, G, W, hPV⟩ := PV.get hn hP
        have hgl := glT hV hPV hP
        have hT9 := tq_le (n := n) (K := K) (W := W) (T := T) (fun e he => (hPV.2.1 e he).1)
        obtain ⟨ω, w1, w2, w3, w4⟩ := p_weighSleep hV hPV (Z := Z) (by omega)
        have hV' := hV.sm w2
        have hPV' := hPV.sm w2
        have hC' := hC0.sm w2
        obtain ⟨ζ, m1, m2⟩ := m_missedOver hV' hPV' hC'.abs hgl (Z := Z) (d := d) (by omega) hd
        have hall := all_C (o := opn n K (W Z) (tq n K W T Z)) (t := tq n K W T Z) (fun e he => hT9 Z e he)
        have hms := ms_eq (n := n) (st := G Z) (w := W Z) (K := K) (S := S) (F := F) (N := N) (t := tq n K W T Z) (o := opn n K (W Z) (tq n K W T Z)) d 64
        have hle := ms_le (n := n) (st := G Z) (w := W Z) (K := K) (S := S) (F := F) (N := N) (t := tq n K W T Z) (g := gC (opn n K (W Z) (tq n K W T Z)) (tq n K W T Z)) (d := d) 64
        have hcp := cC_pos (opn n K (W Z) (tq n K W T Z)) 6
        generalize sg (ms n K S F N (G Z) (W Z) (tq n K W T Z) (gM (opn n K (W Z) (tq n K W T Z)) (tq n K W T Z)) d) 64 = M at m1 hms
        have w4d := w4 d hd
        generalize sg (ms n K S F N (G Z) (W Z) (tq n K W T Z) (gC (opn n K (W Z) (tq n K W T Z)) (tq n K W T Z)) d) 64 = v at w4d hms hle
        generalize sg (fun f => pw (gC (opn n K (W Z) (tq n K W T Z)) (tq n K W T Z)) f 6) 64 = A at w3 hall hle
        generalize cC (opn n K (W Z) (tq n K W T Z)) 6 = c at hall hms hcp
        have hA6 : A ≤ 1000000 := by
          rw [← hall]
          exact Nat.le_mul_of_pos_left A hcp
        have hM6 : M ≤ 1000000 := by
          rw [hms, ← hall]
          exact Nat.mul_le_mul_left c hle
        have hA0 : 0 < A := by
          rcases Nat.eq_zero_or_pos A with h | h
          · rw [h] at hall; omega
          · exact h
        refine ⟨lN ((if a2 = 0 then v else A) / Nat.gcd v A), ω, ζ, ?_, ?_, n, Q, hC'.sm m2⟩
        · unfold f_X9_odds_0
          rw [bnd (p_isSide _ μ), h1', if_neg (show ¬ b2i true = 0 by decide), bnd (p_hasQuarter e11 hQ6 _), h2', if_neg (show ¬ b2i true = 0 by decide), bnd (p_isEither _ μ), h3, if_neg (show ¬ b2i true = 0 by decide), bnd w1, if_neg (show ¬ (true = false) by decide), nI_clamp (by omega), w4d, bnd (p_fraction (by omega) (by omega) hA0 w3)]
        · unfold f_X10_odds_62
          rw [bnd (m_isSide _ ω), h1', if_neg (show ¬ b2i true = 0 by decide), bnd (m_isQuarter (show ω.1 62 3 = nI Q by rw [w2 62 3 (Or.inl rfl)]; exact e623) hQ6 _), h2', if_neg (show ¬ b2i true = 0 by decide), bnd (m_isPart _ ω), h3, if_neg (show ¬ b2i true = 0 by decide), bnd m1, bnd (m_lowest (by omega)), odds_eq hcp hall hms a2]

set_option maxRecDepth 100000 in
theorem s_mean (a0 a1 : Int32) : PStpL (f_X9_mean_0 a0 a1) (f_X10_mean_62 a0 a1) := by
  intro μ hI0
  obtain ⟨n, Q, hC⟩ := hI0
  have hC0 := hC
  obtain ⟨⟨hn, hQ1, hQ6, e10, e622, e624, e11, e623, hk, hs⟩, hP, hI, hS, hT, hR⟩ := hC
  have h27 := p3 hn
  cases h2 : inb a0 Q with
  | false =>
    refine ⟨-1, μ, μ, ?_, ?_, n, Q, hC0⟩
    · unfold f_X9_mean_0
      rw [bnd (p_hasQuarter e11 hQ6 _), h2]
      rfl
    · unfold f_X10_mean_62
      rw [bnd (m_isQuarter e623 hQ6 _), h2]
      rfl
  | true =>
    cases h3 : inb a1 2 with
    | false =>
      refine ⟨-1, μ, μ, ?_, ?_, n, Q, hC0⟩
      · unfold f_X9_mean_0
        rw [bnd (p_hasQuarter e11 hQ6 _), h2, if_neg (show ¬ b2i true = 0 by decide), bnd (p_isEither _ μ), h3]
        rfl
      · unfold f_X10_mean_62
        rw [bnd (m_isQuarter e623 hQ6 _), h2, if_neg (show ¬ b2i true = 0 by decide), bnd (m_isPart _ μ), h3]
        rfl
    | true =>
      have h2' := h2
      obtain ⟨Z, hZ, rfl⟩ := inb_of h2 (by omega)
      obtain ⟨K, S, hV⟩ := HV.get hC0.1
      obtain ⟨F, T, N, G, W, hPV⟩ := PV.get hn hP
      have hgl := glT hV hPV hP
      have hT9 := tq_le (n := n) (K := K) (W := W) (T := T) (fun e he => (hPV.2.1 e he).1)
      obtain ⟨ω, w1, w2, w3, w4⟩ := p_weighSleep hV hPV (Z := Z) (by omega)
      have hV' := hV.sm w2
      have hPV' := hPV.sm w2
      have hC' := hC0.sm w2
      have hm : ∀ d, d < 4 → ∀ ξ, smE ω ξ → ∃ μ', f_X10_missedOver_62 (nI d) (nI Z) ξ = some (lN (sg (ms n K S F N (G Z) (W Z) (tq n K W T Z) (gM (opn n K (W Z) (tq n K W T Z)) (tq n K W T Z)) d) 64), μ') ∧ smE ξ μ' := fun d hd ξ hξ => m_missedOver (hV'.sm hξ) (hPV'.sm hξ) (hC'.sm hξ).abs hgl (Z := Z) (d := d) (by omega) hd
      have hall := all_C (o := opn n K (W Z) (tq n K W T Z)) (t := tq n K W T Z) (fun e he => hT9 Z e he)
      have hms := fun d => ms_eq (n := n) (st := G Z) (w := W Z) (K := K) (S := S) (F := F) (N := N) (t := tq n K W T Z) (o := opn n K (W Z) (tq n K W T Z)) d 64
      have hle := fun d => ms_le (n := n) (st := G Z) (w := W Z) (K := K) (S := S) (F := F) (N := N) (t := tq n K W T Z) (g := gC (opn n K (W Z) (tq n K W T Z)) (tq n K W T Z)) (d := d) 64
      have hcp := cC_pos (opn n K (W Z) (tq n K W T Z)) 6
      obtain ⟨M, hM⟩ : ∃ M : Nat → Nat, ∀ d, sg (ms n K S F N (G Z) (W Z) (tq n K W T Z) (gM (opn n K (W Z) (tq n K W T Z)) (tq n K W T Z)) d) 64 = M d := ⟨_, fun _ => rfl⟩
      obtain ⟨v, hv⟩ : ∃ v : Nat → Nat, ∀ d, sg (ms n K S F N (G Z) (W Z) (tq n K W T Z) (gC (opn n K (W Z) (tq n K W T Z)) (tq n K W T Z)) d) 64 = v d := ⟨_, fun _ => rfl⟩
      simp only [hM] at hm hms
      simp only [hv] at w4 hms hle
      generalize sg (fun f => pw (gC (opn n K (W Z) (tq n K W T Z)) (tq n K W T Z)) f 6) 64 = A at w3 hall hle
      generalize cC (opn n K (W Z) (tq n K W T Z)) 6 = c at hall hms hcp
      have hA6 : A ≤ 1000000 := by
        rw [← hall]
        exact Nat.le_mul_of_pos_left A hcp
      have hM6 : ∀ d, M d ≤ 1000000 := fun d => by
        rw [hms, ← hall]
        exact Nat.mul_le_mul_left c (hle d)
      have hA0 : 0 < A := by
        rcases Nat.eq_zero_or_pos A with h | h
        · rw [h] at hall; omega
        · exact h
      have hv6 : sg v 4 ≤ 4 * 1000000 := sg_le 4 (fun d _ => Nat.le_trans (hle d) hA6)
      have hMs : sg M 4 ≤ 4 * 1000000 := sg_le 4 (fun d _ => hM6 d)
      have hMv : sg M 4 = c * sg v 4 := by
        rw [← sg_mul]
        exact sg_congr 4 (fun d _ => hms d)
      have hp : it2 (f_X9_mean_0_L32 a1 ω) FU (0 : Int64) (0 : Int32) = some (lN ((if a1 = 0 then sg v 4 else A) / Nat.gcd (sg v 4) A), ω) := by
        refine for_accG nI 4 (fun i => lN (sg v i)) _ (fun k i hi => ?_) (fun k => ?_) FU 0 (by omega) (fu_gt (by omega))
        · unfold f_X9_mean_0_L32
          rw [if_neg (show ¬ (4 : Int32) ≤ nI i from nI_ge (b := 4) hi (by omega)), inb_nI (by omega) (by omega), if_neg (show ¬ (true = false) by decide), nI_clamp (by omega), w4 i hi, lN_add, al1]
          rfl
        · unfold f_X9_mean_0_L32
          rw [if_pos (show (4 : Int32) ≤ nI 4 from by decide), bnd (p_fraction (by omega) (by omega) hA0 w3)]
      have hq := for_accGm (body := f_X10_mean_62_L24 (nI Z) a1) nI 4 (fun i => lN (sg M i)) (fun _ ξ => smE ω ξ) (fun r => r.1 = lN ((if a1 = 0 then sg v 4 else A) / Nat.gcd (sg v 4) A) ∧ smE ω r.2) (fun k i ξ hi hR => by
        obtain ⟨ζ, z1, z2⟩ := hm i hi ξ hR
        unfold f_X10_mean_62_L24
        rw [if_neg (show ¬ (4 : Int32) ≤ nI i from nI_ge (b := 4) hi (by omega)), bnd z1]
        dsimp only
        rw [lN_add, al1]
        exact ⟨ζ, rfl, hR.tr z2⟩) (fun k ξ hR => by
        unfold f_X10_mean_62_L24
        rw [if_pos (show (4 : Int32) ≤ nI 4 from by decide), bnd (m_lowest (by omega))]
        exact ⟨_, rfl, congrArg lN (odds_eq hcp hall hMv a1).symm, hR⟩) FU 0 ω (by omega) (fu_gt (by omega)) (smE.rf ω)
      obtain ⟨r, r1, r2, r3⟩ := hq
      refine ⟨lN ((if a1 = 0 then sg v 4 else A) / Nat.gcd (sg v 4) A), ω, r.2, ?_, ?_, n, Q, hC'.sm r3⟩
      · unfold f_X9_mean_0
        rw [bnd (p_hasQuarter e11 hQ6 _), h2', if_neg (show ¬ b2i true = 0 by decide), bnd (p_isEither _ μ), h3, if_neg (show ¬ b2i true = 0 by decide), bnd w1]
        exact hp
      · unfold f_X10_mean_62
        rw [bnd (m_isQuarter (show ω.1 62 3 = nI Q by rw [w2 62 3 (Or.inl rfl)]; exact e623) hQ6 _), h2', if_neg (show ¬ b2i true = 0 by decide), bnd (m_isPart _ ω), h3, if_neg (show ¬ b2i true = 0 by decide)]
        refine r1.trans ?_
        rw [← r2]
