/-! six lids as bits; what the eyes see -/
def mk6 (f : Nat → Bool) : Nat := (f 0).toNat + 2 * (f 1).toNat + 4 * (f 2).toNat + 8 * (f 3).toNat + 16 * (f 4).toNat + 32 * (f 5).toNat
theorem mk6_lt (f : Nat → Bool) : mk6 f < 64 := by
  have := fun k => Bool.toNat_le (f k)
  have h0 := this 0
  have h1 := this 1
  have h2 := this 2
  have h3 := this 3
  have h4 := this 4
  have h5 := this 5
  unfold mk6
  omega
theorem mk6_congr {f g : Nat → Bool} (h : ∀ e, e < 6 → f e = g e) : mk6 f = mk6 g := by
  unfold mk6
  rw [h 0 (by omega), h 1 (by omega), h 2 (by omega), h 3 (by omega), h 4 (by omega), h 5 (by omega)]
theorem six {P : Nat → Prop} (h0 : P 0) (h1 : P 1) (h2 : P 2) (h3 : P 3) (h4 : P 4) (h5 : P 5) : ∀ e, e < 6 → P e := by
  intro e he
  rcases (show e = 0 ∨ e = 1 ∨ e = 2 ∨ e = 3 ∨ e = 4 ∨ e = 5 by omega) with rfl | rfl | rfl | rfl | rfl | rfl <;> assumption
def b6 (a b c d e f : Bool) : Nat := a.toNat + 2 * b.toNat + 4 * c.toNat + 8 * d.toNat + 16 * e.toNat + 32 * f.toNat
theorem b6_bits : ∀ a b c d e f : Bool, (nI (b6 a b c d e f) >>> (nI 0 &&& 31)) &&& 1 = b2i a ∧ (nI (b6 a b c d e f) >>> (nI 1 &&& 31)) &&& 1 = b2i b ∧ (nI (b6 a b c d e f) >>> (nI 2 &&& 31)) &&& 1 = b2i c ∧ (nI (b6 a b c d e f) >>> (nI 3 &&& 31)) &&& 1 = b2i d ∧ (nI (b6 a b c d e f) >>> (nI 4 &&& 31)) &&& 1 = b2i e ∧ (nI (b6 a b c d e f) >>> (nI 5 &&& 31)) &&& 1 = b2i f := by decide +kernel
theorem mk6_bit (f : Nat → Bool) : ∀ e, e < 6 → (nI (mk6 f) >>> (nI e &&& 31)) &&& 1 = b2i (f e) := by
  obtain ⟨h0, h1, h2, h3, h4, h5⟩ := b6_bits (f 0) (f 1) (f 2) (f 3) (f 4) (f 5)
  exact six h0 h1 h2 h3 h4 h5
theorem v_and : ∀ v, v < 64 → ∃ f : Nat → Bool, v = mk6 f := by
  intro v hv
  refine ⟨fun e => decide (v / 2 ^ e % 2 = 1), ?_⟩
  have key : ∀ v, v < 64 → v = mk6 (fun e => decide (v / 2 ^ e % 2 = 1)) := by decide +kernel
  exact key v hv
theorem b6_and : ∀ a b c d e f a' b' c' d' e' f' : Bool, nI (b6 a b c d e f) &&& nI (b6 a' b' c' d' e' f') = nI (b6 (a && a') (b && b') (c && c') (d && d') (e && e') (f && f')) := by decide +kernel
theorem b6_andn : ∀ a b c d e f a' b' c' d' e' f' : Bool, nI (b6 a b c d e f) &&& (nI (b6 a' b' c' d' e' f') ^^^ (-1 : Int32)) = nI (b6 (a && !a') (b && !b') (c && !c') (d && !d') (e && !e') (f && !f')) := by decide +kernel
theorem b6_or : ∀ a b c d e f a' b' c' d' e' f' : Bool, nI (b6 a b c d e f) ||| nI (b6 a' b' c' d' e' f') = nI (b6 (a || a') (b || b') (c || c') (d || d') (e || e') (f || f')) := by decide +kernel
theorem mk6_and (f g : Nat → Bool) : nI (mk6 f) &&& nI (mk6 g) = nI (mk6 fun e => f e && g e) := b6_and _ _ _ _ _ _ _ _ _ _ _ _
theorem mk6_andn (f g : Nat → Bool) : nI (mk6 f) &&& (nI (mk6 g) ^^^ (-1 : Int32)) = nI (mk6 fun e => f e && !g e) := b6_andn _ _ _ _ _ _ _ _ _ _ _ _
theorem mk6_or (f g : Nat → Bool) : nI (mk6 f) ||| nI (mk6 g) = nI (mk6 fun e => f e || g e) := b6_or _ _ _ _ _ _ _ _ _ _ _ _
theorem sh1 : ∀ e, e < 6 → ∀ b : Bool, (b2i b) <<< (nI e &&& 31) = nI (mk6 fun x => decide (x = e) && b) := by decide +kernel
theorem sh1' : ∀ e, e < 6 → (1 : Int32) <<< (nI e &&& 31) = nI (mk6 fun x => decide (x = e)) := by decide +kernel
theorem sh3 : ∀ s, s < 3 → (3 : Int32) <<< (((2 : Int32) * nI s) &&& 31) = nI (mk6 fun x => decide (x / 2 = s)) := by decide +kernel
theorem sh12 : ∀ s, s < 3 → (1 : Int32) <<< (((2 : Int32) * nI s) &&& 31) = nI (mk6 fun x => decide (x = 2 * s)) := by decide +kernel
theorem z_mk6 : (0 : Int32) = nI (mk6 fun _ => false) := rfl
theorem mk6_z : ∀ v, v < 64 → (nI v = 0 ↔ v = 0) := fun v hv => nI_eq (b := 0) (by omega) (by omega)
/-- the lid of eye e in watch w -/
def shut (w e : Nat) : Bool := decide (w / 3 ^ (e / 2) % 3 = e % 2 + 1)
theorem shu_T : ∀ w, w < 27 → shuF w = nI (mk6 (shut w)) := by decide +kernel
def shS (a2 : Int32) (a3 : Int32) (a4 : Int32) : Int32 := if (a3 - a3 / 3 * 3) = 0 then a2 ||| 0 else a2 ||| ((1 : Int32) <<< (((((2 : Int32) * a4) + (a3 - a3 / 3 * 3)) - 1) &&& 31))
theorem sh_step : ∀ w, w < 27 → ∀ i, i < 3 → shS (nI (mk6 fun e => decide (e < 2 * i) && shut w e)) (nI (w / 3 ^ i)) (nI i) = nI (mk6 fun e => decide (e < 2 * (i + 1)) && shut w e) ∧ nI (w / 3 ^ i) / (3 : Int32) = nI (w / 3 ^ (i + 1)) := by decide +kernel
theorem sh_end : ∀ n, n < 4 → ∀ w, w < 3 ^ n → mk6 (fun e => decide (e < 2 * n) && shut w e) = mk6 (shut w) := by decide +kernel
theorem for_acc2 {ρ : Type} {body : (Int32 → Int32 → Int32 → Option ρ) → Int32 → Int32 → Int32 → Option ρ} (ix : Nat → Int32) (N : Nat) (F G : Nat → Int32) (r : Option ρ) (hstep : ∀ k i, i < N → body k (F i) (G i) (ix i) = k (F (i + 1)) (G (i + 1)) (ix (i + 1))) (hend : ∀ k, body k (F N) (G N) (ix N) = r) : ∀ fuel i, i ≤ N → N < fuel + i → it3 body fuel (F i) (G i) (ix i) = r := by
  intro fuel
  induction fuel with
  | zero => intro i h1 h2; omega
  | succ m ih =>
    intro i h1 h2
    show body (it3 body m) (F i) (G i) (ix i) = r
    by_cases hi : i < N
    · rw [hstep _ i hi]
      exact ih (i + 1) (by omega) (by omega)
    · have : i = N := by omega
      subst this
      exact hend _
theorem m_shutBy {n w : Nat} {μ : Mem} (h : μ.1 62 2 = nI n) (hn : n ≤ 3) (hw : w < 3 ^ n) : f_X10_shutBy_62 (nI w) μ = some (nI (mk6 (shut w)), μ) := by
  have h27 := p3 hn
  unfold f_X10_shutBy_62
  have hg : (nI w : Int32) = nI (w / 3 ^ 0) := by simp
  have hz : (0 : Int32) = nI (mk6 fun e => decide (e < 2 * 0) && shut w e) := by
    rw [show mk6 (fun e => decide (e < 2 * 0) && shut w e) = mk6 (fun _ => false) from mk6_congr (fun e _ => by simp)]
    rfl
  rw [hg, hz]
  refine for_acc2 nI n (fun i => nI (mk6 fun e => decide (e < 2 * i) && shut w e)) (fun i => nI (w / 3 ^ i)) _ (fun k i hi => ?_) (fun k => ?_) FU 0 (by omega) (fu_gt (by omega))
  · obtain ⟨s1, s2⟩ := sh_step w (by omega) i (by omega)
    unfold f_X10_shutBy_62_L7
    rw [h, if_neg (nI_ge hi (by omega))]
    rw [← s1, ← s2]
    unfold shS f_X10_shutBy_62_J39
    rw [al1]
    split <;> rfl
  · unfold f_X10_shutBy_62_L7
    rw [h, if_pos (nI_le (Nat.le_refl _) (by omega)), sh_end n (by omega) w hw]
