theorem it4_run {ρ : Type} {body : (Int32 → Int32 → Int32 → Mem → Option ρ) → Int32 → Int32 → Int32 → Mem → Option ρ} (M : Nat) (A B : Nat → Int32) (m : Nat → Mem) (hstep : ∀ k i, i < M → body k (A i) (B i) (nI i) (m i) = k (A (i + 1)) (B (i + 1)) (nI (i + 1)) (m (i + 1))) (f : Nat) : it4 body (f + M) (A 0) (B 0) (nI 0) (m 0) = it4 body f (A M) (B M) (nI M) (m M) := by
  have key : ∀ j, j ≤ M → it4 body (f + j) (A (M - j)) (B (M - j)) (nI (M - j)) (m (M - j)) = it4 body f (A M) (B M) (nI M) (m M) := by
    intro j
    induction j with
    | zero => intro _; rfl
    | succ j ih =>
      intro hj
      show body (it4 body (f + j)) (A (M - (j + 1))) (B (M - (j + 1))) (nI (M - (j + 1))) (m (M - (j + 1))) = _
      rw [hstep _ _ (by omega), show M - (j + 1) + 1 = M - j by omega]
      exact ih (by omega)
  have := key M (Nat.le_refl _)
  rw [Nat.sub_self] at this
  exact this
/-- the pairs told: place base, from memory m, q and w of each pair -/
def wm (b pl : Nat) (q w : Nat → Nat) (m : Mem) : Nat → Mem
  | 0 => m
  | i + 1 => pI (wm b pl q w m i) pl (b + q i) (nI (w i))
theorem wm_p {b pl : Nat} {q w : Nat → Nat} {m : Mem} {p k : Nat} (h : p ≠ pl) : ∀ i, (wm b pl q w m i).1 p k = m.1 p k
  | 0 => rfl
  | i + 1 => by
    show (pI (wm b pl q w m i) pl (b + q i) (nI (w i))).1 p k = _
    rw [rd_p h]
    exact wm_p h i
def wv (q w : Nat → Nat) (v : Nat → Int32) : Nat → Nat → Int32
  | 0 => v
  | i + 1 => fun k => if k = q i then nI (w i) else wv q w v i k
theorem wm_v {b pl : Nat} {q w : Nat → Nat} {m : Mem} (k : Nat) : ∀ i, (wm b pl q w m i).1 pl (b + k) = wv q w (fun k => m.1 pl (b + k)) i k
  | 0 => rfl
  | i + 1 => by
    show (pI (wm b pl q w m i) pl (b + q i) (nI (w i))).1 pl (b + k) = if k = q i then nI (w i) else wv q w (fun k => m.1 pl (b + k)) i k
    by_cases h : k = q i
    · rw [if_pos h, h]
      exact rd_s
    · rw [if_neg h, rd_i (by omega)]
      exact wm_v k i
theorem wm_o {b pl : Nat} {q w : Nat → Nat} {m : Mem} {k : Nat} (h : k < b ∨ b + 6 ≤ k) : ∀ i, (∀ j, j < i → q j < 6) → (wm b pl q w m i).1 pl k = m.1 pl k
  | 0, _ => rfl
  | i + 1, hq => by
    show (pI (wm b pl q w m i) pl (b + q i) (nI (w i))).1 pl k = _
    have := hq i (by omega)
    rw [rd_i (by omega)]
    exact wm_o h i (fun j hj => hq j (by omega))
