/-! PURE: loops -/
theorem fu_gt {n : Nat} (h : n < 100000) : n < FU := Nat.lt_trans h (by decide)
/-- a counted loop over the memory -/
theorem for_rel {ρ : Type} {body : (Int32 → Mem → Option ρ) → Int32 → Mem → Option ρ} (ix : Nat → Int32) (N : Nat) (P : Nat → Mem → Prop) (R : ρ → Prop) (hstep : ∀ k i μ, i < N → P i μ → ∃ μ', body k (ix i) μ = k (ix (i + 1)) μ' ∧ P (i + 1) μ') (hexit : ∀ k μ, P N μ → ∃ r, body k (ix N) μ = some r ∧ R r) : ∀ n i μ, i ≤ N → N < i + n → P i μ → ∃ r, it2 body n (ix i) μ = some r ∧ R r := by
  intro n
  induction n with
  | zero =>
    intro i μ h1 h2
    omega
  | succ n ih =>
    intro i μ h1 h2 hP
    show ∃ r, body (it2 body n) (ix i) μ = some r ∧ R r
    by_cases hi : i = N
    · subst hi
      exact hexit _ μ hP
    · obtain ⟨μ', h3, h4⟩ := hstep (it2 body n) i μ (by omega) hP
      rw [h3]
      exact ih (i + 1) μ' (by omega) (by omega) h4
/-- a counted loop with a sum ahead of the counter, memory as it was -/
theorem for_acc {ρ : Type} {body : (Int32 → Int32 → Option ρ) → Int32 → Int32 → Option ρ} (ix : Nat → Int32) (N : Nat) (F : Nat → Int32) (r : Option ρ) (hstep : ∀ k i, i < N → body k (F i) (ix i) = k (F (i + 1)) (ix (i + 1))) (hexit : ∀ k, body k (F N) (ix N) = r) : ∀ n i, i ≤ N → N < i + n → it2 body n (F i) (ix i) = r := by
  intro n
  induction n with
  | zero =>
    intro i h1 h2
    omega
  | succ n ih =>
    intro i h1 h2
    show body (it2 body n) (F i) (ix i) = r
    by_cases hi : i = N
    · subst hi
      exact hexit _
    · rw [hstep (it2 body n) i (by omega)]
      exact ih (i + 1) (by omega) (by omega)
/-- the same with the memory in the loop -/
theorem for_acc3 {ρ : Type} {body : (Int32 → Int32 → Mem → Option ρ) → Int32 → Int32 → Mem → Option ρ} (ix : Nat → Int32) (N : Nat) (P : Nat → Int32 → Mem → Prop) (R : ρ → Prop) (hstep : ∀ k i a μ, i < N → P i a μ → ∃ a' μ', body k a (ix i) μ = k a' (ix (i + 1)) μ' ∧ P (i + 1) a' μ') (hexit : ∀ k a μ, P N a μ → ∃ r, body k a (ix N) μ = some r ∧ R r) : ∀ n i a μ, i ≤ N → N < i + n → P i a μ → ∃ r, it3 body n a (ix i) μ = some r ∧ R r := by
  intro n
  induction n with
  | zero =>
    intro i a μ h1 h2
    omega
  | succ n ih =>
    intro i a μ h1 h2 hP
    show ∃ r, body (it3 body n) a (ix i) μ = some r ∧ R r
    by_cases hi : i = N
    · subst hi
      exact hexit _ a μ hP
    · obtain ⟨a', μ', h3, h4⟩ := hstep (it3 body n) i a μ (by omega) hP
      rw [h3]
      exact ih (i + 1) a' μ' (by omega) (by omega) h4
theorem nI_ge_iff {a b : Nat} (ha : a < 2 ^ 31) (hb : b < 2 ^ 31) : (nI a ≤ nI b) = (a ≤ b) := propext (nI_leI ha hb)
/-- cells lo .. lo + N - 1 of the row p are g, all else is as in μ -/
def setW (μ μ' : Mem) (p lo N : Nat) (g : Nat → Int32) : Prop := (∀ q k, ¬ (q = p ∧ lo ≤ k ∧ k < lo + N) → μ'.1 q k = μ.1 q k) ∧ (∀ k, k < N → μ'.1 p (lo + k) = g k) ∧ μ'.2 = μ.2
theorem setW.z {μ : Mem} {p lo : Nat} {g : Nat → Int32} : setW μ μ p lo 0 g := ⟨fun _ _ _ => rfl, fun _ h => by omega, rfl⟩
theorem setW.s {μ μ' : Mem} {p lo N : Nat} {g : Nat → Int32} (h : setW μ μ' p lo N g) : setW μ (pI μ' p (lo + N) (g N)) p lo (N + 1) g := by
  refine ⟨fun q k hq => ?_, fun k hk => ?_, h.2.2⟩
  · rw [← h.1 q k (by omega)]
    by_cases hp : q = p
    · subst hp
      exact rd_i (by omega)
    · exact rd_p hp
  · by_cases hkN : k = N
    · subst hkN
      exact rd_s
    · rw [rd_i (by omega)]
      exact h.2.1 k (by omega)
theorem p_fill_38 (v : Int32) (μ : Mem) : ∃ μ', f_J7_fill_53178_38 v μ = some μ' ∧ setW μ μ' 38 0 3 (fun _ => v) := by
  unfold f_J7_fill_53178_38
  refine for_rel nI 3 (fun i ν => setW μ ν 38 0 i (fun _ => v)) _ (fun k i ν hi hP => ?_) (fun k ν hP => ?_) FU 0 μ (by omega) (fu_gt (by omega)) setW.z
  · unfold f_J7_fill_53178_38_L5
    have c : ¬ (3 : Int32) ≤ nI i := nI_ge (b := 3) hi (by omega)
    rw [if_neg c, inb_nI (by omega) (by omega), nI_clamp (by omega), al1]
    have h := hP.s
    rw [Nat.zero_add] at h
    exact ⟨_, rfl, h⟩
  · unfold f_J7_fill_53178_38_L5
    rw [if_pos (show (3 : Int32) ≤ nI 3 from by decide)]
    exact ⟨_, rfl, hP⟩
theorem p_fill_39 (v : Int32) (μ : Mem) : ∃ μ', f_J7_fill_53178_39 v μ = some μ' ∧ setW μ μ' 39 0 6 (fun _ => v) := by
  unfold f_J7_fill_53178_39
  refine for_rel nI 6 (fun i ν => setW μ ν 39 0 i (fun _ => v)) _ (fun k i ν hi hP => ?_) (fun k ν hP => ?_) FU 0 μ (by omega) (fu_gt (by omega)) setW.z
  · unfold f_J7_fill_53178_39_L5
    have c : ¬ (6 : Int32) ≤ nI i := nI_ge (b := 6) hi (by omega)
    rw [if_neg c, inb_nI (by omega) (by omega), nI_clamp (by omega), al1]
    have h := hP.s
    rw [Nat.zero_add] at h
    exact ⟨_, rfl, h⟩
  · unfold f_J7_fill_53178_39_L5
    rw [if_pos (show (6 : Int32) ≤ nI 6 from by decide)]
    exact ⟨_, rfl, hP⟩
theorem p_fill_41 (v : Int32) (μ : Mem) : ∃ μ', f_J7_fill_53178_41 v μ = some μ' ∧ setW μ μ' 41 0 3 (fun _ => v) := by
  unfold f_J7_fill_53178_41
  refine for_rel nI 3 (fun i ν => setW μ ν 41 0 i (fun _ => v)) _ (fun k i ν hi hP => ?_) (fun k ν hP => ?_) FU 0 μ (by omega) (fu_gt (by omega)) setW.z
  · unfold f_J7_fill_53178_41_L5
    have c : ¬ (3 : Int32) ≤ nI i := nI_ge (b := 3) hi (by omega)
    rw [if_neg c, inb_nI (by omega) (by omega), nI_clamp (by omega), al1]
    have h := hP.s
    rw [Nat.zero_add] at h
    exact ⟨_, rfl, h⟩
  · unfold f_J7_fill_53178_41_L5
    rw [if_pos (show (3 : Int32) ≤ nI 3 from by decide)]
    exact ⟨_, rfl, hP⟩
theorem p_fill_42 (v : Int32) (μ : Mem) : ∃ μ', f_J7_fill_53178_42 v μ = some μ' ∧ setW μ μ' 42 0 6 (fun _ => v) := by
  unfold f_J7_fill_53178_42
  refine for_rel nI 6 (fun i ν => setW μ ν 42 0 i (fun _ => v)) _ (fun k i ν hi hP => ?_) (fun k ν hP => ?_) FU 0 μ (by omega) (fu_gt (by omega)) setW.z
  · unfold f_J7_fill_53178_42_L5
    have c : ¬ (6 : Int32) ≤ nI i := nI_ge (b := 6) hi (by omega)
    rw [if_neg c, inb_nI (by omega) (by omega), nI_clamp (by omega), al1]
    have h := hP.s
    rw [Nat.zero_add] at h
    exact ⟨_, rfl, h⟩
  · unfold f_J7_fill_53178_42_L5
    rw [if_pos (show (6 : Int32) ≤ nI 6 from by decide)]
    exact ⟨_, rfl, hP⟩
theorem p_fill_43 (v : Int32) (μ : Mem) : ∃ μ', f_J7_fill_53178_43 v μ = some μ' ∧ setW μ μ' 43 0 4 (fun _ => v) := by
  unfold f_J7_fill_53178_43
  refine for_rel nI 4 (fun i ν => setW μ ν 43 0 i (fun _ => v)) _ (fun k i ν hi hP => ?_) (fun k ν hP => ?_) FU 0 μ (by omega) (fu_gt (by omega)) setW.z
  · unfold f_J7_fill_53178_43_L5
    have c : ¬ (4 : Int32) ≤ nI i := nI_ge (b := 4) hi (by omega)
    rw [if_neg c, inb_nI (by omega) (by omega), nI_clamp (by omega), al1]
    have h := hP.s
    rw [Nat.zero_add] at h
    exact ⟨_, rfl, h⟩
  · unfold f_J7_fill_53178_43_L5
    rw [if_pos (show (4 : Int32) ≤ nI 4 from by decide)]
    exact ⟨_, rfl, hP⟩
theorem p_fill_44 (v : Int32) (μ : Mem) : ∃ μ', f_J7_fill_53178_44 v μ = some μ' ∧ setW μ μ' 44 0 6 (fun _ => v) := by
  unfold f_J7_fill_53178_44
  refine for_rel nI 6 (fun i ν => setW μ ν 44 0 i (fun _ => v)) _ (fun k i ν hi hP => ?_) (fun k ν hP => ?_) FU 0 μ (by omega) (fu_gt (by omega)) setW.z
  · unfold f_J7_fill_53178_44_L5
    have c : ¬ (6 : Int32) ≤ nI i := nI_ge (b := 6) hi (by omega)
    rw [if_neg c, inb_nI (by omega) (by omega), nI_clamp (by omega), al1]
    have h := hP.s
    rw [Nat.zero_add] at h
    exact ⟨_, rfl, h⟩
  · unfold f_J7_fill_53178_44_L5
    rw [if_pos (show (6 : Int32) ≤ nI 6 from by decide)]
    exact ⟨_, rfl, hP⟩
theorem p_fill_45 (v : Int32) (μ : Mem) : ∃ μ', f_J7_fill_53178_45 v μ = some μ' ∧ setW μ μ' 45 0 6 (fun _ => v) := by
  unfold f_J7_fill_53178_45
  refine for_rel nI 6 (fun i ν => setW μ ν 45 0 i (fun _ => v)) _ (fun k i ν hi hP => ?_) (fun k ν hP => ?_) FU 0 μ (by omega) (fu_gt (by omega)) setW.z
  · unfold f_J7_fill_53178_45_L5
    have c : ¬ (6 : Int32) ≤ nI i := nI_ge (b := 6) hi (by omega)
    rw [if_neg c, inb_nI (by omega) (by omega), nI_clamp (by omega), al1]
    have h := hP.s
    rw [Nat.zero_add] at h
    exact ⟨_, rfl, h⟩
  · unfold f_J7_fill_53178_45_L5
    rw [if_pos (show (6 : Int32) ≤ nI 6 from by decide)]
    exact ⟨_, rfl, hP⟩
theorem p_fill_28 (v : Int32) (μ : Mem) : ∃ μ', f_J7_fill_53178_28 v μ = some μ' ∧ setW μ μ' 28 0 40 (fun _ => v) := by
  unfold f_J7_fill_53178_28
  refine for_rel nI 40 (fun i ν => setW μ ν 28 0 i (fun _ => v)) _ (fun k i ν hi hP => ?_) (fun k ν hP => ?_) FU 0 μ (by omega) (fu_gt (by omega)) setW.z
  · unfold f_J7_fill_53178_28_L5
    have c : ¬ (40 : Int32) ≤ nI i := nI_ge (b := 40) hi (by omega)
    rw [if_neg c, inb_nI (by omega) (by omega), nI_clamp (by omega), al1]
    have h := hP.s
    rw [Nat.zero_add] at h
    exact ⟨_, rfl, h⟩
  · unfold f_J7_fill_53178_28_L5
    rw [if_pos (show (40 : Int32) ≤ nI 40 from by decide)]
    exact ⟨_, rfl, hP⟩
theorem p_fill_30 (v : Int32) (μ : Mem) : ∃ μ', f_J7_fill_53178_30 v μ = some μ' ∧ setW μ μ' 30 0 40 (fun _ => v) := by
  unfold f_J7_fill_53178_30
  refine for_rel nI 40 (fun i ν => setW μ ν 30 0 i (fun _ => v)) _ (fun k i ν hi hP => ?_) (fun k ν hP => ?_) FU 0 μ (by omega) (fu_gt (by omega)) setW.z
  · unfold f_J7_fill_53178_30_L5
    have c : ¬ (40 : Int32) ≤ nI i := nI_ge (b := 40) hi (by omega)
    rw [if_neg c, inb_nI (by omega) (by omega), nI_clamp (by omega), al1]
    have h := hP.s
    rw [Nat.zero_add] at h
    exact ⟨_, rfl, h⟩
  · unfold f_J7_fill_53178_30_L5
    rw [if_pos (show (40 : Int32) ≤ nI 40 from by decide)]
    exact ⟨_, rfl, hP⟩
theorem p_fill_32 (v : Int32) (μ : Mem) : ∃ μ', f_J7_fill_53178_32 v μ = some μ' ∧ setW μ μ' 32 0 40 (fun _ => v) := by
  unfold f_J7_fill_53178_32
  refine for_rel nI 40 (fun i ν => setW μ ν 32 0 i (fun _ => v)) _ (fun k i ν hi hP => ?_) (fun k ν hP => ?_) FU 0 μ (by omega) (fu_gt (by omega)) setW.z
  · unfold f_J7_fill_53178_32_L5
    have c : ¬ (40 : Int32) ≤ nI i := nI_ge (b := 40) hi (by omega)
    rw [if_neg c, inb_nI (by omega) (by omega), nI_clamp (by omega), al1]
    have h := hP.s
    rw [Nat.zero_add] at h
    exact ⟨_, rfl, h⟩
  · unfold f_J7_fill_53178_32_L5
    rw [if_pos (show (40 : Int32) ≤ nI 40 from by decide)]
    exact ⟨_, rfl, hP⟩
theorem p_fill_34 (v : Int32) (μ : Mem) : ∃ μ', f_J7_fill_53178_34 v μ = some μ' ∧ setW μ μ' 34 0 40 (fun _ => v) := by
  unfold f_J7_fill_53178_34
  refine for_rel nI 40 (fun i ν => setW μ ν 34 0 i (fun _ => v)) _ (fun k i ν hi hP => ?_) (fun k ν hP => ?_) FU 0 μ (by omega) (fu_gt (by omega)) setW.z
  · unfold f_J7_fill_53178_34_L5
    have c : ¬ (40 : Int32) ≤ nI i := nI_ge (b := 40) hi (by omega)
    rw [if_neg c, inb_nI (by omega) (by omega), nI_clamp (by omega), al1]
    have h := hP.s
    rw [Nat.zero_add] at h
    exact ⟨_, rfl, h⟩
  · unfold f_J7_fill_53178_34_L5
    rw [if_pos (show (40 : Int32) ≤ nI 40 from by decide)]
    exact ⟨_, rfl, hP⟩
theorem m_copies {a b : Nat} (ha : a ≤ 108) (hb : b ≤ 108) (hd : a + 54 ≤ b ∨ b + 54 ≤ a) (μ : Mem) : ∃ μ', f_X10_copies_62 (nI a) (nI b) μ = some μ' ∧ setW μ μ' 63 a 54 (fun k => μ.1 63 (b + k)) := by
  unfold f_X10_copies_62
  refine for_rel nI 54 (fun i ν => setW μ ν 63 a i (fun k => μ.1 63 (b + k))) _ (fun k i ν hi hP => ?_) (fun k ν hP => ?_) FU 0 μ (by omega) (fu_gt (by omega)) setW.z
  · unfold f_X10_copies_62_L2
    have c : ¬ (54 : Int32) ≤ nI i := nI_ge (b := 54) hi (by omega)
    rw [if_neg c, nI_add, nI_add, inb_nI (by omega) (by omega), inb_nI (by omega) (by omega), nI_clamp (by omega), nI_clamp (by omega), al1, hP.1 63 (b + i) (by omega)]
    exact ⟨_, rfl, hP.s⟩
  · unfold f_X10_copies_62_L2
    rw [if_pos (show (54 : Int32) ≤ nI 54 from by decide)]
    exact ⟨_, rfl, hP⟩
