/-! PURE: frames of the invariant's parts -/
theorem HouseR.fr {n Q : Nat} {μ μ' : Mem} (h1 : ∀ p k, (p = 1 ∨ p = 2 ∨ p = 3 ∨ p = 65 ∨ p = 66) → μ'.1 p k = μ.1 p k) (h2 : ∀ k, (k = 2 ∨ k = 3 ∨ k = 4) → μ'.1 62 k = μ.1 62 k) (h : HouseR n Q μ) : HouseR n Q μ' := by
  unfold HouseR at h ⊢
  rw [h1 1 0 (by omega), h1 1 1 (by omega), h2 2 (by omega), h2 3 (by omega), h2 4 (by omega)]
  simp only [h1 2 _ (by omega), h1 3 _ (by omega), h1 65 _ (by omega), h1 66 _ (by omega)]
  exact h
theorem PostR.fr {n Q : Nat} {μ μ' : Mem} {p o : Nat} (h1 : ∀ j k, j ≤ 6 → μ'.1 (p + j) k = μ.1 (p + j) k) (h2 : ∀ k, μ'.1 2 k = μ.1 2 k) (h3 : ∀ k, o ≤ k → k < o + 54 → μ'.1 63 k = μ.1 63 k) (h : PostR n Q μ p o) : PostR n Q μ' p o := by
  obtain ⟨a1, a2, a3, a4, a5, a6⟩ := h
  have h10 : ∀ k, μ'.1 p k = μ.1 p k := fun k => h1 0 k (by omega)
  refine ⟨fun s hs => ?_, fun s hs => ?_, fun s hs => ?_, fun s hs => ?_, fun s hs => ?_, ?_⟩
  · rw [h1 1 _ (by omega), h3 _ (by omega) (by omega)]; exact a1 s hs
  · rw [h1 2 _ (by omega), h3 _ (by omega) (by omega), h2]; exact a2 s hs
  · rw [h1 3 _ (by omega), h3 _ (by omega) (by omega)]; exact a3 s hs
  · rw [h1 4 _ (by omega), h3 _ (by omega) (by omega)]; exact a4 s hs
  · rw [h1 5 _ (by omega), h3 _ (by omega) (by omega)]; exact a5 s hs
  · obtain ⟨h, g1, g2, g3, g4⟩ := a6
    refine ⟨h, g1, by rw [h10]; exact g2, by rw [h3 _ (by omega) (by omega)]; exact g3, fun i hi => ?_⟩
    rw [h1 6 _ (by omega), h3 _ (by omega) (by omega), h3 _ (by omega) (by omega), h3 _ (by omega) (by omega)]
    exact g4 i hi
theorem ImgR.fr {n Q : Nat} {μ μ' : Mem} (h1 : ∀ p k, 12 ≤ p → p < 26 → μ'.1 p k = μ.1 p k) (h2 : ∀ k, μ'.1 2 k = μ.1 2 k) (h3 : ∀ k, 54 ≤ k → μ'.1 63 k = μ.1 63 k) (h4 : μ'.1 0 3 = μ.1 0 3) (h5 : ∀ k, μ'.1 64 k = μ.1 64 k) (h : ImgR n Q μ) : ImgR n Q μ' := by
  obtain ⟨a, b, g1, g2, g3, g4, g5⟩ := h
  refine ⟨a, b, by rw [h4]; exact g1, by rw [h5]; exact g2, by rw [h5]; exact g3, fun h => (g4 h).fr (fun j k hj => h1 _ _ (by omega) (by omega)) h2 (fun k hk _ => h3 k (by omega)), fun h => (g5 h).fr (fun j k hj => h1 _ _ (by omega) (by omega)) h2 (fun k hk _ => h3 k (by omega))⟩
theorem SheetR.fr {μ μ' : Mem} {k : Nat} (h1 : ∀ i, μ'.1 (27 + 2 * k) i = μ.1 (27 + 2 * k) i) (h2 : ∀ i, μ'.1 (28 + 2 * k) i = μ.1 (28 + 2 * k) i) (h3 : μ'.1 76 k = μ.1 76 k) (h4 : μ'.1 77 k = μ.1 77 k) (h5 : ∀ i, i < 40 → μ'.1 78 (40 * k + i) = μ.1 78 (40 * k + i)) (h : SheetR μ k) : SheetR μ' k := by
  rcases h with ⟨g1, g2⟩ | ⟨l, z, g1, g2, g3, g4, g5, g6, g7⟩
  · exact Or.inl ⟨by rw [h1]; exact g1, by rw [h3]; exact g2⟩
  · exact Or.inr ⟨l, z, g1, g2, by rw [h1]; exact g3, by rw [h3]; exact g4, by rw [h1]; exact g5, by rw [h4]; exact g6, fun i hi => by rw [h2, h5 i hi]; exact g7 i hi⟩
theorem TapeR.fr {μ μ' : Mem} (h1 : ∀ p k, (p = 36 ∨ p = 70) → μ'.1 p k = μ.1 p k) (h2 : μ'.1 35 1 = μ.1 35 1) (h3 : μ'.1 62 19 = μ.1 62 19) (h : TapeR μ) : TapeR μ' := by
  unfold TapeR at h ⊢
  rw [h2, h3]
  simp only [h1 36 _ (by omega), h1 70 _ (by omega)]
  exact h
theorem RestR.fr {μ μ' : Mem} (h1 : μ'.1 35 2 = μ.1 35 2) (h2 : ∀ k, (k = 24 ∨ k = 26 ∨ k = 38) → μ'.1 62 k = μ.1 62 k) (h3 : μ'.1 0 5 = μ.1 0 5) (h : RestR μ) : RestR μ' := by
  unfold RestR at h ⊢
  rw [h1, h3, h2 24 (by omega), h2 26 (by omega), h2 38 (by omega)]
  exact h
/-- a change of the tape alone -/
theorem Core.tape {n Q : Nat} {μ μ' : Mem} (h : ∀ p k, p ≠ 36 → p ≠ 70 → ¬ (p = 35 ∧ k = 1) → ¬ (p = 62 ∧ k = 19) → μ'.1 p k = μ.1 p k) (hT : TapeR μ') (hC : Core n Q μ) : Core n Q μ' :=
  ⟨hC.1.fr (fun p k hp => h p k (by omega) (by omega) (by omega) (by omega)) (fun k hk => h _ _ (by omega) (by omega) (by omega) (by omega)),
   hC.2.1.fr (fun j k hj => h _ _ (by omega) (by omega) (by omega) (by omega)) (fun k => h _ _ (by omega) (by omega) (by omega) (by omega)) (fun k _ _ => h _ _ (by omega) (by omega) (by omega) (by omega)),
   hC.2.2.1.fr (fun p k _ _ => h _ _ (by omega) (by omega) (by omega) (by omega)) (fun k => h _ _ (by omega) (by omega) (by omega) (by omega)) (fun k _ => h _ _ (by omega) (by omega) (by omega) (by omega)) (h _ _ (by omega) (by omega) (by omega) (by omega)) (fun k => h _ _ (by omega) (by omega) (by omega) (by omega)),
   fun k hk => (hC.2.2.2.1 k hk).fr (fun i => h _ _ (by omega) (by omega) (by omega) (by omega)) (fun i => h _ _ (by omega) (by omega) (by omega) (by omega)) (h _ _ (by omega) (by omega) (by omega) (by omega)) (h _ _ (by omega) (by omega) (by omega) (by omega)) (fun i _ => h _ _ (by omega) (by omega) (by omega) (by omega)),
   hT, hC.2.2.2.2.2.fr (h _ _ (by omega) (by omega) (by omega) (by omega)) (fun k hk => h _ _ (by omega) (by omega) (by omega) (by omega)) (h _ _ (by omega) (by omega) (by omega) (by omega))⟩
/-- a change of the post in use alone -/
theorem Core.post {n Q : Nat} {μ μ' : Mem} (h : ∀ p k, (p < 4 ∨ 10 < p) → ¬ (p = 63 ∧ k < 54) → μ'.1 p k = μ.1 p k) (hP : PostR n Q μ' 4 0) (hC : Core n Q μ) : Core n Q μ' :=
  ⟨hC.1.fr (fun p k hp => h p k (by omega) (by omega)) (fun k hk => h _ _ (by omega) (by omega)), hP,
   hC.2.2.1.fr (fun p k _ _ => h _ _ (by omega) (by omega)) (fun k => h _ _ (by omega) (by omega)) (fun k _ => h _ _ (by omega) (by omega)) (h _ _ (by omega) (by omega)) (fun k => h _ _ (by omega) (by omega)),
   fun k hk => (hC.2.2.2.1 k hk).fr (fun i => h _ _ (by omega) (by omega)) (fun i => h _ _ (by omega) (by omega)) (h _ _ (by omega) (by omega)) (h _ _ (by omega) (by omega)) (fun i _ => h _ _ (by omega) (by omega)),
   hC.2.2.2.2.1.fr (fun p k hp => h _ _ (by omega) (by omega)) (h _ _ (by omega) (by omega)) (h _ _ (by omega) (by omega)),
   hC.2.2.2.2.2.fr (h _ _ (by omega) (by omega)) (fun k hk => h _ _ (by omega) (by omega)) (h _ _ (by omega) (by omega))⟩
/-- a change of the images alone -/
theorem Core.img {n Q : Nat} {μ μ' : Mem} (h : ∀ p k, (p < 12 ∨ 25 < p) → p ≠ 64 → ¬ (p = 0 ∧ k = 3) → ¬ (p = 63 ∧ 54 ≤ k) → μ'.1 p k = μ.1 p k) (hI : ImgR n Q μ') (hC : Core n Q μ) : Core n Q μ' :=
  ⟨hC.1.fr (fun p k hp => h p k (by omega) (by omega) (by omega) (by omega)) (fun k hk => h _ _ (by omega) (by omega) (by omega) (by omega)),
   hC.2.1.fr (fun j k hj => h _ _ (by omega) (by omega) (by omega) (by omega)) (fun k => h _ _ (by omega) (by omega) (by omega) (by omega)) (fun k _ _ => h _ _ (by omega) (by omega) (by omega) (by omega)), hI,
   fun k hk => (hC.2.2.2.1 k hk).fr (fun i => h _ _ (by omega) (by omega) (by omega) (by omega)) (fun i => h _ _ (by omega) (by omega) (by omega) (by omega)) (h _ _ (by omega) (by omega) (by omega) (by omega)) (h _ _ (by omega) (by omega) (by omega) (by omega)) (fun i _ => h _ _ (by omega) (by omega) (by omega) (by omega)),
   hC.2.2.2.2.1.fr (fun p k hp => h _ _ (by omega) (by omega) (by omega) (by omega)) (h _ _ (by omega) (by omega) (by omega) (by omega)) (h _ _ (by omega) (by omega) (by omega) (by omega)),
   hC.2.2.2.2.2.fr (h _ _ (by omega) (by omega) (by omega) (by omega)) (fun k hk => h _ _ (by omega) (by omega) (by omega) (by omega)) (h _ _ (by omega) (by omega) (by omega) (by omega))⟩
/-- a change of the sheets, or of what torn() tells, alone -/
theorem Core.sheets {n Q : Nat} {μ μ' : Mem} (h : ∀ p k, (p < 27 ∨ 34 < p) → p ≠ 76 → p ≠ 77 → p ≠ 78 → ¬ (p = 0 ∧ k = 5) → ¬ (p = 62 ∧ k = 38) → μ'.1 p k = μ.1 p k) (hS : ∀ k, k < 4 → SheetR μ' k) (ht : μ'.1 0 5 = μ'.1 62 38) (hC : Core n Q μ) : Core n Q μ' :=
  ⟨hC.1.fr (fun p k hp => h p k (by omega) (by omega) (by omega) (by omega) (by omega) (by omega)) (fun k hk => h _ _ (by omega) (by omega) (by omega) (by omega) (by omega) (by omega)),
   hC.2.1.fr (fun j k hj => h _ _ (by omega) (by omega) (by omega) (by omega) (by omega) (by omega)) (fun k => h _ _ (by omega) (by omega) (by omega) (by omega) (by omega) (by omega)) (fun k _ _ => h _ _ (by omega) (by omega) (by omega) (by omega) (by omega) (by omega)),
   hC.2.2.1.fr (fun p k _ _ => h _ _ (by omega) (by omega) (by omega) (by omega) (by omega) (by omega)) (fun k => h _ _ (by omega) (by omega) (by omega) (by omega) (by omega) (by omega)) (fun k _ => h _ _ (by omega) (by omega) (by omega) (by omega) (by omega) (by omega)) (h _ _ (by omega) (by omega) (by omega) (by omega) (by omega) (by omega)) (fun k => h _ _ (by omega) (by omega) (by omega) (by omega) (by omega) (by omega)), hS,
   hC.2.2.2.2.1.fr (fun p k hp => h _ _ (by omega) (by omega) (by omega) (by omega) (by omega) (by omega)) (h _ _ (by omega) (by omega) (by omega) (by omega) (by omega) (by omega)) (h _ _ (by omega) (by omega) (by omega) (by omega) (by omega) (by omega)),
   ⟨by rw [h 35 2 (by omega) (by omega) (by omega) (by omega) (by omega) (by omega), h 62 24 (by omega) (by omega) (by omega) (by omega) (by omega) (by omega)]; exact hC.2.2.2.2.2.1, ht, by rw [h 62 26 (by omega) (by omega) (by omega) (by omega) (by omega) (by omega)]; exact hC.2.2.2.2.2.2.2⟩⟩
