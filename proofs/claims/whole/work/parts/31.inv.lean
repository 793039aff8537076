/-! PURE: what class and model hold in common -/
def PostR (n Q : Nat) (μ : Mem) (p o : Nat) : Prop :=
  (∀ s, s < 3 → ∃ f, f < 4 ∧ μ.1 (p + 1) s = nI f ∧ μ.1 63 (o + s) = nI f) ∧
  (∀ e, e < 6 → ∃ t, t < 10 ∧ μ.1 (p + 2) e = nI t ∧ μ.1 63 (o + 3 + e) = nI t ∧ (e % 2 = 0 → e / 2 < n → μ.1 2 (e / 2) = 1 → t = 0)) ∧
  (∀ d, d < 4 → ∃ v, v < 7 ∧ μ.1 (p + 3) d = nI v ∧ μ.1 63 (o + 9 + d) = nI v) ∧
  (∀ q, q < 6 → ∃ v, v < 16 ∧ μ.1 (p + 4) q = nI v ∧ μ.1 63 (o + 13 + q) = nI v ∧ (Q ≤ q → v = 0)) ∧
  (∀ q, q < 6 → ∃ w, w < 3 ^ n ∧ μ.1 (p + 5) q = nI w ∧ μ.1 63 (o + 21 + q) = nI w) ∧
  (∃ h, h ≤ 8 ∧ μ.1 p 6 = nI h ∧ μ.1 63 (o + 29) = nI h ∧ ∀ i, i < h → ∃ q d x, q < Q ∧ d < 4 ∧ x < 2 ∧ μ.1 (p + 6) i = nI ((q * 4 + d) * 2 + x) ∧ μ.1 63 (o + 30 + 3 * i) = nI q ∧ μ.1 63 (o + 31 + 3 * i) = nI d ∧ μ.1 63 (o + 32 + 3 * i) = nI x)
def SheetR (μ : Mem) (k : Nat) : Prop :=
  (μ.1 (27 + 2 * k) 1 = -1 ∧ μ.1 76 k = -4) ∨ (∃ l z, l < 3 ∧ z ≤ 40 ∧ μ.1 (27 + 2 * k) 0 = nI l ∧ μ.1 76 k = nI l ∧ μ.1 (27 + 2 * k) 1 = nI z ∧ μ.1 77 k = nI z ∧ ∀ i, i < 40 → μ.1 (28 + 2 * k) i = μ.1 78 (40 * k + i))
def HouseR (n Q : Nat) (μ : Mem) : Prop :=
  n ≤ 3 ∧ 1 ≤ Q ∧ Q ≤ 6 ∧ μ.1 1 0 = nI n ∧ μ.1 62 2 = nI n ∧ μ.1 62 4 = nI (3 ^ n) ∧ μ.1 1 1 = nI Q ∧ μ.1 62 3 = nI Q ∧
  (∀ s, s < n → ∃ k, k < 4 ∧ μ.1 2 s = nI k ∧ μ.1 65 s = nI k) ∧
  (∀ e, e < 2 * n → ∃ b, b < 16 ∧ μ.1 3 e = nI b ∧ μ.1 66 e = if e % 2 = 0 ∧ μ.1 2 (e / 2) = 1 then 0 else nI b)
def ImgR (n Q : Nat) (μ : Mem) : Prop := ∃ a b : Bool, μ.1 0 3 = nI (a.toNat + 2 * b.toNat) ∧ μ.1 64 0 = b2i a ∧ μ.1 64 1 = b2i b ∧ (a = true → PostR n Q μ 12 54) ∧ (b = true → PostR n Q μ 19 108)
def TapeR (μ : Mem) : Prop := ∃ T, T ≤ 320 ∧ μ.1 35 1 = nI T ∧ μ.1 62 19 = nI T ∧ ∀ i, i < T → ∃ c, c < 256 ∧ μ.1 70 i = nI c ∧ μ.1 36 i = (nI c).toInt8.toInt32
def RestR (μ : Mem) : Prop := μ.1 35 2 = μ.1 62 24 ∧ μ.1 0 5 = μ.1 62 38 ∧ μ.1 62 26 = 0
def Core (n Q : Nat) (μ : Mem) : Prop := HouseR n Q μ ∧ PostR n Q μ 4 0 ∧ ImgR n Q μ ∧ (∀ k, k < 4 → SheetR μ k) ∧ TapeR μ ∧ RestR μ
def INV (μ : Mem) : Prop := ∃ n Q, Core n Q μ
/-- what the invariant speaks of: all else is scratch -/
def coreB (p k : Nat) : Bool :=
  if p = 0 then k == 3 || k == 5 else if p = 35 then k == 1 || k == 2 else if p < 37 then true else if p = 62 then k == 2 || k == 3 || k == 4 || k == 19 || k == 24 || k == 26 else
  p == 63 || p == 64 || p == 65 || p == 66 || p == 70 || p == 76 || p == 77 || p == 78
def smE (μ μ' : Mem) : Prop := ∀ p k, (coreB p k = true ∨ (p = 62 ∧ k = 38)) → μ'.1 p k = μ.1 p k
theorem smE.rf (μ : Mem) : smE μ μ := fun _ _ _ => rfl
theorem smE.tr {a b c : Mem} (h : smE a b) (k : smE b c) : smE a c := fun p q r => (k p q r).trans (h p q r)
theorem smE.pI {μ μ' : Mem} {p k : Nat} {v : Int32} (h : smE μ μ') (hc : coreB p k = false) (h2 : ¬ (p = 62 ∧ k = 38)) : smE μ (pI μ' p k v) := by
  intro a b hr
  have hne : ¬ (a = p ∧ b = k) := by
    rintro ⟨rfl, rfl⟩
    rcases hr with hr | hr
    · rw [hc] at hr; cases hr
    · exact h2 hr
  rw [← h a b hr]
  show (if a = p then (if b = k then v else μ'.1 p b) else μ'.1 a b) = μ'.1 a b
  by_cases ha : a = p
  · subst ha
    rw [if_pos rfl]
    by_cases hb : b = k
    · exact absurd ⟨rfl, hb⟩ hne
    · rw [if_neg hb]
  · rw [if_neg ha]
theorem smE.pL {μ μ' : Mem} {p k : Nat} {v : Int64} (h : smE μ μ') : smE μ (pL μ' p k v) := h
theorem PostR.sm {n Q : Nat} {μ μ' : Mem} {p o : Nat} (hs : smE μ μ') (hp : p = 4 ∨ p = 12 ∨ p = 19) (h : PostR n Q μ p o) : PostR n Q μ' p o := by
  have c : ∀ j k, j ≤ 6 → μ'.1 (p + j) k = μ.1 (p + j) k := by
    intro j k hj
    refine hs _ _ (Or.inl ?_)
    have h0 : ¬ p + j = 0 := by omega
    have h1 : ¬ p + j = 35 := by omega
    have h2 : p + j < 37 := by omega
    unfold coreB
    rw [if_neg h0, if_neg h1, if_pos h2]
  have c0 : ∀ k, μ'.1 p k = μ.1 p k := fun k => c 0 k (by omega)
  have c2 : ∀ k, μ'.1 2 k = μ.1 2 k := fun k => hs _ _ (Or.inl rfl)
  have c3 : ∀ k, μ'.1 63 k = μ.1 63 k := fun k => hs _ _ (Or.inl rfl)
  unfold PostR
  simp only [c 1 _ (by omega), c 2 _ (by omega), c 3 _ (by omega), c 4 _ (by omega), c 5 _ (by omega), c 6 _ (by omega), c0, c2, c3]
  exact h
theorem HouseR.sm {n Q : Nat} {μ μ' : Mem} (hs : smE μ μ') (h : HouseR n Q μ) : HouseR n Q μ' := by
  have c : ∀ p k, p = 1 ∨ p = 2 ∨ p = 3 ∨ p = 65 ∨ p = 66 → μ'.1 p k = μ.1 p k := by
    intro p k hp
    refine hs _ _ (Or.inl ?_)
    rcases hp with rfl | rfl | rfl | rfl | rfl <;> rfl
  have c1 : ∀ k, μ'.1 1 k = μ.1 1 k := fun k => c 1 k (by omega)
  have c2 : ∀ k, μ'.1 2 k = μ.1 2 k := fun k => c 2 k (by omega)
  have c3 : ∀ k, μ'.1 3 k = μ.1 3 k := fun k => c 3 k (by omega)
  have c4 : ∀ k, μ'.1 65 k = μ.1 65 k := fun k => c 65 k (by omega)
  have c5 : ∀ k, μ'.1 66 k = μ.1 66 k := fun k => c 66 k (by omega)
  unfold HouseR
  rw [c1 0, c1 1, hs 62 2 (Or.inl rfl), hs 62 3 (Or.inl rfl), hs 62 4 (Or.inl rfl)]
  simp only [c2, c3, c4, c5]
  exact h
theorem SheetR.sm {μ μ' : Mem} {k : Nat} (hk : k < 4) (hs : smE μ μ') (h : SheetR μ k) : SheetR μ' k := by
  have c : ∀ j i, j < 2 → μ'.1 (27 + 2 * k + j) i = μ.1 (27 + 2 * k + j) i := by
    intro j i hj
    refine hs _ _ (Or.inl ?_)
    have h0 : ¬ 27 + 2 * k + j = 0 := by omega
    have h1 : ¬ 27 + 2 * k + j = 35 := by omega
    have h2 : 27 + 2 * k + j < 37 := by omega
    unfold coreB
    rw [if_neg h0, if_neg h1, if_pos h2]
  have c0 : ∀ i, μ'.1 (27 + 2 * k) i = μ.1 (27 + 2 * k) i := fun i => c 0 i (by omega)
  have c1 : ∀ i, μ'.1 (28 + 2 * k) i = μ.1 (28 + 2 * k) i := fun i => by
    have := c 1 i (by omega)
    rw [show 28 + 2 * k = 27 + 2 * k + 1 by omega]
    exact this
  have d1 : ∀ i, μ'.1 76 i = μ.1 76 i := fun i => hs _ _ (Or.inl rfl)
  have d2 : ∀ i, μ'.1 77 i = μ.1 77 i := fun i => hs _ _ (Or.inl rfl)
  have d3 : ∀ i, μ'.1 78 i = μ.1 78 i := fun i => hs _ _ (Or.inl rfl)
  unfold SheetR
  simp only [c0, c1, d1, d2, d3]
  exact h
theorem TapeR.sm {μ μ' : Mem} (hs : smE μ μ') (h : TapeR μ) : TapeR μ' := by
  have d1 : ∀ i, μ'.1 36 i = μ.1 36 i := fun i => hs _ _ (Or.inl rfl)
  have d2 : ∀ i, μ'.1 70 i = μ.1 70 i := fun i => hs _ _ (Or.inl rfl)
  unfold TapeR
  rw [hs 35 1 (Or.inl rfl), hs 62 19 (Or.inl rfl)]
  simp only [d1, d2]
  exact h
theorem RestR.sm {μ μ' : Mem} (hs : smE μ μ') (h : RestR μ) : RestR μ' := by
  unfold RestR
  rw [hs 35 2 (Or.inl rfl), hs 62 24 (Or.inl rfl), hs 62 26 (Or.inl rfl), hs 0 5 (Or.inl rfl), hs 62 38 (Or.inr ⟨rfl, rfl⟩)]
  exact h
theorem ImgR.sm {n Q : Nat} {μ μ' : Mem} (hs : smE μ μ') (h : ImgR n Q μ) : ImgR n Q μ' := by
  obtain ⟨a, b, h1, h2, h3, h4, h5⟩ := h
  exact ⟨a, b, by rw [hs 0 3 (Or.inl rfl)]; exact h1, by rw [hs 64 0 (Or.inl rfl)]; exact h2, by rw [hs 64 1 (Or.inl rfl)]; exact h3, fun h => (h4 h).sm hs (by omega), fun h => (h5 h).sm hs (by omega)⟩
theorem Core.sm {n Q : Nat} {μ μ' : Mem} (hs : smE μ μ') (h : Core n Q μ) : Core n Q μ' :=
  ⟨h.1.sm hs, h.2.1.sm hs (by omega), h.2.2.1.sm hs, fun k hk => (h.2.2.2.1 k hk).sm hk hs, h.2.2.2.2.1.sm hs, h.2.2.2.2.2.sm hs⟩
theorem INV.sm {μ μ' : Mem} (hs : smE μ μ') (h : INV μ) : INV μ' := by
  obtain ⟨n, Q, h⟩ := h
  exact ⟨n, Q, h.sm hs⟩
/-- a call of the class and the same call of the model behind it: answers alike, the invariant stays -/
def PStp (f g : Mem → Option (Int32 × Mem)) : Prop := ∀ μ, INV μ → ∃ v μ1 μ2, f μ = some (v, μ1) ∧ g μ1 = some (v, μ2) ∧ INV μ2
def PStpL (f g : Mem → Option (Int64 × Mem)) : Prop := ∀ μ, INV μ → ∃ v μ1 μ2, f μ = some (v, μ1) ∧ g μ1 = some (v, μ2) ∧ INV μ2
theorem stp_use {f g : Mem → Option (Int32 × Mem)} {F G : (Int32 × Mem) → (Int32 × Mem) → Option (Int32 × Mem)} (h : PStp f g) {μ : Mem} (hI : INV μ) (hk : ∀ q r, INV r.2 → ∃ μ3, F q r = some ((1 : Int32), μ3)) : ∃ μ3, ((f μ).bind fun q => (g q.2).bind fun r => if q.1 = r.1 then F q r else G q r) = some ((1 : Int32), μ3) := by
  obtain ⟨v, μ1, μ2, h1, h2, h3⟩ := h μ hI
  obtain ⟨μ3, h4⟩ := hk (v, μ1) (v, μ2) h3
  refine ⟨μ3, ?_⟩
  rw [h1]
  simp only [Option.bind_some, h2, if_true]
  exact h4
theorem stp_useL {f g : Mem → Option (Int64 × Mem)} {F G : (Int64 × Mem) → (Int64 × Mem) → Option (Int32 × Mem)} (h : PStpL f g) {μ : Mem} (hI : INV μ) (hk : ∀ q r, INV r.2 → ∃ μ3, F q r = some ((1 : Int32), μ3)) : ∃ μ3, ((f μ).bind fun q => (g q.2).bind fun r => if lg_cmp q.1 r.1 = 0 then F q r else G q r) = some ((1 : Int32), μ3) := by
  obtain ⟨v, μ1, μ2, h1, h2, h3⟩ := h μ hI
  obtain ⟨μ3, h4⟩ := hk (v, μ1) (v, μ2) h3
  refine ⟨μ3, ?_⟩
  rw [h1]
  simp only [Option.bind_some, h2]
  rw [if_pos ((cmp_eq v v).mpr rfl)]
  exact h4
