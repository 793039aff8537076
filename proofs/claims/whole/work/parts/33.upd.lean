theorem rd_p {μ : Mem} {P k p i : Nat} {v : Int32} (h : p ≠ P) : (pI μ P k v).1 p i = μ.1 p i := by simp [pI, h]
theorem rd_i {μ : Mem} {P k i : Nat} {v : Int32} (h : i ≠ k) : (pI μ P k v).1 P i = μ.1 P i := by simp [pI, h]
theorem rd_s {μ : Mem} {P k : Nat} {v : Int32} : (pI μ P k v).1 P k = v := by simp [pI]
theorem post_fr {n Q : Nat} {μ : Mem} {p o P k j : Nat} {v w : Int32} (hp : 11 < p ∧ p < 20 ∧ 3 < P ∧ P < 11) (ho : 53 < o ∧ j < 54) (h : PostR n Q μ p o) : PostR n Q (pI (pI μ P k v) 63 j w) p o := by
  unfold PostR at h ⊢
  simp (disch := omega) only [rd_p, rd_i]
  exact h

theorem upd_watch {n Q : Nat} {μ : Mem} {j x : Nat} (hj : j < 6) (hx : x < 3 ^ n) (hC : Core n Q μ) : Core n Q (pI (pI μ 9 j (nI x)) 63 (21 + j) (nI x)) := by
  obtain ⟨hH, hP, hI, hS, hT, hR⟩ := hC
  obtain ⟨hn, hQ1, hQ6, e10, e622, e624, e11, e623, hk, hs⟩ := hH
  refine ⟨⟨hn, hQ1, hQ6, by simp (disch := omega) only [rd_p, rd_i, rd_s]; assumption, by simp (disch := omega) only [rd_p, rd_i, rd_s]; assumption, by simp (disch := omega) only [rd_p, rd_i, rd_s]; assumption, by simp (disch := omega) only [rd_p, rd_i, rd_s]; assumption, by simp (disch := omega) only [rd_p, rd_i, rd_s]; assumption, by simp (disch := omega) only [rd_p, rd_i, rd_s]; exact hk, by simp (disch := omega) only [rd_p, rd_i, rd_s]; exact hs⟩, ?_, ?_, ?_, ?_, ?_⟩
  · exact ⟨fun s hs => by
    obtain ⟨f, h1, h2, h3⟩ := hP.1 s hs
    exact ⟨f, h1, by simp (disch := omega) only [rd_p, rd_i, rd_s]; assumption, by simp (disch := omega) only [rd_p, rd_i, rd_s]; assumption⟩,
  fun e he => by
    obtain ⟨f, h1, h2, h3, h4⟩ := hP.2.1 e he
    exact ⟨f, h1, by simp (disch := omega) only [rd_p, rd_i, rd_s]; assumption, by simp (disch := omega) only [rd_p, rd_i, rd_s]; assumption, by simp (disch := omega) only [rd_p, rd_i, rd_s]; exact h4⟩,
  fun s hs => by
    obtain ⟨f, h1, h2, h3⟩ := hP.2.2.1 s hs
    exact ⟨f, h1, by simp (disch := omega) only [rd_p, rd_i, rd_s]; assumption, by simp (disch := omega) only [rd_p, rd_i, rd_s]; assumption⟩,
  fun s hs => by
    obtain ⟨f, h1, h2, h3, h4⟩ := hP.2.2.2.1 s hs
    exact ⟨f, h1, by simp (disch := omega) only [rd_p, rd_i, rd_s]; assumption, by simp (disch := omega) only [rd_p, rd_i, rd_s]; assumption, h4⟩,
  fun s hs => by
    by_cases hj : s = j
    · subst hj
      exact ⟨x, hx, by simp (disch := omega) only [rd_p, rd_i, rd_s], by simp (disch := omega) only [Nat.zero_add, rd_p, rd_i, rd_s]⟩
    · obtain ⟨f, h1, h2, h3⟩ := hP.2.2.2.2.1 s hs
      exact ⟨f, h1, by simp (disch := omega) only [rd_p, rd_i, rd_s]; assumption, by simp (disch := omega) only [rd_p, rd_i, rd_s]; assumption⟩,
  by
    obtain ⟨h, h1, h2, h3, h4⟩ := hP.2.2.2.2.2
    refine ⟨h, h1, by simp (disch := omega) only [rd_p, rd_i, rd_s]; assumption, by simp (disch := omega) only [rd_p, rd_i, rd_s]; assumption, fun i hi => ?_⟩
    obtain ⟨q, d, x, g1, g2, g3, g4, g5, g6, g7⟩ := h4 i hi
    exact ⟨q, d, x, g1, g2, g3, by simp (disch := omega) only [rd_p, rd_i, rd_s]; assumption, by simp (disch := omega) only [rd_p, rd_i, rd_s]; assumption, by simp (disch := omega) only [rd_p, rd_i, rd_s]; assumption, by simp (disch := omega) only [rd_p, rd_i, rd_s]; assumption⟩⟩
  · obtain ⟨a, b, h1, h2, h3, h4, h5⟩ := hI
    refine ⟨a, b, by simp (disch := omega) only [rd_p, rd_i, rd_s]; assumption, by simp (disch := omega) only [rd_p, rd_i, rd_s]; assumption, by simp (disch := omega) only [rd_p, rd_i, rd_s]; assumption, fun h => ?_, fun h => ?_⟩
    · exact post_fr (by omega) (by omega) (h4 h)
    · exact post_fr (by omega) (by omega) (h5 h)
  · intro k hk
    have := hS k hk
    unfold SheetR at this ⊢
    simp (disch := omega) only [rd_p, rd_i, rd_s]
    exact this
  · unfold TapeR at hT ⊢
    simp (disch := omega) only [rd_p, rd_i, rd_s]
    exact hT
  · unfold RestR at hR ⊢
    simp (disch := omega) only [rd_p, rd_i, rd_s]
    exact hR

theorem upd_need {n Q : Nat} {μ : Mem} {j x : Nat} (hj : j < 4) (hx : x < 7) (hC : Core n Q μ) : Core n Q (pI (pI μ 7 j (nI x)) 63 (9 + j) (nI x)) := by
  obtain ⟨hH, hP, hI, hS, hT, hR⟩ := hC
  obtain ⟨hn, hQ1, hQ6, e10, e622, e624, e11, e623, hk, hs⟩ := hH
  refine ⟨⟨hn, hQ1, hQ6, by simp (disch := omega) only [rd_p, rd_i, rd_s]; assumption, by simp (disch := omega) only [rd_p, rd_i, rd_s]; assumption, by simp (disch := omega) only [rd_p, rd_i, rd_s]; assumption, by simp (disch := omega) only [rd_p, rd_i, rd_s]; assumption, by simp (disch := omega) only [rd_p, rd_i, rd_s]; assumption, by simp (disch := omega) only [rd_p, rd_i, rd_s]; exact hk, by simp (disch := omega) only [rd_p, rd_i, rd_s]; exact hs⟩, ?_, ?_, ?_, ?_, ?_⟩
  · exact ⟨fun s hs => by
    obtain ⟨f, h1, h2, h3⟩ := hP.1 s hs
    exact ⟨f, h1, by simp (disch := omega) only [rd_p, rd_i, rd_s]; assumption, by simp (disch := omega) only [rd_p, rd_i, rd_s]; assumption⟩,
  fun e he => by
    obtain ⟨f, h1, h2, h3, h4⟩ := hP.2.1 e he
    exact ⟨f, h1, by simp (disch := omega) only [rd_p, rd_i, rd_s]; assumption, by simp (disch := omega) only [rd_p, rd_i, rd_s]; assumption, by simp (disch := omega) only [rd_p, rd_i, rd_s]; exact h4⟩,
  fun s hs => by
    by_cases hj : s = j
    · subst hj
      exact ⟨x, hx, by simp (disch := omega) only [rd_p, rd_i, rd_s], by simp (disch := omega) only [Nat.zero_add, rd_p, rd_i, rd_s]⟩
    · obtain ⟨f, h1, h2, h3⟩ := hP.2.2.1 s hs
      exact ⟨f, h1, by simp (disch := omega) only [rd_p, rd_i, rd_s]; assumption, by simp (disch := omega) only [rd_p, rd_i, rd_s]; assumption⟩,
  fun s hs => by
    obtain ⟨f, h1, h2, h3, h4⟩ := hP.2.2.2.1 s hs
    exact ⟨f, h1, by simp (disch := omega) only [rd_p, rd_i, rd_s]; assumption, by simp (disch := omega) only [rd_p, rd_i, rd_s]; assumption, h4⟩,
  fun s hs => by
    obtain ⟨f, h1, h2, h3⟩ := hP.2.2.2.2.1 s hs
    exact ⟨f, h1, by simp (disch := omega) only [rd_p, rd_i, rd_s]; assumption, by simp (disch := omega) only [rd_p, rd_i, rd_s]; assumption⟩,
  by
    obtain ⟨h, h1, h2, h3, h4⟩ := hP.2.2.2.2.2
    refine ⟨h, h1, by simp (disch := omega) only [rd_p, rd_i, rd_s]; assumption, by simp (disch := omega) only [rd_p, rd_i, rd_s]; assumption, fun i hi => ?_⟩
    obtain ⟨q, d, x, g1, g2, g3, g4, g5, g6, g7⟩ := h4 i hi
    exact ⟨q, d, x, g1, g2, g3, by simp (disch := omega) only [rd_p, rd_i, rd_s]; assumption, by simp (disch := omega) only [rd_p, rd_i, rd_s]; assumption, by simp (disch := omega) only [rd_p, rd_i, rd_s]; assumption, by simp (disch := omega) only [rd_p, rd_i, rd_s]; assumption⟩⟩
  · obtain ⟨a, b, h1, h2, h3, h4, h5⟩ := hI
    refine ⟨a, b, by simp (disch := omega) only [rd_p, rd_i, rd_s]; assumption, by simp (disch := omega) only [rd_p, rd_i, rd_s]; assumption, by simp (disch := omega) only [rd_p, rd_i, rd_s]; assumption, fun h => ?_, fun h => ?_⟩
    · exact post_fr (by omega) (by omega) (h4 h)
    · exact post_fr (by omega) (by omega) (h5 h)
  · intro k hk
    have := hS k hk
    unfold SheetR at this ⊢
    simp (disch := omega) only [rd_p, rd_i, rd_s]
    exact this
  · unfold TapeR at hT ⊢
    simp (disch := omega) only [rd_p, rd_i, rd_s]
    exact hT
  · unfold RestR at hR ⊢
    simp (disch := omega) only [rd_p, rd_i, rd_s]
    exact hR

theorem upd_face {n Q : Nat} {μ : Mem} {j x : Nat} (hj : j < 3) (hx : x < 4) (hC : Core n Q μ) : Core n Q (pI (pI μ 5 j (nI x)) 63 (0 + j) (nI x)) := by
  obtain ⟨hH, hP, hI, hS, hT, hR⟩ := hC
  obtain ⟨hn, hQ1, hQ6, e10, e622, e624, e11, e623, hk, hs⟩ := hH
  refine ⟨⟨hn, hQ1, hQ6, by simp (disch := omega) only [rd_p, rd_i, rd_s]; assumption, by simp (disch := omega) only [rd_p, rd_i, rd_s]; assumption, by simp (disch := omega) only [rd_p, rd_i, rd_s]; assumption, by simp (disch := omega) only [rd_p, rd_i, rd_s]; assumption, by simp (disch := omega) only [rd_p, rd_i, rd_s]; assumption, by simp (disch := omega) only [rd_p, rd_i, rd_s]; exact hk, by simp (disch := omega) only [rd_p, rd_i, rd_s]; exact hs⟩, ?_, ?_, ?_, ?_, ?_⟩
  · exact ⟨fun s hs => by
    by_cases hj : s = j
    · subst hj
      exact ⟨x, hx, by simp (disch := omega) only [rd_p, rd_i, rd_s], by simp (disch := omega) only [Nat.zero_add, rd_p, rd_i, rd_s]⟩
    · obtain ⟨f, h1, h2, h3⟩ := hP.1 s hs
      exact ⟨f, h1, by simp (disch := omega) only [rd_p, rd_i, rd_s]; assumption, by simp (disch := omega) only [rd_p, rd_i, rd_s]; assumption⟩,
  fun e he => by
    obtain ⟨f, h1, h2, h3, h4⟩ := hP.2.1 e he
    exact ⟨f, h1, by simp (disch := omega) only [rd_p, rd_i, rd_s]; assumption, by simp (disch := omega) only [rd_p, rd_i, rd_s]; assumption, by simp (disch := omega) only [rd_p, rd_i, rd_s]; exact h4⟩,
  fun s hs => by
    obtain ⟨f, h1, h2, h3⟩ := hP.2.2.1 s hs
    exact ⟨f, h1, by simp (disch := omega) only [rd_p, rd_i, rd_s]; assumption, by simp (disch := omega) only [rd_p, rd_i, rd_s]; assumption⟩,
  fun s hs => by
    obtain ⟨f, h1, h2, h3, h4⟩ := hP.2.2.2.1 s hs
    exact ⟨f, h1, by simp (disch := omega) only [rd_p, rd_i, rd_s]; assumption, by simp (disch := omega) only [rd_p, rd_i, rd_s]; assumption, h4⟩,
  fun s hs => by
    obtain ⟨f, h1, h2, h3⟩ := hP.2.2.2.2.1 s hs
    exact ⟨f, h1, by simp (disch := omega) only [rd_p, rd_i, rd_s]; assumption, by simp (disch := omega) only [rd_p, rd_i, rd_s]; assumption⟩,
  by
    obtain ⟨h, h1, h2, h3, h4⟩ := hP.2.2.2.2.2
    refine ⟨h, h1, by simp (disch := omega) only [rd_p, rd_i, rd_s]; assumption, by simp (disch := omega) only [rd_p, rd_i, rd_s]; assumption, fun i hi => ?_⟩
    obtain ⟨q, d, x, g1, g2, g3, g4, g5, g6, g7⟩ := h4 i hi
    exact ⟨q, d, x, g1, g2, g3, by simp (disch := omega) only [rd_p, rd_i, rd_s]; assumption, by simp (disch := omega) only [rd_p, rd_i, rd_s]; assumption, by simp (disch := omega) only [rd_p, rd_i, rd_s]; assumption, by simp (disch := omega) only [rd_p, rd_i, rd_s]; assumption⟩⟩
  · obtain ⟨a, b, h1, h2, h3, h4, h5⟩ := hI
    refine ⟨a, b, by simp (disch := omega) only [rd_p, rd_i, rd_s]; assumption, by simp (disch := omega) only [rd_p, rd_i, rd_s]; assumption, by simp (disch := omega) only [rd_p, rd_i, rd_s]; assumption, fun h => ?_, fun h => ?_⟩
    · exact post_fr (by omega) (by omega) (h4 h)
    · exact post_fr (by omega) (by omega) (h5 h)
  · intro k hk
    have := hS k hk
    unfold SheetR at this ⊢
    simp (disch := omega) only [rd_p, rd_i, rd_s]
    exact this
  · unfold TapeR at hT ⊢
    simp (disch := omega) only [rd_p, rd_i, rd_s]
    exact hT
  · unfold RestR at hR ⊢
    simp (disch := omega) only [rd_p, rd_i, rd_s]
    exact hR

theorem upd_storm {n Q : Nat} {μ : Mem} {j x : Nat} (hj : j < Q) (hj6 : j < 6) (hx : x < 16) (hC : Core n Q μ) : Core n Q (pI (pI μ 8 j (nI x)) 63 (13 + j) (nI x)) := by
  obtain ⟨hH, hP, hI, hS, hT, hR⟩ := hC
  obtain ⟨hn, hQ1, hQ6, e10, e622, e624, e11, e623, hk, hs⟩ := hH
  refine ⟨⟨hn, hQ1, hQ6, by simp (disch := omega) only [rd_p, rd_i, rd_s]; assumption, by simp (disch := omega) only [rd_p, rd_i, rd_s]; assumption, by simp (disch := omega) only [rd_p, rd_i, rd_s]; assumption, by simp (disch := omega) only [rd_p, rd_i, rd_s]; assumption, by simp (disch := omega) only [rd_p, rd_i, rd_s]; assumption, by simp (disch := omega) only [rd_p, rd_i, rd_s]; exact hk, by simp (disch := omega) only [rd_p, rd_i, rd_s]; exact hs⟩, ?_, ?_, ?_, ?_, ?_⟩
  · exact ⟨fun s hs => by
    obtain ⟨f, h1, h2, h3⟩ := hP.1 s hs
    exact ⟨f, h1, by simp (disch := omega) only [rd_p, rd_i, rd_s]; assumption, by simp (disch := omega) only [rd_p, rd_i, rd_s]; assumption⟩,
  fun e he => by
    obtain ⟨f, h1, h2, h3, h4⟩ := hP.2.1 e he
    exact ⟨f, h1, by simp (disch := omega) only [rd_p, rd_i, rd_s]; assumption, by simp (disch := omega) only [rd_p, rd_i, rd_s]; assumption, by simp (disch := omega) only [rd_p, rd_i, rd_s]; exact h4⟩,
  fun s hs => by
    obtain ⟨f, h1, h2, h3⟩ := hP.2.2.1 s hs
    exact ⟨f, h1, by simp (disch := omega) only [rd_p, rd_i, rd_s]; assumption, by simp (disch := omega) only [rd_p, rd_i, rd_s]; assumption⟩,
  fun s hs => by
    by_cases hj : s = j
    · subst hj
      exact ⟨x, hx, by simp (disch := omega) only [rd_p, rd_i, rd_s], by simp (disch := omega) only [Nat.zero_add, rd_p, rd_i, rd_s], fun h => by omega⟩
    · obtain ⟨f, h1, h2, h3, h4⟩ := hP.2.2.2.1 s hs
      exact ⟨f, h1, by simp (disch := omega) only [rd_p, rd_i, rd_s]; assumption, by simp (disch := omega) only [rd_p, rd_i, rd_s]; assumption, h4⟩,
  fun s hs => by
    obtain ⟨f, h1, h2, h3⟩ := hP.2.2.2.2.1 s hs
    exact ⟨f, h1, by simp (disch := omega) only [rd_p, rd_i, rd_s]; assumption, by simp (disch := omega) only [rd_p, rd_i, rd_s]; assumption⟩,
  by
    obtain ⟨h, h1, h2, h3, h4⟩ := hP.2.2.2.2.2
    refine ⟨h, h1, by simp (disch := omega) only [rd_p, rd_i, rd_s]; assumption, by simp (disch := omega) only [rd_p, rd_i, rd_s]; assumption, fun i hi => ?_⟩
    obtain ⟨q, d, x, g1, g2, g3, g4, g5, g6, g7⟩ := h4 i hi
    exact ⟨q, d, x, g1, g2, g3, by simp (disch := omega) only [rd_p, rd_i, rd_s]; assumption, by simp (disch := omega) only [rd_p, rd_i, rd_s]; assumption, by simp (disch := omega) only [rd_p, rd_i, rd_s]; assumption, by simp (disch := omega) only [rd_p, rd_i, rd_s]; assumption⟩⟩
  · obtain ⟨a, b, h1, h2, h3, h4, h5⟩ := hI
    refine ⟨a, b, by simp (disch := omega) only [rd_p, rd_i, rd_s]; assumption, by simp (disch := omega) only [rd_p, rd_i, rd_s]; assumption, by simp (disch := omega) only [rd_p, rd_i, rd_s]; assumption, fun h => ?_, fun h => ?_⟩
    · exact post_fr (by omega) (by omega) (h4 h)
    · exact post_fr (by omega) (by omega) (h5 h)
  · intro k hk
    have := hS k hk
    unfold SheetR at this ⊢
    simp (disch := omega) only [rd_p, rd_i, rd_s]
    exact this
  · unfold TapeR at hT ⊢
    simp (disch := omega) only [rd_p, rd_i, rd_s]
    exact hT
  · unfold RestR at hR ⊢
    simp (disch := omega) only [rd_p, rd_i, rd_s]
    exact hR

theorem upd_tire {n Q : Nat} {μ : Mem} {j x : Nat} (hj : j < 6) (hx : x < 10) (hg : ¬ (j % 2 = 0 ∧ j / 2 < n ∧ μ.1 2 (j / 2) = 1)) (hC : Core n Q μ) : Core n Q (pI (pI μ 6 j (nI x)) 63 (3 + j) (nI x)) := by
  obtain ⟨hH, hP, hI, hS, hT, hR⟩ := hC
  obtain ⟨hn, hQ1, hQ6, e10, e622, e624, e11, e623, hk, hs⟩ := hH
  refine ⟨⟨hn, hQ1, hQ6, by simp (disch := omega) only [rd_p, rd_i, rd_s]; assumption, by simp (disch := omega) only [rd_p, rd_i, rd_s]; assumption, by simp (disch := omega) only [rd_p, rd_i, rd_s]; assumption, by simp (disch := omega) only [rd_p, rd_i, rd_s]; assumption, by simp (disch := omega) only [rd_p, rd_i, rd_s]; assumption, by simp (disch := omega) only [rd_p, rd_i, rd_s]; exact hk, by simp (disch := omega) only [rd_p, rd_i, rd_s]; exact hs⟩, ?_, ?_, ?_, ?_, ?_⟩
  · exact ⟨fun s hs => by
    obtain ⟨f, h1, h2, h3⟩ := hP.1 s hs
    exact ⟨f, h1, by simp (disch := omega) only [rd_p, rd_i, rd_s]; assumption, by simp (disch := omega) only [rd_p, rd_i, rd_s]; assumption⟩,
  fun s hs => by
    by_cases hj : s = j
    · subst hj
      exact ⟨x, hx, by simp (disch := omega) only [rd_p, rd_i, rd_s], by simp (disch := omega) only [Nat.zero_add, rd_p, rd_i, rd_s], fun a b c => by
        simp (disch := omega) only [rd_p, rd_i, rd_s] at c
        exact absurd ⟨a, b, c⟩ hg⟩
    · obtain ⟨f, h1, h2, h3, h4⟩ := hP.2.1 s hs
      exact ⟨f, h1, by simp (disch := omega) only [rd_p, rd_i, rd_s]; assumption, by simp (disch := omega) only [rd_p, rd_i, rd_s]; assumption, by simp (disch := omega) only [rd_p, rd_i, rd_s]; exact h4⟩,
  fun s hs => by
    obtain ⟨f, h1, h2, h3⟩ := hP.2.2.1 s hs
    exact ⟨f, h1, by simp (disch := omega) only [rd_p, rd_i, rd_s]; assumption, by simp (disch := omega) only [rd_p, rd_i, rd_s]; assumption⟩,
  fun s hs => by
    obtain ⟨f, h1, h2, h3, h4⟩ := hP.2.2.2.1 s hs
    exact ⟨f, h1, by simp (disch := omega) only [rd_p, rd_i, rd_s]; assumption, by simp (disch := omega) only [rd_p, rd_i, rd_s]; assumption, h4⟩,
  fun s hs => by
    obtain ⟨f, h1, h2, h3⟩ := hP.2.2.2.2.1 s hs
    exact ⟨f, h1, by simp (disch := omega) only [rd_p, rd_i, rd_s]; assumption, by simp (disch := omega) only [rd_p, rd_i, rd_s]; assumption⟩,
  by
    obtain ⟨h, h1, h2, h3, h4⟩ := hP.2.2.2.2.2
    refine ⟨h, h1, by simp (disch := omega) only [rd_p, rd_i, rd_s]; assumption, by simp (disch := omega) only [rd_p, rd_i, rd_s]; assumption, fun i hi => ?_⟩
    obtain ⟨q, d, x, g1, g2, g3, g4, g5, g6, g7⟩ := h4 i hi
    exact ⟨q, d, x, g1, g2, g3, by simp (disch := omega) only [rd_p, rd_i, rd_s]; assumption, by simp (disch := omega) only [rd_p, rd_i, rd_s]; assumption, by simp (disch := omega) only [rd_p, rd_i, rd_s]; assumption, by simp (disch := omega) only [rd_p, rd_i, rd_s]; assumption⟩⟩
  · obtain ⟨a, b, h1, h2, h3, h4, h5⟩ := hI
    refine ⟨a, b, by simp (disch := omega) only [rd_p, rd_i, rd_s]; assumption, by simp (disch := omega) only [rd_p, rd_i, rd_s]; assumption, by simp (disch := omega) only [rd_p, rd_i, rd_s]; assumption, fun h => ?_, fun h => ?_⟩
    · exact post_fr (by omega) (by omega) (h4 h)
    · exact post_fr (by omega) (by omega) (h5 h)
  · intro k hk
    have := hS k hk
    unfold SheetR at this ⊢
    simp (disch := omega) only [rd_p, rd_i, rd_s]
    exact this
  · unfold TapeR at hT ⊢
    simp (disch := omega) only [rd_p, rd_i, rd_s]
    exact hT
  · unfold RestR at hR ⊢
    simp (disch := omega) only [rd_p, rd_i, rd_s]
    exact hR
