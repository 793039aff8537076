/-! PURE: names -/
def nmL (i : Nat) : List Nat := ([[115, 105, 115, 116, 101, 114], [113, 117, 97, 114, 116, 101, 114, 115], [110, 101, 101, 100], [115, 116, 111, 114, 109], [119, 97, 116, 99, 104], [98, 101, 100], [112, 108, 97, 105, 110], [103, 108, 97, 115, 115], [118, 105, 115, 105, 116, 111, 114], [100, 114, 101, 97, 109, 101, 114]] : List (List Nat)).getD i []
def alB (f : Nat → Bool) : Nat → Bool
  | 0 => true
  | k + 1 => alB f k && f k
theorem alB_f {f : Nat → Bool} {j : Nat} (h : f j = false) : ∀ k, j < k → alB f k = false
  | 0, hk => by omega
  | k + 1, hk => by
    show (alB f k && f k) = false
    by_cases hj : j = k
    · rw [← hj, h, Bool.and_false]
    · rw [alB_f h k (by omega), Bool.false_and]
theorem alB_t {f : Nat → Bool} : ∀ k, (∀ j, j < k → f j = true) → alB f k = true
  | 0, _ => rfl
  | k + 1, h => by
    show (alB f k && f k) = true
    rw [alB_t k (fun j hj => h j (by omega)), h k (by omega)]
    rfl
def nmJ (t : Nat → Nat) (a i j : Nat) : Bool := decide (t (a + j) = (nmL i).getD j 0)
def nmB (t : Nat → Nat) (a e i : Nat) : Bool := decide (e - a = (nmL i).length) && alB (nmJ t a i) (nmL i).length
theorem cb_eq : ∀ c, c < 256 → ∀ d, d < 128 → (cb c = nI d ↔ c = d) := by decide +kernel
theorem nm_128 : ∀ i, i < 10 → ∀ j, j < (nmL i).length → (nmL i).getD j 0 < 128 := by decide +kernel
theorem p_check {j n : Nat} (h : j < n) (hn : n < 1000) (μ : Mem) : f_J0_checkIndex_df160 (nI j) (nI n) μ = some μ := by
  unfold f_J0_checkIndex_df160 f_J3_checkIndex_8e157_102
  rw [if_neg (nI_pos (by omega)), if_pos (nI_lt h (by omega))]
  rfl

theorem chx_82 : ∀ j, j < 6 → (((strB 0 j) &&& (255 : Int32)).toUInt32 % 65536).toInt32 = nI ((nmL 0).getD j 0) ∧ ncr (nI ((nmL 0).getD j 0)) = true := by decide +kernel
theorem p_charAt_82 {j : Nat} (h : j < 6) (μ : Mem) : f_J0_charAt_5068e_82 (nI j) μ = some (nI ((nmL 0).getD j 0), μ) := by
  obtain ⟨h1, h2⟩ := chx_82 j h
  have hl : f_J0_isLatin1_aae02_82 μ = some (1, μ) := by
    unfold f_J0_isLatin1_aae02_82
    rw [if_neg (by decide), if_pos (by decide)]
  unfold f_J0_charAt_5068e_82 f_J1_charAt_3b067_92
  rw [bnd hl]
  dsimp only
  rw [if_neg (by decide), show (6 : Int32) = nI 6 from rfl, bnd (p_check h (by omega) μ), inb_nI h (by omega), if_neg (show ¬ (true = false) by decide), nI_clamp (by omega), h1, h2, if_neg (show ¬ (true = false) by decide)]
  dsimp only [Option.bind_some]
  rw [h2, if_neg (show ¬ (true = false) by decide)]
theorem p_length_82 (μ : Mem) : f_J0_length_8abf5_82 μ = some (nI 6, μ) := by
  have hc : f_J0_coder_7d493_82 μ = some (0, μ) := by
    unfold f_J0_coder_7d493_82
    rw [if_neg (by decide)]
  unfold f_J0_length_8abf5_82
  rw [bnd hc]
  dsimp only
  rw [show ((6 : Int32) >>> ((0 : Int32) &&& 31)) = nI 6 from by decide]
theorem p_isName_82 {T a e : Nat} {t : Nat → Nat} {μ : Mem} (hT : TPc T t μ) (hae : a ≤ e) (he : e ≤ T) (h8 : μ.1 35 8 = nI a) (h10 : μ.1 35 10 = nI e) : f_X5_isName_35_82 μ = some (b2i (nmB t a e 0), μ) := by
  have T3 := hT.1
  unfold f_X5_isName_35_82 nmB
  rw [bnd (p_length_82 μ), h8, h10, pk_sub hae]
  dsimp only
  rw [show (nmL 0).length = 6 from rfl]
  by_cases hc : e - a = 6
  · rw [if_pos (by rw [hc]), decide_eq_true hc, Bool.true_and]
    have := for_ex (body := f_X5_isName_35_82_L20) nI 6 (fun j ν => ν = μ ∧ ∀ j', j' < j → nmJ t a 0 j' = true) (fun r => r = (b2i (alB (nmJ t a 0) 6), μ)) (fun k j ν hj hP => by
      obtain ⟨rfl, q2⟩ := hP
      obtain ⟨b1, b2⟩ := hT.2.2 (a + j) (by omega)
      unfold f_X5_isName_35_82_L20
      rw [bnd (p_length_82 ν)]
      dsimp only
      rw [if_neg (nI_ge hj (by omega)), h8, nI_add, inb_nI (by omega) (by omega), if_neg (show ¬ (true = false) by decide), bnd (p_charAt_82 hj ν)]
      dsimp only
      rw [nI_clamp (by omega), b2, al1]
      have hq := cb_eq (t (a + j)) b1 _ (nm_128 0 (by omega) j hj)
      by_cases hh : t (a + j) = (nmL 0).getD j 0
      · right
        rw [if_pos (hq.mpr hh)]
        refine ⟨ν, rfl, rfl, fun j' hj' => ?_⟩
        by_cases hjj : j' = j
        · rw [hjj]; exact decide_eq_true hh
        · exact q2 j' (by omega)
      · left
        rw [if_neg (fun h => hh (hq.mp h)), alB_f (f := nmJ t a 0) (j := j) (decide_eq_false hh) 6 hj]
        exact ⟨_, rfl, rfl⟩) (fun k ν hP => by
      obtain ⟨rfl, q2⟩ := hP
      unfold f_X5_isName_35_82_L20
      rw [bnd (p_length_82 ν)]
      dsimp only
      rw [if_pos (nI_le (Nat.le_refl _) (by omega)), alB_t 6 q2]
      exact ⟨_, rfl, rfl⟩) FU 0 μ (by omega) (fu_gt (by omega)) ⟨rfl, fun j' hj' => by omega⟩
    obtain ⟨r, r1, rfl⟩ := this
    exact r1
  · rw [if_neg (fun h => hc ((nI_eq (by omega) (by omega)).mp h)), decide_eq_false hc, Bool.false_and]
    rfl

theorem chx_83 : ∀ j, j < 8 → (((strB 1 j) &&& (255 : Int32)).toUInt32 % 65536).toInt32 = nI ((nmL 1).getD j 0) ∧ ncr (nI ((nmL 1).getD j 0)) = true := by decide +kernel
theorem p_charAt_83 {j : Nat} (h : j < 8) (μ : Mem) : f_J0_charAt_5068e_83 (nI j) μ = some (nI ((nmL 1).getD j 0), μ) := by
  obtain ⟨h1, h2⟩ := chx_83 j h
  have hl : f_J0_isLatin1_aae02_83 μ = some (1, μ) := by
    unfold f_J0_isLatin1_aae02_83
    rw [if_neg (by decide), if_pos (by decide)]
  unfold f_J0_charAt_5068e_83 f_J1_charAt_3b067_93
  rw [bnd hl]
  dsimp only
  rw [if_neg (by decide), show (8 : Int32) = nI 8 from rfl, bnd (p_check h (by omega) μ), inb_nI h (by omega), if_neg (show ¬ (true = false) by decide), nI_clamp (by omega), h1, h2, if_neg (show ¬ (true = false) by decide)]
  dsimp only [Option.bind_some]
  rw [h2, if_neg (show ¬ (true = false) by decide)]
theorem p_length_83 (μ : Mem) : f_J0_length_8abf5_83 μ = some (nI 8, μ) := by
  have hc : f_J0_coder_7d493_83 μ = some (0, μ) := by
    unfold f_J0_coder_7d493_83
    rw [if_neg (by decide)]
  unfold f_J0_length_8abf5_83
  rw [bnd hc]
  dsimp only
  rw [show ((8 : Int32) >>> ((0 : Int32) &&& 31)) = nI 8 from by decide]
theorem p_isName_83 {T a e : Nat} {t : Nat → Nat} {μ : Mem} (hT : TPc T t μ) (hae : a ≤ e) (he : e ≤ T) (h8 : μ.1 35 8 = nI a) (h10 : μ.1 35 10 = nI e) : f_X5_isName_35_83 μ = some (b2i (nmB t a e 1), μ) := by
  have T3 := hT.1
  unfold f_X5_isName_35_83 nmB
  rw [bnd (p_length_83 μ), h8, h10, pk_sub hae]
  dsimp only
  rw [show (nmL 1).length = 8 from rfl]
  by_cases hc : e - a = 8
  · rw [if_pos (by rw [hc]), decide_eq_true hc, Bool.true_and]
    have := for_ex (body := f_X5_isName_35_83_L20) nI 8 (fun j ν => ν = μ ∧ ∀ j', j' < j → nmJ t a 1 j' = true) (fun r => r = (b2i (alB (nmJ t a 1) 8), μ)) (fun k j ν hj hP => by
      obtain ⟨rfl, q2⟩ := hP
      obtain ⟨b1, b2⟩ := hT.2.2 (a + j) (by omega)
      unfold f_X5_isName_35_83_L20
      rw [bnd (p_length_83 ν)]
      dsimp only
      rw [if_neg (nI_ge hj (by omega)), h8, nI_add, inb_nI (by omega) (by omega), if_neg (show ¬ (true = false) by decide), bnd (p_charAt_83 hj ν)]
      dsimp only
      rw [nI_clamp (by omega), b2, al1]
      have hq := cb_eq (t (a + j)) b1 _ (nm_128 1 (by omega) j hj)
      by_cases hh : t (a + j) = (nmL 1).getD j 0
      · right
        rw [if_pos (hq.mpr hh)]
        refine ⟨ν, rfl, rfl, fun j' hj' => ?_⟩
        by_cases hjj : j' = j
        · rw [hjj]; exact decide_eq_true hh
        · exact q2 j' (by omega)
      · left
        rw [if_neg (fun h => hh (hq.mp h)), alB_f (f := nmJ t a 1) (j := j) (decide_eq_false hh) 8 hj]
        exact ⟨_, rfl, rfl⟩) (fun k ν hP => by
      obtain ⟨rfl, q2⟩ := hP
      unfold f_X5_isName_35_83_L20
      rw [bnd (p_length_83 ν)]
      dsimp only
      rw [if_pos (nI_le (Nat.le_refl _) (by omega)), alB_t 8 q2]
      exact ⟨_, rfl, rfl⟩) FU 0 μ (by omega) (fu_gt (by omega)) ⟨rfl, fun j' hj' => by omega⟩
    obtain ⟨r, r1, rfl⟩ := this
    exact r1
  · rw [if_neg (fun h => hc ((nI_eq (by omega) (by omega)).mp h)), decide_eq_false hc, Bool.false_and]
    rfl

theorem chx_84 : ∀ j, j < 4 → (((strB 2 j) &&& (255 : Int32)).toUInt32 % 65536).toInt32 = nI ((nmL 2).getD j 0) ∧ ncr (nI ((nmL 2).getD j 0)) = true := by decide +kernel
theorem p_charAt_84 {j : Nat} (h : j < 4) (μ : Mem) : f_J0_charAt_5068e_84 (nI j) μ = some (nI ((nmL 2).getD j 0), μ) := by
  obtain ⟨h1, h2⟩ := chx_84 j h
  have hl : f_J0_isLatin1_aae02_84 μ = some (1, μ) := by
    unfold f_J0_isLatin1_aae02_84
    rw [if_neg (by decide), if_pos (by decide)]
  unfold f_J0_charAt_5068e_84 f_J1_charAt_3b067_94
  rw [bnd hl]
  dsimp only
  rw [if_neg (by decide), show (4 : Int32) = nI 4 from rfl, bnd (p_check h (by omega) μ), inb_nI h (by omega), if_neg (show ¬ (true = false) by decide), nI_clamp (by omega), h1, h2, if_neg (show ¬ (true = false) by decide)]
  dsimp only [Option.bind_some]
  rw [h2, if_neg (show ¬ (true = false) by decide)]
theorem p_length_84 (μ : Mem) : f_J0_length_8abf5_84 μ = some (nI 4, μ) := by
  have hc : f_J0_coder_7d493_84 μ = some (0, μ) := by
    unfold f_J0_coder_7d493_84
    rw [if_neg (by decide)]
  unfold f_J0_length_8abf5_84
  rw [bnd hc]
  dsimp only
  rw [show ((4 : Int32) >>> ((0 : Int32) &&& 31)) = nI 4 from by decide]
theorem p_isName_84 {T a e : Nat} {t : Nat → Nat} {μ : Mem} (hT : TPc T t μ) (hae : a ≤ e) (he : e ≤ T) (h8 : μ.1 35 8 = nI a) (h10 : μ.1 35 10 = nI e) : f_X5_isName_35_84 μ = some (b2i (nmB t a e 2), μ) := by
  have T3 := hT.1
  unfold f_X5_isName_35_84 nmB
  rw [bnd (p_length_84 μ), h8, h10, pk_sub hae]
  dsimp only
  rw [show (nmL 2).length = 4 from rfl]
  by_cases hc : e - a = 4
  · rw [if_pos (by rw [hc]), decide_eq_true hc, Bool.true_and]
    have := for_ex (body := f_X5_isName_35_84_L20) nI 4 (fun j ν => ν = μ ∧ ∀ j', j' < j → nmJ t a 2 j' = true) (fun r => r = (b2i (alB (nmJ t a 2) 4), μ)) (fun k j ν hj hP => by
      obtain ⟨rfl, q2⟩ := hP
      obtain ⟨b1, b2⟩ := hT.2.2 (a + j) (by omega)
      unfold f_X5_isName_35_84_L20
      rw [bnd (p_length_84 ν)]
      dsimp only
      rw [if_neg (nI_ge hj (by omega)), h8, nI_add, inb_nI (by omega) (by omega), if_neg (show ¬ (true = false) by decide), bnd (p_charAt_84 hj ν)]
      dsimp only
      rw [nI_clamp (by omega), b2, al1]
      have hq := cb_eq (t (a + j)) b1 _ (nm_128 2 (by omega) j hj)
      by_cases hh : t (a + j) = (nmL 2).getD j 0
      · right
        rw [if_pos (hq.mpr hh)]
        refine ⟨ν, rfl, rfl, fun j' hj' => ?_⟩
        by_cases hjj : j' = j
        · rw [hjj]; exact decide_eq_true hh
        · exact q2 j' (by omega)
      · left
        rw [if_neg (fun h => hh (hq.mp h)), alB_f (f := nmJ t a 2) (j := j) (decide_eq_false hh) 4 hj]
        exact ⟨_, rfl, rfl⟩) (fun k ν hP => by
      obtain ⟨rfl, q2⟩ := hP
      unfold f_X5_isName_35_84_L20
      rw [bnd (p_length_84 ν)]
      dsimp only
      rw [if_pos (nI_le (Nat.le_refl _) (by omega)), alB_t 4 q2]
      exact ⟨_, rfl, rfl⟩) FU 0 μ (by omega) (fu_gt (by omega)) ⟨rfl, fun j' hj' => by omega⟩
    obtain ⟨r, r1, rfl⟩ := this
    exact r1
  · rw [if_neg (fun h => hc ((nI_eq (by omega) (by omega)).mp h)), decide_eq_false hc, Bool.false_and]
    rfl

theorem chx_85 : ∀ j, j < 5 → (((strB 3 j) &&& (255 : Int32)).toUInt32 % 65536).toInt32 = nI ((nmL 3).getD j 0) ∧ ncr (nI ((nmL 3).getD j 0)) = true := by decide +kernel
theorem p_charAt_85 {j : Nat} (h : j < 5) (μ : Mem) : f_J0_charAt_5068e_85 (nI j) μ = some (nI ((nmL 3).getD j 0), μ) := by
  obtain ⟨h1, h2⟩ := chx_85 j h
  have hl : f_J0_isLatin1_aae02_85 μ = some (1, μ) := by
    unfold f_J0_isLatin1_aae02_85
    rw [if_neg (by decide), if_pos (by decide)]
  unfold f_J0_charAt_5068e_85 f_J1_charAt_3b067_95
  rw [bnd hl]
  dsimp only
  rw [if_neg (by decide), show (5 : Int32) = nI 5 from rfl, bnd (p_check h (by omega) μ), inb_nI h (by omega), if_neg (show ¬ (true = false) by decide), nI_clamp (by omega), h1, h2, if_neg (show ¬ (true = false) by decide)]
  dsimp only [Option.bind_some]
  rw [h2, if_neg (show ¬ (true = false) by decide)]
theorem p_length_85 (μ : Mem) : f_J0_length_8abf5_85 μ = some (nI 5, μ) := by
  have hc : f_J0_coder_7d493_85 μ = some (0, μ) := by
    unfold f_J0_coder_7d493_85
    rw [if_neg (by decide)]
  unfold f_J0_length_8abf5_85
  rw [bnd hc]
  dsimp only
  rw [show ((5 : Int32) >>> ((0 : Int32) &&& 31)) = nI 5 from by decide]
theorem p_isName_85 {T a e : Nat} {t : Nat → Nat} {μ : Mem} (hT : TPc T t μ) (hae : a ≤ e) (he : e ≤ T) (h8 : μ.1 35 8 = nI a) (h10 : μ.1 35 10 = nI e) : f_X5_isName_35_85 μ = some (b2i (nmB t a e 3), μ) := by
  have T3 := hT.1
  unfold f_X5_isName_35_85 nmB
  rw [bnd (p_length_85 μ), h8, h10, pk_sub hae]
  dsimp only
  rw [show (nmL 3).length = 5 from rfl]
  by_cases hc : e - a = 5
  · rw [if_pos (by rw [hc]), decide_eq_true hc, Bool.true_and]
    have := for_ex (body := f_X5_isName_35_85_L20) nI 5 (fun j ν => ν = μ ∧ ∀ j', j' < j → nmJ t a 3 j' = true) (fun r => r = (b2i (alB (nmJ t a 3) 5), μ)) (fun k j ν hj hP => by
      obtain ⟨rfl, q2⟩ := hP
      obtain ⟨b1, b2⟩ := hT.2.2 (a + j) (by omega)
      unfold f_X5_isName_35_85_L20
      rw [bnd (p_length_85 ν)]
      dsimp only
      rw [if_neg (nI_ge hj (by omega)), h8, nI_add, inb_nI (by omega) (by omega), if_neg (show ¬ (true = false) by decide), bnd (p_charAt_85 hj ν)]
      dsimp only
      rw [nI_clamp (by omega), b2, al1]
      have hq := cb_eq (t (a + j)) b1 _ (nm_128 3 (by omega) j hj)
      by_cases hh : t (a + j) = (nmL 3).getD j 0
      · right
        rw [if_pos (hq.mpr hh)]
        refine ⟨ν, rfl, rfl, fun j' hj' => ?_⟩
        by_cases hjj : j' = j
        · rw [hjj]; exact decide_eq_true hh
        · exact q2 j' (by omega)
      · left
        rw [if_neg (fun h => hh (hq.mp h)), alB_f (f := nmJ t a 3) (j := j) (decide_eq_false hh) 5 hj]
        exact ⟨_, rfl, rfl⟩) (fun k ν hP => by
      obtain ⟨rfl, q2⟩ := hP
      unfold f_X5_isName_35_85_L20
      rw [bnd (p_length_85 ν)]
      dsimp only
      rw [if_pos (nI_le (Nat.le_refl _) (by omega)), alB_t 5 q2]
      exact ⟨_, rfl, rfl⟩) FU 0 μ (by omega) (fu_gt (by omega)) ⟨rfl, fun j' hj' => by omega⟩
    obtain ⟨r, r1, rfl⟩ := this
    exact r1
  · rw [if_neg (fun h => hc ((nI_eq (by omega) (by omega)).mp h)), decide_eq_false hc, Bool.false_and]
    rfl

theorem chx_86 : ∀ j, j < 5 → (((strB 4 j) &&& (255 : Int32)).toUInt32 % 65536).toInt32 = nI ((nmL 4).getD j 0) ∧ ncr (nI ((nmL 4).getD j 0)) = true := by decide +kernel
theorem p_charAt_86 {j : Nat} (h : j < 5) (μ : Mem) : f_J0_charAt_5068e_86 (nI j) μ = some (nI ((nmL 4).getD j 0), μ) := by
  obtain ⟨h1, h2⟩ := chx_86 j h
  have hl : f_J0_isLatin1_aae02_86 μ = some (1, μ) := by
    unfold f_J0_isLatin1_aae02_86
    rw [if_neg (by decide), if_pos (by decide)]
  unfold f_J0_charAt_5068e_86 f_J1_charAt_3b067_96
  rw [bnd hl]
  dsimp only
  rw [if_neg (by decide), show (5 : Int32) = nI 5 from rfl, bnd (p_check h (by omega) μ), inb_nI h (by omega), if_neg (show ¬ (true = false) by decide), nI_clamp (by omega), h1, h2, if_neg (show ¬ (true = false) by decide)]
  dsimp only [Option.bind_some]
  rw [h2, if_neg (show ¬ (true = false) by decide)]
theorem p_length_86 (μ : Mem) : f_J0_length_8abf5_86 μ = some (nI 5, μ) := by
  have hc : f_J0_coder_7d493_86 μ = some (0, μ) := by
    unfold f_J0_coder_7d493_86
    rw [if_neg (by decide)]
  unfold f_J0_length_8abf5_86
  rw [bnd hc]
  dsimp only
  rw [show ((5 : Int32) >>> ((0 : Int32) &&& 31)) = nI 5 from by decide]
theorem p_isName_86 {T a e : Nat} {t : Nat → Nat} {μ : Mem} (hT : TPc T t μ) (hae : a ≤ e) (he : e ≤ T) (h8 : μ.1 35 8 = nI a) (h10 : μ.1 35 10 = nI e) : f_X5_isName_35_86 μ = some (b2i (nmB t a e 4), μ) := by
  have T3 := hT.1
  unfold f_X5_isName_35_86 nmB
  rw [bnd (p_length_86 μ), h8, h10, pk_sub hae]
  dsimp only
  rw [show (nmL 4).length = 5 from rfl]
  by_cases hc : e - a = 5
  · rw [if_pos (by rw [hc]), decide_eq_true hc, Bool.true_and]
    have := for_ex (body := f_X5_isName_35_86_L20) nI 5 (fun j ν => ν = μ ∧ ∀ j', j' < j → nmJ t a 4 j' = true) (fun r => r = (b2i (alB (nmJ t a 4) 5), μ)) (fun k j ν hj hP => by
      obtain ⟨rfl, q2⟩ := hP
      obtain ⟨b1, b2⟩ := hT.2.2 (a + j) (by omega)
      unfold f_X5_isName_35_86_L20
      rw [bnd (p_length_86 ν)]
      dsimp only
      rw [if_neg (nI_ge hj (by omega)), h8, nI_add, inb_nI (by omega) (by omega), if_neg (show ¬ (true = false) by decide), bnd (p_charAt_86 hj ν)]
      dsimp only
      rw [nI_clamp (by omega), b2, al1]
      have hq := cb_eq (t (a + j)) b1 _ (nm_128 4 (by omega) j hj)
      by_cases hh : t (a + j) = (nmL 4).getD j 0
      · right
        rw [if_pos (hq.mpr hh)]
        refine ⟨ν, rfl, rfl, fun j' hj' => ?_⟩
        by_cases hjj : j' = j
        · rw [hjj]; exact decide_eq_true hh
        · exact q2 j' (by omega)
      · left
        rw [if_neg (fun h => hh (hq.mp h)), alB_f (f := nmJ t a 4) (j := j) (decide_eq_false hh) 5 hj]
        exact ⟨_, rfl, rfl⟩) (fun k ν hP => by
      obtain ⟨rfl, q2⟩ := hP
      unfold f_X5_isName_35_86_L20
      rw [bnd (p_length_86 ν)]
      dsimp only
      rw [if_pos (nI_le (Nat.le_refl _) (by omega)), alB_t 5 q2]
      exact ⟨_, rfl, rfl⟩) FU 0 μ (by omega) (fu_gt (by omega)) ⟨rfl, fun j' hj' => by omega⟩
    obtain ⟨r, r1, rfl⟩ := this
    exact r1
  · rw [if_neg (fun h => hc ((nI_eq (by omega) (by omega)).mp h)), decide_eq_false hc, Bool.false_and]
    rfl

theorem chx_87 : ∀ j, j < 3 → (((strB 5 j) &&& (255 : Int32)).toUInt32 % 65536).toInt32 = nI ((nmL 5).getD j 0) ∧ ncr (nI ((nmL 5).getD j 0)) = true := by decide +kernel
theorem p_charAt_87 {j : Nat} (h : j < 3) (μ : Mem) : f_J0_charAt_5068e_87 (nI j) μ = some (nI ((nmL 5).getD j 0), μ) := by
  obtain ⟨h1, h2⟩ := chx_87 j h
  have hl : f_J0_isLatin1_aae02_87 μ = some (1, μ) := by
    unfold f_J0_isLatin1_aae02_87
    rw [if_neg (by decide), if_pos (by decide)]
  unfold f_J0_charAt_5068e_87 f_J1_charAt_3b067_97
  rw [bnd hl]
  dsimp only
  rw [if_neg (by decide), show (3 : Int32) = nI 3 from rfl, bnd (p_check h (by omega) μ), inb_nI h (by omega), if_neg (show ¬ (true = false) by decide), nI_clamp (by omega), h1, h2, if_neg (show ¬ (true = false) by decide)]
  dsimp only [Option.bind_some]
  rw [h2, if_neg (show ¬ (true = false) by decide)]
theorem p_length_87 (μ : Mem) : f_J0_length_8abf5_87 μ = some (nI 3, μ) := by
  have hc : f_J0_coder_7d493_87 μ = some (0, μ) := by
    unfold f_J0_coder_7d493_87
    rw [if_neg (by decide)]
  unfold f_J0_length_8abf5_87
  rw [bnd hc]
  dsimp only
  rw [show ((3 : Int32) >>> ((0 : Int32) &&& 31)) = nI 3 from by decide]
theorem p_isName_87 {T a e : Nat} {t : Nat → Nat} {μ : Mem} (hT : TPc T t μ) (hae : a ≤ e) (he : e ≤ T) (h8 : μ.1 35 8 = nI a) (h10 : μ.1 35 10 = nI e) : f_X5_isName_35_87 μ = some (b2i (nmB t a e 5), μ) := by
  have T3 := hT.1
  unfold f_X5_isName_35_87 nmB
  rw [bnd (p_length_87 μ), h8, h10, pk_sub hae]
  dsimp only
  rw [show (nmL 5).length = 3 from rfl]
  by_cases hc : e - a = 3
  · rw [if_pos (by rw [hc]), decide_eq_true hc, Bool.true_and]
    have := for_ex (body := f_X5_isName_35_87_L20) nI 3 (fun j ν => ν = μ ∧ ∀ j', j' < j → nmJ t a 5 j' = true) (fun r => r = (b2i (alB (nmJ t a 5) 3), μ)) (fun k j ν hj hP => by
      obtain ⟨rfl, q2⟩ := hP
      obtain ⟨b1, b2⟩ := hT.2.2 (a + j) (by omega)
      unfold f_X5_isName_35_87_L20
      rw [bnd (p_length_87 ν)]
      dsimp only
      rw [if_neg (nI_ge hj (by omega)), h8, nI_add, inb_nI (by omega) (by omega), if_neg (show ¬ (true = false) by decide), bnd (p_charAt_87 hj ν)]
      dsimp only
      rw [nI_clamp (by omega), b2, al1]
      have hq := cb_eq (t (a + j)) b1 _ (nm_128 5 (by omega) j hj)
      by_cases hh : t (a + j) = (nmL 5).getD j 0
      · right
        rw [if_pos (hq.mpr hh)]
        refine ⟨ν, rfl, rfl, fun j' hj' => ?_⟩
        by_cases hjj : j' = j
        · rw [hjj]; exact decide_eq_true hh
        · exact q2 j' (by omega)
      · left
        rw [if_neg (fun h => hh (hq.mp h)), alB_f (f := nmJ t a 5) (j := j) (decide_eq_false hh) 3 hj]
        exact ⟨_, rfl, rfl⟩) (fun k ν hP => by
      obtain ⟨rfl, q2⟩ := hP
      unfold f_X5_isName_35_87_L20
      rw [bnd (p_length_87 ν)]
      dsimp only
      rw [if_pos (nI_le (Nat.le_refl _) (by omega)), alB_t 3 q2]
      exact ⟨_, rfl, rfl⟩) FU 0 μ (by omega) (fu_gt (by omega)) ⟨rfl, fun j' hj' => by omega⟩
    obtain ⟨r, r1, rfl⟩ := this
    exact r1
  · rw [if_neg (fun h => hc ((nI_eq (by omega) (by omega)).mp h)), decide_eq_false hc, Bool.false_and]
    rfl

theorem chx_88 : ∀ j, j < 5 → (((strB 6 j) &&& (255 : Int32)).toUInt32 % 65536).toInt32 = nI ((nmL 6).getD j 0) ∧ ncr (nI ((nmL 6).getD j 0)) = true := by decide +kernel
theorem p_charAt_88 {j : Nat} (h : j < 5) (μ : Mem) : f_J0_charAt_5068e_88 (nI j) μ = some (nI ((nmL 6).getD j 0), μ) := by
  obtain ⟨h1, h2⟩ := chx_88 j h
  have hl : f_J0_isLatin1_aae02_88 μ = some (1, μ) := by
    unfold f_J0_isLatin1_aae02_88
    rw [if_neg (by decide), if_pos (by decide)]
  unfold f_J0_charAt_5068e_88 f_J1_charAt_3b067_98
  rw [bnd hl]
  dsimp only
  rw [if_neg (by decide), show (5 : Int32) = nI 5 from rfl, bnd (p_check h (by omega) μ), inb_nI h (by omega), if_neg (show ¬ (true = false) by decide), nI_clamp (by omega), h1, h2, if_neg (show ¬ (true = false) by decide)]
  dsimp only [Option.bind_some]
  rw [h2, if_neg (show ¬ (true = false) by decide)]
theorem p_length_88 (μ : Mem) : f_J0_length_8abf5_88 μ = some (nI 5, μ) := by
  have hc : f_J0_coder_7d493_88 μ = some (0, μ) := by
    unfold f_J0_coder_7d493_88
    rw [if_neg (by decide)]
  unfold f_J0_length_8abf5_88
  rw [bnd hc]
  dsimp only
  rw [show ((5 : Int32) >>> ((0 : Int32) &&& 31)) = nI 5 from by decide]
theorem p_isName_88 {T a e : Nat} {t : Nat → Nat} {μ : Mem} (hT : TPc T t μ) (hae : a ≤ e) (he : e ≤ T) (h8 : μ.1 35 8 = nI a) (h10 : μ.1 35 10 = nI e) : f_X5_isName_35_88 μ = some (b2i (nmB t a e 6), μ) := by
  have T3 := hT.1
  unfold f_X5_isName_35_88 nmB
  rw [bnd (p_length_88 μ), h8, h10, pk_sub hae]
  dsimp only
  rw [show (nmL 6).length = 5 from rfl]
  by_cases hc : e - a = 5
  · rw [if_pos (by rw [hc]), decide_eq_true hc, Bool.true_and]
    have := for_ex (body := f_X5_isName_35_88_L20) nI 5 (fun j ν => ν = μ ∧ ∀ j', j' < j → nmJ t a 6 j' = true) (fun r => r = (b2i (alB (nmJ t a 6) 5), μ)) (fun k j ν hj hP => by
      obtain ⟨rfl, q2⟩ := hP
      obtain ⟨b1, b2⟩ := hT.2.2 (a + j) (by omega)
      unfold f_X5_isName_35_88_L20
      rw [bnd (p_length_88 ν)]
      dsimp only
      rw [if_neg (nI_ge hj (by omega)), h8, nI_add, inb_nI (by omega) (by omega), if_neg (show ¬ (true = false) by decide), bnd (p_charAt_88 hj ν)]
      dsimp only
      rw [nI_clamp (by omega), b2, al1]
      have hq := cb_eq (t (a + j)) b1 _ (nm_128 6 (by omega) j hj)
      by_cases hh : t (a + j) = (nmL 6).getD j 0
      · right
        rw [if_pos (hq.mpr hh)]
        refine ⟨ν, rfl, rfl, fun j' hj' => ?_⟩
        by_cases hjj : j' = j
        · rw [hjj]; exact decide_eq_true hh
        · exact q2 j' (by omega)
      · left
        rw [if_neg (fun h => hh (hq.mp h)), alB_f (f := nmJ t a 6) (j := j) (decide_eq_false hh) 5 hj]
        exact ⟨_, rfl, rfl⟩) (fun k ν hP => by
      obtain ⟨rfl, q2⟩ := hP
      unfold f_X5_isName_35_88_L20
      rw [bnd (p_length_88 ν)]
      dsimp only
      rw [if_pos (nI_le (Nat.le_refl _) (by omega)), alB_t 5 q2]
      exact ⟨_, rfl, rfl⟩) FU 0 μ (by omega) (fu_gt (by omega)) ⟨rfl, fun j' hj' => by omega⟩
    obtain ⟨r, r1, rfl⟩ := this
    exact r1
  · rw [if_neg (fun h => hc ((nI_eq (by omega) (by omega)).mp h)), decide_eq_false hc, Bool.false_and]
    rfl

theorem chx_89 : ∀ j, j < 5 → (((strB 7 j) &&& (255 : Int32)).toUInt32 % 65536).toInt32 = nI ((nmL 7).getD j 0) ∧ ncr (nI ((nmL 7).getD j 0)) = true := by decide +kernel
theorem p_charAt_89 {j : Nat} (h : j < 5) (μ : Mem) : f_J0_charAt_5068e_89 (nI j) μ = some (nI ((nmL 7).getD j 0), μ) := by
  obtain ⟨h1, h2⟩ := chx_89 j h
  have hl : f_J0_isLatin1_aae02_89 μ = some (1, μ) := by
    unfold f_J0_isLatin1_aae02_89
    rw [if_neg (by decide), if_pos (by decide)]
  unfold f_J0_charAt_5068e_89 f_J1_charAt_3b067_99
  rw [bnd hl]
  dsimp only
  rw [if_neg (by decide), show (5 : Int32) = nI 5 from rfl, bnd (p_check h (by omega) μ), inb_nI h (by omega), if_neg (show ¬ (true = false) by decide), nI_clamp (by omega), h1, h2, if_neg (show ¬ (true = false) by decide)]
  dsimp only [Option.bind_some]
  rw [h2, if_neg (show ¬ (true = false) by decide)]
theorem p_length_89 (μ : Mem) : f_J0_length_8abf5_89 μ = some (nI 5, μ) := by
  have hc : f_J0_coder_7d493_89 μ = some (0, μ) := by
    unfold f_J0_coder_7d493_89
    rw [if_neg (by decide)]
  unfold f_J0_length_8abf5_89
  rw [bnd hc]
  dsimp only
  rw [show ((5 : Int32) >>> ((0 : Int32) &&& 31)) = nI 5 from by decide]
theorem p_isName_89 {T a e : Nat} {t : Nat → Nat} {μ : Mem} (hT : TPc T t μ) (hae : a ≤ e) (he : e ≤ T) (h8 : μ.1 35 8 = nI a) (h10 : μ.1 35 10 = nI e) : f_X5_isName_35_89 μ = some (b2i (nmB t a e 7), μ) := by
  have T3 := hT.1
  unfold f_X5_isName_35_89 nmB
  rw [bnd (p_length_89 μ), h8, h10, pk_sub hae]
  dsimp only
  rw [show (nmL 7).length = 5 from rfl]
  by_cases hc : e - a = 5
  · rw [if_pos (by rw [hc]), decide_eq_true hc, Bool.true_and]
    have := for_ex (body := f_X5_isName_35_89_L20) nI 5 (fun j ν => ν = μ ∧ ∀ j', j' < j → nmJ t a 7 j' = true) (fun r => r = (b2i (alB (nmJ t a 7) 5), μ)) (fun k j ν hj hP => by
      obtain ⟨rfl, q2⟩ := hP
      obtain ⟨b1, b2⟩ := hT.2.2 (a + j) (by omega)
      unfold f_X5_isName_35_89_L20
      rw [bnd (p_length_89 ν)]
      dsimp only
      rw [if_neg (nI_ge hj (by omega)), h8, nI_add, inb_nI (by omega) (by omega), if_neg (show ¬ (true = false) by decide), bnd (p_charAt_89 hj ν)]
      dsimp only
      rw [nI_clamp (by omega), b2, al1]
      have hq := cb_eq (t (a + j)) b1 _ (nm_128 7 (by omega) j hj)
      by_cases hh : t (a + j) = (nmL 7).getD j 0
      · right
        rw [if_pos (hq.mpr hh)]
        refine ⟨ν, rfl, rfl, fun j' hj' => ?_⟩
        by_cases hjj : j' = j
        · rw [hjj]; exact decide_eq_true hh
        · exact q2 j' (by omega)
      · left
        rw [if_neg (fun h => hh (hq.mp h)), alB_f (f := nmJ t a 7) (j := j) (decide_eq_false hh) 5 hj]
        exact ⟨_, rfl, rfl⟩) (fun k ν hP => by
      obtain ⟨rfl, q2⟩ := hP
      unfold f_X5_isName_35_89_L20
      rw [bnd (p_length_89 ν)]
      dsimp only
      rw [if_pos (nI_le (Nat.le_refl _) (by omega)), alB_t 5 q2]
      exact ⟨_, rfl, rfl⟩) FU 0 μ (by omega) (fu_gt (by omega)) ⟨rfl, fun j' hj' => by omega⟩
    obtain ⟨r, r1, rfl⟩ := this
    exact r1
  · rw [if_neg (fun h => hc ((nI_eq (by omega) (by omega)).mp h)), decide_eq_false hc, Bool.false_and]
    rfl

theorem chx_90 : ∀ j, j < 7 → (((strB 8 j) &&& (255 : Int32)).toUInt32 % 65536).toInt32 = nI ((nmL 8).getD j 0) ∧ ncr (nI ((nmL 8).getD j 0)) = true := by decide +kernel
theorem p_charAt_90 {j : Nat} (h : j < 7) (μ : Mem) : f_J0_charAt_5068e_90 (nI j) μ = some (nI ((nmL 8).getD j 0), μ) := by
  obtain ⟨h1, h2⟩ := chx_90 j h
  have hl : f_J0_isLatin1_aae02_90 μ = some (1, μ) := by
    unfold f_J0_isLatin1_aae02_90
    rw [if_neg (by decide), if_pos (by decide)]
  unfold f_J0_charAt_5068e_90 f_J1_charAt_3b067_100
  rw [bnd hl]
  dsimp only
  rw [if_neg (by decide), show (7 : Int32) = nI 7 from rfl, bnd (p_check h (by omega) μ), inb_nI h (by omega), if_neg (show ¬ (true = false) by decide), nI_clamp (by omega), h1, h2, if_neg (show ¬ (true = false) by decide)]
  dsimp only [Option.bind_some]
  rw [h2, if_neg (show ¬ (true = false) by decide)]
theorem p_length_90 (μ : Mem) : f_J0_length_8abf5_90 μ = some (nI 7, μ) := by
  have hc : f_J0_coder_7d493_90 μ = some (0, μ) := by
    unfold f_J0_coder_7d493_90
    rw [if_neg (by decide)]
  unfold f_J0_length_8abf5_90
  rw [bnd hc]
  dsimp only
  rw [show ((7 : Int32) >>> ((0 : Int32) &&& 31)) = nI 7 from by decide]
theorem p_isName_90 {T a e : Nat} {t : Nat → Nat} {μ : Mem} (hT : TPc T t μ) (hae : a ≤ e) (he : e ≤ T) (h8 : μ.1 35 8 = nI a) (h10 : μ.1 35 10 = nI e) : f_X5_isName_35_90 μ = some (b2i (nmB t a e 8), μ) := by
  have T3 := hT.1
  unfold f_X5_isName_35_90 nmB
  rw [bnd (p_length_90 μ), h8, h10, pk_sub hae]
  dsimp only
  rw [show (nmL 8).length = 7 from rfl]
  by_cases hc : e - a = 7
  · rw [if_pos (by rw [hc]), decide_eq_true hc, Bool.true_and]
    have := for_ex (body := f_X5_isName_35_90_L20) nI 7 (fun j ν => ν = μ ∧ ∀ j', j' < j → nmJ t a 8 j' = true) (fun r => r = (b2i (alB (nmJ t a 8) 7), μ)) (fun k j ν hj hP => by
      obtain ⟨rfl, q2⟩ := hP
      obtain ⟨b1, b2⟩ := hT.2.2 (a + j) (by omega)
      unfold f_X5_isName_35_90_L20
      rw [bnd (p_length_90 ν)]
      dsimp only
      rw [if_neg (nI_ge hj (by omega)), h8, nI_add, inb_nI (by omega) (by omega), if_neg (show ¬ (true = false) by decide), bnd (p_charAt_90 hj ν)]
      dsimp only
      rw [nI_clamp (by omega), b2, al1]
      have hq := cb_eq (t (a + j)) b1 _ (nm_128 8 (by omega) j hj)
      by_cases hh : t (a + j) = (nmL 8).getD j 0
      · right
        rw [if_pos (hq.mpr hh)]
        refine ⟨ν, rfl, rfl, fun j' hj' => ?_⟩
        by_cases hjj : j' = j
        · rw [hjj]; exact decide_eq_true hh
        · exact q2 j' (by omega)
      · left
        rw [if_neg (fun h => hh (hq.mp h)), alB_f (f := nmJ t a 8) (j := j) (decide_eq_false hh) 7 hj]
        exact ⟨_, rfl, rfl⟩) (fun k ν hP => by
      obtain ⟨rfl, q2⟩ := hP
      unfold f_X5_isName_35_90_L20
      rw [bnd (p_length_90 ν)]
      dsimp only
      rw [if_pos (nI_le (Nat.le_refl _) (by omega)), alB_t 7 q2]
      exact ⟨_, rfl, rfl⟩) FU 0 μ (by omega) (fu_gt (by omega)) ⟨rfl, fun j' hj' => by omega⟩
    obtain ⟨r, r1, rfl⟩ := this
    exact r1
  · rw [if_neg (fun h => hc ((nI_eq (by omega) (by omega)).mp h)), decide_eq_false hc, Bool.false_and]
    rfl

theorem chx_91 : ∀ j, j < 7 → (((strB 9 j) &&& (255 : Int32)).toUInt32 % 65536).toInt32 = nI ((nmL 9).getD j 0) ∧ ncr (nI ((nmL 9).getD j 0)) = true := by decide +kernel
theorem p_charAt_91 {j : Nat} (h : j < 7) (μ : Mem) : f_J0_charAt_5068e_91 (nI j) μ = some (nI ((nmL 9).getD j 0), μ) := by
  obtain ⟨h1, h2⟩ := chx_91 j h
  have hl : f_J0_isLatin1_aae02_91 μ = some (1, μ) := by
    unfold f_J0_isLatin1_aae02_91
    rw [if_neg (by decide), if_pos (by decide)]
  unfold f_J0_charAt_5068e_91 f_J1_charAt_3b067_101
  rw [bnd hl]
  dsimp only
  rw [if_neg (by decide), show (7 : Int32) = nI 7 from rfl, bnd (p_check h (by omega) μ), inb_nI h (by omega), if_neg (show ¬ (true = false) by decide), nI_clamp (by omega), h1, h2, if_neg (show ¬ (true = false) by decide)]
  dsimp only [Option.bind_some]
  rw [h2, if_neg (show ¬ (true = false) by decide)]
theorem p_length_91 (μ : Mem) : f_J0_length_8abf5_91 μ = some (nI 7, μ) := by
  have hc : f_J0_coder_7d493_91 μ = some (0, μ) := by
    unfold f_J0_coder_7d493_91
    rw [if_neg (by decide)]
  unfold f_J0_length_8abf5_91
  rw [bnd hc]
  dsimp only
  rw [show ((7 : Int32) >>> ((0 : Int32) &&& 31)) = nI 7 from by decide]
theorem p_isName_91 {T a e : Nat} {t : Nat → Nat} {μ : Mem} (hT : TPc T t μ) (hae : a ≤ e) (he : e ≤ T) (h8 : μ.1 35 8 = nI a) (h10 : μ.1 35 10 = nI e) : f_X5_isName_35_91 μ = some (b2i (nmB t a e 9), μ) := by
  have T3 := hT.1
  unfold f_X5_isName_35_91 nmB
  rw [bnd (p_length_91 μ), h8, h10, pk_sub hae]
  dsimp only
  rw [show (nmL 9).length = 7 from rfl]
  by_cases hc : e - a = 7
  · rw [if_pos (by rw [hc]), decide_eq_true hc, Bool.true_and]
    have := for_ex (body := f_X5_isName_35_91_L20) nI 7 (fun j ν => ν = μ ∧ ∀ j', j' < j → nmJ t a 9 j' = true) (fun r => r = (b2i (alB (nmJ t a 9) 7), μ)) (fun k j ν hj hP => by
      obtain ⟨rfl, q2⟩ := hP
      obtain ⟨b1, b2⟩ := hT.2.2 (a + j) (by omega)
      unfold f_X5_isName_35_91_L20
      rw [bnd (p_length_91 ν)]
      dsimp only
      rw [if_neg (nI_ge hj (by omega)), h8, nI_add, inb_nI (by omega) (by omega), if_neg (show ¬ (true = false) by decide), bnd (p_charAt_91 hj ν)]
      dsimp only
      rw [nI_clamp (by omega), b2, al1]
      have hq := cb_eq (t (a + j)) b1 _ (nm_128 9 (by omega) j hj)
      by_cases hh : t (a + j) = (nmL 9).getD j 0
      · right
        rw [if_pos (hq.mpr hh)]
        refine ⟨ν, rfl, rfl, fun j' hj' => ?_⟩
        by_cases hjj : j' = j
        · rw [hjj]; exact decide_eq_true hh
        · exact q2 j' (by omega)
      · left
        rw [if_neg (fun h => hh (hq.mp h)), alB_f (f := nmJ t a 9) (j := j) (decide_eq_false hh) 7 hj]
        exact ⟨_, rfl, rfl⟩) (fun k ν hP => by
      obtain ⟨rfl, q2⟩ := hP
      unfold f_X5_isName_35_91_L20
      rw [bnd (p_length_91 ν)]
      dsimp only
      rw [if_pos (nI_le (Nat.le_refl _) (by omega)), alB_t 7 q2]
      exact ⟨_, rfl, rfl⟩) FU 0 μ (by omega) (fu_gt (by omega)) ⟨rfl, fun j' hj' => by omega⟩
    obtain ⟨r, r1, rfl⟩ := this
    exact r1
  · rw [if_neg (fun h => hc ((nI_eq (by omega) (by omega)).mp h)), decide_eq_false hc, Bool.false_and]
    rfl

/-- which name stands there: the first of some that fits -/
def lnB (t : Nat → Nat) (a e : Nat) : Nat := if nmB t a e 0 = true then 0 else if nmB t a e 1 = true then 1 else if nmB t a e 2 = true then 2 else if nmB t a e 3 = true then 3 else if nmB t a e 4 = true then 4 else if nmB t a e 5 = true then 5 else 6
def knB (t : Nat → Nat) (a e : Nat) : Nat := if nmB t a e 6 = true then 0 else if nmB t a e 7 = true then 1 else if nmB t a e 8 = true then 2 else if nmB t a e 9 = true then 3 else 4
def orN (k n : Nat) : Int32 := if k < n then nI k else -4
theorem mi_eq : ∀ c, c < 256 → ∀ d, d < 128 → (nI c = nI d ↔ c = d) := fun c hc d hd => nI_eq (by omega) (by omega)
theorem m_lk {T a e j : Nat} {t : Nat → Nat} {μ : Mem} (hT : TPm T t μ) (he : e ≤ T) (h21 : μ.1 62 21 = nI a) (hj : a + j < e) : f_X10_look_62 ((μ.1 62 21) + nI j) μ = some (nI (t (a + j)), μ) := by
  have T3 := hT.1
  rw [h21, nI_add, m_look hT (by omega), if_pos (by omega)]
theorem m_is {T a e n c0 c1 c2 : Nat} {t : Nat → Nat} {μ : Mem} (hT : TPm T t μ) (hae : a ≤ e) (he : e ≤ T) (h21 : μ.1 62 21 = nI a) (h20 : μ.1 62 20 = nI e) (hn : 3 ≤ n) (hn9 : n ≤ 9) (hc0 : c0 < 128) (hc1 : c1 < 128) (hc2 : c2 < 128) : f_X10_is_62 (nI n) (nI c0) (nI c1) (nI c2) μ = some (b2i (decide (e - a = n) && (decide (t (a + 0) = c0) && (decide (t (a + 1) = c1) && decide (t (a + 2) = c2)))), μ) := by
  have T3 := hT.1
  unfold f_X10_is_62
  rw [h20, h21, pk_sub hae]
  by_cases hc : e - a = n
  · rw [if_pos (by rw [hc]), decide_eq_true hc, Bool.true_and]
    have l0 : f_X10_look_62 (nI a) μ = some (nI (t (a + 0)), μ) := by
      rw [m_look hT (by omega), if_pos (by omega)]
      rfl
    have l1 : f_X10_look_62 (nI a + (1 : Int32)) μ = some (nI (t (a + 1)), μ) := by
      have := m_lk (j := 1) hT he h21 (by omega)
      rw [h21] at this
      exact this
    have l2 : f_X10_look_62 (nI a + (2 : Int32)) μ = some (nI (t (a + 2)), μ) := by
      have := m_lk (j := 2) hT he h21 (by omega)
      rw [h21] at this
      exact this
    have b0 := (hT.2.2 (a + 0) (by omega)).1
    have b1 := (hT.2.2 (a + 1) (by omega)).1
    have b2 := (hT.2.2 (a + 2) (by omega)).1
    rw [bnd l0]
    dsimp only
    rw [h21]
    by_cases e0 : t (a + 0) = c0
    · rw [if_pos ((mi_eq _ b0 _ hc0).mpr e0), decide_eq_true e0, bnd l1]
      dsimp only
      rw [h21]
      by_cases e1 : t (a + 1) = c1
      · rw [if_pos ((mi_eq _ b1 _ hc1).mpr e1), decide_eq_true e1, bnd l2]
        dsimp only
        by_cases e2 : t (a + 2) = c2
        · rw [if_pos ((mi_eq _ b2 _ hc2).mpr e2), decide_eq_true e2]
          rfl
        · rw [if_neg (fun h => e2 ((mi_eq _ b2 _ hc2).mp h)), decide_eq_false e2]
          rfl
      · rw [if_neg (fun h => e1 ((mi_eq _ b1 _ hc1).mp h)), decide_eq_false e1]
        rfl
    · rw [if_neg (fun h => e0 ((mi_eq _ b0 _ hc0).mp h)), decide_eq_false e0]
      rfl
  · rw [if_neg (fun h => hc ((nI_eq (by omega) (by omega)).mp h)), decide_eq_false hc]
    rfl
theorem m_ends1 {T a e c3 : Nat} {t : Nat → Nat} {μ : Mem} (hT : TPm T t μ) (he : e ≤ T) (h21 : μ.1 62 21 = nI a) (hn : a + 3 < e) (h3 : c3 < 128) : f_X10_ends_62 (nI c3) 0 0 μ = some (b2i (decide (t (a + 3) = c3)), μ) := by
  have T3 := hT.1
  unfold f_X10_ends_62 f_X10_ends_62_J32 f_X10_ends_62_J50
  rw [show (3 : Int32) = nI 3 from rfl, bnd (m_lk hT he h21 hn)]
  dsimp only
  have b3 := (hT.2.2 (a + 3) (by omega)).1
  by_cases e3 : t (a + 3) = c3
  · rw [if_pos ((mi_eq _ b3 _ h3).mpr e3), decide_eq_true e3, if_pos (show (0 : Int32) = 0 from rfl), if_pos (show (0 : Int32) = 0 from rfl)]
    rfl
  · rw [if_neg (fun h => e3 ((mi_eq _ b3 _ h3).mp h)), decide_eq_false e3]
    rfl
theorem m_ends2 {T a e c3 c4 : Nat} {t : Nat → Nat} {μ : Mem} (hT : TPm T t μ) (he : e ≤ T) (h21 : μ.1 62 21 = nI a) (hn : a + 4 < e) (h3 : c3 < 128) (h4 : c4 < 128) (h40 : 0 < c4) : f_X10_ends_62 (nI c3) (nI c4) 0 μ = some (b2i (decide (t (a + 3) = c3) && decide (t (a + 4) = c4)), μ) := by
  have T3 := hT.1
  unfold f_X10_ends_62 f_X10_ends_62_J32 f_X10_ends_62_J50
  rw [show (3 : Int32) = nI 3 from rfl, bnd (m_lk hT he h21 (show a + 3 < e by omega))]
  dsimp only
  have b3 := (hT.2.2 (a + 3) (by omega)).1
  have b4 := (hT.2.2 (a + 4) (by omega)).1
  by_cases e3 : t (a + 3) = c3
  · rw [if_pos ((mi_eq _ b3 _ h3).mpr e3), decide_eq_true e3, if_neg (nI_ne0 h40 (by omega)), show (4 : Int32) = nI 4 from rfl, bnd (m_lk hT he h21 hn)]
    dsimp only
    by_cases e4 : t (a + 4) = c4
    · rw [if_pos ((mi_eq _ b4 _ h4).mpr e4), decide_eq_true e4, if_pos (show (0 : Int32) = 0 from rfl)]
      rfl
    · rw [if_neg (fun h => e4 ((mi_eq _ b4 _ h4).mp h)), decide_eq_false e4]
      rfl
  · rw [if_neg (fun h => e3 ((mi_eq _ b3 _ h3).mp h)), decide_eq_false e3]
    rfl
theorem m_ends3 {T a e c3 c4 c5 : Nat} {t : Nat → Nat} {μ : Mem} (hT : TPm T t μ) (he : e ≤ T) (h21 : μ.1 62 21 = nI a) (hn : a + 5 < e) (h3 : c3 < 128) (h4 : c4 < 128) (h40 : 0 < c4) (h5 : c5 < 128) (h50 : 0 < c5) : f_X10_ends_62 (nI c3) (nI c4) (nI c5) μ = some (b2i (decide (t (a + 3) = c3) && (decide (t (a + 4) = c4) && decide (t (a + 5) = c5))), μ) := by
  have T3 := hT.1
  unfold f_X10_ends_62 f_X10_ends_62_J32 f_X10_ends_62_J50
  rw [show (3 : Int32) = nI 3 from rfl, bnd (m_lk hT he h21 (show a + 3 < e by omega))]
  dsimp only
  have b3 := (hT.2.2 (a + 3) (by omega)).1
  have b4 := (hT.2.2 (a + 4) (by omega)).1
  have b5 := (hT.2.2 (a + 5) (by omega)).1
  by_cases e3 : t (a + 3) = c3
  · rw [if_pos ((mi_eq _ b3 _ h3).mpr e3), decide_eq_true e3, if_neg (nI_ne0 h40 (by omega)), show (4 : Int32) = nI 4 from rfl, bnd (m_lk hT he h21 (show a + 4 < e by omega))]
    dsimp only
    by_cases e4 : t (a + 4) = c4
    · rw [if_pos ((mi_eq _ b4 _ h4).mpr e4), decide_eq_true e4, if_neg (nI_ne0 h50 (by omega)), show (5 : Int32) = nI 5 from rfl, bnd (m_lk hT he h21 hn)]
      dsimp only
      by_cases e5 : t (a + 5) = c5
      · rw [if_pos ((mi_eq _ b5 _ h5).mpr e5), decide_eq_true e5]
        rfl
      · rw [if_neg (fun h => e5 ((mi_eq _ b5 _ h5).mp h)), decide_eq_false e5]
        rfl
    · rw [if_neg (fun h => e4 ((mi_eq _ b4 _ h4).mp h)), decide_eq_false e4]
      rfl
  · rw [if_neg (fun h => e3 ((mi_eq _ b3 _ h3).mp h)), decide_eq_false e3]
    rfl

theorem nm_0 (t : Nat → Nat) (a e : Nat) : nmB t a e 0 = ((decide (e - a = 6) && (decide (t (a + 0) = 115) && (decide (t (a + 1) = 105) && decide (t (a + 2) = 115)))) && decide (t (a + 3) = 116) && decide (t (a + 4) = 101) && decide (t (a + 5) = 114)) := by
  show (decide (e - a = 6) && ((((((true && decide (t (a + 0) = 115)) && decide (t (a + 1) = 105)) && decide (t (a + 2) = 115)) && decide (t (a + 3) = 116)) && decide (t (a + 4) = 101)) && decide (t (a + 5) = 114))) = _
  cases decide (e - a = 6) <;> cases decide (t (a + 0) = 115) <;> cases decide (t (a + 1) = 105) <;> cases decide (t (a + 2) = 115) <;> cases decide (t (a + 3) = 116) <;> cases decide (t (a + 4) = 101) <;> cases decide (t (a + 5) = 114) <;> rfl

theorem nm_1 (t : Nat → Nat) (a e : Nat) : nmB t a e 1 = ((decide (e - a = 8) && (decide (t (a + 0) = 113) && (decide (t (a + 1) = 117) && decide (t (a + 2) = 97)))) && decide (t (a + 3) = 114) && decide (t (a + 4) = 116) && decide (t (a + 5) = 101) && decide (t (a + 6) = 114) && decide (t (a + 7) = 115)) := by
  show (decide (e - a = 8) && ((((((((true && decide (t (a + 0) = 113)) && decide (t (a + 1) = 117)) && decide (t (a + 2) = 97)) && decide (t (a + 3) = 114)) && decide (t (a + 4) = 116)) && decide (t (a + 5) = 101)) && decide (t (a + 6) = 114)) && decide (t (a + 7) = 115))) = _
  cases decide (e - a = 8) <;> cases decide (t (a + 0) = 113) <;> cases decide (t (a + 1) = 117) <;> cases decide (t (a + 2) = 97) <;> cases decide (t (a + 3) = 114) <;> cases decide (t (a + 4) = 116) <;> cases decide (t (a + 5) = 101) <;> cases decide (t (a + 6) = 114) <;> cases decide (t (a + 7) = 115) <;> rfl

theorem nm_2 (t : Nat → Nat) (a e : Nat) : nmB t a e 2 = ((decide (e - a = 4) && (decide (t (a + 0) = 110) && (decide (t (a + 1) = 101) && decide (t (a + 2) = 101)))) && decide (t (a + 3) = 100)) := by
  show (decide (e - a = 4) && ((((true && decide (t (a + 0) = 110)) && decide (t (a + 1) = 101)) && decide (t (a + 2) = 101)) && decide (t (a + 3) = 100))) = _
  cases decide (e - a = 4) <;> cases decide (t (a + 0) = 110) <;> cases decide (t (a + 1) = 101) <;> cases decide (t (a + 2) = 101) <;> cases decide (t (a + 3) = 100) <;> rfl

theorem nm_3 (t : Nat → Nat) (a e : Nat) : nmB t a e 3 = ((decide (e - a = 5) && (decide (t (a + 0) = 115) && (decide (t (a + 1) = 116) && decide (t (a + 2) = 111)))) && decide (t (a + 3) = 114) && decide (t (a + 4) = 109)) := by
  show (decide (e - a = 5) && (((((true && decide (t (a + 0) = 115)) && decide (t (a + 1) = 116)) && decide (t (a + 2) = 111)) && decide (t (a + 3) = 114)) && decide (t (a + 4) = 109))) = _
  cases decide (e - a = 5) <;> cases decide (t (a + 0) = 115) <;> cases decide (t (a + 1) = 116) <;> cases decide (t (a + 2) = 111) <;> cases decide (t (a + 3) = 114) <;> cases decide (t (a + 4) = 109) <;> rfl

theorem nm_4 (t : Nat → Nat) (a e : Nat) : nmB t a e 4 = ((decide (e - a = 5) && (decide (t (a + 0) = 119) && (decide (t (a + 1) = 97) && decide (t (a + 2) = 116)))) && decide (t (a + 3) = 99) && decide (t (a + 4) = 104)) := by
  show (decide (e - a = 5) && (((((true && decide (t (a + 0) = 119)) && decide (t (a + 1) = 97)) && decide (t (a + 2) = 116)) && decide (t (a + 3) = 99)) && decide (t (a + 4) = 104))) = _
  cases decide (e - a = 5) <;> cases decide (t (a + 0) = 119) <;> cases decide (t (a + 1) = 97) <;> cases decide (t (a + 2) = 116) <;> cases decide (t (a + 3) = 99) <;> cases decide (t (a + 4) = 104) <;> rfl

theorem nm_5 (t : Nat → Nat) (a e : Nat) : nmB t a e 5 = ((decide (e - a = 3) && (decide (t (a + 0) = 98) && (decide (t (a + 1) = 101) && decide (t (a + 2) = 100))))) := by
  show (decide (e - a = 3) && (((true && decide (t (a + 0) = 98)) && decide (t (a + 1) = 101)) && decide (t (a + 2) = 100))) = _
  cases decide (e - a = 3) <;> cases decide (t (a + 0) = 98) <;> cases decide (t (a + 1) = 101) <;> cases decide (t (a + 2) = 100) <;> rfl

theorem nm_6 (t : Nat → Nat) (a e : Nat) : nmB t a e 6 = ((decide (e - a = 5) && (decide (t (a + 0) = 112) && (decide (t (a + 1) = 108) && decide (t (a + 2) = 97)))) && decide (t (a + 3) = 105) && decide (t (a + 4) = 110)) := by
  show (decide (e - a = 5) && (((((true && decide (t (a + 0) = 112)) && decide (t (a + 1) = 108)) && decide (t (a + 2) = 97)) && decide (t (a + 3) = 105)) && decide (t (a + 4) = 110))) = _
  cases decide (e - a = 5) <;> cases decide (t (a + 0) = 112) <;> cases decide (t (a + 1) = 108) <;> cases decide (t (a + 2) = 97) <;> cases decide (t (a + 3) = 105) <;> cases decide (t (a + 4) = 110) <;> rfl

theorem nm_7 (t : Nat → Nat) (a e : Nat) : nmB t a e 7 = ((decide (e - a = 5) && (decide (t (a + 0) = 103) && (decide (t (a + 1) = 108) && decide (t (a + 2) = 97)))) && decide (t (a + 3) = 115) && decide (t (a + 4) = 115)) := by
  show (decide (e - a = 5) && (((((true && decide (t (a + 0) = 103)) && decide (t (a + 1) = 108)) && decide (t (a + 2) = 97)) && decide (t (a + 3) = 115)) && decide (t (a + 4) = 115))) = _
  cases decide (e - a = 5) <;> cases decide (t (a + 0) = 103) <;> cases decide (t (a + 1) = 108) <;> cases decide (t (a + 2) = 97) <;> cases decide (t (a + 3) = 115) <;> cases decide (t (a + 4) = 115) <;> rfl

theorem nm_8 (t : Nat → Nat) (a e : Nat) : nmB t a e 8 = ((decide (e - a = 7) && (decide (t (a + 0) = 118) && (decide (t (a + 1) = 105) && decide (t (a + 2) = 115)))) && decide (t (a + 3) = 105) && decide (t (a + 4) = 116) && decide (t (a + 5) = 111) && decide (t (a + 6) = 114)) := by
  show (decide (e - a = 7) && (((((((true && decide (t (a + 0) = 118)) && decide (t (a + 1) = 105)) && decide (t (a + 2) = 115)) && decide (t (a + 3) = 105)) && decide (t (a + 4) = 116)) && decide (t (a + 5) = 111)) && decide (t (a + 6) = 114))) = _
  cases decide (e - a = 7) <;> cases decide (t (a + 0) = 118) <;> cases decide (t (a + 1) = 105) <;> cases decide (t (a + 2) = 115) <;> cases decide (t (a + 3) = 105) <;> cases decide (t (a + 4) = 116) <;> cases decide (t (a + 5) = 111) <;> cases decide (t (a + 6) = 114) <;> rfl

theorem nm_9 (t : Nat → Nat) (a e : Nat) : nmB t a e 9 = ((decide (e - a = 7) && (decide (t (a + 0) = 100) && (decide (t (a + 1) = 114) && decide (t (a + 2) = 101)))) && decide (t (a + 3) = 97) && decide (t (a + 4) = 109) && decide (t (a + 5) = 101) && decide (t (a + 6) = 114)) := by
  show (decide (e - a = 7) && (((((((true && decide (t (a + 0) = 100)) && decide (t (a + 1) = 114)) && decide (t (a + 2) = 101)) && decide (t (a + 3) = 97)) && decide (t (a + 4) = 109)) && decide (t (a + 5) = 101)) && decide (t (a + 6) = 114))) = _
  cases decide (e - a = 7) <;> cases decide (t (a + 0) = 100) <;> cases decide (t (a + 1) = 114) <;> cases decide (t (a + 2) = 101) <;> cases decide (t (a + 3) = 97) <;> cases decide (t (a + 4) = 109) <;> cases decide (t (a + 5) = 101) <;> cases decide (t (a + 6) = 114) <;> rfl

theorem m_lineNow {T a e : Nat} {t : Nat → Nat} {μ : Mem} (hT : TPm T t μ) (hae : a ≤ e) (he : e ≤ T) (h21 : μ.1 62 21 = nI a) (h20 : μ.1 62 20 = nI e) : f_X10_lineNow_62 μ = some (orN (lnB t a e) 6, μ) := by
  have T3 := hT.1
  have h5 : f_X10_lineNow_62_J177 μ = some ((if nmB t a e 5 = true then (nI 5) else (-4 : Int32)), μ) := by
    unfold f_X10_lineNow_62_J177
    have his := m_is (n := 3) (c0 := 98) (c1 := 101) (c2 := 100) hT hae he h21 h20 (by omega) (by omega) (by omega) (by omega) (by omega)
    have his : f_X10_is_62 (3 : Int32) (98 : Int32) (101 : Int32) (100 : Int32) μ = _ := his
    rw [bnd his]
    dsimp only
    have hnm := nm_5 t a e
    cases hx : (decide (e - a = 3) && (decide (t (a + 0) = 98) && (decide (t (a + 1) = 101) && decide (t (a + 2) = 100)))) with
    | false =>
      rw [hx] at hnm
      rw [show nmB t a e 5 = false by rw [hnm], if_pos (show b2i false = 0 from rfl), if_neg (show ¬ false = true by decide)]
      try rfl
    | true =>
      rw [hx] at hnm
      have hL : e - a = 3 := by
        by_cases hl : e - a = 3
        · exact hl
        · rw [decide_eq_false hl, Bool.false_and] at hx; cases hx
      rw [if_neg (show ¬ b2i true = 0 by decide)]
      rw [hnm, if_pos (show true = true from rfl)]
      try rfl
  have h4 : f_X10_lineNow_62_J147 μ = some ((if nmB t a e 4 = true then (nI 4) else (if nmB t a e 5 = true then (nI 5) else (-4 : Int32))), μ) := by
    unfold f_X10_lineNow_62_J147
    have his := m_is (n := 5) (c0 := 119) (c1 := 97) (c2 := 116) hT hae he h21 h20 (by omega) (by omega) (by omega) (by omega) (by omega)
    have his : f_X10_is_62 (5 : Int32) (119 : Int32) (97 : Int32) (116 : Int32) μ = _ := his
    rw [bnd his]
    dsimp only
    have hnm := nm_4 t a e
    cases hx : (decide (e - a = 5) && (decide (t (a + 0) = 119) && (decide (t (a + 1) = 97) && decide (t (a + 2) = 116)))) with
    | false =>
      rw [hx] at hnm
      rw [show nmB t a e 4 = false by rw [hnm]; simp, if_pos (show b2i false = 0 from rfl), if_neg (show ¬ false = true by decide)]
      exact h5
    | true =>
      rw [hx, Bool.true_and] at hnm
      have hL : e - a = 5 := by
        by_cases hl : e - a = 5
        · exact hl
        · rw [decide_eq_false hl, Bool.false_and] at hx; cases hx
      rw [if_neg (show ¬ b2i true = 0 by decide)]
      have hen := m_ends2 (c3 := 99) (c4 := 104) hT he h21 (show a + 4 < e by omega) (by omega) (by omega) (by omega)
      have hen : f_X10_ends_62 (99 : Int32) (104 : Int32) (0 : Int32) μ = _ := hen
      rw [bnd hen]
      dsimp only
      cases hy : (decide (t (a + 3) = 99) && decide (t (a + 4) = 104)) with
      | false =>
        have hf : nmB t a e 4 = false := by
          rw [hnm]
          exact hy
        rw [hf, if_pos (show b2i false = 0 from rfl), if_neg (show ¬ false = true by decide)]
        exact h5
      | true =>
        rw [if_neg (show ¬ b2i true = 0 by decide)]
        rw [show nmB t a e 4 = true by rw [hnm]; exact hy, if_pos (show true = true from rfl)]
        try rfl
  have h3 : f_X10_lineNow_62_J119 μ = some ((if nmB t a e 3 = true then (nI 3) else (if nmB t a e 4 = true then (nI 4) else (if nmB t a e 5 = true then (nI 5) else (-4 : Int32)))), μ) := by
    unfold f_X10_lineNow_62_J119
    have his := m_is (n := 5) (c0 := 115) (c1 := 116) (c2 := 111) hT hae he h21 h20 (by omega) (by omega) (by omega) (by omega) (by omega)
    have his : f_X10_is_62 (5 : Int32) (115 : Int32) (116 : Int32) (111 : Int32) μ = _ := his
    rw [bnd his]
    dsimp only
    have hnm := nm_3 t a e
    cases hx : (decide (e - a = 5) && (decide (t (a + 0) = 115) && (decide (t (a + 1) = 116) && decide (t (a + 2) = 111)))) with
    | false =>
      rw [hx] at hnm
      rw [show nmB t a e 3 = false by rw [hnm]; simp, if_pos (show b2i false = 0 from rfl), if_neg (show ¬ false = true by decide)]
      exact h4
    | true =>
      rw [hx, Bool.true_and] at hnm
      have hL : e - a = 5 := by
        by_cases hl : e - a = 5
        · exact hl
        · rw [decide_eq_false hl, Bool.false_and] at hx; cases hx
      rw [if_neg (show ¬ b2i true = 0 by decide)]
      have hen := m_ends2 (c3 := 114) (c4 := 109) hT he h21 (show a + 4 < e by omega) (by omega) (by omega) (by omega)
      have hen : f_X10_ends_62 (114 : Int32) (109 : Int32) (0 : Int32) μ = _ := hen
      rw [bnd hen]
      dsimp only
      cases hy : (decide (t (a + 3) = 114) && decide (t (a + 4) = 109)) with
      | false =>
        have hf : nmB t a e 3 = false := by
          rw [hnm]
          exact hy
        rw [hf, if_pos (show b2i false = 0 from rfl), if_neg (show ¬ false = true by decide)]
        exact h4
      | true =>
        rw [if_neg (show ¬ b2i true = 0 by decide)]
        rw [show nmB t a e 3 = true by rw [hnm]; exact hy, if_pos (show true = true from rfl)]
        try rfl
  have h2 : f_X10_lineNow_62_J92 μ = some ((if nmB t a e 2 = true then (nI 2) else (if nmB t a e 3 = true then (nI 3) else (if nmB t a e 4 = true then (nI 4) else (if nmB t a e 5 = true then (nI 5) else (-4 : Int32))))), μ) := by
    unfold f_X10_lineNow_62_J92
    have his := m_is (n := 4) (c0 := 110) (c1 := 101) (c2 := 101) hT hae he h21 h20 (by omega) (by omega) (by omega) (by omega) (by omega)
    have his : f_X10_is_62 (4 : Int32) (110 : Int32) (101 : Int32) (101 : Int32) μ = _ := his
    rw [bnd his]
    dsimp only
    have hnm := nm_2 t a e
    cases hx : (decide (e - a = 4) && (decide (t (a + 0) = 110) && (decide (t (a + 1) = 101) && decide (t (a + 2) = 101)))) with
    | false =>
      rw [hx] at hnm
      rw [show nmB t a e 2 = false by rw [hnm]; simp, if_pos (show b2i false = 0 from rfl), if_neg (show ¬ false = true by decide)]
      exact h3
    | true =>
      rw [hx, Bool.true_and] at hnm
      have hL : e - a = 4 := by
        by_cases hl : e - a = 4
        · exact hl
        · rw [decide_eq_false hl, Bool.false_and] at hx; cases hx
      rw [if_neg (show ¬ b2i true = 0 by decide)]
      have hen := m_ends1 (c3 := 100) hT he h21 (show a + 3 < e by omega) (by omega)
      have hen : f_X10_ends_62 (100 : Int32) (0 : Int32) (0 : Int32) μ = _ := hen
      rw [bnd hen]
      dsimp only
      cases hy : decide (t (a + 3) = 100) with
      | false =>
        have hf : nmB t a e 2 = false := by
          rw [hnm]
          exact hy
        rw [hf, if_pos (show b2i false = 0 from rfl), if_neg (show ¬ false = true by decide)]
        exact h3
      | true =>
        rw [if_neg (show ¬ b2i true = 0 by decide)]
        rw [show nmB t a e 2 = true by rw [hnm]; exact hy, if_pos (show true = true from rfl)]
        try rfl
  have h1 : f_X10_lineNow_62_J30 μ = some ((if nmB t a e 1 = true then (nI 1) else (if nmB t a e 2 = true then (nI 2) else (if nmB t a e 3 = true then (nI 3) else (if nmB t a e 4 = true then (nI 4) else (if nmB t a e 5 = true then (nI 5) else (-4 : Int32)))))), μ) := by
    unfold f_X10_lineNow_62_J30
    have his := m_is (n := 8) (c0 := 113) (c1 := 117) (c2 := 97) hT hae he h21 h20 (by omega) (by omega) (by omega) (by omega) (by omega)
    have his : f_X10_is_62 (8 : Int32) (113 : Int32) (117 : Int32) (97 : Int32) μ = _ := his
    rw [bnd his]
    dsimp only
    have hnm := nm_1 t a e
    cases hx : (decide (e - a = 8) && (decide (t (a + 0) = 113) && (decide (t (a + 1) = 117) && decide (t (a + 2) = 97)))) with
    | false =>
      rw [hx] at hnm
      rw [show nmB t a e 1 = false by rw [hnm]; simp, if_pos (show b2i false = 0 from rfl), if_neg (show ¬ false = true by decide)]
      exact h2
    | true =>
      rw [hx, Bool.true_and] at hnm
      have hL : e - a = 8 := by
        by_cases hl : e - a = 8
        · exact hl
        · rw [decide_eq_false hl, Bool.false_and] at hx; cases hx
      rw [if_neg (show ¬ b2i true = 0 by decide)]
      have hen := m_ends3 (c3 := 114) (c4 := 116) (c5 := 101) hT he h21 (show a + 5 < e by omega) (by omega) (by omega) (by omega) (by omega) (by omega)
      have hen : f_X10_ends_62 (114 : Int32) (116 : Int32) (101 : Int32) μ = _ := hen
      rw [bnd hen]
      dsimp only
      cases hy : (decide (t (a + 3) = 114) && (decide (t (a + 4) = 116) && decide (t (a + 5) = 101))) with
      | false =>
        have hf : nmB t a e 1 = false := by
          rw [hnm]
          cases q3 : decide (t (a + 3) = 114) <;> cases q4 : decide (t (a + 4) = 116) <;> cases q5 : decide (t (a + 5) = 101) <;> rw [q3, q4, q5] at hy <;> first | (cases hy; done) | simp
        rw [hf, if_pos (show b2i false = 0 from rfl), if_neg (show ¬ false = true by decide)]
        exact h2
      | true =>
        rw [if_neg (show ¬ b2i true = 0 by decide)]
        have q3 : decide (t (a + 3) = 114) = true := by cases q3 : decide (t (a + 3) = 114) <;> rw [q3] at hy <;> first | rfl | cases hy
        have q4 : decide (t (a + 4) = 116) = true := by cases q4 : decide (t (a + 4) = 116) <;> rw [q3, q4] at hy <;> first | rfl | cases hy
        have q5 : decide (t (a + 5) = 101) = true := by cases q5 : decide (t (a + 5) = 101) <;> rw [q3, q4, q5] at hy <;> first | rfl | cases hy
        rw [q3, q4, q5] at hnm
        have b6 := (hT.2.2 (a + 6) (by omega)).1
        have b7 := (hT.2.2 (a + 7) (by omega)).1
        rw [show (6 : Int32) = nI 6 from rfl, bnd (m_lk (j := 6) hT he h21 (by omega))]
        dsimp only
        by_cases e6 : t (a + 6) = 114
        · rw [if_pos (show nI (t (a + 6)) = (114 : Int32) from (mi_eq _ b6 114 (by omega)).mpr e6)]
          rw [decide_eq_true e6] at hnm
          rw [show (7 : Int32) = nI 7 from rfl, bnd (m_lk (j := 7) hT he h21 (by omega))]
          dsimp only
          by_cases e7 : t (a + 7) = 115
          · rw [if_pos (show nI (t (a + 7)) = (115 : Int32) from (mi_eq _ b7 115 (by omega)).mpr e7)]
            rw [decide_eq_true e7] at hnm
            rw [show nmB t a e 1 = true by rw [hnm]; rfl, if_pos (show true = true from rfl)]
            try rfl
          · rw [if_neg (show ¬ nI (t (a + 7)) = (115 : Int32) from fun h => e7 ((mi_eq _ b7 115 (by omega)).mp h))]
            rw [decide_eq_false e7] at hnm
            rw [show nmB t a e 1 = false by rw [hnm]; rfl, if_neg (show ¬ false = true by decide)]
            exact h2
        · rw [if_neg (show ¬ nI (t (a + 6)) = (114 : Int32) from fun h => e6 ((mi_eq _ b6 114 (by omega)).mp h))]
          rw [decide_eq_false e6] at hnm
          rw [show nmB t a e 1 = false by rw [hnm]; simp, if_neg (show ¬ false = true by decide)]
          exact h2
  have h0 : f_X10_lineNow_62 μ = some ((if nmB t a e 0 = true then (nI 0) else (if nmB t a e 1 = true then (nI 1) else (if nmB t a e 2 = true then (nI 2) else (if nmB t a e 3 = true then (nI 3) else (if nmB t a e 4 = true then (nI 4) else (if nmB t a e 5 = true then (nI 5) else (-4 : Int32))))))), μ) := by
    unfold f_X10_lineNow_62
    have his := m_is (n := 6) (c0 := 115) (c1 := 105) (c2 := 115) hT hae he h21 h20 (by omega) (by omega) (by omega) (by omega) (by omega)
    have his : f_X10_is_62 (6 : Int32) (115 : Int32) (105 : Int32) (115 : Int32) μ = _ := his
    rw [bnd his]
    dsimp only
    have hnm := nm_0 t a e
    cases hx : (decide (e - a = 6) && (decide (t (a + 0) = 115) && (decide (t (a + 1) = 105) && decide (t (a + 2) = 115)))) with
    | false =>
      rw [hx] at hnm
      rw [show nmB t a e 0 = false by rw [hnm]; simp, if_pos (show b2i false = 0 from rfl), if_neg (show ¬ false = true by decide)]
      exact h1
    | true =>
      rw [hx, Bool.true_and] at hnm
      have hL : e - a = 6 := by
        by_cases hl : e - a = 6
        · exact hl
        · rw [decide_eq_false hl, Bool.false_and] at hx; cases hx
      rw [if_neg (show ¬ b2i true = 0 by decide)]
      have hen := m_ends3 (c3 := 116) (c4 := 101) (c5 := 114) hT he h21 (show a + 5 < e by omega) (by omega) (by omega) (by omega) (by omega) (by omega)
      have hen : f_X10_ends_62 (116 : Int32) (101 : Int32) (114 : Int32) μ = _ := hen
      rw [bnd hen]
      dsimp only
      cases hy : (decide (t (a + 3) = 116) && (decide (t (a + 4) = 101) && decide (t (a + 5) = 114))) with
      | false =>
        have hf : nmB t a e 0 = false := by
          rw [hnm]
          cases q3 : decide (t (a + 3) = 116) <;> cases q4 : decide (t (a + 4) = 101) <;> cases q5 : decide (t (a + 5) = 114) <;> rw [q3, q4, q5] at hy <;> first | (cases hy; done) | simp
        rw [hf, if_pos (show b2i false = 0 from rfl), if_neg (show ¬ false = true by decide)]
        exact h1
      | true =>
        rw [if_neg (show ¬ b2i true = 0 by decide)]
        have q3 : decide (t (a + 3) = 116) = true := by cases q3 : decide (t (a + 3) = 116) <;> rw [q3] at hy <;> first | rfl | cases hy
        have q4 : decide (t (a + 4) = 101) = true := by cases q4 : decide (t (a + 4) = 101) <;> rw [q3, q4] at hy <;> first | rfl | cases hy
        have q5 : decide (t (a + 5) = 114) = true := by cases q5 : decide (t (a + 5) = 114) <;> rw [q3, q4, q5] at hy <;> first | rfl | cases hy
        rw [q3, q4, q5] at hnm
        rw [show nmB t a e 0 = true by rw [hnm]; rfl, if_pos (show true = true from rfl)]
        try rfl
  rw [h0]
  unfold lnB
  by_cases c0 : nmB t a e 0 = true
  · rw [if_pos c0, if_pos c0]
    rfl
  · rw [if_neg c0, if_neg c0]
    by_cases c1 : nmB t a e 1 = true
    · rw [if_pos c1, if_pos c1]
      rfl
    · rw [if_neg c1, if_neg c1]
      by_cases c2 : nmB t a e 2 = true
      · rw [if_pos c2, if_pos c2]
        rfl
      · rw [if_neg c2, if_neg c2]
        by_cases c3 : nmB t a e 3 = true
        · rw [if_pos c3, if_pos c3]
          rfl
        · rw [if_neg c3, if_neg c3]
          by_cases c4 : nmB t a e 4 = true
          · rw [if_pos c4, if_pos c4]
            rfl
          · rw [if_neg c4, if_neg c4]
            by_cases c5 : nmB t a e 5 = true
            · rw [if_pos c5, if_pos c5]
              rfl
            · rw [if_neg c5, if_neg c5]
              rfl

theorem m_kindNow {T a e : Nat} {t : Nat → Nat} {μ : Mem} (hT : TPm T t μ) (hae : a ≤ e) (he : e ≤ T) (h21 : μ.1 62 21 = nI a) (h20 : μ.1 62 20 = nI e) : f_X10_kindNow_62 μ = some (orN (knB t a e) 4, μ) := by
  have T3 := hT.1
  have h9 : f_X10_kindNow_62_J102 μ = some ((if nmB t a e 9 = true then (nI 3) else (-4 : Int32)), μ) := by
    unfold f_X10_kindNow_62_J102
    have his := m_is (n := 7) (c0 := 100) (c1 := 114) (c2 := 101) hT hae he h21 h20 (by omega) (by omega) (by omega) (by omega) (by omega)
    have his : f_X10_is_62 (7 : Int32) (100 : Int32) (114 : Int32) (101 : Int32) μ = _ := his
    rw [bnd his]
    dsimp only
    have hnm := nm_9 t a e
    cases hx : (decide (e - a = 7) && (decide (t (a + 0) = 100) && (decide (t (a + 1) = 114) && decide (t (a + 2) = 101)))) with
    | false =>
      rw [hx] at hnm
      rw [show nmB t a e 9 = false by rw [hnm]; simp, if_pos (show b2i false = 0 from rfl), if_neg (show ¬ false = true by decide)]
      try rfl
    | true =>
      rw [hx, Bool.true_and] at hnm
      have hL : e - a = 7 := by
        by_cases hl : e - a = 7
        · exact hl
        · rw [decide_eq_false hl, Bool.false_and] at hx; cases hx
      rw [if_neg (show ¬ b2i true = 0 by decide)]
      have hen := m_ends3 (c3 := 97) (c4 := 109) (c5 := 101) hT he h21 (show a + 5 < e by omega) (by omega) (by omega) (by omega) (by omega) (by omega)
      have hen : f_X10_ends_62 (97 : Int32) (109 : Int32) (101 : Int32) μ = _ := hen
      rw [bnd hen]
      dsimp only
      cases hy : (decide (t (a + 3) = 97) && (decide (t (a + 4) = 109) && decide (t (a + 5) = 101))) with
      | false =>
        have hf : nmB t a e 9 = false := by
          rw [hnm]
          cases q3 : decide (t (a + 3) = 97) <;> cases q4 : decide (t (a + 4) = 109) <;> cases q5 : decide (t (a + 5) = 101) <;> rw [q3, q4, q5] at hy <;> first | (cases hy; done) | simp
        rw [hf, if_pos (show b2i false = 0 from rfl), if_neg (show ¬ false = true by decide)]
        try rfl
      | true =>
        rw [if_neg (show ¬ b2i true = 0 by decide)]
        have q3 : decide (t (a + 3) = 97) = true := by cases q3 : decide (t (a + 3) = 97) <;> rw [q3] at hy <;> first | rfl | cases hy
        have q4 : decide (t (a + 4) = 109) = true := by cases q4 : decide (t (a + 4) = 109) <;> rw [q3, q4] at hy <;> first | rfl | cases hy
        have q5 : decide (t (a + 5) = 101) = true := by cases q5 : decide (t (a + 5) = 101) <;> rw [q3, q4, q5] at hy <;> first | rfl | cases hy
        rw [q3, q4, q5] at hnm
        have b6 := (hT.2.2 (a + 6) (by omega)).1
        rw [show (6 : Int32) = nI 6 from rfl, bnd (m_lk (j := 6) hT he h21 (by omega))]
        dsimp only
        by_cases e6 : t (a + 6) = 114
        · rw [if_pos (show nI (t (a + 6)) = (114 : Int32) from (mi_eq _ b6 114 (by omega)).mpr e6)]
          rw [decide_eq_true e6] at hnm
          rw [show nmB t a e 9 = true by rw [hnm]; rfl, if_pos (show true = true from rfl)]
          try rfl
        · rw [if_neg (show ¬ nI (t (a + 6)) = (114 : Int32) from fun h => e6 ((mi_eq _ b6 114 (by omega)).mp h))]
          rw [decide_eq_false e6] at hnm
          rw [show nmB t a e 9 = false by rw [hnm]; simp, if_neg (show ¬ false = true by decide)]
          try rfl
  have h8 : f_X10_kindNow_62_J56 μ = some ((if nmB t a e 8 = true then (nI 2) else (if nmB t a e 9 = true then (nI 3) else (-4 : Int32))), μ) := by
    unfold f_X10_kindNow_62_J56
    have his := m_is (n := 7) (c0 := 118) (c1 := 105) (c2 := 115) hT hae he h21 h20 (by omega) (by omega) (by omega) (by omega) (by omega)
    have his : f_X10_is_62 (7 : Int32) (118 : Int32) (105 : Int32) (115 : Int32) μ = _ := his
    rw [bnd his]
    dsimp only
    have hnm := nm_8 t a e
    cases hx : (decide (e - a = 7) && (decide (t (a + 0) = 118) && (decide (t (a + 1) = 105) && decide (t (a + 2) = 115)))) with
    | false =>
      rw [hx] at hnm
      rw [show nmB t a e 8 = false by rw [hnm]; simp, if_pos (show b2i false = 0 from rfl), if_neg (show ¬ false = true by decide)]
      exact h9
    | true =>
      rw [hx, Bool.true_and] at hnm
      have hL : e - a = 7 := by
        by_cases hl : e - a = 7
        · exact hl
        · rw [decide_eq_false hl, Bool.false_and] at hx; cases hx
      rw [if_neg (show ¬ b2i true = 0 by decide)]
      have hen := m_ends3 (c3 := 105) (c4 := 116) (c5 := 111) hT he h21 (show a + 5 < e by omega) (by omega) (by omega) (by omega) (by omega) (by omega)
      have hen : f_X10_ends_62 (105 : Int32) (116 : Int32) (111 : Int32) μ = _ := hen
      rw [bnd hen]
      dsimp only
      cases hy : (decide (t (a + 3) = 105) && (decide (t (a + 4) = 116) && decide (t (a + 5) = 111))) with
      | false =>
        have hf : nmB t a e 8 = false := by
          rw [hnm]
          cases q3 : decide (t (a + 3) = 105) <;> cases q4 : decide (t (a + 4) = 116) <;> cases q5 : decide (t (a + 5) = 111) <;> rw [q3, q4, q5] at hy <;> first | (cases hy; done) | simp
        rw [hf, if_pos (show b2i false = 0 from rfl), if_neg (show ¬ false = true by decide)]
        exact h9
      | true =>
        rw [if_neg (show ¬ b2i true = 0 by decide)]
        have q3 : decide (t (a + 3) = 105) = true := by cases q3 : decide (t (a + 3) = 105) <;> rw [q3] at hy <;> first | rfl | cases hy
        have q4 : decide (t (a + 4) = 116) = true := by cases q4 : decide (t (a + 4) = 116) <;> rw [q3, q4] at hy <;> first | rfl | cases hy
        have q5 : decide (t (a + 5) = 111) = true := by cases q5 : decide (t (a + 5) = 111) <;> rw [q3, q4, q5] at hy <;> first | rfl | cases hy
        rw [q3, q4, q5] at hnm
        have b6 := (hT.2.2 (a + 6) (by omega)).1
        rw [show (6 : Int32) = nI 6 from rfl, bnd (m_lk (j := 6) hT he h21 (by omega))]
        dsimp only
        by_cases e6 : t (a + 6) = 114
        · rw [if_pos (show nI (t (a + 6)) = (114 : Int32) from (mi_eq _ b6 114 (by omega)).mpr e6)]
          rw [decide_eq_true e6] at hnm
          rw [show nmB t a e 8 = true by rw [hnm]; rfl, if_pos (show true = true from rfl)]
          try rfl
        · rw [if_neg (show ¬ nI (t (a + 6)) = (114 : Int32) from fun h => e6 ((mi_eq _ b6 114 (by omega)).mp h))]
          rw [decide_eq_false e6] at hnm
          rw [show nmB t a e 8 = false by rw [hnm]; simp, if_neg (show ¬ false = true by decide)]
          exact h9
  have h7 : f_X10_kindNow_62_J28 μ = some ((if nmB t a e 7 = true then (nI 1) else (if nmB t a e 8 = true then (nI 2) else (if nmB t a e 9 = true then (nI 3) else (-4 : Int32)))), μ) := by
    unfold f_X10_kindNow_62_J28
    have his := m_is (n := 5) (c0 := 103) (c1 := 108) (c2 := 97) hT hae he h21 h20 (by omega) (by omega) (by omega) (by omega) (by omega)
    have his : f_X10_is_62 (5 : Int32) (103 : Int32) (108 : Int32) (97 : Int32) μ = _ := his
    rw [bnd his]
    dsimp only
    have hnm := nm_7 t a e
    cases hx : (decide (e - a = 5) && (decide (t (a + 0) = 103) && (decide (t (a + 1) = 108) && decide (t (a + 2) = 97)))) with
    | false =>
      rw [hx] at hnm
      rw [show nmB t a e 7 = false by rw [hnm]; simp, if_pos (show b2i false = 0 from rfl), if_neg (show ¬ false = true by decide)]
      exact h8
    | true =>
      rw [hx, Bool.true_and] at hnm
      have hL : e - a = 5 := by
        by_cases hl : e - a = 5
        · exact hl
        · rw [decide_eq_false hl, Bool.false_and] at hx; cases hx
      rw [if_neg (show ¬ b2i true = 0 by decide)]
      have hen := m_ends2 (c3 := 115) (c4 := 115) hT he h21 (show a + 4 < e by omega) (by omega) (by omega) (by omega)
      have hen : f_X10_ends_62 (115 : Int32) (115 : Int32) (0 : Int32) μ = _ := hen
      rw [bnd hen]
      dsimp only
      cases hy : (decide (t (a + 3) = 115) && decide (t (a + 4) = 115)) with
      | false =>
        have hf : nmB t a e 7 = false := by
          rw [hnm]
          exact hy
        rw [hf, if_pos (show b2i false = 0 from rfl), if_neg (show ¬ false = true by decide)]
        exact h8
      | true =>
        rw [if_neg (show ¬ b2i true = 0 by decide)]
        rw [show nmB t a e 7 = true by rw [hnm]; exact hy, if_pos (show true = true from rfl)]
        try rfl
  have h6 : f_X10_kindNow_62 μ = some ((if nmB t a e 6 = true then (nI 0) else (if nmB t a e 7 = true then (nI 1) else (if nmB t a e 8 = true then (nI 2) else (if nmB t a e 9 = true then (nI 3) else (-4 : Int32))))), μ) := by
    unfold f_X10_kindNow_62
    have his := m_is (n := 5) (c0 := 112) (c1 := 108) (c2 := 97) hT hae he h21 h20 (by omega) (by omega) (by omega) (by omega) (by omega)
    have his : f_X10_is_62 (5 : Int32) (112 : Int32) (108 : Int32) (97 : Int32) μ = _ := his
    rw [bnd his]
    dsimp only
    have hnm := nm_6 t a e
    cases hx : (decide (e - a = 5) && (decide (t (a + 0) = 112) && (decide (t (a + 1) = 108) && decide (t (a + 2) = 97)))) with
    | false =>
      rw [hx] at hnm
      rw [show nmB t a e 6 = false by rw [hnm]; simp, if_pos (show b2i false = 0 from rfl), if_neg (show ¬ false = true by decide)]
      exact h7
    | true =>
      rw [hx, Bool.true_and] at hnm
      have hL : e - a = 5 := by
        by_cases hl : e - a = 5
        · exact hl
        · rw [decide_eq_false hl, Bool.false_and] at hx; cases hx
      rw [if_neg (show ¬ b2i true = 0 by decide)]
      have hen := m_ends2 (c3 := 105) (c4 := 110) hT he h21 (show a + 4 < e by omega) (by omega) (by omega) (by omega)
      have hen : f_X10_ends_62 (105 : Int32) (110 : Int32) (0 : Int32) μ = _ := hen
      rw [bnd hen]
      dsimp only
      cases hy : (decide (t (a + 3) = 105) && decide (t (a + 4) = 110)) with
      | false =>
        have hf : nmB t a e 6 = false := by
          rw [hnm]
          exact hy
        rw [hf, if_pos (show b2i false = 0 from rfl), if_neg (show ¬ false = true by decide)]
        exact h7
      | true =>
        rw [if_neg (show ¬ b2i true = 0 by decide)]
        rw [show nmB t a e 6 = true by rw [hnm]; exact hy, if_pos (show true = true from rfl)]
        try rfl
  rw [h6]
  unfold knB
  by_cases c6 : nmB t a e 6 = true
  · rw [if_pos c6, if_pos c6]
    rfl
  · rw [if_neg c6, if_neg c6]
    by_cases c7 : nmB t a e 7 = true
    · rw [if_pos c7, if_pos c7]
      rfl
    · rw [if_neg c7, if_neg c7]
      by_cases c8 : nmB t a e 8 = true
      · rw [if_pos c8, if_pos c8]
        rfl
      · rw [if_neg c8, if_neg c8]
        by_cases c9 : nmB t a e 9 = true
        · rw [if_pos c9, if_pos c9]
          rfl
        · rw [if_neg c9, if_neg c9]
          rfl
