/-- the post as numbers -/
def PV (n : Nat) (F T N G W : Nat → Nat) (μ : Mem) : Prop := (∀ s, s < 3 → F s < 4 ∧ μ.1 5 s = nI (F s) ∧ μ.1 63 s = nI (F s)) ∧ (∀ e, e < 6 → T e < 10 ∧ μ.1 6 e = nI (T e) ∧ μ.1 63 (3 + e) = nI (T e)) ∧ (∀ d, d < 4 → N d < 7 ∧ μ.1 7 d = nI (N d) ∧ μ.1 63 (9 + d) = nI (N d)) ∧ (∀ q, q < 6 → G q < 16 ∧ μ.1 8 q = nI (G q) ∧ μ.1 63 (13 + q) = nI (G q)) ∧ (∀ q, q < 6 → W q < 3 ^ n ∧ μ.1 9 q = nI (W q) ∧ μ.1 63 (21 + q) = nI (W q))
theorem PV.get {n Q : Nat} {μ : Mem} (hn : n ≤ 3) (h : PostR n Q μ 4 0) : ∃ F T N G W, PV n F T N G W μ := by
  have h27 := p3 hn
  obtain ⟨h1, h2, h3, h4, h5, -⟩ := h
  refine ⟨fun k => (μ.1 5 k).toNatClampNeg, fun k => (μ.1 6 k).toNatClampNeg, fun k => (μ.1 7 k).toNatClampNeg, fun k => (μ.1 8 k).toNatClampNeg, fun k => (μ.1 9 k).toNatClampNeg, fun k hk => ?_, fun k hk => ?_, fun k hk => ?_, fun k hk => ?_, fun k hk => ?_⟩
  · obtain ⟨v, hv, g1, g2⟩ := h1 k hk
    have g1 : μ.1 5 k = nI v := g1
    have g2 : μ.1 63 k = nI v := by simpa using g2
    dsimp only
    rw [g1, nI_clamp (by omega)]
    exact ⟨hv, rfl, g2⟩
  · obtain ⟨v, hv, g1, g2, -⟩ := h2 k hk
    have g1 : μ.1 6 k = nI v := g1
    have g2 : μ.1 63 (3 + k) = nI v := by simpa using g2
    dsimp only
    rw [g1, nI_clamp (by omega)]
    exact ⟨hv, rfl, g2⟩
  · obtain ⟨v, hv, g1, g2⟩ := h3 k hk
    have g1 : μ.1 7 k = nI v := g1
    have g2 : μ.1 63 (9 + k) = nI v := by simpa using g2
    dsimp only
    rw [g1, nI_clamp (by omega)]
    exact ⟨hv, rfl, g2⟩
  · obtain ⟨v, hv, g1, g2, -⟩ := h4 k hk
    have g1 : μ.1 8 k = nI v := g1
    have g2 : μ.1 63 (13 + k) = nI v := by simpa using g2
    dsimp only
    rw [g1, nI_clamp (by omega)]
    exact ⟨hv, rfl, g2⟩
  · obtain ⟨v, hv, g1, g2⟩ := h5 k hk
    have g1 : μ.1 9 k = nI v := g1
    have g2 : μ.1 63 (21 + k) = nI v := by simpa using g2
    dsimp only
    rw [g1, nI_clamp (by omega)]
    exact ⟨hv, rfl, g2⟩
theorem PV.sm {n : Nat} {F T N G W : Nat → Nat} {μ μ' : Mem} (hs : smE μ μ') (h : PV n F T N G W μ) : PV n F T N G W μ' := by
  have c5 : ∀ k, μ'.1 5 k = μ.1 5 k := fun k => hs _ _ (Or.inl rfl)
  have c6 : ∀ k, μ'.1 6 k = μ.1 6 k := fun k => hs _ _ (Or.inl rfl)
  have c7 : ∀ k, μ'.1 7 k = μ.1 7 k := fun k => hs _ _ (Or.inl rfl)
  have c8 : ∀ k, μ'.1 8 k = μ.1 8 k := fun k => hs _ _ (Or.inl rfl)
  have c9 : ∀ k, μ'.1 9 k = μ.1 9 k := fun k => hs _ _ (Or.inl rfl)
  have c3 : ∀ k, μ'.1 63 k = μ.1 63 k := fun k => hs _ _ (Or.inl rfl)
  unfold PV
  simp only [c5, c6, c7, c8, c9, c3]
  exact h
/-- who is left out, for the model -/
def AbsR (x : Nat) (μ : Mem) : Prop := (x = 3 ∧ μ.1 62 26 = 0) ∨ (x < 3 ∧ μ.1 62 26 = nI (x + 1))
theorem m_isHere {x : Nat} {μ : Mem} (h : AbsR x μ) : ∀ e, e < 6 → f_X10_isHere_62 (nI e) μ = some (b2i (!decide (e / 2 = x)), μ) := by
  intro e he
  unfold f_X10_isHere_62
  rw [nI_div2 (by omega)]
  have hne : ∀ s, s < 3 → ¬ nI s = 0 - 1 := by decide
  rcases h with ⟨rfl, h⟩ | ⟨hx, h⟩
  · rw [h, if_neg (hne _ (by omega)), decide_eq_false (show ¬ e / 2 = 3 by omega)]
    rfl
  · rw [h, show nI (x + 1) - 1 = nI x by rw [show (1 : Int32) = nI 1 from rfl, pk_sub (by omega), Nat.add_sub_cancel]]
    by_cases hc : e / 2 = x
    · rw [hc, if_pos rfl, decide_eq_true rfl]
      rfl
    · rw [if_neg (fun h => hc ((nI_eq (by omega) (by omega)).mp h)), decide_eq_false hc]
      rfl
theorem bit16 : ∀ t, t < 16 → ∀ d, d < 4 → (nI t >>> (nI d &&& 31)) &&& 1 = nI (t / 2 ^ d % 2) := by decide +kernel
/-- what one lid adds on side d, q the shut lids -/
def ct (n x : Nat) (K S F : Nat → Nat) (q : Nat → Bool) (d e : Nat) : Nat := if svE n x K S F e / 2 ^ d % 2 = 1 then (if q e = true then (drE K e).toNat else 2) else 0
def cn (n x : Nat) (K S F : Nat → Nat) (q : Nat → Bool) (d : Nat) : Nat → Nat
  | 0 => 0
  | i + 1 => cn n x K S F q d i + ct n x K S F q d i
theorem ct_le {n x : Nat} {K S F : Nat → Nat} {q : Nat → Bool} {d e : Nat} : ct n x K S F q d e ≤ 2 := by
  unfold ct
  cases drE K e <;> split <;> (try split) <;> decide
theorem cn_le {n x : Nat} {K S F : Nat → Nat} {q : Nat → Bool} {d : Nat} : ∀ i, cn n x K S F q d i ≤ 2 * i
  | 0 => Nat.le_refl _
  | i + 1 => by
    have h1 := cn_le (n := n) (x := x) (K := K) (S := S) (F := F) (q := q) (d := d) i
    have h2 := ct_le (n := n) (x := x) (K := K) (S := S) (F := F) (q := q) (d := d) (e := i)
    show cn n x K S F q d i + ct n x K S F q d i ≤ 2 * (i + 1)
    omega
theorem sv_out {n x : Nat} {K S F : Nat → Nat} {e : Nat} (h : 2 * n ≤ e) : svE n x K S F e = 0 := by
  unfold svE hr
  rw [if_neg (by rw [decide_eq_false (show ¬ e / 2 < n by omega)]; simp)]
theorem cn_out {n x : Nat} {K S F : Nat → Nat} {q : Nat → Bool} {d : Nat} : ∀ i, 2 * n ≤ i → cn n x K S F q d i = cn n x K S F q d (2 * n) := by
  intro i
  induction i with
  | zero => intro h; rw [show 2 * n = 0 by omega]
  | succ i ih =>
    intro h
    by_cases hc : 2 * n = i + 1
    · rw [hc]
    · show cn n x K S F q d i + ct n x K S F q d i = _
      rw [ih (by omega)]
      unfold ct
      rw [sv_out (by omega), if_neg (by simp)]
      rfl
theorem sv_lt {n x : Nat} {K S F : Nat → Nat} (hS : ∀ e, e < 2 * n → S e < 16) (hF : ∀ s, s < n → F s < 4) (e : Nat) : svE n x K S F e < 16 := by
  unfold svE
  split
  · rename_i h
    have : e / 2 < n := by
      have := h.1
      unfold hr at this
      simp at this
      exact this.1
    exact (tn_eq _ (hS e (by omega)) _ (hF _ this)).2
  · decide
theorem cn_congr {n x : Nat} {K S F : Nat → Nat} {q q' : Nat → Bool} {d : Nat} : ∀ i, (∀ e, e < i → q e = q' e) → cn n x K S F q d i = cn n x K S F q' d i
  | 0, _ => rfl
  | i + 1, h => by
    show cn n x K S F q d i + ct n x K S F q d i = cn n x K S F q' d i + ct n x K S F q' d i
    rw [cn_congr i (fun e he => h e (by omega))]
    unfold ct
    rw [h i (by omega)]
theorem p_countOf {n x : Nat} {K S F : Nat → Nat} {μ : Mem} (hS : ∀ e, e < 2 * n → S e < 16) (hF : ∀ s, s < n → F s < 4) (h : SightR n x K S F μ) {q m : Nat → Bool} (hm : ∀ e, e < 6 → m e = (hr n x (e / 2) && !glE K e && !q e)) {d : Nat} (hd : d < 4) : f_X7_countOf_47 (nI d) (nI (mk6 m)) μ = some (nI (cn n x K S F q d 6), μ) := by
  obtain ⟨-, -, h3, h4⟩ := h
  unfold f_X7_countOf_47
  refine for_acc nI 6 (fun i => nI (cn n x K S F q d i)) _ (fun k i hi => ?_) (fun k => ?_) FU 0 (by omega) (fu_gt (by omega))
  · unfold f_X7_countOf_47_L5
    rw [if_neg (show ¬ (6 : Int32) ≤ nI i from nI_ge (b := 6) hi (by omega)), inb_nI (by omega) (by omega), if_neg (show ¬ (true = false) by decide), nI_clamp (by omega), h4 i hi, bit16 _ (sv_lt hS hF i) d hd, mk6_bit m i hi, h3, mk6_bit _ i hi]
    show _ = k (nI (cn n x K S F q d i + ct n x K S F q d i)) (nI (i + 1))
    have e1 : (nI (svE n x K S F i / 2 ^ d % 2) = 1) = (svE n x K S F i / 2 ^ d % 2 = 1) := propext (nI_eq (b := 1) (by omega) (by omega))
    unfold ct
    by_cases hb : svE n x K S F i / 2 ^ d % 2 = 1
    · rw [if_pos (e1.mpr hb), if_pos hb]
      have hh : hr n x (i / 2) = true ∧ glE K i = false := by
        unfold svE at hb
        split at hb
        · assumption
        · simp at hb
      rw [hm i hi, hh.1, hh.2]
      cases hq : q i with
      | true =>
        rw [if_neg (by decide), if_pos rfl]
        unfold f_X7_countOf_47_J51 f_X7_countOf_47_J53
        rw [al1]
        cases drE K i
        · rw [show b2i (true && false) = nI 0 from rfl, nI_add]
          rfl
        · rw [show b2i (true && true) = nI 1 from rfl, nI_add]
          rfl
      | false =>
        rw [if_pos (by decide), if_neg (by decide)]
        unfold f_X7_countOf_47_J51 f_X7_countOf_47_J53
        rw [al1, al2]
    · rw [if_neg (by rw [e1]; exact hb), if_neg hb]
      unfold f_X7_countOf_47_J53
      rw [al1]
      rfl
  · unfold f_X7_countOf_47_L5
    rw [if_pos (show (6 : Int32) ≤ nI 6 from by decide)]
theorem m_seenBy {n : Nat} {K S F : Nat → Nat} {μ : Mem} (h : HV n K S μ) (hF : ∀ s, s < n → F s < 4 ∧ μ.1 63 s = nI (F s)) {e : Nat} (he : e < 2 * n) : f_X10_seenBy_62 (nI e) μ = some (nI (if glE K e = true then 0 else tn (S e) (F (e / 2))), μ) := by
  obtain ⟨hn, -, -, -, hk, hs⟩ := h
  obtain ⟨s1, -, s2⟩ := hs e he
  obtain ⟨f1, f2⟩ := hF (e / 2) (by omega)
  unfold f_X10_seenBy_62
  rw [nI_div2 (by omega), la0, inb_nI (by omega) (by omega), inb_nI (by omega) (by omega), nI_clamp (by omega), nI_clamp (by omega), s2, f2]
  simp only [Bool.true_eq_false, if_false]
  unfold glE
  by_cases hg : e % 2 = 0 ∧ K (e / 2) = 1
  · rw [if_pos hg, hg.2, hg.1]
    simp only [decide_true, Bool.and_self, if_true]
    exact congrArg (fun v => some (v, μ)) (tn_0 _ f1)
  · rw [if_neg hg, if_neg (by simpa using hg)]
    exact congrArg (fun v => some (v, μ)) (tn_eq _ s1 _ f1).1
theorem m_flag (c : Bool) (ν : Mem) : f_X10_flag (b2i c) ν = some (b2i c, ν) := by cases c <;> rfl
theorem m_countOf {n x : Nat} {K S F : Nat → Nat} {μ : Mem} (h : HV n K S μ) (hF : ∀ s, s < n → F s < 4 ∧ μ.1 63 s = nI (F s)) (hx : AbsR x μ) {q : Nat → Bool} {d : Nat} (hd : d < 4) : f_X10_countOf_62 (nI d) (nI (mk6 q)) μ = some (nI (cn n x K S F q d 6), μ) := by
  have h0 := h
  obtain ⟨hn, -, e622, -, hk, hs⟩ := h0
  unfold f_X10_countOf_62
  have := for_acc3 (body := f_X10_countOf_62_L5 (nI d) (nI (mk6 q))) nI (2 * n) (fun i a ν => ν = μ ∧ a = nI (cn n x K S F q d i)) (fun r => r = (nI (cn n x K S F q d 6), μ)) (fun k i a ν hi hQ => ?_) (fun k a ν hQ => ?_) FU 0 0 μ (by omega) (fu_gt (by omega)) ⟨rfl, rfl⟩
  · obtain ⟨r, h1, rfl⟩ := this
    exact h1
  · obtain ⟨rfl, rfl⟩ := hQ
    unfold f_X10_countOf_62_L5
    rw [e622, lm2, if_neg (nI_ge hi (by omega)), m_isHere hx i (by omega)]
    simp only [Option.bind_some, b2i_z]
    have hsv : svE n x K S F i = if decide (i / 2 = x) = true then 0 else if glE K i = true then 0 else tn (S i) (F (i / 2)) := by
      unfold svE hr
      rw [decide_eq_true (show i / 2 < n by omega)]
      cases decide (i / 2 = x) <;> cases glE K i <;> rfl
    have hgoal : ∀ v, v = ct n x K S F q d i → ∃ a' ν', k (nI (cn n x K S F q d i) + nI v) (nI i + 1) ν = k a' (nI (i + 1)) ν' ∧ ν' = ν ∧ a' = nI (cn n x K S F q d (i + 1)) := by
      intro v hv
      subst hv
      refine ⟨_, ν, ?_, rfl, rfl⟩
      rw [nI_add, al1]
      rfl
    have hno : svE n x K S F i / 2 ^ d % 2 ≠ 1 → ∃ a' ν', f_X10_countOf_62_J43 k (nI d) (nI (mk6 q)) (nI (cn n x K S F q d i)) (nI i) ν = k a' (nI (i + 1)) ν' ∧ ν' = ν ∧ a' = nI (cn n x K S F q d (i + 1)) := by
      intro hz
      have hct : ct n x K S F q d i = 0 := by unfold ct; rw [if_neg hz]
      have hg0 := hgoal 0 hct.symm
      unfold f_X10_countOf_62_J43 f_X10_countOf_62_J44
      rw [mk6_bit q i (by omega)]
      simp only [b2i_z]
      have hJ : ∀ t, f_X10_countOf_62_J80 k (nI d) (nI (mk6 q)) (nI (cn n x K S F q d i)) (nI i) 0 t ν = k (nI (cn n x K S F q d i) + nI 0) (nI i + 1) ν := by
        intro t
        unfold f_X10_countOf_62_J80 f_X10_countOf_62_J94
        rw [if_pos rfl]
        rfl
      have hJ7 : ∀ c : Bool, f_X10_countOf_62_J77 k (nI d) (nI (mk6 q)) (nI (cn n x K S F q d i)) (nI i) 0 (b2i c) ν = k (nI (cn n x K S F q d i) + nI 0) (nI i + 1) ν := by
        intro c
        unfold f_X10_countOf_62_J77
        rw [m_flag]
        simp only [Option.bind_some]
        exact hJ _
      by_cases hq : q i = false
      · rw [if_pos hq, hJ]
        exact hg0
      · rw [if_neg hq, nI_div2 (by omega), inb_nI (by omega) (by omega), if_neg (show ¬ (true = false) by decide)]
        split
        · rw [show (1 : Int32) = b2i true from rfl, hJ7]
          exact hg0
        · rw [show f_X10_countOf_62_J77 k (nI d) (nI (mk6 q)) (nI (cn n x K S F q d i)) (nI i) 0 0 ν = f_X10_countOf_62_J77 k (nI d) (nI (mk6 q)) (nI (cn n x K S F q d i)) (nI i) 0 (b2i false) ν from rfl, hJ7]
          exact hg0
    by_cases hix : i / 2 = x
    · rw [decide_eq_true hix]
      rw [if_pos (show (!true) = false from rfl)]
      refine hno ?_
      rw [hsv, decide_eq_true hix]
      simp
    · rw [decide_eq_false hix]
      rw [if_neg (show ¬ (!false) = false by decide), m_seenBy h hF hi]
      simp only [Option.bind_some]
      rw [decide_eq_false hix, if_neg (show ¬ false = true by decide)] at hsv
      rw [← hsv, bit16 _ (sv_lt (fun e he => (hs e he).1) (fun s hs' => (hF s hs').1) i) d hd]
      have e1 : (nI (svE n x K S F i / 2 ^ d % 2) = 1) = (svE n x K S F i / 2 ^ d % 2 = 1) := propext (nI_eq (b := 1) (by omega) (by omega))
      by_cases hb : svE n x K S F i / 2 ^ d % 2 = 1
      · rw [if_pos (e1.mpr hb)]
        unfold f_X10_countOf_62_J44
        rw [mk6_bit q i (by omega)]
        simp only [b2i_z]
        have hJ : ∀ v, f_X10_countOf_62_J80 k (nI d) (nI (mk6 q)) (nI (cn n x K S F q d i)) (nI i) 1 (nI v) ν = k (nI (cn n x K S F q d i) + nI v) (nI i + 1) ν := by
          intro v
          unfold f_X10_countOf_62_J80 f_X10_countOf_62_J94
          rw [if_neg (by decide)]
        by_cases hq : q i = false
        · rw [if_pos hq, show (2 : Int32) = nI 2 from rfl, hJ]
          refine hgoal 2 ?_
          unfold ct
          rw [if_pos hb, hq]
          rfl
        · have hq : q i = true := by simpa using hq
          obtain ⟨k4, -, k2⟩ := hk (i / 2) (by omega)
          have hdr : (nI (K (i / 2)) = 3) = (K (i / 2) = 3) := propext (nI_eq (b := 3) (by omega) (by omega))
          rw [hq, if_neg (by decide), nI_div2 (by omega), inb_nI (by omega) (by omega), if_neg (show ¬ (true = false) by decide), nI_clamp (by omega), k2]
          by_cases hK : K (i / 2) = 3
          · rw [if_pos (hdr.mpr hK)]
            unfold f_X10_countOf_62_J77
            rw [show (1 : Int32) = b2i true from rfl, m_flag]
            simp only [Option.bind_some]
            rw [show b2i true = nI 1 from rfl]
            refine (hJ 1).symm ▸ hgoal 1 ?_
            unfold ct drE
            rw [if_pos hb, if_pos hq, decide_eq_true hK]
            rfl
          · rw [if_neg (by rw [hdr]; exact hK)]
            unfold f_X10_countOf_62_J77
            rw [show f_X10_flag 0 ν = some (b2i false, ν) from m_flag false ν]
            simp only [Option.bind_some]
            rw [show b2i false = nI 0 from rfl, hJ]
            refine hgoal 0 ?_
            unfold ct drE
            rw [if_pos hb, if_pos hq, decide_eq_false hK]
            rfl
      · rw [if_neg (by rw [e1]; exact hb)]
        exact hno hb
  · obtain ⟨rfl, rfl⟩ := hQ
    unfold f_X10_countOf_62_L5
    rw [e622, lm2, if_pos (nI_le (Nat.le_refl _) (by omega)), cn_out 6 (by omega)]
    exact ⟨_, rfl, rfl⟩
