/-! PURE: the class's search -/
theorem for_exGm {α ρ : Type} {body : (α → Int32 → Mem → Option ρ) → α → Int32 → Mem → Option ρ} (ix : Nat → Int32) (N : Nat) (F : Nat → α) (P : Nat → Mem → Prop) (R : ρ → Prop) (hstep : ∀ k i μ, i < N → P i μ → (∃ r, body k (F i) (ix i) μ = some r ∧ R r) ∨ (∃ μ', body k (F i) (ix i) μ = k (F (i + 1)) (ix (i + 1)) μ' ∧ P (i + 1) μ')) (hexit : ∀ k μ, P N μ → ∃ r, body k (F N) (ix N) μ = some r ∧ R r) : ∀ n i μ, i ≤ N → N < i + n → P i μ → ∃ r, it3 body n (F i) (ix i) μ = some r ∧ R r := by
  intro n
  induction n with
  | zero =>
    intro i μ h1 h2
    omega
  | succ n ih =>
    intro i μ h1 h2 hP
    show ∃ r, body (it3 body n) (F i) (ix i) μ = some r ∧ R r
    by_cases hi : i = N
    · subst hi
      exact hexit _ μ hP
    · rcases hstep (it3 body n) i μ (by omega) hP with h | ⟨μ', h3, h4⟩
      · exact h
      · rw [h3]
        exact ih (i + 1) μ' (by omega) (by omega) h4
def PC (A : Nat → Nat → Bool) (C : Nat → Bool) (b Q : Nat) (m : Nat → Nat) (μ : Mem) : Prop :=
  μ.1 51 1 = nI Q ∧ μ.1 51 4 = nI b ∧ (∀ q, q < Q → ∀ w, w < 27 → bI (μ.1 53 q) w = A q w) ∧ (∀ q, q ≤ Q → μ.1 54 q = nI (mtC m (Q - q) q)) ∧ (∀ e, e < 6 → μ.1 55 e = nI (if C e = true then wtC C b e else 0))
theorem PC.fr {A : Nat → Nat → Bool} {C : Nat → Bool} {b Q : Nat} {m : Nat → Nat} {μ μ' : Mem} (h : PC A C b Q m μ) (hs : ∀ p i, p ≠ 52 → μ'.1 p i = μ.1 p i) : PC A C b Q m μ' := by
  unfold PC at h ⊢
  simp (disch := omega) only [hs]
  exact h
theorem wt_le {C : Nat → Bool} {b e : Nat} (hb : 0 < b) : ∀ k, e ≤ k → wtC C b e ≤ wtC C b k
  | 0, h => by rw [show e = 0 by omega]; exact Nat.le_refl _
  | k + 1, h => by
    by_cases hk : e = k + 1
    · rw [hk]; exact Nat.le_refl _
    · have ih := wt_le (C := C) (e := e) hb k (by omega)
      by_cases hc : C k = true
      · rw [wtC_t hc]
        exact Nat.le_trans ih (Nat.le_mul_of_pos_right _ hb)
      · rw [wtC_f hc]; exact ih
theorem p_lack {A : Nat → Nat → Bool} {C : Nat → Bool} {b Q v e : Nat} {m : Nat → Nat} {μ : Mem} (h : PC A C b Q m μ) (hb : 0 < b) (hb7 : b ≤ 7) (hW : wtC C b 6 ≤ 4096) (hv : v < 4096) (he : e < 6) : f_X3_lack_51 (nI e) (nI v) μ = some (nI (lkC C (dgC C b v) e), μ) := by
  obtain ⟨-, h4, -, -, h55⟩ := h
  have h5 := h55 e he
  have hwp := wtC_pos (C := C) hb e
  have hwl := wt_le (C := C) (e := e) hb 6 (by omega)
  unfold f_X3_lack_51
  rw [inb_nI he (by omega), if_neg (show ¬ (true = false) by decide), if_neg (show ¬ (true = false) by decide), nI_clamp (by omega), h5, h4]
  unfold lkC
  by_cases hc : C e = true
  · rw [if_pos hc, if_pos hc, if_neg (nI_nle hwp (by omega)), if_neg (nI_nle hb (by omega)), if_neg (nI_ne0 hwp (by omega)), if_neg (nI_ne0 hb (by omega)), pk_div (by omega) hwp (by omega), pk_rem (Nat.lt_of_le_of_lt (Nat.div_le_self _ _) (by omega)) hb (by omega)]
    rfl
  · rw [if_neg hc, if_neg hc, if_pos (show nI 0 ≤ 0 by decide)]
    rfl
theorem p_codeBehind {A : Nat → Nat → Bool} {C : Nat → Bool} {b Q v w : Nat} {m : Nat → Nat} {μ : Mem} (h : PC A C b Q m μ) (hb : 0 < b) (hb7 : b ≤ 7) (hW : wtC C b 6 ≤ 4096) (hv : v < wtC C b 6) (hw : w < 27) : f_X3_codeBehind_51 (nI v) (nI w) μ = some (nI (nxC C b v w), μ) := by
  have h0 : nI v = nI (encC C b (fun e => if e < 0 then stQ (dgC C b v) w e else dgC C b v e) 6) := by
    rw [encC_congr (M := dgC C b v) 6 (fun e _ _ => if_neg (by omega)), enc_id hv]
  have h6 : nxC C b v w = encC C b (fun e => if e < 6 then stQ (dgC C b v) w e else dgC C b v e) 6 := encC_congr 6 (fun e he _ => (if_pos he).symm)
  unfold f_X3_codeBehind_51
  have := for_accGm (body := f_X3_codeBehind_51_L5 (nI v) (nI w)) nI 6 (fun i => nI (encC C b (fun e => if e < i then stQ (dgC C b v) w e else dgC C b v e) 6)) (fun _ ν => ν = μ) (fun r => r = (nI (nxC C b v w), μ)) (fun k i ν hi hP => by
    subst hP
    refine ⟨ν, ?_, rfl⟩
    unfold f_X3_codeBehind_51_L5
    rw [if_neg (show ¬ (6 : Int32) ≤ nI i from nI_ge (b := 6) hi (by omega)), inb_nI hw (by omega), if_neg (show ¬ (true = false) by decide), nI_clamp (by omega), shu_T w hw, mk6_bit _ i hi]
    unfold f_X3_codeBehind_51_J46
    rw [al1]
    have hsame : (shut w i = false ∨ C i = false ∨ dgC C b v i = 0) → encC C b (fun e => if e < i then stQ (dgC C b v) w e else dgC C b v e) 6 = encC C b (fun e => if e < i + 1 then stQ (dgC C b v) w e else dgC C b v e) 6 := by
      intro hd
      refine encC_congr 6 (fun e _ hC => ?_)
      by_cases hei : e = i
      · subst hei
        rw [if_neg (by omega), if_pos (by omega)]
        unfold stQ
        rcases hd with hd | hd | hd
        · rw [hd]; rfl
        · rw [hd] at hC; cases hC
        · rw [hd, Nat.zero_sub]
      · by_cases h1 : e < i
        · rw [if_pos h1, if_pos (by omega)]
        · rw [if_neg h1, if_neg (by omega)]
    cases hs : shut w i with
    | false =>
      rw [if_neg (show ¬ b2i false = 1 by decide), hsame (Or.inl hs)]
    | true =>
      rw [if_pos (show b2i true = 1 from rfl), bnd (p_lack h hb hb7 hW (by omega) hi)]
      dsimp only
      unfold lkC
      by_cases hc : C i = true
      · rw [if_pos hc]
        by_cases hz : dgC C b v i = 0
        · rw [hz, if_pos (show nI 0 ≤ 0 by decide), hsame (Or.inr (Or.inr hz))]
        · have hlt := dg_lt (C := C) (b := b) (v := v) (e := i) hb
          have hone := enc_one (C := C) (b := b) (i := i) (L := fun e => if e < i then stQ (dgC C b v) w e else dgC C b v e) (M := fun e => if e < i + 1 then stQ (dgC C b v) w e else dgC C b v e) hc (by
            show (if i < i + 1 then stQ (dgC C b v) w i else dgC C b v i) + 1 = (if i < i then stQ (dgC C b v) w i else dgC C b v i)
            rw [if_pos (by omega), if_neg (by omega)]
            unfold stQ
            rw [hs]
            show dgC C b v i - 1 + 1 = _
            omega) (fun e he => by
            show (if e < i + 1 then stQ (dgC C b v) w e else dgC C b v e) = (if e < i then stQ (dgC C b v) w e else dgC C b v e)
            by_cases h1 : e < i
            · rw [if_pos h1, if_pos (by omega)]
            · rw [if_neg h1, if_neg (by omega)]) 6 hi
          rw [if_neg (nI_nle (by omega) (by omega)), inb_nI hi (by omega), if_neg (show ¬ (true = false) by decide), nI_clamp (by omega), h.2.2.2.2 i hi, if_pos hc, ← hone, pk_sub (Nat.le_add_left _ _), Nat.add_sub_cancel]
      · rw [if_neg hc, if_pos (show nI 0 ≤ 0 by decide), hsame (Or.inr (Or.inl (by cases h : C i <;> simp [h] at hc ⊢)))]) (fun k ν hP => by
    subst hP
    unfold f_X3_codeBehind_51_L5
    rw [if_pos (show (6 : Int32) ≤ nI 6 from by decide)]
    exact ⟨_, rfl, by rw [h6]⟩) FU 0 μ (by omega) (fu_gt (by omega)) rfl
  obtain ⟨r, r1, rfl⟩ := this
  rw [show f_X3_codeBehind_51_L5 (nI v) (nI w) = f_X3_codeBehind_51_L5 (nI v) (nI w) from rfl]
  exact Eq.trans (congrArg (fun x => it3 (f_X3_codeBehind_51_L5 (nI v) (nI w)) FU x (0 : Int32) μ) h0) r1
def bsQ (C : Nat → Bool) (L : Nat → Nat) : Nat → Nat
  | 0 => 0
  | s + 1 => bsQ C L s + (lkC C L (2 * s) + lkC C L (2 * s + 1))
theorem lk_le {C : Nat → Bool} {b v e : Nat} (hb : 0 < b) : lkC C (dgC C b v) e < b := by
  unfold lkC
  split
  · exact dg_lt hb
  · exact hb
theorem mt_le {m : Nat → Nat} (hm : ∀ q, m q ≤ 6) : ∀ k q, mtC m k q ≤ 6 * k
  | 0, _ => Nat.le_refl _
  | k + 1, q => by
    have := mt_le hm k (q + 1)
    have := hm q
    show m q + mtC m k (q + 1) ≤ 6 * (k + 1)
    omega
theorem p_hasTime {A : Nat → Nat → Bool} {C : Nat → Bool} {b Q v q : Nat} {m : Nat → Nat} {μ : Mem} (h : PC A C b Q m μ) (hQ : Q ≤ 6) (hb : 0 < b) (hb7 : b ≤ 7) (hW : wtC C b 6 ≤ 4096) (hm6 : ∀ q, m q ≤ 6) (hm : ∀ q w, w < 27 → A q w = true → popW C w ≤ m q) (hv : v < wtC C b 6) (hq : q ≤ Q) :
    ∃ r, f_X3_hasTime_51 (nI q) (nI v) μ = some (b2i r, μ) ∧ (cvQ A C (Q - q) q (dgC C b v) = true → r = true) := by
  unfold f_X3_hasTime_51
  have hl : ∀ e, lkC C (dgC C b v) e ≤ 6 := fun e => by have := lk_le (C := C) (b := b) (v := v) (e := e) hb; omega
  have hbs : ∀ i, bsQ C (dgC C b v) i ≤ 12 * i := by
    intro i
    induction i with
    | zero => exact Nat.le_refl _
    | succ i ih =>
      have := hl (2 * i)
      have := hl (2 * i + 1)
      show bsQ C (dgC C b v) i + _ ≤ 12 * (i + 1)
      omega
  have := for_exGm (body := f_X3_hasTime_51_L5 (nI q) (nI v)) nI 3 (fun i => nI (bsQ C (dgC C b v) i)) (fun _ ν => ν = μ) (fun r => ∃ rb, r = (b2i rb, μ) ∧ (cvQ A C (Q - q) q (dgC C b v) = true → rb = true)) (fun k i ν hi hP => by
    subst hP
    have h1 := hl (2 * i)
    have h2 := hl (2 * i + 1)
    have h3 := hbs i
    unfold f_X3_hasTime_51_L5
    rw [if_neg (show ¬ (3 : Int32) ≤ nI i from nI_ge (b := 3) hi (by omega)), lm2, al1, bnd (p_lack h hb hb7 hW (by omega) (show 2 * i < 6 by omega))]
    dsimp only
    rw [bnd (p_lack h hb hb7 hW (by omega) (show 2 * i + 1 < 6 by omega))]
    dsimp only
    rw [nI_add, h.1, pk_sub hq, nI_add, al1]
    by_cases hc : lkC C (dgC C b v) (2 * i) + lkC C (dgC C b v) (2 * i + 1) ≤ Q - q
    · right
      rw [if_pos (nI_le hc (by omega))]
      exact ⟨ν, rfl, rfl⟩
    · left
      rw [if_neg (nI_ge (by omega) (by omega))]
      refine ⟨_, rfl, false, rfl, fun hcv => ?_⟩
      have := (cv_time hm (Q - q) q _ hcv).1 i hi
      omega) (fun k ν hP => by
    subst hP
    have h3 := hbs 3
    have h4 := mt_le hm6 (Q - q) q
    unfold f_X3_hasTime_51_L5
    rw [if_pos (show (3 : Int32) ≤ nI 3 from by decide), inb_nI (by omega) (by omega), if_neg (show ¬ (true = false) by decide), nI_clamp (by omega), h.2.2.2.1 q hq]
    by_cases hc : mtC m (Q - q) q < bsQ C (dgC C b v) 3
    · rw [if_pos (nI_lt hc (by omega))]
      refine ⟨_, rfl, false, rfl, fun hcv => ?_⟩
      have := (cv_time hm (Q - q) q _ hcv).2
      have e3 : bsQ C (dgC C b v) 3 = 0 + (lkC C (dgC C b v) 0 + lkC C (dgC C b v) 1) + (lkC C (dgC C b v) 2 + lkC C (dgC C b v) 3) + (lkC C (dgC C b v) 4 + lkC C (dgC C b v) 5) := rfl
      omega
    · rw [if_neg (nI_nlt (by omega) (by omega))]
      exact ⟨_, rfl, true, rfl, fun _ => rfl⟩) FU 0 μ (by omega) (fu_gt (by omega)) rfl
  obtain ⟨r, r1, rb, rfl, r2⟩ := this
  exact ⟨rb, r1, r2⟩
/-- what is marked can not be done -/
def fbQ (μ : Mem) (s : Nat) : Bool := bL (μ.2 56 (s / 64)) (s % 64)
def MIQ (A : Nat → Nat → Bool) (C : Nat → Bool) (b Q : Nat) (μ : Mem) : Prop := ∀ q v, q < Q → v < wtC C b 6 → fbQ μ (q * 4096 + v) = true → cvQ A C (Q - q) q (dgC C b v) = false
def RFQ (q : Nat) (μ μ' : Mem) : Prop := (∀ p i, p ≠ 52 → μ'.1 p i = μ.1 p i) ∧ ∀ i, i < q → μ'.1 52 i = μ.1 52 i
theorem RFQ.tr {q q' : Nat} {a b c : Mem} (h : RFQ q a b) (k : RFQ q' b c) (hq : q ≤ q') : RFQ q a c := ⟨fun p i hp => (k.1 p i hp).trans (h.1 p i hp), fun i hi => (k.2 i (by omega)).trans (h.2 i hi)⟩
theorem slot_sh {s : Nat} (h : s < 2 ^ 31) : nI s >>> ((6 : Int32) &&& 31) = nI (s / 64) := pk_shrN h _ 6 (by decide)
theorem slot_an {s : Nat} (h : s < 2 ^ 31) : nI s &&& (63 : Int32) = nI (s % 64) := pk_andN (by omega) 6 (by decide)
theorem slot_test {μ : Mem} {s : Nat} (h : s < 2 ^ 31) : (lg_cmp (((μ.2 56 (s / 64)) >>> ((nI (s % 64)).toInt64 &&& 63)) &&& (1 : Int64)) (1 : Int64) = 0) ↔ fbQ μ s = true := by
  rw [cmp_eq]
  exact bL_test (Nat.mod_lt _ (by omega))
theorem slot_set {μ : Mem} {s s' : Nat} : fbQ (pL μ 56 (s / 64) ((μ.2 56 (s / 64)) ||| ((1 : Int64) <<< ((nI (s % 64)).toInt64 &&& 63)))) s' = (fbQ μ s' || decide (s' = s)) := by
  unfold fbQ
  by_cases h1 : s' / 64 = s / 64
  · rw [h1, rdL_s, bL_set (Nat.mod_lt _ (by omega))]
    congr 1
    refine decide_eq_decide.mpr ⟨fun h => ?_, fun h => by rw [h]⟩
    have e1 := Nat.div_add_mod s' 64
    have e2 := Nat.div_add_mod s 64
    omega
  · rw [rdL_i h1, decide_eq_false (show ¬ s' = s by rintro rfl; exact h1 rfl), Bool.or_false]
theorem p_reachQ {A : Nat → Nat → Bool} {C : Nat → Bool} {b Q : Nat} {m : Nat → Nat} (hQ : Q ≤ 6) (hb : 0 < b) (hb7 : b ≤ 7) (hW : wtC C b 6 ≤ 4096) (hm6 : ∀ q, m q ≤ 6) (hm : ∀ q w, w < 27 → A q w = true → popW C w ≤ m q) :
    ∀ k q v f μ, q + k = Q → v < wtC C b 6 → k < f → PC A C b Q m μ → MIQ A C b Q μ → ∃ μ' r, it3 f_X3_reach_51_B f (nI q) (nI v) μ = some (b2i r, μ') ∧ r = cvQ A C k q (dgC C b v) ∧ RFQ q μ μ' ∧ MIQ A C b Q μ' ∧ (r = true → ∀ j, j < k → μ'.1 52 (q + j) = nI (gpQ A C k q (dgC C b v) j)) := by
  intro k
  induction k with
  | zero =>
    intro q v f μ hq hv hf hPC hMI
    obtain ⟨g, rfl⟩ : ∃ g, f = g + 1 := ⟨f - 1, by omega⟩
    refine ⟨μ, decide (v = 0), ?_, (az_code hb hv).symm, ⟨fun _ _ _ => rfl, fun _ _ => rfl⟩, hMI, fun _ j hj => by omega⟩
    rw [it3_s]
    unfold f_X3_reach_51_B f_X3_reach_51_J14
    rw [hPC.1, if_pos (nI_le (by omega) (by omega))]
    by_cases hz : v = 0
    · rw [if_pos ((nI_z (by omega)).mpr hz), decide_eq_true hz]
      rfl
    · rw [if_neg (fun h => hz ((nI_z (by omega)).mp h)), decide_eq_false hz]
      rfl
  | succ k ih =>
    intro q v f μ hq hv hf hPC hMI
    obtain ⟨g, rfl⟩ : ∃ g, f = g + 1 := ⟨f - 1, by omega⟩
    have hs : q * 4096 + v < 24576 := by omega
    have hQq : Q - q = k + 1 := by omega
    rw [it3_s]
    unfold f_X3_reach_51_B
    rw [hPC.1, if_neg (nI_ge (by omega) (by omega)), if_pos (show nI q < (6 : Int32) from nI_lt (b := 6) (by omega) (by omega)), show (nI q * (4096 : Int32)) + nI v = nI (q * 4096 + v) by rw [show (4096 : Int32) = nI 4096 from rfl, pk_mul, nI_add], slot_sh (by omega), slot_an (by omega), inb_nI (by omega) (by omega), if_neg (show ¬ (true = false) by decide), nI_clamp (by omega)]
    by_cases hfb : fbQ μ (q * 4096 + v) = true
    · rw [if_pos ((slot_test (by omega)).mpr hfb)]
      have hc := hMI q v (by omega) hv hfb
      rw [hQq] at hc
      exact ⟨μ, false, rfl, hc.symm, ⟨fun _ _ _ => rfl, fun _ _ => rfl⟩, hMI, fun h => by cases h⟩
    · rw [if_neg (fun h => hfb ((slot_test (by omega)).mp h))]
      have := for_ex (body := f_X3_reach_51_L58 (it3 f_X3_reach_51_B g) (nI q) (nI v) (nI (q * 4096 + v))) nI 27 (fun w ν => RFQ q μ ν ∧ MIQ A C b Q ν ∧ ∀ w', w' < w → (A q w' && cvQ A C k (q + 1) (stQ (dgC C b v) w')) = false) (fun r => ∃ rb, r.1 = b2i rb ∧ rb = cvQ A C (k + 1) q (dgC C b v) ∧ RFQ q μ r.2 ∧ MIQ A C b Q r.2 ∧ (rb = true → ∀ j, j < k + 1 → r.2.1 52 (q + j) = nI (gpQ A C (k + 1) q (dgC C b v) j))) (fun kk w ν hw hP => by
        obtain ⟨q1, q2, q3⟩ := hP
        have hPν := hPC.fr q1.1
        have hnext : (A q w && cvQ A C k (q + 1) (stQ (dgC C b v) w)) = false → ∀ w', w' < w + 1 → (A q w' && cvQ A C k (q + 1) (stQ (dgC C b v) w')) = false := by
          intro h0 w' hw'
          by_cases hh : w' = w
          · rw [hh]; exact h0
          · exact q3 w' (by omega)
        unfold f_X3_reach_51_L58 f_X3_reach_51_J123
        rw [if_neg (show ¬ (27 : Int32) ≤ nI w from nI_ge (b := 27) hw (by omega)), inb_nI (show q < 6 by omega) (by omega), if_neg (show ¬ (true = false) by decide), nI_clamp (by omega), al1, al1]
        cases hA : A q w with
        | false =>
          right
          rw [if_neg (by rw [bI_test (by omega), hPν.2.2.1 q (by omega) w hw, hA]; decide)]
          exact ⟨ν, rfl, q1, q2, hnext (by rw [hA]; rfl)⟩
        | true =>
          rw [if_pos (by rw [bI_test (by omega), hPν.2.2.1 q (by omega) w hw, hA]), bnd (p_codeBehind hPν hb hb7 hW hv hw)]
          dsimp only
          rw [if_neg (show ¬ (true = false) by decide)]
          have hn := nxC_lt (C := C) (b := b) (v := v) (w := w) hb
          have hcv : cvQ A C k (q + 1) (dgC C b (nxC C b v w)) = cvQ A C k (q + 1) (stQ (dgC C b v) w) := cv_congr (nxC_dg hb)
          have hx1 : RFQ q μ (pI ν 52 q (nI w)) := ⟨fun p i hp => by rw [rd_p hp]; exact q1.1 p i hp, fun i hi => by rw [rd_i (by omega)]; exact q1.2 i hi⟩
          have hx2 : MIQ A C b Q (pI ν 52 q (nI w)) := q2
          have hPx := hPC.fr hx1.1
          obtain ⟨rt, t1, t2⟩ := p_hasTime (v := nxC C b v w) (q := q + 1) hPx hQ hb hb7 hW hm6 hm hn (by omega)
          rw [bnd t1]
          dsimp only
          cases rt with
          | false =>
            right
            rw [if_pos (show b2i false = 0 from rfl)]
            refine ⟨_, rfl, hx1, hx2, hnext ?_⟩
            rw [← hcv]
            cases hcc : cvQ A C k (q + 1) (dgC C b (nxC C b v w)) with
            | false => rw [Bool.and_false]
            | true =>
              rw [show Q - (q + 1) = k by omega] at t2
              exact absurd (t2 hcc) (by decide)
          | true =>
            rw [if_neg (show ¬ b2i true = 0 by decide)]
            obtain ⟨μ2, r, i1, i2, i3, i4, i5⟩ := ih (q + 1) (nxC C b v w) g (pI ν 52 q (nI w)) (by omega) hn (by omega) hPx hx2
            rw [bnd i1]
            dsimp only
            cases r with
            | false =>
              right
              rw [if_pos (show b2i false = 0 from rfl)]
              refine ⟨_, rfl, hx1.tr i3 (by omega), i4, hnext ?_⟩
              rw [← hcv, ← i2, Bool.and_false]
            | true =>
              left
              rw [if_neg (show ¬ b2i true = 0 by decide)]
              have hAt : (A q w && cvQ A C k (q + 1) (stQ (dgC C b v) w)) = true := by rw [hA, ← hcv, ← i2]; rfl
              have hfs : fsB (fun w => A q w && cvQ A C k (q + 1) (stQ (dgC C b v) w)) 27 = w := fsB_at hAt q3 27 hw
              refine ⟨_, rfl, true, rfl, ?_, hx1.tr i3 (by omega), i4, fun _ j hj => ?_⟩
              · exact ((anyB_iff 27).mpr ⟨w, hw, hAt⟩).symm
              · cases j with
                | zero =>
                  rw [Nat.add_zero, i3.2 q (by omega), rd_s]
                  exact congrArg nI hfs.symm
                | succ j =>
                  rw [show q + (j + 1) = q + 1 + j by omega, i5 rfl j (by omega)]
                  refine congrArg nI ?_
                  show _ = gpQ A C k (q + 1) (stQ (dgC C b v) (fsB (fun w => A q w && cvQ A C k (q + 1) (stQ (dgC C b v) w)) 27)) j
                  rw [hfs]
                  exact gp_congr k (q + 1) _ _ (nxC_dg hb) j) (fun kk ν hP => by
        obtain ⟨q1, q2, q3⟩ := hP
        have hcf : cvQ A C (k + 1) q (dgC C b v) = false := anyB_f.mpr q3
        unfold f_X3_reach_51_L58
        rw [if_pos (show (27 : Int32) ≤ nI 27 from by decide), slot_sh (by omega), slot_an (by omega), inb_nI (by omega) (by omega), if_neg (show ¬ (true = false) by decide), if_neg (show ¬ (true = false) by decide), nI_clamp (by omega)]
        refine ⟨_, rfl, false, rfl, hcf.symm, q1, fun q' v' hq' hv' hb' => ?_, fun h => by cases h⟩
        rw [slot_set] at hb'
        by_cases he : q' * 4096 + v' = q * 4096 + v
        · have hq2 : q' = q := by omega
          have hv2 : v' = v := by omega
          subst hq2
          subst hv2
          rw [hQq]
          exact hcf
        · rw [decide_eq_false he, Bool.or_false] at hb'
          exact q2 q' v' hq' hv' hb') FU 0 μ (by omega) (fu_gt (by omega)) ⟨⟨fun _ _ _ => rfl, fun _ _ => rfl⟩, hMI, fun w' hw' => by omega⟩
      obtain ⟨r, r1, rb, r2, r3, r4, r5, r6⟩ := this
      exact ⟨r.2, rb, by rw [← r2]; exact r1, r3, r4, r5, r6⟩
