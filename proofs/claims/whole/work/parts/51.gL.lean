def mu00 : Mem := (fun _ _ => 0, fun _ _ => 0)
theorem opened_ind (a0 a1 : Int32) (μ : Mem) : ∀ f acc i, it2 (f_X9_opened_L4 a0 a1 μ) f acc i = (it2 (f_X9_opened_L4 a0 a1 mu00) f acc i).map (fun q => (q.1, μ)) := by
  intro f
  induction f with
  | zero => intro acc i; rfl
  | succ f ih =>
    intro acc i
    show f_X9_opened_L4 a0 a1 μ (it2 (f_X9_opened_L4 a0 a1 μ) f) acc i = (f_X9_opened_L4 a0 a1 mu00 (it2 (f_X9_opened_L4 a0 a1 mu00) f) acc i).map (fun q => (q.1, μ))
    generalize hA : it2 (f_X9_opened_L4 a0 a1 μ) f = A at ih ⊢
    generalize hB : it2 (f_X9_opened_L4 a0 a1 mu00) f = B at ih ⊢
    unfold f_X9_opened_L4 f_X9_opened_J49
    split
    · rfl
    · split
      · split
        · rfl
        · split
          · rfl
          · split
            · rfl
            · exact ih _ _
      · exact ih _ _
def opV (w m : Nat) : Int32 := match it2 (f_X9_opened_L4 (nI w) (nI m) mu00) FU (nI w) 0 with | some q => q.1 | none => 77
theorem opened_some : ∀ w, w < 27 → ∀ m, m < 8 → (it2 (f_X9_opened_L4 (nI w) (nI m) mu00) FU (nI w) 0).isSome = true := by decide +kernel
theorem p_opened {w m : Nat} (hw : w < 27) (hm : m < 8) (μ : Mem) : f_X9_opened (nI w) (nI m) μ = some (opV w m, μ) := by
  have h := opened_some w hw m hm
  unfold f_X9_opened
  rw [opened_ind]
  unfold opV
  generalize it2 (f_X9_opened_L4 (nI w) (nI m) mu00) FU (nI w) 0 = o at h ⊢
  cases o with
  | none => cases h
  | some q => rfl
def subB (w0 w : Nat) : Bool := (List.range 6).all fun e => !shut w e || shut w0 e
def dif (w0 w : Nat) : Nat := popN (mk6 (shut w0)) - popN (mk6 (shut w))
theorem op_F1 : ∀ w0, w0 < 27 → ∀ m, m < 8 → opV w0 m = -1 ∨ ∃ w, w < 27 ∧ opV w0 m = nI w ∧ w ≤ w0 ∧ subB w0 w = true ∧ dif w0 w = popN m := by decide +kernel
theorem op_F2 : ∀ w0, w0 < 27 → ∀ w, w < 27 → subB w0 w = true → w ≤ w0 ∧ ∃ m, m < 8 ∧ opV w0 m = nI w ∧ popN m = dif w0 w := by decide +kernel
theorem dif_F : ∀ w0, w0 < 27 → ∀ w, w < 27 → subB w0 w = true → nI (popN (mk6 (shut w0))) - nI (popN (mk6 (shut w))) = nI (dif w0 w) ∧ dif w0 w ≤ 3 := by decide +kernel
theorem sub_F : ∀ w0, w0 < 27 → ∀ w, w < 27 → (((nI (mk6 (shut w)) &&& (nI (mk6 (shut w0)) ^^^ (-1 : Int32))) = 0) ↔ subB w0 w = true) := by decide +kernel

theorem for_rel4 {ρ : Type} {body : (Int32 → Int32 → Int32 → Mem → Option ρ) → Int32 → Int32 → Int32 → Mem → Option ρ} (N : Nat) (μ : Mem) (P : Nat → Int32 → Int32 → Prop) (R : ρ → Prop) (hstep : ∀ k i a b, i < N → P i a b → ∃ a' b', body k a b (nI i) μ = k a' b' (nI (i + 1)) μ ∧ P (i + 1) a' b') (hexit : ∀ k a b, P N a b → ∃ r, body k a b (nI N) μ = some r ∧ R r) : ∀ f i a b, i ≤ N → N < i + f → P i a b → ∃ r, it4 body f a b (nI i) μ = some r ∧ R r := by
  intro f
  induction f with
  | zero => intro i a b h1 h2; omega
  | succ f ih =>
    intro i a b h1 h2 hP
    show ∃ r, body (it4 body f) a b (nI i) μ = some r ∧ R r
    by_cases hi : i = N
    · subst hi
      exact hexit _ a b hP
    · obtain ⟨a', b', h3, h4⟩ := hstep (it4 body f) i a b (by omega) hP
      rw [h3]
      exact ih (i + 1) a' b' (by omega) (by omega) h4
def lexLe (w0 a b : Nat) : Prop := dif w0 a < dif w0 b ∨ (dif w0 a = dif w0 b ∧ a ≤ b)
def MinO (w0 : Nat) (C : Nat → Prop) : Option Nat → Prop
  | none => ∀ w, ¬ C w
  | some b => C b ∧ ∀ w, C w → lexLe w0 b w
theorem MinO.uniq {w0 : Nat} {C : Nat → Prop} {o o' : Option Nat} (h : MinO w0 C o) (h' : MinO w0 C o') : o = o' := by
  cases o with
  | none =>
    cases o' with
    | none => rfl
    | some b => exact absurd h'.1 (h b)
  | some a =>
    cases o' with
    | none => exact absurd h.1 (h' a)
    | some b =>
      have h1 := h.2 b h'.1
      have h2 := h'.2 a h.1
      unfold lexLe at h1 h2
      rw [show a = b by omega]
theorem MinO.iff {w0 : Nat} {C D : Nat → Prop} {o : Option Nat} (h : MinO w0 C o) (hCD : ∀ w, C w ↔ D w) : MinO w0 D o := by
  cases o with
  | none => exact fun w hw => h w ((hCD w).mpr hw)
  | some b => exact ⟨(hCD b).mp h.1, fun w hw => h.2 w ((hCD w).mpr hw)⟩
theorem MinO.add {w0 w : Nat} {C : Nat → Prop} {o : Option Nat} (h : MinO w0 C o) (ht : ∀ b, o = some b → ¬ lexLe w0 b w ∨ b = w) : MinO w0 (fun v => C v ∨ v = w) (some w) := by
  refine ⟨Or.inr rfl, fun v hv => ?_⟩
  rcases hv with hv | rfl
  · cases o with
    | none => exact absurd hv (h v)
    | some b =>
      have h1 := h.2 v hv
      rcases ht b rfl with h2 | rfl
      · unfold lexLe at h1 h2 ⊢
        omega
      · exact h1
  · exact Or.inr ⟨rfl, Nat.le_refl _⟩
theorem MinO.keep {w0 w b : Nat} {C : Nat → Prop} (h : MinO w0 C (some b)) (ht : lexLe w0 b w) : MinO w0 (fun v => C v ∨ v = w) (some b) :=
  ⟨Or.inl h.1, fun v hv => by
    rcases hv with hv | rfl
    · exact h.2 v hv
    · exact ht⟩
def ocA (w0 : Nat) (z : Int32) : Option Nat → Int32
  | none => z
  | some b => nI (dif w0 b)
def ocB : Option Nat → Int32
  | none => -4
  | some b => nI b
theorem p_late {n Z w0 : Nat} {K S F T N G W : Nat → Nat} {μ : Mem} {a3 : Int32} (hV : HV n K S μ) (hP : PV n F T N G W μ) (hS : SightR n 3 K S F μ) (hw0 : w0 < 3 ^ n) (hZ : Z < 6) : ∃ o, MinO w0 (fun w => w < 27 ∧ subB w0 w = true ∧ decide (LKS n 3 K S F N (shut w) (G Z) = 0) = true) o ∧ it4 (f_X9_late_0_L33 (nI Z) (nI w0) a3) FU 4 (-4) (nI 0) μ = some (if ocB o = -4 then -4 else if a3 = 0 then ocA w0 4 o else ocB o, μ) := by
  have h27 := p3 hV.1
  have := for_rel4 (body := f_X9_late_0_L33 (nI Z) (nI w0) a3) 8 μ (fun i a b => ∃ o, a = ocA w0 4 o ∧ b = ocB o ∧ (∀ b, o = some b → b < 27 ∧ dif w0 b ≤ 3) ∧ MinO w0 (fun w => w < 27 ∧ (∃ m, m < i ∧ opV w0 m = nI w) ∧ decide (LKS n 3 K S F N (shut w) (G Z) = 0) = true) o) (fun r => ∃ o, MinO w0 (fun w => w < 27 ∧ subB w0 w = true ∧ decide (LKS n 3 K S F N (shut w) (G Z) = 0) = true) o ∧ r = (if ocB o = -4 then -4 else if a3 = 0 then ocA w0 4 o else ocB o, μ)) (fun k i a b hi hQ => ?_) (fun k a b hQ => ?_) FU 0 4 (-4) (by omega) (fu_gt (by omega)) ⟨none, rfl, rfl, (fun b h => by cases h), (fun w h => by obtain ⟨-, ⟨m, hm, -⟩, -⟩ := h; omega)⟩
  · obtain ⟨r, h1, o, h2, rfl⟩ := this
    exact ⟨o, h2, h1⟩
  · obtain ⟨o, rfl, rfl, ho, hM⟩ := hQ
    unfold f_X9_late_0_L33
    rw [if_neg (show ¬ (8 : Int32) ≤ nI i from nI_ge (b := 8) hi (by omega)), bnd (p_opened (by omega) hi μ), bnd (p_bitCount (by omega) μ)]
    dsimp only
    have hskip : (∀ w, w < 27 → opV w0 i = nI w → ¬ decide (LKS n 3 K S F N (shut w) (G Z) = 0) = true) → ∃ a' b', k (ocA w0 4 o) (ocB o) (nI i + 1) μ = k a' b' (nI (i + 1)) μ ∧ ∃ o', a' = ocA w0 4 o' ∧ b' = ocB o' ∧ (∀ b, o' = some b → b < 27 ∧ dif w0 b ≤ 3) ∧ MinO w0 (fun w => w < 27 ∧ (∃ m, m < i + 1 ∧ opV w0 m = nI w) ∧ decide (LKS n 3 K S F N (shut w) (G Z) = 0) = true) o' := by
      intro hno
      rw [al1]
      refine ⟨_, _, rfl, o, rfl, rfl, ho, hM.iff fun w => ⟨fun h => ⟨h.1, ?_, h.2.2⟩, fun h => ⟨h.1, ?_, h.2.2⟩⟩⟩
      · obtain ⟨m, hm, e⟩ := h.2.1
        exact ⟨m, by omega, e⟩
      · obtain ⟨m, hm, e⟩ := h.2.1
        by_cases hmi : m = i
        · subst hmi
          exact absurd h.2.2 (hno w h.1 e)
        · exact ⟨m, by omega, e⟩
    rcases op_F1 w0 (by omega) i hi with hv | ⟨w, w27, hv, hww, hsub, hd⟩
    · rw [hv]
      have hno := hskip (fun w w27 e => by
        rw [hv] at e
        exact absurd e.symm (show ¬ nI w = -1 from fun h => by
          have := congrArg Int32.toInt h
          rw [nI_toInt (by omega)] at this
          have h2 : (-1 : Int32).toInt = -1 := rfl
          omega))
      have hJ : ∀ t, f_X9_late_0_J81 k (nI Z) (nI w0) a3 (ocA w0 4 o) (ocB o) (nI i) (-1) (nI (popN i)) t μ = k (ocA w0 4 o) (ocB o) (nI i + 1) μ := by
        intro t
        unfold f_X9_late_0_J81 f_X9_late_0_J111
        rw [if_pos (by decide)]
      unfold f_X9_late_0_J76 f_X9_late_0_J80
      rw [hJ, hJ]
      split
      · exact hno
      · split
        · split <;> exact hno
        · exact hno
    · obtain ⟨-, hd3⟩ := dif_F w0 (by omega) w w27 hsub
      have huq : ∀ v, v < 27 → opV w0 i = nI v → v = w := fun v hv27 e => by
        rw [hv] at e
        exact ((nI_eq (by omega) (by omega)).mp e).symm
      have hlaw := p_isLawful hV hP hS (w := w) (by omega) hZ
      rw [hv]
      have hJ0 : f_X9_late_0_J80 k (nI Z) (nI w0) a3 (ocA w0 4 o) (ocB o) (nI i) (nI w) (nI (popN i)) μ = k (ocA w0 4 o) (ocB o) (nI i + 1) μ := by
        unfold f_X9_late_0_J80 f_X9_late_0_J81 f_X9_late_0_J111
        rw [if_neg (nI_pos (by omega)), if_pos rfl]
      cases hL : decide (LKS n 3 K S F N (shut w) (G Z) = 0) with
      | false =>
        have hno := hskip (fun v hv27 e => by rw [huq v hv27 e, hL]; decide)
        have hJ1 : f_X9_late_0_J76 k (nI Z) (nI w0) a3 (ocA w0 4 o) (ocB o) (nI i) (nI w) (nI (popN i)) μ = k (ocA w0 4 o) (ocB o) (nI i + 1) μ := by
          unfold f_X9_late_0_J76 f_X9_late_0_J81 f_X9_late_0_J111
          rw [if_neg (nI_pos (by omega)), if_neg (by decide), bnd hlaw, hL]
          dsimp only
          rw [if_pos (show b2i false = 0 from rfl)]
        rw [hJ0, hJ1]
        split
        · exact hno
        · split
          · split <;> exact hno
          · exact hno
      | true =>
        have hJ1 : f_X9_late_0_J76 k (nI Z) (nI w0) a3 (ocA w0 4 o) (ocB o) (nI i) (nI w) (nI (popN i)) μ = k (nI (popN i)) (nI w) (nI i + 1) μ := by
          unfold f_X9_late_0_J76 f_X9_late_0_J81 f_X9_late_0_J111
          rw [if_neg (nI_pos (by omega)), if_neg (by decide), bnd hlaw, hL]
          dsimp only
          rw [if_neg (by decide)]
        have hset : ∀ v, ((v < 27 ∧ (∃ m, m < i ∧ opV w0 m = nI v) ∧ decide (LKS n 3 K S F N (shut v) (G Z) = 0) = true) ∨ v = w) ↔ (v < 27 ∧ (∃ m, m < i + 1 ∧ opV w0 m = nI v) ∧ decide (LKS n 3 K S F N (shut v) (G Z) = 0) = true) := by
          intro v
          constructor
          · rintro (⟨h1, ⟨m, hm, e⟩, h3⟩ | rfl)
            · exact ⟨h1, ⟨m, by omega, e⟩, h3⟩
            · exact ⟨w27, ⟨i, by omega, hv⟩, hL⟩
          · rintro ⟨h1, ⟨m, hm, e⟩, h3⟩
            by_cases hmi : m = i
            · subst hmi
              exact Or.inr (huq v h1 e)
            · exact Or.inl ⟨h1, ⟨m, by omega, e⟩, h3⟩
        have htake : (∀ b, o = some b → ¬ lexLe w0 b w ∨ b = w) → ∃ a' b', k (nI (popN i)) (nI w) (nI i + 1) μ = k a' b' (nI (i + 1)) μ ∧ ∃ o', a' = ocA w0 4 o' ∧ b' = ocB o' ∧ (∀ b, o' = some b → b < 27 ∧ dif w0 b ≤ 3) ∧ MinO w0 (fun w => w < 27 ∧ (∃ m, m < i + 1 ∧ opV w0 m = nI w) ∧ decide (LKS n 3 K S F N (shut w) (G Z) = 0) = true) o' := by
          intro ht
          rw [al1]
          refine ⟨_, _, rfl, some w, ?_, rfl, (fun b h => by cases h; exact ⟨w27, hd3⟩), (hM.add ht).iff hset⟩
          show nI (popN i) = nI (dif w0 w)
          rw [hd]
        rw [hJ0, hJ1]
        cases o with
        | none =>
          rw [if_pos (show nI (popN i) < ocA w0 4 none from nI_lt (b := 4) (by omega) (by omega))]
          exact htake (fun b h => by cases h)
        | some b =>
          obtain ⟨b27, bd⟩ := ho b rfl
          have hkeep : lexLe w0 b w → ∃ a' b', k (ocA w0 4 (some b)) (ocB (some b)) (nI i + 1) μ = k a' b' (nI (i + 1)) μ ∧ ∃ o', a' = ocA w0 4 o' ∧ b' = ocB o' ∧ (∀ b, o' = some b → b < 27 ∧ dif w0 b ≤ 3) ∧ MinO w0 (fun w => w < 27 ∧ (∃ m, m < i + 1 ∧ opV w0 m = nI w) ∧ decide (LKS n 3 K S F N (shut w) (G Z) = 0) = true) o' := by
            intro hle
            rw [al1]
            exact ⟨_, _, rfl, some b, rfl, rfl, ho, (hM.keep hle).iff hset⟩
          have c1 : (nI (popN i) < ocA w0 4 (some b)) ↔ popN i < dif w0 b := nI_ltI (by omega) (by omega)
          have c2 : (nI (popN i) = ocA w0 4 (some b)) ↔ popN i = dif w0 b := nI_eq (by omega) (by omega)
          have c3 : (ocB (some b) ≤ nI w) ↔ b ≤ w := nI_leI (by omega) (by omega)
          by_cases d1 : popN i < dif w0 b
          · rw [if_pos (c1.mpr d1)]
            refine htake (fun b' h => ?_)
            cases h
            exact Or.inl (by unfold lexLe; omega)
          · rw [if_neg (fun h => d1 (c1.mp h))]
            by_cases d2 : popN i = dif w0 b
            · rw [if_pos (c2.mpr d2)]
              by_cases d3 : b ≤ w
              · rw [if_pos (c3.mpr d3)]
                exact hkeep (by unfold lexLe; omega)
              · rw [if_neg (fun h => d3 (c3.mp h))]
                refine htake (fun b' h => ?_)
                cases h
                exact Or.inl (by unfold lexLe; omega)
            · rw [if_neg (fun h => d2 (c2.mp h))]
              exact hkeep (by unfold lexLe; omega)
  · obtain ⟨o, rfl, rfl, ho, hM⟩ := hQ
    unfold f_X9_late_0_L33
    rw [if_pos (show (8 : Int32) ≤ nI 8 from by decide)]
    refine ⟨(if ocB o = -4 then -4 else if a3 = 0 then ocA w0 4 o else ocB o, μ), ?_, o, hM.iff fun w => ?_, rfl⟩
    · split
      · rfl
      · split <;> rfl
    · constructor
      · rintro ⟨h1, ⟨m, hm, e⟩, h3⟩
        refine ⟨h1, ?_, h3⟩
        rcases op_F1 w0 (by omega) m hm with hv | ⟨w', w27, hv, hww, hsub, hd⟩
        · rw [hv] at e
          have := congrArg Int32.toInt e
          rw [nI_toInt (by omega)] at this
          have h2 : (-1 : Int32).toInt = -1 := rfl
          omega
        · rw [hv] at e
          rw [← (nI_eq (by omega) (by omega)).mp e]
          exact hsub
      · rintro ⟨h1, h2, h3⟩
        obtain ⟨-, m, hm, e, -⟩ := op_F2 w0 (by omega) w h1 h2
        exact ⟨h1, ⟨m, hm, e⟩, h3⟩

theorem m_isOpened {n w w0 : Nat} {μ : Mem} (h : μ.1 62 2 = nI n) (hn : n ≤ 3) (hw : w < 3 ^ n) (hw0 : w0 < 3 ^ n) : f_X10_isOpened_62 (nI w) (nI w0) μ = some (b2i (subB w0 w), μ) := by
  have h27 := p3 hn
  unfold f_X10_isOpened_62
  rw [bnd (m_shutBy h hn hw), bnd (m_shutBy h hn hw0)]
  dsimp only
  have hs := sub_F w0 (by omega) w (by omega)
  cases hb : subB w0 w with
  | true =>
    rw [if_pos (hs.mpr hb)]
    rfl
  | false =>
    rw [if_neg (fun h => by have := hs.mp h; rw [hb] at this; cases this)]
    rfl
theorem m_late {n Z w0 : Nat} {K S F T N G W : Nat → Nat} {μ : Mem} {a3 : Int32} (hV : HV n K S μ) (hP : PV n F T N G W μ) (hx : AbsR 3 μ) (hw0 : w0 < 3 ^ n) (hZ : Z < 6) : ∃ o, MinO w0 (fun w => w < 27 ∧ subB w0 w = true ∧ decide (LKS n 3 K S F N (shut w) (G Z) = 0) = true) o ∧ it4 (f_X10_late_62_L36 (nI Z) (nI w0) a3) FU (-4) (-4) (nI 0) μ = some (if a3 = 0 then ocA w0 (-4) o else ocB o, μ) := by
  have h27 := p3 hV.1
  have hn := hV.1
  have := for_rel4 (body := f_X10_late_62_L36 (nI Z) (nI w0) a3) (3 ^ n) μ (fun i a b => ∃ o, a = ocA w0 (-4) o ∧ b = ocB o ∧ (∀ b, o = some b → b < i ∧ b < 27 ∧ dif w0 b ≤ 3) ∧ MinO w0 (fun w => w < i ∧ subB w0 w = true ∧ decide (LKS n 3 K S F N (shut w) (G Z) = 0) = true) o) (fun r => ∃ o, MinO w0 (fun w => w < 27 ∧ subB w0 w = true ∧ decide (LKS n 3 K S F N (shut w) (G Z) = 0) = true) o ∧ r = (if a3 = 0 then ocA w0 (-4) o else ocB o, μ)) (fun k i a b hi hQ => ?_) (fun k a b hQ => ?_) FU 0 (-4) (-4) (by omega) (fu_gt (by omega)) ⟨none, rfl, rfl, (fun b h => by cases h), (fun w h => by omega)⟩
  · obtain ⟨r, h1, o, h2, rfl⟩ := this
    exact ⟨o, h2, h1⟩
  · obtain ⟨o, rfl, rfl, ho, hM⟩ := hQ
    have hskip : ¬ (subB w0 i = true ∧ decide (LKS n 3 K S F N (shut i) (G Z) = 0) = true) → ∃ a' b', k (ocA w0 (-4) o) (ocB o) (nI i + 1) μ = k a' b' (nI (i + 1)) μ ∧ ∃ o', a' = ocA w0 (-4) o' ∧ b' = ocB o' ∧ (∀ b, o' = some b → b < i + 1 ∧ b < 27 ∧ dif w0 b ≤ 3) ∧ MinO w0 (fun w => w < i + 1 ∧ subB w0 w = true ∧ decide (LKS n 3 K S F N (shut w) (G Z) = 0) = true) o' := by
      intro hno
      rw [al1]
      refine ⟨_, _, rfl, o, rfl, rfl, (fun b h => by have := ho b h; omega), hM.iff fun w => ⟨fun h => ⟨by omega, h.2⟩, fun h => ⟨?_, h.2⟩⟩⟩
      by_cases hwi : w = i
      · subst hwi
        exact absurd h.2 hno
      · omega
    unfold f_X10_late_62_L36
    rw [hV.2.2.2.1, if_neg (nI_ge hi (by omega)), bnd (m_isOpened hV.2.2.1 hn hi hw0)]
    simp only [b2i_z]
    have h134 : ∀ a b, f_X10_late_62_J134 k (nI Z) (nI w0) a3 a b (nI i) μ = k a b (nI i + 1) μ := fun a b => rfl
    cases hsub : subB w0 i with
    | false =>
      rw [if_pos rfl, h134]
      exact hskip (by rw [hsub]; simp)
    | true =>
      obtain ⟨hde, hd3⟩ := dif_F w0 (by omega) i (by omega) hsub
      rw [if_neg (by decide), bnd (m_isLawful hV hP hx hi hZ)]
      simp only [b2i_z]
      cases hL : decide (LKS n 3 K S F N (shut i) (G Z) = 0) with
      | false =>
        rw [if_pos rfl, h134]
        exact hskip (by rw [hL]; simp)
      | true =>
        rw [if_neg (by decide), bnd (m_shutBy hV.2.2.1 hn hw0), bnd (m_bitsOf (mk6_lt _) μ), bnd (m_shutBy hV.2.2.1 hn hi), bnd (m_bitsOf (mk6_lt _) μ)]
        dsimp only
        rw [hde]
        have hset : ∀ v, ((v < i ∧ subB w0 v = true ∧ decide (LKS n 3 K S F N (shut v) (G Z) = 0) = true) ∨ v = i) ↔ (v < i + 1 ∧ subB w0 v = true ∧ decide (LKS n 3 K S F N (shut v) (G Z) = 0) = true) := by
          intro v
          constructor
          · rintro (⟨h1, h2⟩ | rfl)
            · exact ⟨by omega, h2⟩
            · exact ⟨by omega, hsub, hL⟩
          · rintro ⟨h1, h2⟩
            by_cases hv : v = i
            · exact Or.inr hv
            · exact Or.inl ⟨by omega, h2⟩
        have htk : f_X10_late_62_J99 k (nI Z) (nI w0) a3 (ocA w0 (-4) o) (ocB o) (nI i) (nI (dif w0 i)) μ = k (nI (dif w0 i)) (nI i) (nI i + 1) μ := by
          unfold f_X10_late_62_J99 f_X10_late_62_J104 f_X10_late_62_J118 f_X10_late_62_J132 f_X10_late_62_J134
          rw [if_neg (by decide), if_neg (by decide)]
        have hkp : f_X10_late_62_J104 k (nI Z) (nI w0) a3 (ocA w0 (-4) o) (ocB o) (nI i) (nI (dif w0 i)) 0 μ = k (ocA w0 (-4) o) (ocB o) (nI i + 1) μ := by
          unfold f_X10_late_62_J104 f_X10_late_62_J118 f_X10_late_62_J132 f_X10_late_62_J134
          rw [if_pos rfl, if_pos rfl]
        have htake : (∀ b, o = some b → ¬ lexLe w0 b i ∨ b = i) → ∃ a' b', k (nI (dif w0 i)) (nI i) (nI i + 1) μ = k a' b' (nI (i + 1)) μ ∧ ∃ o', a' = ocA w0 (-4) o' ∧ b' = ocB o' ∧ (∀ b, o' = some b → b < i + 1 ∧ b < 27 ∧ dif w0 b ≤ 3) ∧ MinO w0 (fun w => w < i + 1 ∧ subB w0 w = true ∧ decide (LKS n 3 K S F N (shut w) (G Z) = 0) = true) o' := by
          intro ht
          rw [al1]
          exact ⟨_, _, rfl, some i, rfl, rfl, (fun b h => by cases h; exact ⟨by omega, by omega, hd3⟩), (hM.add ht).iff hset⟩
        rw [htk, hkp]
        cases o with
        | none =>
          rw [if_pos (show ocA w0 (-4) none = -4 from rfl)]
          exact htake (fun b h => by cases h)
        | some b =>
          obtain ⟨bi, b27, bd⟩ := ho b rfl
          have hne : ¬ ocA w0 (-4) (some b) = -4 := fun h => by
            have := congrArg Int32.toInt (show nI (dif w0 b) = -4 from h)
            rw [nI_toInt (by omega)] at this
            have h2 : (-4 : Int32).toInt = -4 := rfl
            omega
          have c1 : (ocA w0 (-4) (some b) ≤ nI (dif w0 i)) ↔ dif w0 b ≤ dif w0 i := nI_leI (by omega) (by omega)
          rw [if_neg hne]
          by_cases d1 : dif w0 b ≤ dif w0 i
          · rw [if_pos (c1.mpr d1), al1]
            exact ⟨_, _, rfl, some b, rfl, rfl, (fun b h => by have := ho b h; omega), (hM.keep (by unfold lexLe; omega)).iff hset⟩
          · rw [if_neg (fun h => d1 (c1.mp h))]
            refine htake (fun b' h => ?_)
            cases h
            exact Or.inl (by unfold lexLe; omega)
  · obtain ⟨o, rfl, rfl, ho, hM⟩ := hQ
    unfold f_X10_late_62_L36
    rw [hV.2.2.2.1, if_pos (nI_le (Nat.le_refl _) (by omega))]
    refine ⟨(if a3 = 0 then ocA w0 (-4) o else ocB o, μ), ?_, o, hM.iff fun w => ⟨fun h => ⟨by omega, h.2⟩, fun h => ⟨?_, h.2⟩⟩, rfl⟩
    · split <;> rfl
    · have := (op_F2 w0 (by omega) w h.1 h.2.1).1
      omega

set_option maxRecDepth 100000 in
theorem s_late (a0 a1 a2 : Int32) : PStp (f_X9_late_0 a0 a1 a2) (f_X10_late_62 a0 a1 a2) := by
  intro μ hI0
  obtain ⟨n, Q, hC⟩ := hI0
  have hC0 := hC
  obtain ⟨⟨hn, hQ1, hQ6, e10, e622, e624, e11, e623, hk, hs⟩, hP, hI, hS, hT, hR⟩ := hC
  have h27 := p3 hn
  cases h1 : (inb a0 Q && inb a1 (3 ^ n)) with
  | false =>
    refine ⟨-1, μ, μ, ?_, ?_, n, Q, hC0⟩
    · unfold f_X9_late_0
      simp only [p_isSide, p_isEither, p_hasSister e10 hn, p_hasEye e10 hn, p_hasQuarter e11 hQ6, p_hasWatch e10 hn, p_canTell e10 hn e11 hQ6, m_isSide, m_isPart, m_isSister e622 hn, m_isEye e622 hn, m_isQuarter e623 hQ6, m_isWatch e624 hn, Option.bind_some, b2i_z, Bool.true_eq_false, Bool.false_eq_true, if_false, if_true, Bool.and_true, Bool.true_and, Bool.false_and, Bool.and_false, la0, la3, la9, la13, la21, la30, rd_p, rd_i, rd_s, h1]
    · unfold f_X10_late_62
      cases h2 : inb a0 Q <;> cases h3 : inb a1 (3 ^ n) <;> (rw [h2, h3] at h1) <;> first | (cases h1; done) | simp only [p_isSide, p_isEither, p_hasSister e10 hn, p_hasEye e10 hn, p_hasQuarter e11 hQ6, p_hasWatch e10 hn, p_canTell e10 hn e11 hQ6, m_isSide, m_isPart, m_isSister e622 hn, m_isEye e622 hn, m_isQuarter e623 hQ6, m_isWatch e624 hn, Option.bind_some, b2i_z, Bool.true_eq_false, Bool.false_eq_true, if_false, if_true, Bool.and_true, Bool.true_and, Bool.false_and, Bool.and_false, la0, la3, la9, la13, la21, la30, rd_p, rd_i, rd_s, h2, h3]
  | true =>
    obtain ⟨h2, h3⟩ := Bool.and_eq_true _ _ |>.mp h1
    cases h4 : inb a2 2 with
    | false =>
      refine ⟨-1, μ, μ, ?_, ?_, n, Q, hC0⟩
      · unfold f_X9_late_0
        simp only [p_isSide, p_isEither, p_hasSister e10 hn, p_hasEye e10 hn, p_hasQuarter e11 hQ6, p_hasWatch e10 hn, p_canTell e10 hn e11 hQ6, m_isSide, m_isPart, m_isSister e622 hn, m_isEye e622 hn, m_isQuarter e623 hQ6, m_isWatch e624 hn, Option.bind_some, b2i_z, Bool.true_eq_false, Bool.false_eq_true, if_false, if_true, Bool.and_true, Bool.true_and, Bool.false_and, Bool.and_false, la0, la3, la9, la13, la21, la30, rd_p, rd_i, rd_s, h1, h2, h3, h4]
      · unfold f_X10_late_62
        simp only [p_isSide, p_isEither, p_hasSister e10 hn, p_hasEye e10 hn, p_hasQuarter e11 hQ6, p_hasWatch e10 hn, p_canTell e10 hn e11 hQ6, m_isSide, m_isPart, m_isSister e622 hn, m_isEye e622 hn, m_isQuarter e623 hQ6, m_isWatch e624 hn, Option.bind_some, b2i_z, Bool.true_eq_false, Bool.false_eq_true, if_false, if_true, Bool.and_true, Bool.true_and, Bool.false_and, Bool.and_false, la0, la3, la9, la13, la21, la30, rd_p, rd_i, rd_s, h1, h2, h3, h4]
    | true =>
    obtain ⟨Z, hZ, rfl⟩ := inb_of h2 (by omega)
    obtain ⟨w0, hw0, rfl⟩ := inb_of h3 (by omega)
    obtain ⟨K, S, hV⟩ := HV.get hC0.1
    obtain ⟨F, T, N, G, W, hPV⟩ := PV.get hn hP
    obtain ⟨ν, l1, l2, l3⟩ := p_look0 hV hPV.1
    have lsm := only4.sm l2
    have hV' := hV.sm lsm
    have hPV' := hPV.sm lsm
    have hC' := hC0.sm lsm
    have hA' := hC'.abs
    have f623 : ν.1 62 3 = nI Q := by rw [lsm 62 3 (Or.inl rfl)]; exact e623
    obtain ⟨o, c1, c2⟩ := p_late (a3 := a2) hV' hPV' l3 hw0 (Z := Z) (by omega)
    obtain ⟨o', d1, d2⟩ := m_late (a3 := a2) hV' hPV' hA' hw0 (Z := Z) (by omega)
    have hoo := c1.uniq d1
    subst hoo
    refine ⟨(if a2 = 0 then ocA w0 (-4) o else ocB o), ν, ν, ?_, ?_, n, Q, hC'⟩
    · unfold f_X9_late_0
      simp only [p_isSide, p_isEither, p_hasSister e10 hn, p_hasEye e10 hn, p_hasQuarter e11 hQ6, p_hasWatch e10 hn, p_canTell e10 hn e11 hQ6, m_isSide, m_isPart, m_isSister e622 hn, m_isEye e622 hn, m_isQuarter e623 hQ6, m_isWatch e624 hn, Option.bind_some, b2i_z, Bool.true_eq_false, Bool.false_eq_true, if_false, if_true, Bool.and_true, Bool.true_and, Bool.false_and, Bool.and_false, la0, la3, la9, la13, la21, la30, rd_p, rd_i, rd_s, h1, h4]
      rw [bnd l1]
      refine c2.trans (congrArg (fun v => some (v, ν)) ?_)
      cases o with
      | none =>
        rw [if_pos (show ocB none = -4 from rfl)]
        split <;> rfl
      | some b =>
        have hb := c1.1.1
        rw [if_neg (show ¬ ocB (some b) = -4 from fun h => by
          have := congrArg Int32.toInt (show nI b = -4 from h)
          rw [nI_toInt (by omega)] at this
          have h2 : (-4 : Int32).toInt = -4 := rfl
          omega)]
        rfl
    · unfold f_X10_late_62
      simp only [p_isSide, p_isEither, p_hasSister e10 hn, p_hasEye e10 hn, p_hasQuarter e11 hQ6, p_hasWatch e10 hn, p_canTell e10 hn e11 hQ6, m_isSide, m_isPart, m_isSister hV'.2.2.1 hn, m_isEye hV'.2.2.1 hn, m_isQuarter f623 hQ6, m_isWatch hV'.2.2.2.1 hn, Option.bind_some, b2i_z, Bool.true_eq_false, Bool.false_eq_true, if_false, if_true, Bool.and_true, Bool.true_and, Bool.false_and, Bool.and_false, la0, la3, la9, la13, la21, la30, rd_p, rd_i, rd_s, h2, h3, h4]
      exact d2
