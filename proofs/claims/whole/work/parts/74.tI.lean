/-! PURE: the model's sister, the model's line -/
theorem m_numK2 {T : Nat} {t D : Nat → Nat} {lo hi p : Nat} {K : Nat → Nat → XT} {G : Int32 × Mem → Option Mem} {μ0 μ : Mem} (h : MS T t D p μ) (hF : MFr μ0 μ) (hlo : lo ≤ 100) (hhi : hi ≤ 100) (hE : ∀ f w ν, FL f w ν → MRd D ν → MFr μ0 ν → ∃ r, G (0, ν) = some r ∧ MFr μ0 r ∧ FL f w r) (hG : ∀ ν, MS T t D (tE T t p) ν → MFr μ0 ν → nyF μ ν → ∃ r, G (nI (tV T t p), ν) = some r ∧ MLr T t (K (tV T t p) (tE T t p)) μ0 r) : ∃ r, ((f_X10_readNumber_62 (nI lo) (nI hi) μ).bind G) = some r ∧ MLr T t (nbS T t p lo hi K) μ0 r := by
  obtain ⟨v, ν, l1, l2, l3⟩ := m_looked h hlo hhi
  have hFν := hF.tr l2.mf
  have hRν := h.2.1.ny l2
  unfold f_X10_readNumber_62
  rw [bnd l1]
  dsimp only
  rcases l3 with ⟨rfl, l3⟩ | ⟨rfl, rfl, hO, hK, b1, b2⟩
  · rcases l3 with ⟨hO, hf⟩ | ⟨hO, hK, hf⟩ | ⟨hO, hK, hc, hf⟩
    · rw [bnd (fl_next hf), Option.bind_some, nbS_1 hO]
      obtain ⟨r, r1, r2, r3⟩ := hE _ _ ν hf hRν hFν
      exact ⟨r, r1, MLr.f r2 r3⟩
    · rw [bnd (fl_next hf), Option.bind_some, nbS_2 hO hK]
      obtain ⟨r, r1, r2, r3⟩ := hE _ _ ν hf hRν hFν
      exact ⟨r, r1, MLr.f r2 r3⟩
    · rw [bnd (fl_next hf), Option.bind_some, nbS_3 hO hK hc]
      obtain ⟨r, r1, r2, r3⟩ := hE _ _ ν hf hRν hFν
      exact ⟨r, r1, MLr.f r2 r3⟩
  · obtain ⟨e24, e21, e22, e20, e23⟩ := h.2.2.1.1 hO
    have hle := tE_le (t := t) h.2.2.2
    obtain ⟨ξ, n1, n2, n3⟩ := m_next h.1 hle.2 e20 e24
    rw [bnd n1, Option.bind_some, nbS_k hO hK b1 b2]
    exact hG ξ ⟨h.1.fr n2, h.2.1.ny n2, n3, hle.2⟩ (hF.tr n2.mf) n2
def sg4 (m12 : Mem) (q14 : Int32 × Mem) : Option Mem := if inb (((3 : Int32) + ((2 : Int32) * (m12.1 62 8))) + (1 : Int32)) 54 = false then none else some (pI (pI q14.2 67 ((((3 : Int32) + ((2 : Int32) * (m12.1 62 8))) + (1 : Int32)).toNatClampNeg) q14.1) 62 8 ((q14.2.1 62 8) + (1 : Int32)))
def sg3 (m10 : Mem) (q12 : Int32 × Mem) : Option Mem := if inb ((3 : Int32) + ((2 : Int32) * (m10.1 62 8))) 54 = false then none else (f_X10_readNumber_62 (0 : Int32) (9 : Int32) (pI q12.2 67 (((3 : Int32) + ((2 : Int32) * (m10.1 62 8))).toNatClampNeg) q12.1)).bind (sg4 q12.2)
def sg2 (m8 : Mem) (q10 : Int32 × Mem) : Option Mem := if inb (((2 : Int32) * (m8.1 62 8)) + (1 : Int32)) 6 = false then none else (f_X10_readNumber_62 (0 : Int32) (9 : Int32) (pI q10.2 69 ((((2 : Int32) * (m8.1 62 8)) + (1 : Int32)).toNatClampNeg) q10.1)).bind (sg3 q10.2)
def sg1 (m6 : Mem) (q8 : Int32 × Mem) : Option Mem := if inb ((2 : Int32) * (m6.1 62 8)) 6 = false then none else (f_X10_readNumber_62 (0 : Int32) (15 : Int32) (pI q8.2 69 (((2 : Int32) * (m6.1 62 8)).toNatClampNeg) q8.1)).bind (sg2 q8.2)
theorem sgJ (a1 t1 : Int32) (μ : Mem) : f_X10_readSister_62_J37 a1 t1 μ = (f_X10_needs_62 t1 (2 : Int32) μ).bind fun q5 => (f_X10_next_62 q5).bind fun q6 => if inb (q6.1 62 8) 3 = false then none else (f_X10_readNumber_62 (0 : Int32) (15 : Int32) (pI q6 68 ((q6.1 62 8).toNatClampNeg) a1)).bind (sg1 q6) := rfl
theorem sg4_e {n : Nat} {m12 : Mem} {q : Int32 × Mem} (hn : n < 3) (h1 : m12.1 62 8 = nI n) (h2 : q.2.1 62 8 = nI n) : sg4 m12 q = some (pI (pI q.2 67 (3 + 2 * n + 1) q.1) 62 8 (nI (n + 1))) := by
  unfold sg4
  rw [h1, lm2, la3, al1, inb_nI (by omega) (by omega), if_neg (show ¬ true = false by decide), nI_clamp (by omega), h2, al1]
theorem sg3_e {n : Nat} {m10 : Mem} {q : Int32 × Mem} (hn : n < 3) (h1 : m10.1 62 8 = nI n) : sg3 m10 q = (f_X10_readNumber_62 (0 : Int32) (9 : Int32) (pI q.2 67 (3 + 2 * n) q.1)).bind (sg4 q.2) := by
  unfold sg3
  rw [h1, lm2, la3, inb_nI (by omega) (by omega), if_neg (show ¬ true = false by decide), nI_clamp (by omega)]
theorem sg2_e {n : Nat} {m8 : Mem} {q : Int32 × Mem} (hn : n < 3) (h1 : m8.1 62 8 = nI n) : sg2 m8 q = (f_X10_readNumber_62 (0 : Int32) (9 : Int32) (pI q.2 69 (2 * n + 1) q.1)).bind (sg3 q.2) := by
  unfold sg2
  rw [h1, lm2, al1, inb_nI (by omega) (by omega), if_neg (show ¬ true = false by decide), nI_clamp (by omega)]
theorem sg1_e {n : Nat} {m6 : Mem} {q : Int32 × Mem} (hn : n < 3) (h1 : m6.1 62 8 = nI n) : sg1 m6 q = (f_X10_readNumber_62 (0 : Int32) (15 : Int32) (pI q.2 69 (2 * n) q.1)).bind (sg2 q.2) := by
  unfold sg1
  rw [h1, lm2, inb_nI (by omega) (by omega), if_neg (show ¬ true = false by decide), nI_clamp (by omega)]
theorem fz4 {n f w : Nat} {m : Mem} {q : Int32 × Mem} (hn : n < 3) (h1 : m.1 62 8 = nI n) (h2 : q.2.1 62 8 = nI n) (hf : FL f w q.2) : ∃ r, sg4 m q = some r ∧ MFr q.2 r ∧ FL f w r := by
  rw [sg4_e hn h1 h2]
  exact ⟨_, rfl, ((MFr.rf _).w (by omega)).w (by omega), (hf.w (by omega)).w (by omega)⟩
theorem fz3 {n f w : Nat} {m : Mem} {q : Int32 × Mem} (hn : n < 3) (h1 : m.1 62 8 = nI n) (h2 : q.2.1 62 8 = nI n) (hf : FL f w q.2) : ∃ r, sg3 m q = some r ∧ MFr q.2 r ∧ FL f w r := by
  have k1 : FL f w (pI q.2 67 (3 + 2 * n) q.1) := hf.w (by omega)
  rw [sg3_e hn h1, bnd (fl_number k1 _ _)]
  obtain ⟨r, g1, g2, g3⟩ := fz4 (m := q.2) (q := (0, pI q.2 67 (3 + 2 * n) q.1)) hn h2 (by show (pI q.2 67 (3 + 2 * n) q.1).1 62 8 = _; rw [rd_p (by omega)]; exact h2) k1
  exact ⟨r, g1, (show MFr q.2 (pI q.2 67 (3 + 2 * n) q.1) from (MFr.rf _).w (by omega)).tr g2, g3⟩
theorem fz2 {n f w : Nat} {m : Mem} {q : Int32 × Mem} (hn : n < 3) (h1 : m.1 62 8 = nI n) (h2 : q.2.1 62 8 = nI n) (hf : FL f w q.2) : ∃ r, sg2 m q = some r ∧ MFr q.2 r ∧ FL f w r := by
  have k1 : FL f w (pI q.2 69 (2 * n + 1) q.1) := hf.w (by omega)
  rw [sg2_e hn h1, bnd (fl_number k1 _ _)]
  obtain ⟨r, g1, g2, g3⟩ := fz3 (m := q.2) (q := (0, pI q.2 69 (2 * n + 1) q.1)) hn h2 (by show (pI q.2 69 (2 * n + 1) q.1).1 62 8 = _; rw [rd_p (by omega)]; exact h2) k1
  exact ⟨r, g1, (show MFr q.2 (pI q.2 69 (2 * n + 1) q.1) from (MFr.rf _).w (by omega)).tr g2, g3⟩
theorem fz1 {n f w : Nat} {m : Mem} {q : Int32 × Mem} (hn : n < 3) (h1 : m.1 62 8 = nI n) (h2 : q.2.1 62 8 = nI n) (hf : FL f w q.2) : ∃ r, sg1 m q = some r ∧ MFr q.2 r ∧ FL f w r := by
  have k1 : FL f w (pI q.2 69 (2 * n) q.1) := hf.w (by omega)
  rw [sg1_e hn h1, bnd (fl_number k1 _ _)]
  obtain ⟨r, g1, g2, g3⟩ := fz2 (m := q.2) (q := (0, pI q.2 69 (2 * n) q.1)) hn h2 (by show (pI q.2 69 (2 * n) q.1).1 62 8 = _; rw [rd_p (by omega)]; exact h2) k1
  exact ⟨r, g1, (show MFr q.2 (pI q.2 69 (2 * n) q.1) from (MFr.rf _).w (by omega)).tr g2, g3⟩
theorem m_sisJ {T : Nat} {t D : Nat → Nat} {p k : Nat} {μ0 μ : Mem} (hn : D 0 < 3) (hO : tO T t p = true) (h : MS T t D p μ) (hF : MFr μ0 μ) : ∃ r, f_X10_readSister_62_J37 (nI k) 1 μ = some r ∧ MLr T t (nbS T t (tE T t p) 0 15 fun s0 e => nbS T t e 0 15 fun s1 e => nbS T t e 0 9 fun t0 e => nbS T t e 0 9 fun t1 e => xd (sisD D k s0 s1 t0 t1) e) μ0 r := by
  obtain ⟨e24, e21, e22, e20, e23⟩ := h.2.2.1.1 hO
  have hle := tE_le (t := t) h.2.2.2
  obtain ⟨ξ, n1, n2, n3⟩ := m_next h.1 hle.2 e20 e24
  have g1 : MS T t D (tE T t p) ξ := ⟨h.1.fr n2, h.2.1.ny n2, n3, hle.2⟩
  have g2 := hF.tr n2.mf
  rw [sgJ, bnd (m_needs1 _ μ), bnd n1, g1.2.1.1, inb_nI (by omega) (by omega), if_neg (show ¬ true = false by decide), nI_clamp (by omega)]
  have c1 : MS T t D (tE T t p) (pI ξ 68 (D 0) (nI k)) := by
    refine g1.mr ((MFr.rf ξ).w (by omega)) (fun j _ _ => by rw [rd_p (by omega)]) ?_
    obtain ⟨c0, c1, c2, c3, c4, c5, c6, c7, c8, c9, c10, c11, c12, c13, c14, c15⟩ := g1.2.1
    refine ⟨?_, ?_, ?_, ?_, ?_, ?_, ?_, ?_, fun s hs => ?_, fun s hs => ?_, fun s hs => ?_, fun s hs => ?_, fun s hs => ?_, fun s hs => ?_, fun s hs => ?_, ?_⟩
    · rw [rd_p (by omega)]; exact c0
    · rw [rd_p (by omega)]; exact c1
    · rw [rd_p (by omega)]; exact c2
    · rw [rd_p (by omega)]; exact c3
    · rw [rd_p (by omega)]; exact c4
    · rw [rd_p (by omega)]; exact c5
    · rw [rd_p (by omega)]; exact c6
    · rw [rd_p (by omega)]; exact c7
    · rw [rd_i (by omega)]; exact c8 s hs
    · rw [rd_p (by omega)]; exact c9 s hs
    · rw [rd_p (by omega)]; exact c10 s hs
    · rw [rd_p (by omega)]; exact c11 s hs
    · rw [rd_p (by omega)]; exact c12 s hs
    · rw [rd_p (by omega)]; exact c13 s hs
    · rw [rd_p (by omega)]; exact c14 s hs
    · rw [rd_p (by omega)]; exact c15
  have f1 : MFr μ0 (pI ξ 68 (D 0) (nI k)) := g2.w (by omega)
  have k68 : (pI ξ 68 (D 0) (nI k)).1 68 (D 0) = nI k := rd_s
  have hξ8 := g1.2.1.1
  generalize pI ξ 68 (D 0) (nI k) = ξ1 at c1 f1 k68
  have h69 : ∀ (ω : Mem) (pp j v : Nat), 2 * D 0 ≤ j → MS T t D pp ω → MS T t D pp (pI ω 69 j (nI v)) := by
    intro ω pp j v hj hω
    refine hω.mr ((MFr.rf ω).w (by omega)) (fun i _ _ => by rw [rd_p (by omega)]) ?_
    obtain ⟨c0, c1, c2, c3, c4, c5, c6, c7, c8, c9, c10, c11, c12, c13, c14, c15⟩ := hω.2.1
    refine ⟨?_, ?_, ?_, ?_, ?_, ?_, ?_, ?_, fun s hs => ?_, fun s hs => ?_, fun s hs => ?_, fun s hs => ?_, fun s hs => ?_, fun s hs => ?_, fun s hs => ?_, ?_⟩
    · rw [rd_p (by omega)]; exact c0
    · rw [rd_p (by omega)]; exact c1
    · rw [rd_p (by omega)]; exact c2
    · rw [rd_p (by omega)]; exact c3
    · rw [rd_p (by omega)]; exact c4
    · rw [rd_p (by omega)]; exact c5
    · rw [rd_p (by omega)]; exact c6
    · rw [rd_p (by omega)]; exact c7
    · rw [rd_p (by omega)]; exact c8 s hs
    · rw [rd_i (by omega)]; exact c9 s hs
    · rw [rd_p (by omega)]; exact c10 s hs
    · rw [rd_p (by omega)]; exact c11 s hs
    · rw [rd_p (by omega)]; exact c12 s hs
    · rw [rd_p (by omega)]; exact c13 s hs
    · rw [rd_p (by omega)]; exact c14 s hs
    · rw [rd_p (by omega)]; exact c15
  refine m_numK2 (lo := 0) (hi := 15) (K := fun s0 e => nbS T t e 0 15 fun s1 e => nbS T t e 0 9 fun t0 e => nbS T t e 0 9 fun t1 e => xd (sisD D k s0 s1 t0 t1) e) c1 f1 (by omega) (by omega) (fun f w ω x1 x2 x3 => ?_) (fun ω x1 x2 x3 => ?_)
  · obtain ⟨r, r1, r2, r3⟩ := fz1 (m := ξ) (q := (0, ω)) hn hξ8 x2.1 x1
    exact ⟨r, r1, x3.tr r2, r3⟩
  rw [sg1_e hn hξ8]
  dsimp only
  have y68 : ω.1 68 (D 0) = nI k := by rw [x3 68 _ (by omega)]; exact k68
  have c2 := h69 ω _ (2 * D 0) (tV T t (tE T t p)) (by omega) x1
  have f2 : MFr μ0 (pI ω 69 (2 * D 0) (nI (tV T t (tE T t p)))) := x2.w (by omega)
  have k68 : (pI ω 69 (2 * D 0) (nI (tV T t (tE T t p)))).1 68 (D 0) = nI k := by rw [rd_p (by omega)]; exact y68
  have k69 : (pI ω 69 (2 * D 0) (nI (tV T t (tE T t p)))).1 69 (2 * D 0) = nI (tV T t (tE T t p)) := rd_s
  have hω8 := x1.2.1.1
  generalize pI ω 69 (2 * D 0) (nI (tV T t (tE T t p))) = ω1 at c2 f2 k68 k69
  generalize tV T t (tE T t p) = s0 at *
  refine m_numK2 (lo := 0) (hi := 15) (K := fun s1 e => nbS T t e 0 9 fun t0 e => nbS T t e 0 9 fun t1 e => xd (sisD D k s0 s1 t0 t1) e) c2 f2 (by omega) (by omega) (fun f w ζ z1 z2 z3 => ?_) (fun ζ z1 z2 z3 => ?_)
  · obtain ⟨r, r1, r2, r3⟩ := fz2 (m := ω) (q := (0, ζ)) hn hω8 z2.1 z1
    exact ⟨r, r1, z3.tr r2, r3⟩
  rw [sg2_e hn hω8]
  dsimp only
  have y68 : ζ.1 68 (D 0) = nI k := by rw [z3 68 _ (by omega)]; exact k68
  have y69 : ζ.1 69 (2 * D 0) = nI s0 := by rw [z3 69 _ (by omega)]; exact k69
  have c3 := h69 ζ _ (2 * D 0 + 1) (tV T t (tE T t (tE T t p))) (by omega) z1
  have f3 : MFr μ0 (pI ζ 69 (2 * D 0 + 1) (nI (tV T t (tE T t (tE T t p))))) := z2.w (by omega)
  have k68 : (pI ζ 69 (2 * D 0 + 1) (nI (tV T t (tE T t (tE T t p))))).1 68 (D 0) = nI k := by rw [rd_p (by omega)]; exact y68
  have k69 : (pI ζ 69 (2 * D 0 + 1) (nI (tV T t (tE T t (tE T t p))))).1 69 (2 * D 0) = nI s0 := by rw [rd_i (by omega)]; exact y69
  have k69' : (pI ζ 69 (2 * D 0 + 1) (nI (tV T t (tE T t (tE T t p))))).1 69 (2 * D 0 + 1) = nI (tV T t (tE T t (tE T t p))) := rd_s
  have hζ8 := z1.2.1.1
  generalize pI ζ 69 (2 * D 0 + 1) (nI (tV T t (tE T t (tE T t p)))) = ζ1 at c3 f3 k68 k69 k69'
  generalize tV T t (tE T t (tE T t p)) = s1 at *
  refine m_numK2 (lo := 0) (hi := 9) (K := fun t0 e => nbS T t e 0 9 fun t1 e => xd (sisD D k s0 s1 t0 t1) e) c3 f3 (by omega) (by omega) (fun f w η b1 b2 b3 => ?_) (fun η b1 b2 b3 => ?_)
  · obtain ⟨r, r1, r2, r3⟩ := fz3 (m := ζ) (q := (0, η)) hn hζ8 b2.1 b1
    exact ⟨r, r1, b3.tr r2, r3⟩
  rw [sg3_e hn hζ8]
  dsimp only
  have y68 : η.1 68 (D 0) = nI k := by rw [b3 68 _ (by omega)]; exact k68
  have y69 : η.1 69 (2 * D 0) = nI s0 := by rw [b3 69 _ (by omega)]; exact k69
  have y69' : η.1 69 (2 * D 0 + 1) = nI s1 := by rw [b3 69 _ (by omega)]; exact k69'
  generalize tE T t (tE T t (tE T t p)) = e3 at *
  have c4 : MS T t (ud D (40 + 2 * D 0) (tV T t e3)) (tE T t e3) (pI η 67 (3 + 2 * D 0) (nI (tV T t e3))) := by
    refine b1.mr ((MFr.rf η).w (by omega)) (fun i _ _ => by rw [rd_p (by omega)]) ?_
    obtain ⟨c0, c1, c2, c3, c4, c5, c6, c7, c8, c9, c10, c11, c12, c13, c14, c15⟩ := b1.2.1
    refine ⟨?_, ?_, ?_, ?_, ?_, ?_, ?_, ?_, fun s hs => ?_, fun s hs => ?_, fun s hs => ?_, fun s hs => ?_, fun s hs => ?_, fun s hs => ?_, fun s hs => ?_, ?_⟩
    · rw [rd_p (by omega), ud_n (by omega)]; exact c0
    · rw [rd_p (by omega), ud_n (by omega)]; exact c1
    · rw [rd_p (by omega), ud_n (by omega)]; exact c2
    · rw [rd_p (by omega), ud_n (by omega)]; exact c3
    · rw [rd_p (by omega), ud_n (by omega)]; exact c4
    · rw [rd_p (by omega), ud_n (by omega)]; exact c5
    · rw [rd_p (by omega), ud_n (by omega)]; exact c6
    · rw [rd_p (by omega), ud_n (by omega)]; exact c7
    · rw [ud_n (by omega)] at hs; rw [rd_p (by omega), ud_n (by omega)]; exact c8 s hs
    · rw [ud_n (by omega)] at hs; rw [rd_p (by omega), ud_n (by omega)]; exact c9 s hs
    · rw [rd_i (by omega), ud_n (by omega)]; exact c10 s hs
    · by_cases hsd : s = 2 * D 0
      · subst hsd
        rw [rd_s, ud_s]
      · rw [rd_i (by omega), ud_n (by omega)]; exact c11 s hs
    · rw [rd_i (by omega), ud_n (by omega)]; exact c12 s hs
    · rw [rd_i (by omega), ud_n (by omega)]; exact c13 s hs
    · rw [rd_i (by omega), ud_n (by omega)]; exact c14 s hs
    · rw [rd_i (by omega)]; exact c15
  have f4 : MFr μ0 (pI η 67 (3 + 2 * D 0) (nI (tV T t e3))) := b2.w (by omega)
  have k68 : (pI η 67 (3 + 2 * D 0) (nI (tV T t e3))).1 68 (D 0) = nI k := by rw [rd_p (by omega)]; exact y68
  have k69 : (pI η 67 (3 + 2 * D 0) (nI (tV T t e3))).1 69 (2 * D 0) = nI s0 := by rw [rd_p (by omega)]; exact y69
  have k69' : (pI η 67 (3 + 2 * D 0) (nI (tV T t e3))).1 69 (2 * D 0 + 1) = nI s1 := by rw [rd_p (by omega)]; exact y69'
  have hη8 := b1.2.1.1
  generalize pI η 67 (3 + 2 * D 0) (nI (tV T t e3)) = η1 at c4 f4 k68 k69 k69'
  generalize tV T t e3 = t0 at *
  refine m_numK2 (lo := 0) (hi := 9) (K := fun t1 e => xd (sisD D k s0 s1 t0 t1) e) c4 f4 (by omega) (by omega) (fun f w κ d1 d2 d3 => ?_) (fun κ d1 d2 d3 => ?_)
  · have d8 := d2.1
    rw [ud_n (by omega)] at d8
    obtain ⟨r, r1, r2, r3⟩ := fz4 (m := η) (q := (0, κ)) hn hη8 d8 d1
    exact ⟨r, r1, d3.tr r2, r3⟩
  have d8 := d1.2.1.1
  rw [ud_n (by omega)] at d8
  rw [sg4_e (q := (nI (tV T t (tE T t e3)), κ)) hn hη8 d8]
  dsimp only
  have y68 : κ.1 68 (D 0) = nI k := by rw [d3 68 _ (by omega)]; exact k68
  have y69 : κ.1 69 (2 * D 0) = nI s0 := by rw [d3 69 _ (by omega)]; exact k69
  have y69' : κ.1 69 (2 * D 0 + 1) = nI s1 := by rw [d3 69 _ (by omega)]; exact k69'
  refine ⟨_, rfl, MLr.d ((d2.w (by omega)).w (by omega)) (d1.mr (((MFr.rf κ).w (by omega)).w (by omega)) (fun i _ _ => by rw [rd_i (by omega), rd_p (by omega)]) ?_)⟩
  generalize tV T t (tE T t e3) = t1 at *
  obtain ⟨c0, c1, c2, c3, c4, c5, c6, c7, c8, c9, c10, c11, c12, c13, c14, c15⟩ := d1.2.1
  unfold sisD
  refine ⟨?_, ?_, ?_, ?_, ?_, ?_, ?_, ?_, fun s hs => ?_, fun s hs => ?_, fun s hs => ?_, fun s hs => ?_, fun s hs => ?_, fun s hs => ?_, fun s hs => ?_, ?_⟩
  · rw [rd_s, ud_s]
  · have hz := c1; simp (disch := omega) only [ud_n] at hz; simp (disch := omega) only [rd_p, rd_i, ud_n]; exact hz
  · have hz := c2; simp (disch := omega) only [ud_n] at hz; simp (disch := omega) only [rd_p, rd_i, ud_n]; exact hz
  · have hz := c3; simp (disch := omega) only [ud_n] at hz; simp (disch := omega) only [rd_p, rd_i, ud_n]; exact hz
  · have hz := c4; simp (disch := omega) only [ud_n] at hz; simp (disch := omega) only [rd_p, rd_i, ud_n]; exact hz
  · have hz := c5; simp (disch := omega) only [ud_n] at hz; simp (disch := omega) only [rd_p, rd_i, ud_n]; exact hz
  · have hz := c6; simp (disch := omega) only [ud_n] at hz; simp (disch := omega) only [rd_p, rd_i, ud_n]; exact hz
  · have hz := c7; simp (disch := omega) only [ud_n] at hz; simp (disch := omega) only [rd_p, rd_i, ud_n]; exact hz
  · rw [ud_s] at hs
    by_cases hsn : s = D 0
    · subst hsn
      rw [rd_p (by omega), rd_p (by omega), ud_n (by omega), ud_n (by omega), ud_n (by omega), ud_n (by omega), ud_n (by omega), ud_s]; exact y68
    · have hz := c8 s (by rw [ud_n (by omega)]; omega)
      simp (disch := omega) only [ud_n] at hz; simp (disch := omega) only [rd_p, rd_i, ud_n]; exact hz
  · rw [ud_s] at hs
    by_cases hs0 : s = 2 * D 0
    · subst hs0
      rw [rd_p (by omega), rd_p (by omega), ud_n (by omega), ud_n (by omega), ud_n (by omega), ud_n (by omega), ud_s]; exact y69
    · by_cases hs1 : s = 2 * D 0 + 1
      · subst hs1
        rw [rd_p (by omega), rd_p (by omega), show 20 + (2 * D 0 + 1) = 21 + 2 * D 0 by omega, ud_n (by omega), ud_n (by omega), ud_n (by omega), ud_s]; exact y69'
      · have hz := c9 s (by rw [ud_n (by omega)]; omega)
        simp (disch := omega) only [ud_n] at hz; simp (disch := omega) only [rd_p, rd_i, ud_n]; exact hz
  · have hz := c10 s hs
    simp (disch := omega) only [ud_n] at hz; simp (disch := omega) only [rd_p, rd_i, ud_n]; exact hz
  · have hz := c11 s hs
    by_cases hs0 : s = 2 * D 0
    · subst hs0
      rw [ud_s] at hz
      rw [rd_p (by omega), rd_i (by omega), ud_n (by omega), ud_n (by omega), ud_s]; exact hz
    · by_cases hs1 : s = 2 * D 0 + 1
      · subst hs1
        rw [rd_p (by omega), show 3 + (2 * D 0 + 1) = 3 + 2 * D 0 + 1 by omega, rd_s, ud_n (by omega), show 40 + (2 * D 0 + 1) = 41 + 2 * D 0 by omega, ud_s]
      · simp (disch := omega) only [ud_n] at hz; simp (disch := omega) only [rd_p, rd_i, ud_n]; exact hz
  · have hz := c12 s hs
    simp (disch := omega) only [ud_n] at hz; simp (disch := omega) only [rd_p, rd_i, ud_n]; exact hz
  · have hz := c13 s hs
    simp (disch := omega) only [ud_n] at hz; simp (disch := omega) only [rd_p, rd_i, ud_n]; exact hz
  · have hz := c14 s hs
    simp (disch := omega) only [ud_n] at hz; simp (disch := omega) only [rd_p, rd_i, ud_n]; exact hz
  · rw [rd_p (by omega), rd_i (by omega)]; exact c15
theorem m_sisterL {T : Nat} {t D : Nat → Nat} {p a : Nat} {μ0 μ : Mem} (hn : D 0 < 3) (hO : tO T t p = true) (h : MS T t D p μ) (hF : MFr μ0 μ) : ∃ r, f_X10_readLineOf_62 0 μ = some r ∧ MLr T t (sisterS T t D p a) μ0 r := by
  obtain ⟨e24, e21, e22, e20, e23⟩ := h.2.2.1.1 hO
  have hle := tE_le (t := t) h.2.2.2
  have hk4 := tK_le T t p
  have hkl := knB_le t (tA T t p) (tE T t p)
  have hbad : ∀ x : Int32, ∃ r, f_X10_readSister_62_J37 x 0 μ = some r ∧ MLr T t (xf 2 (tA T t p)) μ0 r := by
    intro x
    obtain ⟨ν, g1, g2, g3⟩ := m_needs0 (f := 2) e24 e21 (by omega) (by omega)
    have g1 : f_X10_needs_62 0 2 μ = some ν := g1
    have h8 : ν.1 62 8 = nI (D 0) := by rw [g3 62 8 (by omega)]; exact h.2.1.1
    have k1 : FL 2 (tA T t p) (pI ν 68 (D 0) x) := g2.w (by omega)
    rw [sgJ, bnd g1, bnd (fl_next g2), h8, inb_nI (by omega) (by omega), if_neg (show ¬ true = false by decide), nI_clamp (by omega), bnd (fl_number k1 _ _)]
    obtain ⟨r, r1, r2, r3⟩ := fz1 (m := ν) (q := (0, pI ν 68 (D 0) x)) hn h8 (by show (pI ν 68 (D 0) x).1 62 8 = _; rw [rd_p (by omega)]; exact h8) k1
    exact ⟨r, r1, MLr.f (((hF.tr g3.mf).w (by omega)).tr r2) r3⟩
  have hrs : f_X10_readLineOf_62 0 μ = f_X10_readSister_62 μ := by
    unfold f_X10_readLineOf_62
    rw [if_pos (show (0 : Int32) = 0 from rfl)]
    cases f_X10_readSister_62 μ <;> rfl
  rw [hrs]
  unfold f_X10_readSister_62 sisterS
  rw [if_pos e24, e22, if_neg (show ¬ 3 ≤ D 0 by omega), if_neg (show ¬ tO T t p = false by rw [hO]; decide)]
  by_cases hK : tK T t p = 1
  · rw [if_pos (show nI (tK T t p) = (1 : Int32) by rw [hK]; rfl), if_neg (show ¬ tK T t p ≠ 1 from fun hh => hh hK), bnd (m_kindNow h.1 hle.1 hle.2 e21 e20)]
    dsimp only
    unfold f_X10_readSister_62_J24 orN
    by_cases h4 : knB t (tA T t p) (tE T t p) = 4
    · rw [if_neg (show ¬ knB t (tA T t p) (tE T t p) < 4 by omega), if_pos (show (-4 : Int32) = -4 from rfl), if_pos h4]
      exact hbad _
    · rw [if_pos (show knB t (tA T t p) (tE T t p) < 4 by omega), if_neg (show ¬ nI (knB t (tA T t p) (tE T t p)) = (-4 : Int32) by rw [i32_eq, nI_toInt (by omega), show (-4 : Int32).toInt = -4 from rfl]; omega), if_neg h4]
      exact m_sisJ hn hO h hF
  · rw [if_neg (show ¬ nI (tK T t p) = (1 : Int32) from fun hh => hK ((nI_eq (b := 1) (by omega) (by omega)).mp hh)), if_pos hK]
    unfold f_X10_readSister_62_J22 f_X10_readSister_62_J24
    rw [if_pos (show (-4 : Int32) = -4 from rfl)]
    exact hbad _
/-! the line -/
theorem m_tail {T : Nat} {t : Nat → Nat} {X : XT} {μ0 q : Mem} (h : MLr T t X μ0 q) : ∃ r, (if (q.1 62 24) = 0 then if (q.1 62 22) = (3 : Int32) then f_X10_readLine_62_J116 (1 : Int32) q else f_X10_readLine_62_J116 (0 : Int32) q else f_X10_readLine_62_J120 q) = some r ∧ MLr T t (sgS T t X) μ0 r := by
  obtain ⟨h1, h2, h3⟩ := h
  unfold f_X10_readLine_62_J116 f_X10_readLine_62_J120
  rcases XT.cs X with ⟨f, w, rfl⟩ | ⟨D, p, rfl⟩
  · have hf := h2 f w rfl
    rw [if_neg hf.ne, bnd (fl_next hf), sgS_f]
    exact ⟨_, rfl, MLr.f h1 hf⟩
  · have hm := h3 D p rfl
    rw [sgS_d]
    cases hO : tO T t p with
    | false =>
      have hf := hm.bad hO
      rw [if_neg hf.ne, bnd (fl_next hf), if_pos (show false = false from rfl)]
      exact ⟨_, rfl, MLr.f h1 hf⟩
    | true =>
      obtain ⟨e24, e21, e22, e20, e23⟩ := hm.2.2.1.1 hO
      have hle := tE_le (t := t) hm.2.2.2
      have hk4 := tK_le T t p
      rw [if_pos e24, e22, if_neg (show ¬ true = false by decide)]
      by_cases hK : tK T t p = 3
      · obtain ⟨ξ, n1, n2, n3⟩ := m_next hm.1 hle.2 e20 e24
        rw [if_pos (show nI (tK T t p) = (3 : Int32) by rw [hK]; rfl), bnd (m_needs1 _ q), bnd n1, if_neg (show ¬ tK T t p ≠ 3 from fun hh => hh hK)]
        exact ⟨_, rfl, MLr.d (h1.tr n2.mf) ⟨hm.1.fr n2, hm.2.1.ny n2, n3, hle.2⟩⟩
      · obtain ⟨ν, g1, g2, g3⟩ := m_needs0 (f := 2) e24 e21 (by omega) (by omega)
        have g1 : f_X10_needs_62 0 2 q = some ν := g1
        rw [if_neg (show ¬ nI (tK T t p) = (3 : Int32) from fun hh => hK ((nI_eq (b := 3) (by omega) (by omega)).mp hh)), bnd g1, bnd (fl_next g2), if_pos hK]
        exact ⟨_, rfl, MLr.f (h1.tr g3.mf) g2⟩
theorem lnB_le (t : Nat → Nat) (a e : Nat) : lnB t a e ≤ 6 := by
  unfold lnB
  split
  · omega
  · split
    · omega
    · split
      · omega
      · split
        · omega
        · split
          · omega
          · split <;> omega
/-- a fault ahead of the line's first token -/
theorem fl_J74 {f w : Nat} {μ : Mem} (h : FL f w μ) (a b : Int32) : f_X10_readLine_62_J74 a b μ = some μ := by
  unfold f_X10_readLine_62_J74
  rw [bnd (fl_needs h _ _), bnd (fl_next h), h.2.2.1, if_neg (nI_nle h.1 (by have := h.2.1; omega))]
theorem fl_J52 {f w : Nat} {μ : Mem} (h : FL f w μ) (a b : Int32) (ha : ¬ a = 1) : f_X10_readLine_62_J52 a b μ = some μ := by
  unfold f_X10_readLine_62_J52 f_X10_readLine_62_J69
  rw [bnd (fl_needs h _ _), if_neg ha]
  exact fl_J74 h _ _
theorem m_J74 {T : Nat} {t D : Nat → Nat} {p i : Nat} {X : XT} {μ0 μ : Mem} (hO : tO T t p = true) (h : MS T t D p μ) (hF : MFr μ0 μ) (hX1 : tO T t (tE T t p) = false → sgS T t X = xf 1 (tA T t (tE T t p))) (hX : ∀ ν, tO T t (tE T t p) = true → MS T t D (tE T t p) ν → MFr μ0 ν → ∃ r, f_X10_readLineOf_62 (nI i) ν = some r ∧ MLr T t X μ0 r) : ∃ r, f_X10_readLine_62_J74 (nI i) 1 μ = some r ∧ MLr T t (sgS T t X) μ0 r := by
  obtain ⟨e24, e21, e22, e20, e23⟩ := h.2.2.1.1 hO
  have hle := tE_le (t := t) h.2.2.2
  obtain ⟨ξ, n1, n2, n3⟩ := m_next h.1 hle.2 e20 e24
  have g1 : MS T t D (tE T t p) ξ := ⟨h.1.fr n2, h.2.1.ny n2, n3, hle.2⟩
  have g2 := hF.tr n2.mf
  unfold f_X10_readLine_62_J74
  rw [bnd (m_needs1 _ μ), bnd n1]
  cases hO2 : tO T t (tE T t p) with
  | false =>
    have hf := g1.bad hO2
    rw [hf.2.2.1, if_neg (nI_nle (by omega) (by omega)), hX1 hO2]
    exact ⟨_, rfl, MLr.f g2 hf⟩
  | true =>
    obtain ⟨f24, -, -, -, -⟩ := g1.2.2.1.1 hO2
    obtain ⟨r, r1, r2⟩ := hX ξ hO2 g1 g2
    rw [f24, if_pos (show (0 : Int32) ≤ 0 by decide), bnd r1]
    exact m_tail r2
theorem m_readLine {T : Nat} {t D : Nat → Nat} {p : Nat} {μ : Mem} (hD : DW D) (hO : tO T t p = true) (h : MS T t D p μ) : ∃ r, f_X10_readLine_62 μ = some r ∧ MLr T t (lineS T t D p) μ r := by
  obtain ⟨e24, e21, e22, e20, e23⟩ := h.2.2.1.1 hO
  have hle := tE_le (t := t) h.2.2.2
  have hk4 := tK_le T t p
  have hll := lnB_le t (tA T t p) (tE T t p)
  have hbad : ∃ r, f_X10_readLine_62_J30 (-4 : Int32) 0 μ = some r ∧ MLr T t (xf 2 (tA T t p)) μ r := by
    obtain ⟨ν, g1, g2, g3⟩ := m_needs0 (f := 2) e24 e21 (by omega) (by omega)
    have g1 : f_X10_needs_62 0 2 μ = some ν := g1
    unfold f_X10_readLine_62_J30 f_X10_readLine_62_J47
    rw [bnd g1, if_neg (show ¬ (-4 : Int32) = 0 by decide), fl_J52 g2 _ _ (by decide)]
    exact ⟨_, rfl, MLr.f g3.mf g2⟩
  have hplain : ∀ i : Nat, 2 ≤ i → i < 6 → f_X10_readLine_62_J30 (nI i) 1 μ = f_X10_readLine_62_J74 (nI i) 1 μ := by
    intro i h2 h6
    unfold f_X10_readLine_62_J30 f_X10_readLine_62_J47 f_X10_readLine_62_J52 f_X10_readLine_62_J69
    rw [bnd (m_needs1 _ μ), if_neg (nI_ne0 (by omega) (by omega)), bnd (m_needs1 _ μ), if_neg (show ¬ nI i = (1 : Int32) from fun hh => by have := (nI_eq (b := 1) (by omega) (by omega)).mp hh; omega)]
  unfold f_X10_readLine_62 lineS
  rw [e22]
  by_cases hK : tK T t p = 1
  · rw [if_pos (show nI (tK T t p) = (1 : Int32) by rw [hK]; rfl), if_neg (show ¬ tK T t p ≠ 1 from fun hh => hh hK), bnd (m_lineNow h.1 hle.1 hle.2 e21 e20)]
    dsimp only
    unfold f_X10_readLine_62_J17 orN
    generalize hln : lnB t (tA T t p) (tE T t p) = ln at *
    by_cases h6 : ln = 6
    · rw [if_neg (show ¬ ln < 6 by omega), if_pos (show (-4 : Int32) = -4 from rfl), if_neg (by omega), if_neg (by omega), if_neg (by omega), if_neg (by omega), if_neg (by omega), if_neg (by omega)]
      exact hbad
    · rw [if_pos (show ln < 6 by omega), if_neg (show ¬ nI ln = (-4 : Int32) by rw [i32_eq, nI_toInt (by omega), show (-4 : Int32).toInt = -4 from rfl]; omega)]
      rcases (show ln = 0 ∨ ln = 1 ∨ ln = 2 ∨ ln = 3 ∨ ln = 4 ∨ ln = 5 by omega) with rfl | rfl | rfl | rfl | rfl | rfl
      · rw [if_pos (show (0 : Nat) = 0 from rfl)]
        unfold f_X10_readLine_62_J30 f_X10_readLine_62_J47
        rw [bnd (m_needs1 _ μ), if_pos (show nI 0 = 0 from rfl), h.2.1.1]
        by_cases hc : 3 ≤ D 0
        · have hw0 := hD.1
          obtain ⟨ν, g1, g2, g3⟩ := m_needs0 (f := 5) e24 e21 (by omega) (by omega)
          have g1 : f_X10_needs_62 0 5 μ = some ν := g1
          rw [if_pos (show (3 : Int32) ≤ nI (D 0) from nI_le (a := 3) hc (by omega))]
          unfold f_X10_readLine_62_J52 f_X10_readLine_62_J69 sisterS
          rw [bnd g1, if_neg (show ¬ nI 0 = (1 : Int32) by decide), fl_J74 g2, if_pos hc, sgS_f]
          exact ⟨_, rfl, MLr.f g3.mf g2⟩
        · rw [if_neg (show ¬ (3 : Int32) ≤ nI (D 0) from nI_ge (b := 3) (by omega) (by omega))]
          unfold f_X10_readLine_62_J52 f_X10_readLine_62_J69
          rw [bnd (m_needs1 _ μ), if_neg (show ¬ nI 0 = (1 : Int32) by decide)]
          refine m_J74 (i := 0) hO h (MFr.rf μ) (fun ho => ?_) (fun ν ho g1 g2 => m_sisterL (by omega) ho g1 g2)
          unfold sisterS
          rw [if_neg hc, if_pos ho, sgS_f]
      · rw [if_neg (show ¬ (1 : Nat) = 0 by omega), if_pos (show (1 : Nat) = 1 from rfl)]
        unfold f_X10_readLine_62_J30 f_X10_readLine_62_J47 f_X10_readLine_62_J52 f_X10_readLine_62_J69
        rw [bnd (m_needs1 _ μ), if_neg (show ¬ nI 1 = 0 by decide), bnd (m_needs1 _ μ), if_pos (show nI 1 = (1 : Int32) from rfl), h.2.1.2.2.1]
        have hw2 := hD.2.2.1
        by_cases hc : D 2 = 1
        · obtain ⟨ν, g1, g2, g3⟩ := m_needs0 (f := 4) e24 e21 (by omega) (by omega)
          have g1 : f_X10_needs_62 0 4 μ = some ν := g1
          rw [if_neg (show ¬ nI (D 2) = 0 by rw [hc]; decide)]
          unfold f_X10_readLine_62_J74 quartersS
          rw [bnd g1, bnd (fl_next g2), g2.2.2.1, if_neg (nI_nle (by omega) (by omega)), if_pos hc, sgS_f]
          exact ⟨_, rfl, MLr.f g3.mf g2⟩
        · rw [if_pos (show nI (D 2) = 0 by rw [show D 2 = 0 by omega]; rfl)]
          refine m_J74 (i := 1) hO h (MFr.rf μ) (fun ho => ?_) (fun ν ho g1 g2 => m_quartersL hD.1 hc g1 g2)
          unfold quartersS
          rw [if_neg hc, nbS_1 ho, sgS_f]
      · rw [if_neg (show ¬ (2 : Nat) = 0 by omega), if_neg (show ¬ (2 : Nat) = 1 by omega), if_pos (show (2 : Nat) = 2 from rfl), hplain 2 (by omega) (by omega)]
        refine m_J74 (i := 2) hO h (MFr.rf μ) (fun ho => ?_) (fun ν ho g1 g2 => m_needL hD g1 g2)
        unfold needS
        rw [nbS_1 ho, sgS_f]
      · rw [if_neg (show ¬ (3 : Nat) = 0 by omega), if_neg (show ¬ (3 : Nat) = 1 by omega), if_neg (show ¬ (3 : Nat) = 2 by omega), if_pos (show (3 : Nat) = 3 from rfl), hplain 3 (by omega) (by omega)]
        refine m_J74 (i := 3) hO h (MFr.rf μ) (fun ho => ?_) (fun ν ho g1 g2 => m_stormL hD g1 g2)
        unfold stormS
        rw [nbS_1 ho, sgS_f]
      · rw [if_neg (show ¬ (4 : Nat) = 0 by omega), if_neg (show ¬ (4 : Nat) = 1 by omega), if_neg (show ¬ (4 : Nat) = 2 by omega), if_neg (show ¬ (4 : Nat) = 3 by omega), if_pos (show (4 : Nat) = 4 from rfl), hplain 4 (by omega) (by omega)]
        refine m_J74 (i := 4) hO h (MFr.rf μ) (fun ho => ?_) (fun ν ho g1 g2 => m_watchL hD g1 g2)
        unfold watchS
        rw [nbS_1 ho, sgS_f]
      · rw [if_neg (show ¬ (5 : Nat) = 0 by omega), if_neg (show ¬ (5 : Nat) = 1 by omega), if_neg (show ¬ (5 : Nat) = 2 by omega), if_neg (show ¬ (5 : Nat) = 3 by omega), if_neg (show ¬ (5 : Nat) = 4 by omega), if_pos (show (5 : Nat) = 5 from rfl), hplain 5 (by omega) (by omega)]
        refine m_J74 (i := 5) hO h (MFr.rf μ) (fun ho => ?_) (fun ν ho g1 g2 => m_bedL hD g1 g2)
        unfold bedS
        rw [nbS_1 ho, sgS_f]
  · rw [if_neg (show ¬ nI (tK T t p) = (1 : Int32) from fun hh => hK ((nI_eq (b := 1) (by omega) (by omega)).mp hh)), if_pos hK]
    unfold f_X10_readLine_62_J17
    rw [if_pos (show (-4 : Int32) = -4 from rfl)]
    exact hbad
