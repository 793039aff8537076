/-! PURE: lines of a text, as the class reads them -/
def ud (D : Nat → Nat) (i v : Nat) : Nat → Nat := fun j => if j = i then v else D j
theorem ud_s {D : Nat → Nat} {i v : Nat} : ud D i v i = v := if_pos rfl
theorem ud_n {D : Nat → Nat} {i v j : Nat} (h : j ≠ i) : ud D i v j = D j := if_neg h
/-- what was told: in the reader's own house and post -/
def CRd (D : Nat → Nat) (μ : Mem) : Prop := μ.1 37 0 = nI (D 0) ∧ μ.1 37 1 = nI (D 1) ∧ μ.1 35 11 = nI (D 2) ∧ μ.1 35 12 = nI (D 3) ∧ μ.1 35 13 = nI (D 4) ∧ μ.1 35 14 = nI (D 5) ∧ (∀ s, s < 3 → μ.1 38 s = nI (D (10 + s))) ∧ (∀ e, e < 6 → μ.1 39 e = nI (D (20 + e))) ∧ (∀ s, s < 3 → μ.1 41 s = nI (D (30 + s))) ∧ (∀ e, e < 6 → μ.1 42 e = if e % 2 = 0 ∧ D (10 + e / 2) = 1 then 0 else nI (D (40 + e))) ∧ (∀ d, d < 4 → μ.1 43 d = nI (D (50 + d))) ∧ (∀ q, q < 6 → μ.1 44 q = nI (D (60 + q))) ∧ (∀ q, q < 6 → μ.1 45 q = nI (D (70 + q)))
def CFr (μ ν : Mem) : Prop := ∀ q k, ¬ (37 ≤ q ∧ q ≤ 45 ∧ q ≠ 40) → ¬ (q = 35 ∧ k ≠ 1 ∧ k ≠ 4) → ν.1 q k = μ.1 q k
theorem CFr.rf (μ : Mem) : CFr μ μ := fun _ _ _ _ => rfl
theorem CFr.tr {a b c : Mem} (h : CFr a b) (k : CFr b c) : CFr a c := fun q j h1 h2 => (k q j h1 h2).trans (h q j h1 h2)
theorem CFr.w {μ ν : Mem} {p k : Nat} {v : Int32} (h : CFr μ ν) (hp : (37 ≤ p ∧ p ≤ 45 ∧ p ≠ 40) ∨ (p = 35 ∧ k ≠ 1 ∧ k ≠ 4)) : CFr μ (pI ν p k v) := by
  intro q j h1 h2
  rw [← h q j h1 h2]
  by_cases hq : q = p
  · subst hq
    exact rd_i (by omega)
  · exact rd_p hq
theorem nxF.cf {μ ν : Mem} (h : nxF μ ν) : CFr μ ν := fun q k _ h2 => h q k (by omega)
theorem TPc.cf {T : Nat} {t : Nat → Nat} {μ ν : Mem} (h : TPc T t μ) (hs : CFr μ ν) : TPc T t ν := ⟨h.1, by rw [hs 35 1 (by omega) (by omega)]; exact h.2.1, fun i hi => by rw [hs 36 i (by omega) (by omega)]; exact h.2.2 i hi⟩
theorem CRd.nx {D : Nat → Nat} {μ ν : Mem} (h : CRd D μ) (hs : nxF μ ν) : CRd D ν := by
  unfold CRd at h ⊢
  rw [hs 37 0 (by omega), hs 37 1 (by omega), hs 35 11 (by omega), hs 35 12 (by omega), hs 35 13 (by omega), hs 35 14 (by omega)]
  simp (disch := omega) only [hs 38 _ (by omega), hs 39 _ (by omega), hs 41 _ (by omega), hs 42 _ (by omega), hs 43 _ (by omega), hs 44 _ (by omega), hs 45 _ (by omega)]
  exact h
def CS (T : Nat) (t : Nat → Nat) (D : Nat → Nat) (p : Nat) (μ : Mem) : Prop := TPc T t μ ∧ CRd D μ ∧ μ.1 35 10 = nI p ∧ p ≤ T ∧ μ.1 35 2 = 0
def XT : Type := Sum (Nat × Nat) ((Nat → Nat) × Nat)
def xf (f w : Nat) : XT := Sum.inl (f, w)
def xd (D : Nat → Nat) (p : Nat) : XT := Sum.inr (D, p)
theorem xf_inj {f w f' w' : Nat} (h : xf f w = xf f' w') : f = f' ∧ w = w' := by
  injection h with h
  injection h with h1 h2
  exact ⟨h1, h2⟩
theorem xd_inj {D D' : Nat → Nat} {p p' : Nat} (h : xd D p = xd D' p') : D = D' ∧ p = p' := by
  injection h with h
  injection h with h1 h2
  exact ⟨h1, h2⟩
theorem xf_xd {f w p : Nat} {D : Nat → Nat} (h : xf f w = xd D p) : False := by
  cases h
/-- the end of a piece of the class's reading -/
def CLr (T : Nat) (t : Nat → Nat) (X : XT) (μ0 : Mem) (r : Int32 × Mem) : Prop := CFr μ0 r.2 ∧ (∀ f w, X = xf f w → r.1 = 0 ∧ r.2.1 35 2 = nI f ∧ r.2.1 35 3 = nI w) ∧ (∀ D p, X = xd D p → r.1 = 1 ∧ CS T t D p r.2)
theorem CLr.f {T : Nat} {t : Nat → Nat} {f w : Nat} {μ0 : Mem} {r : Int32 × Mem} (h0 : CFr μ0 r.2) (h1 : r.1 = 0) (h2 : r.2.1 35 2 = nI f) (h3 : r.2.1 35 3 = nI w) : CLr T t (xf f w) μ0 r := ⟨h0, fun f' w' h => by
  obtain ⟨rfl, rfl⟩ := xf_inj h
  exact ⟨h1, h2, h3⟩, fun D p h => (xf_xd h).elim⟩
theorem CLr.d {T : Nat} {t : Nat → Nat} {D : Nat → Nat} {p : Nat} {μ0 : Mem} {r : Int32 × Mem} (h0 : CFr μ0 r.2) (h1 : r.1 = 1) (h2 : CS T t D p r.2) : CLr T t (xd D p) μ0 r := ⟨h0, fun f w h => (xf_xd h.symm).elim, fun D' p' h => by
  obtain ⟨rfl, rfl⟩ := xd_inj h
  exact ⟨h1, h2⟩⟩
def nbS (T : Nat) (t : Nat → Nat) (p lo hi : Nat) (k : Nat → Nat → XT) : XT := if tO T t p = false then xf 1 (tA T t p) else if tK T t p ≠ 2 then xf 2 (tA T t p) else if tV T t p < lo ∨ hi < tV T t p then xf 3 (tA T t p) else k (tV T t p) (tE T t p)
theorem refuse_ok (a b : Int32) (μ : Mem) : f_X5_refuse_35 a b μ = some (0, pI (pI μ 35 2 a) 35 3 b) := rfl
/-- a refusal -/
theorem p_ref {T : Nat} {t : Nat → Nat} {f w : Nat} {μ0 μ : Mem} (h : CFr μ0 μ) (hw : μ.1 35 8 = nI w) : ∃ r, ((f_X5_refuse_35 (nI f) (μ.1 35 8) μ).bind fun q => if zb q.1 = false then none else some (q.1, q.2)) = some r ∧ CLr T t (xf f w) μ0 r := by
  rw [hw, bnd (refuse_ok (nI f) (nI w) μ)]
  refine ⟨_, rfl, CLr.f ((h.w (by omega)).w (by omega)) rfl ?_ rd_s⟩
  show (pI (pI μ 35 2 (nI f)) 35 3 (nI w)).1 35 2 = nI f
  rw [pI_35 (by omega), rd_s]
theorem tV_le {T p : Nat} {t : Nat → Nat} (hp : p ≤ T) (hO : tO T t p = true) (hK : tK T t p = 2) : tV T t p ≤ 99 := by
  have hgt := tE_gt (t := t) hp (by rw [hK]; omega)
  have hle := tE_le (t := t) hp
  have h2 : tE T t p - tA T t p ≤ 2 := by
    unfold tO at hO
    rw [hK] at hO
    by_cases hh : 2 < tE T t p - tA T t p
    · rw [decide_eq_true hh] at hO
      exact absurd hO (by decide)
    · omega
  have c1 : ¬ T ≤ tA T t p := by omega
  have c2 : ¬ ltB (t (tA T t p)) = true := fun h => by
    unfold tK at hK
    rw [if_neg c1, if_pos h] at hK
    omega
  have c3 : fgB (t (tA T t p)) = true := by
    cases h : fgB (t (tA T t p)) with
    | true => rfl
    | false =>
      unfold tK at hK
      rw [if_neg c1, if_neg c2, h, if_neg (by decide)] at hK
      split at hK <;> omega
  have hE : tE T t p = sc fgB T t (tA T t p) := by unfold tE; rw [if_neg c1, if_neg c2, if_pos c3]
  have h57 := (fgB_rng c3).2
  unfold tV
  by_cases hl : tE T t p - tA T t p = 2
  · have h1 := (scn_in (P := fgB) (T := T) (t := t) (T + 1) (tA T t p) (tA T t p + 1) (by omega) (show tA T t p + 1 < sc fgB T t (tA T t p) by rw [← hE]; omega)).2
    exact vlB_le h57 (fgB_rng h1).2 _
  · unfold vlB
    rw [show tE T t p - tA T t p = 1 by omega, if_neg (by omega), if_pos rfl]
    omega
theorem p_numK {T : Nat} {t D : Nat → Nat} {lo hi p : Nat} {K : Nat → Nat → XT} {G : Mem → Option (Int32 × Mem)} {μ0 μ : Mem} (h : CS T t D p μ) (hF : CFr μ0 μ) (hlo : lo ≤ 100) (hhi : hi ≤ 100) (hG : ∀ ν, CS T t D (tE T t p) ν → CFr μ0 ν → nxF μ ν → ν.1 35 9 = nI (tV T t p) → ν.1 35 8 = nI (tA T t p) → lo ≤ tV T t p → tV T t p ≤ hi → ∃ r, G ν = some r ∧ CLr T t (K (tV T t p) (tE T t p)) μ0 r) : ∃ r, ((f_X5_number_35 (nI lo) (nI hi) μ).bind fun q => if q.1 = 0 then some ((0 : Int32), q.2) else G q.2) = some r ∧ CLr T t (nbS T t p lo hi K) μ0 r := by
  obtain ⟨h1, h2, h3, h4, h5⟩ := h
  obtain ⟨ν, n1, n2, n3, n4⟩ := p_next h1 h4 h3
  have hle := tE_le (t := t) h4
  have hFν := hF.tr n2.cf
  have hnum : f_X5_number_35 (nI lo) (nI hi) μ = if tO T t p = false then some (0, ν) else if tK T t p ≠ 2 then some (0, pI (pI ν 35 2 2) 35 3 (nI (tA T t p))) else if tV T t p < lo ∨ hi < tV T t p then some (0, pI (pI ν 35 2 3) 35 3 (nI (tA T t p))) else some (1, ν) := by
    unfold f_X5_number_35
    rw [bnd n1]
    dsimp only
    cases hO : tO T t p with
    | false => rw [if_pos (show b2i false = 0 from rfl), if_pos (show false = false from rfl)]
    | true =>
      obtain ⟨e2, e3, e7, e8, e10, e9⟩ := n3 hO
      rw [if_neg (show ¬ b2i true = 0 by decide), if_neg (show ¬ true = false by decide), e7, e8]
      have hk4 := tK_le T t p
      by_cases hK : tK T t p = 2
      · have e9 := e9 hK
        have hV := tV_le h4 hO hK
        rw [if_pos (show nI (tK T t p) = (2 : Int32) by rw [hK]; rfl), if_neg (show ¬ tK T t p ≠ 2 from fun hh => hh hK), e9]
        unfold f_X5_number_35_J43
        rw [e8]
        by_cases hc1 : tV T t p < lo
        · rw [if_pos (nI_lt hc1 (by omega)), if_pos (Or.inl hc1)]
          rfl
        · rw [if_neg (nI_nlt (by omega) (by omega))]
          by_cases hc2 : hi < tV T t p
          · rw [if_neg (nI_ge hc2 (by omega)), if_pos (Or.inr hc2)]
            rfl
          · rw [if_pos (nI_le (by omega) (by omega)), if_neg (by omega)]
      · rw [if_neg (show ¬ nI (tK T t p) = (2 : Int32) from fun hh => hK ((nI_eq (b := 2) (by omega) (by omega)).mp hh)), if_pos hK]
        rfl
  rw [hnum]
  unfold nbS
  cases hO : tO T t p with
  | false =>
    obtain ⟨e1, e2⟩ := n4 hO
    rw [if_pos (show false = false from rfl), if_pos (show false = false from rfl)]
    exact ⟨_, rfl, CLr.f hFν rfl e1 e2⟩
  | true =>
    obtain ⟨e2, e3, e7, e8, e10, e9⟩ := n3 hO
    rw [if_neg (show ¬ true = false by decide), if_neg (show ¬ true = false by decide)]
    by_cases hK : tK T t p = 2
    · rw [if_neg (show ¬ tK T t p ≠ 2 from fun hh => hh hK), if_neg (show ¬ tK T t p ≠ 2 from fun hh => hh hK)]
      by_cases hc : tV T t p < lo ∨ hi < tV T t p
      · rw [if_pos hc, if_pos hc]
        refine ⟨_, rfl, CLr.f ((hFν.w (by omega)).w (by omega)) rfl ?_ rd_s⟩
        show (pI (pI ν 35 2 3) 35 3 (nI (tA T t p))).1 35 2 = nI 3
        rw [pI_35 (by omega), rd_s]
        rfl
      · rw [if_neg hc, if_neg hc]
        exact hG ν ⟨h1.fr n2, h2.nx n2, e10, hle.2, by rw [e2]; exact h5⟩ hFν n2 (e9 hK) e8 (by omega) (by omega)
    · rw [if_pos hK, if_pos hK]
      refine ⟨_, rfl, CLr.f ((hFν.w (by omega)).w (by omega)) rfl ?_ rd_s⟩
      show (pI (pI ν 35 2 2) 35 3 (nI (tA T t p))).1 35 2 = nI 2
      rw [pI_35 (by omega), rd_s]
      rfl
/-- numbers told are within their bounds, and what follows of them -/
def blN (v : Nat) : Nat := if 32 ≤ v then 6 else if 16 ≤ v then 5 else if 8 ≤ v then 4 else if 4 ≤ v then 3 else if 2 ≤ v then 2 else if 1 ≤ v then 1 else 0
def qmB (D : Nat → Nat) (q : Nat) : Bool := decide (D (60 + q) ≠ 0) || bt (D 4) q
def DW (D : Nat → Nat) : Prop := D 0 ≤ 3 ∧ (1 ≤ D 1 ∧ D 1 ≤ 6) ∧ D 2 < 2 ∧ D 3 < 16 ∧ D 4 < 64 ∧ D 5 < 8 ∧ D 6 = blN (D 5) ∧ D 7 = blN (mk6 (qmB D)) ∧ (∀ s, s < 3 → D (10 + s) < 4 ∧ D (30 + s) < 4) ∧ (∀ e, e < 6 → D (20 + e) < 16 ∧ D (40 + e) < 10 ∧ (2 * D 0 ≤ e → D (40 + e) = 0)) ∧ (∀ d, d < 4 → D (50 + d) < 7) ∧ (∀ q, q < 6 → D (60 + q) < 16 ∧ D (70 + q) < 27)
theorem or_bit : ∀ v, v < 64 → ∀ d, d < 6 → ((nI v >>> (nI d &&& 31)) &&& 1 = 1 ↔ v / 2 ^ d % 2 = 1) ∧ (v / 2 ^ d % 2 ≠ 1 → (nI v ||| ((1 : Int32) <<< (nI d &&& 31))) = nI (v + 2 ^ d)) := by decide +kernel
def needS (T : Nat) (t D : Nat → Nat) (p : Nat) : XT := nbS T t p 0 3 fun d e => if D 3 / 2 ^ d % 2 = 1 then xf 4 (tA T t p) else nbS T t e 0 6 fun v e2 => xd (ud (ud D 3 (D 3 + 2 ^ d)) (50 + d) v) e2
def quartersS (T : Nat) (t D : Nat → Nat) (p a : Nat) : XT := if D 2 = 1 then xf 4 a else nbS T t p 1 6 fun v e => xd (ud (ud D 2 1) 1 v) e
def stormS (T : Nat) (t D : Nat → Nat) (p : Nat) : XT := nbS T t p 0 5 fun q e => nbS T t e 0 3 fun d e2 => if D (60 + q) / 2 ^ d % 2 = 1 then xf 4 (tA T t e) else xd (ud (ud D (60 + q) (D (60 + q) + 2 ^ d)) 7 (max (D 7) (q + 1))) e2
def watchS (T : Nat) (t D : Nat → Nat) (p : Nat) : XT := nbS T t p 0 5 fun q e => if D 4 / 2 ^ q % 2 = 1 then xf 4 (tA T t p) else nbS T t e 0 26 fun v e2 => xd (ud (ud (ud D 4 (D 4 + 2 ^ q)) 7 (max (D 7) (q + 1))) (70 + q) v) e2
def bedS (T : Nat) (t D : Nat → Nat) (p : Nat) : XT := nbS T t p 0 2 fun s e => if D 5 / 2 ^ s % 2 = 1 then xf 4 (tA T t p) else nbS T t e 0 3 fun f e2 => xd (ud (ud (ud D 5 (D 5 + 2 ^ s)) 6 (max (D 6) (s + 1))) (30 + s) f) e2
def sisD (D : Nat → Nat) (k s0 s1 t0 t1 : Nat) : Nat → Nat := ud (ud (ud (ud (ud (ud D (10 + D 0) k) (20 + 2 * D 0) s0) (21 + 2 * D 0) s1) (40 + 2 * D 0) t0) (41 + 2 * D 0) t1) 0 (D 0 + 1)
def sisterS (T : Nat) (t D : Nat → Nat) (p a : Nat) : XT := if 3 ≤ D 0 then xf 5 a else if tO T t p = false then xf 1 (tA T t p) else if tK T t p ≠ 1 then xf 2 (tA T t p) else if knB t (tA T t p) (tE T t p) = 4 then xf 2 (tA T t p) else nbS T t (tE T t p) 0 15 fun s0 e => nbS T t e 0 15 fun s1 e => nbS T t e 0 9 fun t0 e => nbS T t e 0 9 fun t1 e => xd (sisD D (knB t (tA T t p) (tE T t p)) s0 s1 t0 t1) e
theorem CS.cr {T : Nat} {t D D' : Nat → Nat} {p : Nat} {μ ν : Mem} (h : CS T t D p μ) (hF : CFr μ ν) (h10 : ν.1 35 10 = μ.1 35 10) (h2 : ν.1 35 2 = μ.1 35 2) (hR : CRd D' ν) : CS T t D' p ν := ⟨h.1.cf hF, hR, by rw [h10]; exact h.2.2.1, h.2.2.2.1, by rw [h2]; exact h.2.2.2.2⟩
theorem p_need {T : Nat} {t D : Nat → Nat} {p : Nat} {μ0 μ : Mem} (hD : DW D) (h : CS T t D p μ) (hF : CFr μ0 μ) : ∃ r, f_X5_needLine_35 μ = some r ∧ CLr T t (needS T t D p) μ0 r := by
  unfold f_X5_needLine_35 needS
  refine p_numK (lo := 0) (hi := 3) (G := fun ν => if (((ν.1 35 12) >>> ((ν.1 35 9) &&& 31)) &&& (1 : Int32)) = (1 : Int32) then (f_X5_refuse_35 (4 : Int32) (ν.1 35 8) ν).bind fun q4 => if zb q4.1 = false then none else some (q4.1, q4.2) else (f_X5_number_35 (0 : Int32) (6 : Int32) ν).bind fun q6 => if q6.1 = 0 then some ((0 : Int32), q6.2) else if inb (ν.1 35 9) 4 = false then none else some ((1 : Int32), (pI (pI q6.2 35 12 ((q6.2.1 35 12) ||| ((1 : Int32) <<< ((ν.1 35 9) &&& 31)))) 43 ((ν.1 35 9).toNatClampNeg) (q6.2.1 35 9)))) h hF (by omega) (by omega) (fun ν g1 g2 g3 g9 g8 glo ghi => ?_)
  obtain ⟨b1, b2⟩ := or_bit (D 3) (by have := hD.2.2.2.1; omega) (tV T t p) (by omega)
  show ∃ r, (if (((ν.1 35 12) >>> ((ν.1 35 9) &&& 31)) &&& (1 : Int32)) = (1 : Int32) then _ else _) = some r ∧ _
  rw [g1.2.1.2.2.2.1, g9]
  by_cases hb : D 3 / 2 ^ tV T t p % 2 = 1
  · rw [if_pos (b1.mpr hb), if_pos hb]
    exact p_ref (f := 4) g2 g8
  · rw [if_neg (fun hh => hb (b1.mp hh)), if_neg hb]
    refine p_numK (lo := 0) (hi := 6) (G := fun ξ => if inb (nI (tV T t p)) 4 = false then none else some ((1 : Int32), (pI (pI ξ 35 12 ((ξ.1 35 12) ||| ((1 : Int32) <<< ((nI (tV T t p)) &&& 31)))) 43 ((nI (tV T t p)).toNatClampNeg) (ξ.1 35 9)))) g1 g2 (by omega) (by omega) (fun ξ k1 k2 k3 k9 k8 klo khi => ?_)
    show ∃ r, (if inb (nI (tV T t p)) 4 = false then none else _) = some r ∧ _
    rw [inb_nI (by omega) (by omega), if_neg (show ¬ (true = false) by decide), nI_clamp (by omega), k9, k1.2.1.2.2.2.1, b2 hb]
    have hF2 : CFr ξ (pI (pI ξ 35 12 (nI (D 3 + 2 ^ tV T t p))) 43 (tV T t p) (nI (tV T t (tE T t p)))) := ((CFr.rf ξ).w (by omega)).w (by omega)
    refine ⟨_, rfl, CLr.d (k2.tr hF2) rfl (k1.cr hF2 (by rw [rd_p (by omega), pI_35 (by omega)]) (by rw [rd_p (by omega), pI_35 (by omega)]) ?_)⟩
    obtain ⟨c0, c1, c2, c3, c4, c5, c6, c7, c8, c9, c10, c11, c12⟩ := k1.2.1
    refine ⟨?_, ?_, ?_, ?_, ?_, ?_, fun s hs => ?_, fun s hs => ?_, fun s hs => ?_, fun s hs => ?_, fun s hs => ?_, fun s hs => ?_, fun s hs => ?_⟩
    · simp (disch := omega) only [rd_p, rd_i, ud_n]; exact c0
    · simp (disch := omega) only [rd_p, rd_i, ud_n]; exact c1
    · simp (disch := omega) only [rd_p, rd_i, ud_n]; exact c2
    · simp (disch := omega) only [rd_p, rd_s, ud_n, ud_s]
    · simp (disch := omega) only [rd_p, rd_i, ud_n]; exact c4
    · simp (disch := omega) only [rd_p, rd_i, ud_n]; exact c5
    · simp (disch := omega) only [rd_p, rd_i, ud_n]; exact c6 s hs
    · simp (disch := omega) only [rd_p, rd_i, ud_n]; exact c7 s hs
    · simp (disch := omega) only [rd_p, rd_i, ud_n]; exact c8 s hs
    · simp (disch := omega) only [rd_p, rd_i, ud_n]; exact c9 s hs
    · by_cases hsd : s = tV T t p
      · subst hsd
        rw [rd_s, ud_s]
      · rw [rd_i hsd, rd_p (by omega), ud_n (by omega), ud_n (by omega)]; exact c10 s hs
    · simp (disch := omega) only [rd_p, rd_i, ud_n]; exact c11 s hs
    · simp (disch := omega) only [rd_p, rd_i, ud_n]; exact c12 s hs
theorem p_quarters {T : Nat} {t D : Nat → Nat} {p a : Nat} {μ0 μ : Mem} (hD : DW D) (h : CS T t D p μ) (hF : CFr μ0 μ) (h8 : μ.1 35 8 = nI a) : ∃ r, f_X5_quartersLine_35 μ = some r ∧ CLr T t (quartersS T t D p a) μ0 r := by
  unfold f_X5_quartersLine_35 quartersS
  rw [h.2.1.2.2.1]
  have hD2 := hD.2.2.1
  by_cases h0 : D 2 = 1
  · rw [if_pos h0, if_neg (show ¬ nI (D 2) = 0 by rw [h0]; decide)]
    exact p_ref (f := 4) hF h8
  · rw [if_neg h0, if_pos (show nI (D 2) = 0 by rw [show D 2 = 0 by omega]; rfl)]
    refine p_numK (lo := 1) (hi := 6) (G := fun ξ => some ((1 : Int32), (pI (pI ξ 35 11 (1 : Int32)) 37 1 (ξ.1 35 9)))) h hF (by omega) (by omega) (fun ξ k1 k2 k3 k9 k8 klo khi => ?_)
    show ∃ r, some ((1 : Int32), (pI (pI ξ 35 11 (1 : Int32)) 37 1 (ξ.1 35 9))) = some r ∧ _
    rw [k9]
    have hF2 : CFr ξ (pI (pI ξ 35 11 1) 37 1 (nI (tV T t p))) := ((CFr.rf ξ).w (by omega)).w (by omega)
    refine ⟨_, rfl, CLr.d (k2.tr hF2) rfl (k1.cr hF2 (by rw [rd_p (by omega), pI_35 (by omega)]) (by rw [rd_p (by omega), pI_35 (by omega)]) ?_)⟩
    obtain ⟨c0, c1, c2, c3, c4, c5, c6, c7, c8, c9, c10, c11, c12⟩ := k1.2.1
    refine ⟨?_, ?_, ?_, ?_, ?_, ?_, fun s hs => ?_, fun s hs => ?_, fun s hs => ?_, fun s hs => ?_, fun s hs => ?_, fun s hs => ?_, fun s hs => ?_⟩
    · simp (disch := omega) only [rd_p, rd_i, ud_n]; exact c0
    · rw [rd_s, ud_s]
    · simp (disch := omega) only [rd_p, rd_s, ud_n, ud_s]; rfl
    · simp (disch := omega) only [rd_p, rd_i, ud_n]; exact c3
    · simp (disch := omega) only [rd_p, rd_i, ud_n]; exact c4
    · simp (disch := omega) only [rd_p, rd_i, ud_n]; exact c5
    · simp (disch := omega) only [rd_p, rd_i, ud_n]; exact c6 s hs
    · simp (disch := omega) only [rd_p, rd_i, ud_n]; exact c7 s hs
    · simp (disch := omega) only [rd_p, rd_i, ud_n]; exact c8 s hs
    · simp (disch := omega) only [rd_p, rd_i, ud_n]; exact c9 s hs
    · simp (disch := omega) only [rd_p, rd_i, ud_n]; exact c10 s hs
    · simp (disch := omega) only [rd_p, rd_i, ud_n]; exact c11 s hs
    · simp (disch := omega) only [rd_p, rd_i, ud_n]; exact c12 s hs
theorem p_storm {T : Nat} {t D : Nat → Nat} {p : Nat} {μ0 μ : Mem} (hD : DW D) (h : CS T t D p μ) (hF : CFr μ0 μ) : ∃ r, f_X5_stormLine_35 μ = some r ∧ CLr T t (stormS T t D p) μ0 r := by
  unfold f_X5_stormLine_35 stormS
  refine p_numK (lo := 0) (hi := 5) (G := fun ν => (f_X5_number_35 (0 : Int32) (3 : Int32) ν).bind fun q3 => if q3.1 = 0 then some ((0 : Int32), q3.2) else if inb (ν.1 35 9) 6 = false then none else if (((q3.2.1 44 ((ν.1 35 9).toNatClampNeg)) >>> ((q3.2.1 35 9) &&& 31)) &&& (1 : Int32)) = (1 : Int32) then (f_X5_refuse_35 (4 : Int32) (q3.2.1 35 8) q3.2).bind fun q7 => if zb q7.1 = false then none else some (q7.1, q7.2) else if inb (ν.1 35 9) 6 = false then none else if inb (ν.1 35 9) 6 = false then none else some ((1 : Int32), (pI q3.2 44 ((ν.1 35 9).toNatClampNeg) ((q3.2.1 44 ((ν.1 35 9).toNatClampNeg)) ||| ((1 : Int32) <<< ((q3.2.1 35 9) &&& 31)))))) h hF (by omega) (by omega) (fun ν g1 g2 g3 g9 g8 glo ghi => ?_)
  show ∃ r, ((f_X5_number_35 (0 : Int32) (3 : Int32) ν).bind fun q3 => if q3.1 = 0 then some ((0 : Int32), q3.2) else _) = some r ∧ _
  rw [g9, inb_nI (by omega) (by omega), nI_clamp (by omega)]
  refine p_numK (lo := 0) (hi := 3) (G := fun ξ => if true = false then none else if (((ξ.1 44 (tV T t p)) >>> ((ξ.1 35 9) &&& 31)) &&& (1 : Int32)) = (1 : Int32) then (f_X5_refuse_35 (4 : Int32) (ξ.1 35 8) ξ).bind fun q7 => if zb q7.1 = false then none else some (q7.1, q7.2) else if true = false then none else if true = false then none else some ((1 : Int32), (pI ξ 44 (tV T t p) ((ξ.1 44 (tV T t p)) ||| ((1 : Int32) <<< ((ξ.1 35 9) &&& 31)))))) g1 g2 (by omega) (by omega) (fun ξ k1 k2 k3 k9 k8 klo khi => ?_)
  have c11 := k1.2.1.2.2.2.2.2.2.2.2.2.2.2.1 (tV T t p) (by omega)
  obtain ⟨b1, b2⟩ := or_bit (D (60 + tV T t p)) (by have := (hD.2.2.2.2.2.2.2.2.2.2.2 (tV T t p) (by omega)).1; omega) (tV T t (tE T t p)) (by omega)
  show ∃ r, (if true = false then none else if (((ξ.1 44 (tV T t p)) >>> ((ξ.1 35 9) &&& 31)) &&& (1 : Int32)) = (1 : Int32) then _ else _) = some r ∧ _
  rw [if_neg (show ¬ (true = false) by decide), k9, c11]
  by_cases hb : D (60 + tV T t p) / 2 ^ tV T t (tE T t p) % 2 = 1
  · rw [if_pos (b1.mpr hb), if_pos hb]
    exact p_ref (f := 4) k2 k8
  · rw [if_neg (fun hh => hb (b1.mp hh)), if_neg hb, if_neg (show ¬ (true = false) by decide), if_neg (show ¬ (true = false) by decide), b2 hb]
    have hF2 : CFr ξ (pI ξ 44 (tV T t p) (nI (D (60 + tV T t p) + 2 ^ tV T t (tE T t p)))) := (CFr.rf ξ).w (by omega)
    refine ⟨_, rfl, CLr.d (k2.tr hF2) rfl (k1.cr hF2 (by rw [rd_p (by omega)]) (by rw [rd_p (by omega)]) ?_)⟩
    obtain ⟨c0, c1, c2, c3, c4, c5, c6, c7, c8, c9, c10, c11, c12⟩ := k1.2.1
    refine ⟨?_, ?_, ?_, ?_, ?_, ?_, fun s hs => ?_, fun s hs => ?_, fun s hs => ?_, fun s hs => ?_, fun s hs => ?_, fun s hs => ?_, fun s hs => ?_⟩
    · simp (disch := omega) only [rd_p, rd_i, ud_n]; exact c0
    · simp (disch := omega) only [rd_p, rd_i, ud_n]; exact c1
    · simp (disch := omega) only [rd_p, rd_i, ud_n]; exact c2
    · simp (disch := omega) only [rd_p, rd_i, ud_n]; exact c3
    · simp (disch := omega) only [rd_p, rd_i, ud_n]; exact c4
    · simp (disch := omega) only [rd_p, rd_i, ud_n]; exact c5
    · simp (disch := omega) only [rd_p, rd_i, ud_n]; exact c6 s hs
    · simp (disch := omega) only [rd_p, rd_i, ud_n]; exact c7 s hs
    · simp (disch := omega) only [rd_p, rd_i, ud_n]; exact c8 s hs
    · simp (disch := omega) only [rd_p, rd_i, ud_n]; exact c9 s hs
    · simp (disch := omega) only [rd_p, rd_i, ud_n]; exact c10 s hs
    · by_cases hsd : s = tV T t p
      · subst hsd
        rw [rd_s, ud_n (by omega), ud_s]
      · rw [rd_i hsd, ud_n (by omega), ud_n (by omega)]; exact c11 s hs
    · simp (disch := omega) only [rd_p, rd_i, ud_n]; exact c12 s hs
theorem p_watchL {T : Nat} {t D : Nat → Nat} {p : Nat} {μ0 μ : Mem} (hD : DW D) (h : CS T t D p μ) (hF : CFr μ0 μ) : ∃ r, f_X5_watchLine_35 μ = some r ∧ CLr T t (watchS T t D p) μ0 r := by
  unfold f_X5_watchLine_35 watchS
  refine p_numK (lo := 0) (hi := 5) (G := fun ν => if (((ν.1 35 13) >>> ((ν.1 35 9) &&& 31)) &&& (1 : Int32)) = (1 : Int32) then (f_X5_refuse_35 (4 : Int32) (ν.1 35 8) ν).bind fun q4 => if zb q4.1 = false then none else some (q4.1, q4.2) else (f_X5_number_35 (0 : Int32) (26 : Int32) ν).bind fun q6 => if q6.1 = 0 then some ((0 : Int32), q6.2) else if inb (ν.1 35 9) 6 = false then none else some ((1 : Int32), (pI (pI q6.2 35 13 ((q6.2.1 35 13) ||| ((1 : Int32) <<< ((ν.1 35 9) &&& 31)))) 45 ((ν.1 35 9).toNatClampNeg) (q6.2.1 35 9)))) h hF (by omega) (by omega) (fun ν g1 g2 g3 g9 g8 glo ghi => ?_)
  obtain ⟨b1, b2⟩ := or_bit (D 4) hD.2.2.2.2.1 (tV T t p) (by omega)
  show ∃ r, (if (((ν.1 35 13) >>> ((ν.1 35 9) &&& 31)) &&& (1 : Int32)) = (1 : Int32) then _ else _) = some r ∧ _
  rw [g1.2.1.2.2.2.2.1, g9]
  by_cases hb : D 4 / 2 ^ tV T t p % 2 = 1
  · rw [if_pos (b1.mpr hb), if_pos hb]
    exact p_ref (f := 4) g2 g8
  · rw [if_neg (fun hh => hb (b1.mp hh)), if_neg hb]
    refine p_numK (lo := 0) (hi := 26) (G := fun ξ => if inb (nI (tV T t p)) 6 = false then none else some ((1 : Int32), (pI (pI ξ 35 13 ((ξ.1 35 13) ||| ((1 : Int32) <<< ((nI (tV T t p)) &&& 31)))) 45 ((nI (tV T t p)).toNatClampNeg) (ξ.1 35 9)))) g1 g2 (by omega) (by omega) (fun ξ k1 k2 k3 k9 k8 klo khi => ?_)
    show ∃ r, (if inb (nI (tV T t p)) 6 = false then none else _) = some r ∧ _
    rw [inb_nI (by omega) (by omega), if_neg (show ¬ (true = false) by decide), nI_clamp (by omega), k9, k1.2.1.2.2.2.2.1, b2 hb]
    have hF2 : CFr ξ (pI (pI ξ 35 13 (nI (D 4 + 2 ^ tV T t p))) 45 (tV T t p) (nI (tV T t (tE T t p)))) := ((CFr.rf ξ).w (by omega)).w (by omega)
    refine ⟨_, rfl, CLr.d (k2.tr hF2) rfl (k1.cr hF2 (by rw [rd_p (by omega), pI_35 (by omega)]) (by rw [rd_p (by omega), pI_35 (by omega)]) ?_)⟩
    obtain ⟨c0, c1, c2, c3, c4, c5, c6, c7, c8, c9, c10, c11, c12⟩ := k1.2.1
    refine ⟨?_, ?_, ?_, ?_, ?_, ?_, fun s hs => ?_, fun s hs => ?_, fun s hs => ?_, fun s hs => ?_, fun s hs => ?_, fun s hs => ?_, fun s hs => ?_⟩
    · simp (disch := omega) only [rd_p, rd_i, ud_n]; exact c0
    · simp (disch := omega) only [rd_p, rd_i, ud_n]; exact c1
    · simp (disch := omega) only [rd_p, rd_i, ud_n]; exact c2
    · simp (disch := omega) only [rd_p, rd_i, ud_n]; exact c3
    · simp (disch := omega) only [rd_p, rd_s, ud_n, ud_s]
    · simp (disch := omega) only [rd_p, rd_i, ud_n]; exact c5
    · simp (disch := omega) only [rd_p, rd_i, ud_n]; exact c6 s hs
    · simp (disch := omega) only [rd_p, rd_i, ud_n]; exact c7 s hs
    · simp (disch := omega) only [rd_p, rd_i, ud_n]; exact c8 s hs
    · simp (disch := omega) only [rd_p, rd_i, ud_n]; exact c9 s hs
    · simp (disch := omega) only [rd_p, rd_i, ud_n]; exact c10 s hs
    · simp (disch := omega) only [rd_p, rd_i, ud_n]; exact c11 s hs
    · by_cases hsd : s = tV T t p
      · subst hsd
        rw [rd_s, ud_s]
      · rw [rd_i hsd, rd_p (by omega), ud_n (by omega), ud_n (by omega), ud_n (by omega)]; exact c12 s hs
theorem p_bed {T : Nat} {t D : Nat → Nat} {p : Nat} {μ0 μ : Mem} (hD : DW D) (h : CS T t D p μ) (hF : CFr μ0 μ) : ∃ r, f_X5_bedLine_35 μ = some r ∧ CLr T t (bedS T t D p) μ0 r := by
  unfold f_X5_bedLine_35 bedS
  refine p_numK (lo := 0) (hi := 2) (G := fun ν => if (((ν.1 35 14) >>> ((ν.1 35 9) &&& 31)) &&& (1 : Int32)) = (1 : Int32) then (f_X5_refuse_35 (4 : Int32) (ν.1 35 8) ν).bind fun q4 => if zb q4.1 = false then none else some (q4.1, q4.2) else (f_X5_number_35 (0 : Int32) (3 : Int32) ν).bind fun q6 => if q6.1 = 0 then some ((0 : Int32), q6.2) else if inb (ν.1 35 9) 3 = false then none else some ((1 : Int32), (pI (pI q6.2 35 14 ((q6.2.1 35 14) ||| ((1 : Int32) <<< ((ν.1 35 9) &&& 31)))) 41 ((ν.1 35 9).toNatClampNeg) (q6.2.1 35 9)))) h hF (by omega) (by omega) (fun ν g1 g2 g3 g9 g8 glo ghi => ?_)
  obtain ⟨b1, b2⟩ := or_bit (D 5) (by have := hD.2.2.2.2.2.1; omega) (tV T t p) (by omega)
  show ∃ r, (if (((ν.1 35 14) >>> ((ν.1 35 9) &&& 31)) &&& (1 : Int32)) = (1 : Int32) then _ else _) = some r ∧ _
  rw [g1.2.1.2.2.2.2.2.1, g9]
  by_cases hb : D 5 / 2 ^ tV T t p % 2 = 1
  · rw [if_pos (b1.mpr hb), if_pos hb]
    exact p_ref (f := 4) g2 g8
  · rw [if_neg (fun hh => hb (b1.mp hh)), if_neg hb]
    refine p_numK (lo := 0) (hi := 3) (G := fun ξ => if inb (nI (tV T t p)) 3 = false then none else some ((1 : Int32), (pI (pI ξ 35 14 ((ξ.1 35 14) ||| ((1 : Int32) <<< ((nI (tV T t p)) &&& 31)))) 41 ((nI (tV T t p)).toNatClampNeg) (ξ.1 35 9)))) g1 g2 (by omega) (by omega) (fun ξ k1 k2 k3 k9 k8 klo khi => ?_)
    show ∃ r, (if inb (nI (tV T t p)) 3 = false then none else _) = some r ∧ _
    rw [inb_nI (by omega) (by omega), if_neg (show ¬ (true = false) by decide), nI_clamp (by omega), k9, k1.2.1.2.2.2.2.2.1, b2 hb]
    have hF2 : CFr ξ (pI (pI ξ 35 14 (nI (D 5 + 2 ^ tV T t p))) 41 (tV T t p) (nI (tV T t (tE T t p)))) := ((CFr.rf ξ).w (by omega)).w (by omega)
    refine ⟨_, rfl, CLr.d (k2.tr hF2) rfl (k1.cr hF2 (by rw [rd_p (by omega), pI_35 (by omega)]) (by rw [rd_p (by omega), pI_35 (by omega)]) ?_)⟩
    obtain ⟨c0, c1, c2, c3, c4, c5, c6, c7, c8, c9, c10, c11, c12⟩ := k1.2.1
    refine ⟨?_, ?_, ?_, ?_, ?_, ?_, fun s hs => ?_, fun s hs => ?_, fun s hs => ?_, fun s hs => ?_, fun s hs => ?_, fun s hs => ?_, fun s hs => ?_⟩
    · simp (disch := omega) only [rd_p, rd_i, ud_n]; exact c0
    · simp (disch := omega) only [rd_p, rd_i, ud_n]; exact c1
    · simp (disch := omega) only [rd_p, rd_i, ud_n]; exact c2
    · simp (disch := omega) only [rd_p, rd_i, ud_n]; exact c3
    · simp (disch := omega) only [rd_p, rd_i, ud_n]; exact c4
    · simp (disch := omega) only [rd_p, rd_s, ud_n, ud_s]
    · simp (disch := omega) only [rd_p, rd_i, ud_n]; exact c6 s hs
    · simp (disch := omega) only [rd_p, rd_i, ud_n]; exact c7 s hs
    · by_cases hsd : s = tV T t p
      · subst hsd
        rw [rd_s, ud_s]
      · rw [rd_i hsd, rd_p (by omega), ud_n (by omega), ud_n (by omega), ud_n (by omega)]; exact c8 s hs
    · simp (disch := omega) only [rd_p, rd_i, ud_n]; exact c9 s hs
    · simp (disch := omega) only [rd_p, rd_i, ud_n]; exact c10 s hs
    · simp (disch := omega) only [rd_p, rd_i, ud_n]; exact c11 s hs
    · simp (disch := omega) only [rd_p, rd_i, ud_n]; exact c12 s hs
