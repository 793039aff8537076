theorem m_fopn {s p : Nat} {x a P a6 : Int32} {μ : Mem} (k65 : Int32 → Int32 → Int32 → Mem → Option (Int32 × Mem)) (hs : s < 4) (h76 : μ.1 76 s = -4) : it2 (f_X10_read_62_L80 (nI s) x a P a6 (nI p) μ k65) FU 0 (nI 0) = f_X10_read_62_J167 k65 (nI s) x a P 1 a6 (nI p) μ := by
  rw [show FU = 999998 + 1 + 1 from rfl, it2_s, it2_s]
  generalize it2 (f_X10_read_62_L80 (nI s) x a P a6 (nI p) μ k65) 999998 = kk
  have h1 : ∀ k, f_X10_read_62_L80 (nI s) x a P a6 (nI p) μ k65 k 0 (nI 0) = k 1 (nI 1) := by
    intro k
    unfold f_X10_read_62_L80
    rw [if_neg (show ¬ (2 : Int32) ≤ nI 0 by decide), if_pos rfl, inb_nI (by omega) (by omega), if_neg (show ¬ (true = false) by decide), nI_clamp (by omega), h76, if_pos rfl]
    rfl
  rw [h1]
  unfold f_X10_read_62_L80
  rw [if_neg (show ¬ (2 : Int32) ≤ nI 1 by decide), if_neg (by decide)]
theorem wv_nn {q w : Nat → Nat} {v : Nat → Int32} {M : Nat} (hw : ∀ p, p < M → w p < 27) (hv : ∀ k, k < 6 → ∃ u, u < 27 ∧ v k = nI u) : ∀ i, i ≤ M → ∀ k, k < 6 → ∃ u, u < 27 ∧ wv q w v i k = nI u
  | 0, _, k, hk => hv k hk
  | i + 1, hi, k, hk => by
    show ∃ u, u < 27 ∧ (if k = q i then nI (w i) else wv q w v i k) = nI u
    split
    · exact ⟨w i, hw i (by omega), rfl⟩
    · exact wv_nn hw hv i (by omega) k hk
theorem m_tell {n Q : Nat} {μ : Mem} (hn : n ≤ 3) (hQ : Q ≤ 6) (e622 : μ.1 62 4 = nI (3 ^ n)) (e623 : μ.1 62 3 = nI Q) {c d : Int32} : (∀ q w, q < Q → w < 3 ^ n → c = nI q → d = nI w → f_X10_tell_62 c d μ = some (μ.1 63 (21 + q), pI μ 63 (21 + q) d)) ∧ ((inb c Q && inb d (3 ^ n)) = false → f_X10_tell_62 c d μ = some (-1, μ)) := by
  refine ⟨fun q w hq hw hc hd => ?_, fun hb => ?_⟩
  · subst hc
    subst hd
    have h27 := p3 hn
    unfold f_X10_tell_62
    rw [bnd (m_isQuarter e623 hQ _), inb_nI hq (by omega)]
    dsimp only
    rw [if_neg (by decide), bnd (m_isWatch e622 hn _), inb_nI hw (by omega)]
    dsimp only
    rw [if_neg (by decide), la21, inb_nI (by omega) (by omega), if_neg (show ¬ (true = false) by decide), if_neg (show ¬ (true = false) by decide), nI_clamp (by omega)]
  · unfold f_X10_tell_62
    rw [bnd (m_isQuarter e623 hQ _)]
    dsimp only
    cases h1 : inb c Q with
    | false => rw [if_pos (show b2i false = 0 from rfl)]
    | true =>
      rw [h1] at hb
      have hb : inb d (3 ^ n) = false := by simpa using hb
      rw [if_neg (by decide), bnd (m_isWatch e622 hn _), hb]
      rfl
theorem m_rd {n Q M Pn A s : Nat} {x a : Int32} {fm : Nat → Int32} {q w : Nat → Nat} {ν : Mem} (hs : s < 4) (hn : n ≤ 3) (hQ : Q ≤ 6) (e624 : ν.1 62 4 = nI (3 ^ n)) (e623 : ν.1 62 3 = nI Q)
    (hfm : ∀ p, p ≤ M → p ≤ 13 → ∀ k65 a6 m, m.1 76 s = ν.1 76 s → m.1 77 s = ν.1 77 s → it2 (f_X10_read_62_L80 (nI s) x a (nI Pn) a6 (nI p) m k65) FU 0 (nI 0) = f_X10_read_62_J167 k65 (nI s) x a (nI Pn) (fm p) a6 (nI p) m)
    (hMP : M ≤ Pn) (hP : Pn ≤ 13) (ha : 0 < M → a = nI A ∧ A + 2 * M ≤ 40) (hg : ∀ p, p < M → fm p = 0) (hv : ∀ k, k < 6 → ∃ u, u < 27 ∧ ν.1 63 (21 + k) = nI u) (hq : ∀ p, p < M → q p < Q ∧ w p < 3 ^ n ∧ ν.1 78 (40 * s + A + 2 * p) = nI (q p) ∧ ν.1 78 (40 * s + A + 2 * p + 1) = nI (w p)) :
    (M = Pn → it4 (f_X10_read_62_L65 (nI s) x a (nI Pn)) FU 0 0 0 ν = some (nI M, pI (wm 21 63 q w ν M) 62 38 0)) ∧
    (M < Pn → fm M ≠ 0 → it4 (f_X10_read_62_L65 (nI s) x a (nI Pn)) FU 0 0 0 ν = some (nI M, pI (wm 21 63 q w ν M) 62 38 (fm M))) ∧
    (M < Pn → fm M = 0 → a = nI A → A + 2 * M + 1 < 40 → (inb (ν.1 78 (40 * s + A + 2 * M)) Q && inb (ν.1 78 (40 * s + A + 2 * M + 1)) (3 ^ n)) = false → ∃ μ', it4 (f_X10_read_62_L65 (nI s) x a (nI Pn)) FU 0 0 0 ν = some (-20 - nI M, μ') ∧ setW (wm 21 63 q w ν M) μ' 63 21 6 (fun k => ν.1 79 k)) := by
  have h27 := p3 hn
  have hrun : ∀ f, it4 (f_X10_read_62_L65 (nI s) x a (nI Pn)) (f + M) 0 (nI 0) (nI 0) ν = it4 (f_X10_read_62_L65 (nI s) x a (nI Pn)) f 0 (nI M) (nI M) (wm 21 63 q w ν M) := fun f => by
    refine it4_run (body := f_X10_read_62_L65 (nI s) x a (nI Pn)) M (fun _ => 0) nI (fun i => wm 21 63 q w ν i) (fun k i hi => ?_) f
    obtain ⟨rfl, hA⟩ := ha (by omega)
    obtain ⟨q1, q2, q3, q4⟩ := hq i hi
    unfold f_X10_read_62_L65
    rw [if_neg (nI_ge (show i < Pn by omega) (by omega)), if_pos rfl]
    refine (hfm i (by omega) (by omega) _ _ _ (wm_p (by omega) i) (wm_p (by omega) i)).trans ?_
    rw [hg i hi]
    unfold f_X10_read_62_J167
    rw [if_pos rfl, lm40, lm2, nI_add, nI_add, al1, inb_nI (by omega) (by omega), inb_nI (by omega) (by omega), if_neg (show ¬ (true = false) by decide), if_neg (show ¬ (true = false) by decide), nI_clamp (by omega), nI_clamp (by omega), wm_p (by omega), wm_p (by omega), q3, q4, bnd ((m_tell hn hQ (by rw [wm_p (by omega)]; exact e624) (by rw [wm_p (by omega)]; exact e623)).1 _ _ q1 q2 rfl rfl)]
    dsimp only
    obtain ⟨u, u27, hu⟩ := wv_nn (q := q) (w := w) (v := fun k => ν.1 63 (21 + k)) (M := M) (fun p hp => by have := (hq p hp).2.1; omega) hv i (by omega) (q i) (by omega)
    rw [wm_v, hu, if_pos (nI_pos' (by omega))]
    unfold f_X10_read_62_J250
    rw [al1]
    rfl
  obtain ⟨g, hg2⟩ : ∃ g, FU = (g + 1 + 1) + M := ⟨1000000 - M - 2, by have : FU = 1000000 := rfl; omega⟩
  refine ⟨fun hMe => ?_, fun hlt hne => ?_, fun hlt h0 haA hA40 hbad => ?_⟩
  · subst hMe
    have h2 := hrun (g + 1 + 1)
    rw [← hg2] at h2
    refine h2.trans ?_
    show f_X10_read_62_L65 (nI s) x a (nI M) _ 0 (nI M) (nI M) _ = _
    unfold f_X10_read_62_L65
    rw [if_pos (nI_le (Nat.le_refl _) (by omega))]
    rfl
  · have h2 := hrun (g + 1 + 1)
    rw [← hg2] at h2
    refine h2.trans ?_
    have h1 : ∀ kk, f_X10_read_62_L65 (nI s) x a (nI Pn) kk 0 (nI M) (nI M) (wm 21 63 q w ν M) = kk (fm M) (nI M) (nI M + 1) (wm 21 63 q w ν M) := by
      intro kk
      unfold f_X10_read_62_L65
      rw [if_neg (nI_ge hlt (by omega)), if_pos rfl]
      refine (hfm M (by omega) (by omega) _ _ _ (wm_p (by omega) M) (wm_p (by omega) M)).trans ?_
      unfold f_X10_read_62_J167
      rw [if_neg hne]
      rfl
    refine Eq.trans (h1 _) ?_
    show f_X10_read_62_L65 (nI s) x a (nI Pn) _ (fm M) (nI M) (nI M + 1) _ = _
    unfold f_X10_read_62_L65 f_X10_read_62_J256
    rw [if_neg hne]
    split <;> rfl
  · have h2 := hrun (g + 1 + 1)
    rw [← hg2] at h2
    subst haA
    have hr := for_rel (body := f_X10_read_62_L211 (nI M)) nI 6 (fun i ξ => setW (wm 21 63 q w ν M) ξ 63 21 i (fun k => ν.1 79 k)) (fun r => r.1 = -20 - nI M ∧ setW (wm 21 63 q w ν M) r.2 63 21 6 (fun k => ν.1 79 k)) (fun k i ξ hi hR => by
      unfold f_X10_read_62_L211
      rw [if_neg (show ¬ (6 : Int32) ≤ nI i from nI_ge (b := 6) hi (by omega)), inb_nI (by omega) (by omega), la21, inb_nI (by omega) (by omega), if_neg (show ¬ (true = false) by decide), if_neg (show ¬ (true = false) by decide), nI_clamp (by omega), nI_clamp (by omega), al1, hR.1 79 i (by omega), wm_p (by omega)]
      exact ⟨_, rfl, hR.s⟩) (fun k ξ hR => by
      unfold f_X10_read_62_L211
      rw [if_pos (show (6 : Int32) ≤ nI 6 from by decide)]
      exact ⟨_, rfl, rfl, hR⟩) FU 0 (wm 21 63 q w ν M) (by omega) (fu_gt (by omega)) setW.z
    obtain ⟨r, r1, r2, r3⟩ := hr
    refine ⟨r.2, ?_, r3⟩
    refine h2.trans ?_
    show f_X10_read_62_L65 (nI s) x (nI A) (nI Pn) _ 0 (nI M) (nI M) _ = _
    unfold f_X10_read_62_L65
    rw [if_neg (nI_ge hlt (by omega)), if_pos rfl]
    refine (hfm M (by omega) (by omega) _ _ _ (wm_p (by omega) M) (wm_p (by omega) M)).trans ?_
    rw [h0]
    unfold f_X10_read_62_J167
    rw [if_pos rfl, lm40, lm2, nI_add, nI_add, al1, inb_nI (by omega) (by omega), inb_nI (by omega) (by omega), if_neg (show ¬ (true = false) by decide), if_neg (show ¬ (true = false) by decide), nI_clamp (by omega), nI_clamp (by omega), wm_p (by omega), wm_p (by omega), bnd ((m_tell hn hQ (by rw [wm_p (by omega)]; exact e624) (by rw [wm_p (by omega)]; exact e623)).2 hbad)]
    dsimp only
    rw [if_neg (show ¬ (0 : Int32) ≤ -1 by decide)]
    refine r1.trans ?_
    rw [← r2]
