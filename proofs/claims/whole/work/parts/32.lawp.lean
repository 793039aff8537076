set_option maxRecDepth 100000 in
set_option maxHeartbeats 8000000 in
theorem law_loop (s_feed : ∀ (v : Int64), PStp (f_X9_feed_0 v) (f_X10_feed_62 v)) (s_end : ∀ (a0 : Int32), PStp (f_X9_end_0 a0) (f_X10_end_62 a0)) (s_text : PStp f_X9_text_0 f_X10_text_62) (s_fault : PStp f_X9_fault_0 f_X10_fault_62) (s_rule : ∀ (a0 : Int32), PStp (f_X9_rule_0 a0) (f_X10_rule_62 a0)) (s_sister : ∀ (a0 : Int32) (a1 : Int32), PStp (f_X9_sister_0 a0 a1) (f_X10_sister_62 a0 a1)) (s_eye : ∀ (a0 : Int32) (a1 : Int32), PStp (f_X9_eye_0 a0 a1) (f_X10_eye_62 a0 a1)) (s_needed : ∀ (a0 : Int32) (a1 : Int32), PStp (f_X9_needed_0 a0 a1) (f_X10_needed_62 a0 a1)) (s_watch : ∀ (a0 : Int32), PStp (f_X9_watch_0 a0) (f_X10_watch_62 a0)) (s_tell : ∀ (a0 : Int32) (a1 : Int32), PStp (f_X9_tell_0 a0 a1) (f_X10_tell_62 a0 a1)) (s_need : ∀ (a0 : Int32) (a1 : Int32), PStp (f_X9_need_0 a0 a1) (f_X10_need_62 a0 a1)) (s_storm : ∀ (a0 a1 a2 : Int32), zb a2 = true → PStp (f_X9_storm_0 a0 a1 a2) (f_X10_storm_62 a0 a1 a2)) (s_turn : ∀ (a0 : Int32) (a1 : Int32), PStp (f_X9_turn_0 a0 a1) (f_X10_turn_62 a0 a1)) (s_tire : ∀ (a0 : Int32) (a1 : Int32), PStp (f_X9_tire_0 a0 a1) (f_X10_tire_62 a0 a1)) (s_sees : ∀ (a0 : Int32) (a1 : Int32), PStp (f_X9_sees_0 a0 a1) (f_X10_sees_62 a0 a1)) (s_lawful : ∀ (a0 : Int32) (a1 : Int32), PStp (f_X9_lawful_0 a0 a1) (f_X10_lawful_62 a0 a1)) (s_asleep : ∀ (a0 : Int32) (a1 : Int32), PStp (f_X9_asleep_0 a0 a1) (f_X10_asleep_62 a0 a1)) (s_tired : ∀ (a0 : Int32) (a1 : Int32), PStp (f_X9_tired_0 a0 a1) (f_X10_tired_62 a0 a1)) (s_open : ∀ (a0 : Int32), PStp (f_X9_open_0 a0) (f_X10_open_62 a0)) (s_missed : ∀ (a0 : Int32), PStp (f_X9_missed_0 a0) (f_X10_missed_62 a0)) (s_wreck : PStp f_X9_wreck_0 f_X10_wreck_62) (s_rest : ∀ (a0 : Int32), PStp (f_X9_rest_0 a0) (f_X10_rest_62 a0)) (s_round : ∀ (a0 : Int32), PStp (f_X9_round_0 a0) (f_X10_round_62 a0)) (s_best : ∀ (a0 : Int32), PStp (f_X9_best_0 a0) (f_X10_best_62 a0)) (s_without : ∀ (a0 : Int32), PStp (f_X9_without_0 a0) (f_X10_without_62 a0)) (s_beds : ∀ (a0 : Int32), PStp (f_X9_beds_0 a0) (f_X10_beds_62 a0)) (s_late : ∀ (a0 : Int32) (a1 : Int32) (a2 : Int32), PStp (f_X9_late_0 a0 a1 a2) (f_X10_late_62 a0 a1 a2)) (s_odds : ∀ (a0 : Int32) (a1 : Int32) (a2 : Int32), PStpL (f_X9_odds_0 a0 a1 a2) (f_X10_odds_62 a0 a1 a2)) (s_mean : ∀ (a0 : Int32) (a1 : Int32), PStpL (f_X9_mean_0 a0 a1) (f_X10_mean_62 a0 a1)) (s_hear : ∀ (a0 a1 a2 : Int32), zb a2 = true → PStp (f_X9_hear_0 a0 a1 a2) (f_X10_hear_62 a0 a1 a2)) (s_forget : ∀ (a0 : Int32), PStp (f_X9_forget_0 a0) (f_X10_forget_62 a0)) (s_fits : ∀ (a0 : Int32) (a1 : Int32), PStp (f_X9_fits_0 a0 a1) (f_X10_fits_62 a0 a1)) (s_keep : ∀ (a0 : Int32), PStp (f_X9_keep_0 a0) (f_X10_keep_62 a0)) (s_back : ∀ (a0 : Int32), PStp (f_X9_back_0 a0) (f_X10_back_62 a0)) (s_sheet : ∀ (a0 : Int32) (a1 : Int32) (a2 : Int32), PStp (f_X9_sheet_0 a0 a1 a2) (f_X10_sheet_62 a0 a1 a2)) (s_lay : ∀ (a0 : Int32) (a1 : Int32) (a2 : Int32), PStp (f_X9_lay_0 a0 a1 a2) (f_X10_lay_62 a0 a1 a2)) (s_read : ∀ (a0 : Int32) (a1 : Int32) (a2 : Int32) (a3 : Int32), PStp (f_X9_read_0 a0 a1 a2 a3) (f_X10_read_62 a0 a1 a2 a3)) (s_torn : PStp f_X9_torn_0 f_X10_torn_62) (s_count : ∀ (a0 : Int32), PStp (f_X9_count_0 a0) (f_X10_count_62 a0)) {xs : Nat → Int32} {Ln : Nat} (hL : Ln ≤ 2560) : ∀ (n i : Nat) (μ : Mem), i ≤ Ln → Ln < i + n → INV μ → ∃ μ3, it2 (f_L_law_L18 xs Ln) n (nI i) μ = some ((1 : Int32), μ3) := by
  intro n
  induction n with
  | zero =>
    intro i μ h1 h2
    omega
  | succ n ih =>
    intro i μ hi hn hI
    show ∃ μ3, f_L_law_L18 xs Ln (it2 (f_L_law_L18 xs Ln) n) (nI i) μ = some ((1 : Int32), μ3)
    obtain ⟨kk, hkk⟩ : ∃ kk, kk = it2 (f_L_law_L18 xs Ln) n := ⟨_, rfl⟩
    rw [← hkk] at ih ⊢
    unfold f_L_law_L18
    have e5 : (nI Ln - (5 : Int32)).toInt = (Ln : Int) - 5 := pk_sub_toInt (b := 5) (by omega) (by omega)
    by_cases hc : nI Ln - (5 : Int32) < nI i
    · rw [if_pos hc]
      exact ⟨μ, rfl⟩
    rw [if_neg hc]
    have hle : i + 5 ≤ Ln := by
      rw [i32_lt, e5, nI_toInt (by omega)] at hc
      omega
    have a1 : nI i + (1 : Int32) = nI (i + 1) := nI_add i 1
    have a2 : nI i + (2 : Int32) = nI (i + 2) := nI_add i 2
    have a3 : nI i + (3 : Int32) = nI (i + 3) := nI_add i 3
    have a4 : nI i + (4 : Int32) = nI (i + 4) := nI_add i 4
    have g0 : inb (nI i) Ln = true := inb_nI (by omega) (by omega)
    have g1 : inb (nI i + (1 : Int32)) Ln = true := by rw [a1]; exact inb_nI (by omega) (by omega)
    have g2 : inb (nI i + (2 : Int32)) Ln = true := by rw [a2]; exact inb_nI (by omega) (by omega)
    have g3 : inb (nI i + (3 : Int32)) Ln = true := by rw [a3]; exact inb_nI (by omega) (by omega)
    have g4 : inb (nI i + (4 : Int32)) Ln = true := by rw [a4]; exact inb_nI (by omega) (by omega)
    have next : ∀ μ2, INV μ2 → ∃ μ3, f_L_law_J1405 xs Ln kk (nI i) μ2 = some ((1 : Int32), μ3) := by
      intro μ2 h2
      obtain ⟨μ3, h3⟩ := ih (i + 5) μ2 hle (by omega) h2
      refine ⟨μ3, ?_⟩
      unfold f_L_law_J1405
      rw [show nI i + 5 = nI (i + 5) from nI_add i 5]
      exact h3
    simp only [g0, g1, g2, g3, g4, Bool.true_eq_false, if_false]
    by_cases c0 : xs (nI i).toNatClampNeg &&& (63 : Int32) = 0
    · rw [if_pos c0]
      exact stp_use (s_feed _) hI (fun _ r h => next r.2 h)
    rw [if_neg c0]
    by_cases c1 : xs (nI i).toNatClampNeg &&& (63 : Int32) = 1
    · rw [if_pos c1]
      exact stp_use (s_end _) hI (fun _ r h => next r.2 h)
    rw [if_neg c1]
    by_cases c2 : xs (nI i).toNatClampNeg &&& (63 : Int32) = 2
    · rw [if_pos c2]
      exact stp_use (s_text) hI (fun _ r h => next r.2 h)
    rw [if_neg c2]
    by_cases c3 : xs (nI i).toNatClampNeg &&& (63 : Int32) = 3
    · rw [if_pos c3]
      exact stp_use (s_fault) hI (fun _ r h => next r.2 h)
    rw [if_neg c3]
    by_cases c4 : xs (nI i).toNatClampNeg &&& (63 : Int32) = 4
    · rw [if_pos c4]
      exact stp_use (s_rule _) hI (fun _ r h => next r.2 h)
    rw [if_neg c4]
    by_cases c5 : xs (nI i).toNatClampNeg &&& (63 : Int32) = 5
    · rw [if_pos c5]
      exact stp_use (s_sister _ _) hI (fun _ r h => next r.2 h)
    rw [if_neg c5]
    by_cases c6 : xs (nI i).toNatClampNeg &&& (63 : Int32) = 6
    · rw [if_pos c6]
      exact stp_use (s_eye _ _) hI (fun _ r h => next r.2 h)
    rw [if_neg c6]
    by_cases c7 : xs (nI i).toNatClampNeg &&& (63 : Int32) = 7
    · rw [if_pos c7]
      exact stp_use (s_needed _ _) hI (fun _ r h => next r.2 h)
    rw [if_neg c7]
    by_cases c8 : xs (nI i).toNatClampNeg &&& (63 : Int32) = 8
    · rw [if_pos c8]
      exact stp_use (s_watch _) hI (fun _ r h => next r.2 h)
    rw [if_neg c8]
    by_cases c9 : xs (nI i).toNatClampNeg &&& (63 : Int32) = 9
    · rw [if_pos c9]
      exact stp_use (s_tell _ _) hI (fun _ r h => next r.2 h)
    rw [if_neg c9]
    by_cases c10 : xs (nI i).toNatClampNeg &&& (63 : Int32) = 10
    · rw [if_pos c10]
      exact stp_use (s_need _ _) hI (fun _ r h => next r.2 h)
    rw [if_neg c10]
    by_cases c11 : xs (nI i).toNatClampNeg &&& (63 : Int32) = 11
    · rw [if_pos c11]
      by_cases h0 : xs (nI i + (3 : Int32)).toNatClampNeg = 0
      · simp only [if_pos h0, f_L_law_J541, f_L_law_J568, g1, g2, g3, Bool.true_eq_false, if_false]
        exact stp_use (s_storm _ _ 0 rfl) hI (fun _ r h => next r.2 h)
      · simp only [if_neg h0, f_L_law_J541, f_L_law_J568, g1, g2, g3, Bool.true_eq_false, if_false]
        exact stp_use (s_storm _ _ 1 rfl) hI (fun _ r h => next r.2 h)
    rw [if_neg c11]
    by_cases c12 : xs (nI i).toNatClampNeg &&& (63 : Int32) = 12
    · rw [if_pos c12]
      exact stp_use (s_turn _ _) hI (fun _ r h => next r.2 h)
    rw [if_neg c12]
    by_cases c13 : xs (nI i).toNatClampNeg &&& (63 : Int32) = 13
    · rw [if_pos c13]
      exact stp_use (s_tire _ _) hI (fun _ r h => next r.2 h)
    rw [if_neg c13]
    by_cases c14 : xs (nI i).toNatClampNeg &&& (63 : Int32) = 14
    · rw [if_pos c14]
      exact stp_use (s_sees _ _) hI (fun _ r h => next r.2 h)
    rw [if_neg c14]
    by_cases c15 : xs (nI i).toNatClampNeg &&& (63 : Int32) = 15
    · rw [if_pos c15]
      exact stp_use (s_lawful _ _) hI (fun _ r h => next r.2 h)
    rw [if_neg c15]
    by_cases c16 : xs (nI i).toNatClampNeg &&& (63 : Int32) = 16
    · rw [if_pos c16]
      exact stp_use (s_asleep _ _) hI (fun _ r h => next r.2 h)
    rw [if_neg c16]
    by_cases c17 : xs (nI i).toNatClampNeg &&& (63 : Int32) = 17
    · rw [if_pos c17]
      exact stp_use (s_tired _ _) hI (fun _ r h => next r.2 h)
    rw [if_neg c17]
    by_cases c18 : xs (nI i).toNatClampNeg &&& (63 : Int32) = 18
    · rw [if_pos c18]
      exact stp_use (s_open _) hI (fun _ r h => next r.2 h)
    rw [if_neg c18]
    by_cases c19 : xs (nI i).toNatClampNeg &&& (63 : Int32) = 19
    · rw [if_pos c19]
      exact stp_use (s_missed _) hI (fun _ r h => next r.2 h)
    rw [if_neg c19]
    by_cases c20 : xs (nI i).toNatClampNeg &&& (63 : Int32) = 20
    · rw [if_pos c20]
      exact stp_use (s_wreck) hI (fun _ r h => next r.2 h)
    rw [if_neg c20]
    by_cases c21 : xs (nI i).toNatClampNeg &&& (63 : Int32) = 21
    · rw [if_pos c21]
      exact stp_use (s_rest _) hI (fun _ r h => next r.2 h)
    rw [if_neg c21]
    by_cases c22 : xs (nI i).toNatClampNeg &&& (63 : Int32) = 22
    · rw [if_pos c22]
      exact stp_use (s_round _) hI (fun _ r h => next r.2 h)
    rw [if_neg c22]
    by_cases c23 : xs (nI i).toNatClampNeg &&& (63 : Int32) = 23
    · rw [if_pos c23]
      exact stp_use (s_best _) hI (fun _ r h => next r.2 h)
    rw [if_neg c23]
    by_cases c24 : xs (nI i).toNatClampNeg &&& (63 : Int32) = 24
    · rw [if_pos c24]
      exact stp_use (s_without _) hI (fun _ r h => next r.2 h)
    rw [if_neg c24]
    by_cases c25 : xs (nI i).toNatClampNeg &&& (63 : Int32) = 25
    · rw [if_pos c25]
      exact stp_use (s_beds _) hI (fun _ r h => next r.2 h)
    rw [if_neg c25]
    by_cases c26 : xs (nI i).toNatClampNeg &&& (63 : Int32) = 26
    · rw [if_pos c26]
      exact stp_use (s_late _ _ _) hI (fun _ r h => next r.2 h)
    rw [if_neg c26]
    by_cases c27 : xs (nI i).toNatClampNeg &&& (63 : Int32) = 27
    · rw [if_pos c27]
      exact stp_useL (s_odds _ _ _) hI (fun _ r h => next r.2 h)
    rw [if_neg c27]
    by_cases c28 : xs (nI i).toNatClampNeg &&& (63 : Int32) = 28
    · rw [if_pos c28]
      exact stp_useL (s_mean _ _) hI (fun _ r h => next r.2 h)
    rw [if_neg c28]
    by_cases c29 : xs (nI i).toNatClampNeg &&& (63 : Int32) = 29
    · rw [if_pos c29]
      by_cases h0 : xs (nI i + (3 : Int32)).toNatClampNeg = 0
      · simp only [if_pos h0, f_L_law_J1093, f_L_law_J1120, g1, g2, g3, Bool.true_eq_false, if_false]
        exact stp_use (s_hear _ _ 0 rfl) hI (fun _ r h => next r.2 h)
      · simp only [if_neg h0, f_L_law_J1093, f_L_law_J1120, g1, g2, g3, Bool.true_eq_false, if_false]
        exact stp_use (s_hear _ _ 1 rfl) hI (fun _ r h => next r.2 h)
    rw [if_neg c29]
    by_cases c30 : xs (nI i).toNatClampNeg &&& (63 : Int32) = 30
    · rw [if_pos c30]
      exact stp_use (s_forget _) hI (fun _ r h => next r.2 h)
    rw [if_neg c30]
    by_cases c31 : xs (nI i).toNatClampNeg &&& (63 : Int32) = 31
    · rw [if_pos c31]
      exact stp_use (s_fits _ _) hI (fun _ r h => next r.2 h)
    rw [if_neg c31]
    by_cases c32 : xs (nI i).toNatClampNeg &&& (63 : Int32) = 32
    · rw [if_pos c32]
      exact stp_use (s_keep _) hI (fun _ r h => next r.2 h)
    rw [if_neg c32]
    by_cases c33 : xs (nI i).toNatClampNeg &&& (63 : Int32) = 33
    · rw [if_pos c33]
      exact stp_use (s_back _) hI (fun _ r h => next r.2 h)
    rw [if_neg c33]
    by_cases c34 : xs (nI i).toNatClampNeg &&& (63 : Int32) = 34
    · rw [if_pos c34]
      exact stp_use (s_sheet _ _ _) hI (fun _ r h => next r.2 h)
    rw [if_neg c34]
    by_cases c35 : xs (nI i).toNatClampNeg &&& (63 : Int32) = 35
    · rw [if_pos c35]
      exact stp_use (s_lay _ _ _) hI (fun _ r h => next r.2 h)
    rw [if_neg c35]
    by_cases c36 : xs (nI i).toNatClampNeg &&& (63 : Int32) = 36
    · rw [if_pos c36]
      exact stp_use (s_read _ _ _ _) hI (fun _ r h => next r.2 h)
    rw [if_neg c36]
    by_cases c37 : xs (nI i).toNatClampNeg &&& (63 : Int32) = 37
    · rw [if_pos c37]
      exact stp_use (s_torn) hI (fun _ r h => next r.2 h)
    rw [if_neg c37]
    by_cases c38 : xs (nI i).toNatClampNeg &&& (63 : Int32) = 38
    · rw [if_pos c38]
      exact stp_use (s_count _) hI (fun _ r h => next r.2 h)
    rw [if_neg c38]
    exact next μ hI
