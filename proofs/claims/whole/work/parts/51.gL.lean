def mu00 : Mem := (fun _ _ => 0, fun _ _ => 0)
theorem opened_ind (a0 a1 : Int32) (μ : Mem) : ∀ f acc i, it2 (f_X9_opened_L4 a0 a1 μ) f acc i = (it2 (f_X9_opened_L4 a0 a1 mu00) f acc i).map (fun q => (q.1, μ)) := by
  intro f
  induction f with
  | zero => intro acc i; rfl
  | succ f ih =>
    intro acc i
    show f_X9_opened_L4 a0 a1 μ (it2 (f_X9_opened_L4 a0 a1 μ) f) acc i = (f_X9_opened_L4 a0 a1 mu00 (it2 (f_X9_opened_L4 a0 a1 mu00) f) acc i).map (fun q => (q.1, μ))
    generalize hA : it2 (f_X9_opened_L4 a0 a1 μ) f = A at ih ⊢
    generalize hB : it2 (f_X9_opened_L4 a0 a1 mu00) f = B at ih ⊢
    unfold f_X9_opened_L4 f_X9_opened_J49
    split
    · rfl
    · split
      · split
        · rfl
        · split
          · rfl
          · split
            · rfl
            · exact ih _ _
      · exact ih _ _
def opV (w m : Nat) : Int32 := match it2 (f_X9_opened_L4 (nI w) (nI m) mu00) FU (nI w) 0 with | some q => q.1 | none => 77
theorem opened_some : ∀ w, w < 27 → ∀ m, m < 8 → (it2 (f_X9_opened_L4 (nI w) (nI m) mu00) FU (nI w) 0).isSome = true := by decide +kernel
theorem p_opened {w m : Nat} (hw : w < 27) (hm : m < 8) (μ : Mem) : f_X9_opened (nI w) (nI m) μ = some (opV w m, μ) := by
  have h := opened_some w hw m hm
  unfold f_X9_opened
  rw [opened_ind]
  unfold opV
  generalize it2 (f_X9_opened_L4 (nI w) (nI m) mu00) FU (nI w) 0 = o at h ⊢
  cases o with
  | none => cases h
  | some q => rfl
def subB (w0 w : Nat) : Bool := (List.range 6).all fun e => !shut w e || shut w0 e
def dif (w0 w : Nat) : Nat := popN (mk6 (shut w0)) - popN (mk6 (shut w))
theorem op_F1 : ∀ w0, w0 < 27 → ∀ m, m < 8 → opV w0 m = -1 ∨ ∃ w, w < 27 ∧ opV w0 m = nI w ∧ w ≤ w0 ∧ subB w0 w = true ∧ dif w0 w = popN m := by decide +kernel
theorem op_F2 : ∀ w0, w0 < 27 → ∀ w, w < 27 → subB w0 w = true → w ≤ w0 ∧ ∃ m, m < 8 ∧ opV w0 m = nI w ∧ popN m = dif w0 w := by decide +kernel
theorem dif_F : ∀ w0, w0 < 27 → ∀ w, w < 27 → subB w0 w = true → nI (popN (mk6 (shut w0))) - nI (popN (mk6 (shut w))) = nI (dif w0 w) ∧ dif w0 w ≤ 3 := by decide +kernel
theorem sub_F : ∀ w0, w0 < 27 → ∀ w, w < 27 → (((nI (mk6 (shut w)) &&& (nI (mk6 (shut w0)) ^^^ (-1 : Int32))) = 0) ↔ subB w0 w = true) := by decide +kernel
