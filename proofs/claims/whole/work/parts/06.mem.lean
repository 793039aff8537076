/-! MEMORY, CALLS, RETURNS over WA -/
theorem upd_pI (μ : Mem) (p k : Nat) (x : Int32) : upd (μ.1 p) k x = (pI μ p k x).1 p := by
  funext j
  simp [upd, pI]
theorem updL_pL (μ : Mem) (p k : Nat) (x : Int64) : vp_updL (μ.2 p) k x = (pL μ p k x).2 p := by
  funext j
  simp [vp_updL, pL]
theorem pI_ne1 (μ : Mem) (p k : Nat) (x : Int32) (q : Nat) (h : q ≠ p) (j : Nat) : μ.1 q j = (pI μ p k x).1 q j := by simp [pI, h]
theorem pL_ne2 (μ : Mem) (p k : Nat) (x : Int64) (q : Nat) (h : q ≠ p) (j : Nat) : μ.2 q j = (pL μ p k x).2 q j := by simp [pL, h]
theorem fvs_at (ad : Nat → Nat) (μ : Mem) (p : Nat) : ∀ (fs : List Nat) (j k : Nat), (fvs ad μ p j fs)[k]? = (fs[k]?).map (fun c => match c with | 0 => Value.int (μ.1 p (j + k)) | 1 => .long (μ.2 p (j + k)) | r + 2 => .ref (ad r)) := by
  intro fs
  induction fs with
  | nil => intro j k; simp [fvs]
  | cons c t ih =>
    intro j k
    cases k with
    | zero => simp [fvs]; split <;> rfl
    | succ k =>
      simp only [fvs, List.getElem?_cons_succ, ih]
      rw [show j + 1 + k = j + (k + 1) by omega]
theorem fvs_len (ad : Nat → Nat) (μ : Mem) (p : Nat) : ∀ (fs : List Nat) (j : Nat), (fvs ad μ p j fs).length = fs.length := by
  intro fs
  induction fs with
  | nil => intro j; rfl
  | cons c t ih => intro j; simp [fvs, ih]
theorem fvs_setI {ad : Nat → Nat} {μ : Mem} {p k : Nat} {fs : List Nat} {x : Int32} (hk : fs[k]? = some 0) : (fvs ad μ p 0 fs).set k (.int x) = fvs ad (pI μ p k x) p 0 fs := by
  apply List.ext_getElem?
  intro j
  have hlt : k < fs.length := (List.getElem?_eq_some_iff.mp hk).1
  by_cases hj : j = k
  · subst hj
    rw [List.getElem?_set_self (by rw [fvs_len]; exact hlt), fvs_at, hk]
    simp [pI]
  · rw [List.getElem?_set_ne (fun h => hj h.symm), fvs_at, fvs_at]
    congr 1
    funext c
    split
    · simp [pI, hj]
    · rfl
    · rfl
theorem fvs_setL {ad : Nat → Nat} {μ : Mem} {p k : Nat} {fs : List Nat} {x : Int64} (hk : fs[k]? = some 1) : (fvs ad μ p 0 fs).set k (.long x) = fvs ad (pL μ p k x) p 0 fs := by
  apply List.ext_getElem?
  intro j
  have hlt : k < fs.length := (List.getElem?_eq_some_iff.mp hk).1
  by_cases hj : j = k
  · subst hj
    rw [List.getElem?_set_self (by rw [fvs_len]; exact hlt), fvs_at, hk]
    simp [pL]
  · rw [List.getElem?_set_ne (fun h => hj h.symm), fvs_at, fvs_at]
    congr 1
    funext c
    split
    · rfl
    · simp [pL, hj]
    · rfl
theorem cell_obj {ad : Nat → Nat} {cy : Nat → ClassId} {μ : Mem} {p ci : Nat} {fs : List Nat} (h : shp p = .inr (ci, fs)) : cell ad cy μ p = .inr (ci, fvs ad μ p 0 fs) := by simp [cell, h]
theorem cell_arr {ad : Nat → Nat} {cy : Nat → ClassId} {μ : Mem} {p t n : Nat} (h : shp p = .inl (t, n)) : cell ad cy μ p = .inl (cy t, n, arr_ ad μ p t) := by simp [cell, h]
def FLK (own : String) (index ci k : Nat) : Prop := ∃ (C : String) (T : u_T) (N : Nat), vwCl[ci]? = some (C, T, N) ∧ (∀ w ∈ u_ws C T N, w ∈ wsL_law) ∧ k < N ∧ Cond.fieldLink own index (T k).1 (T k).2.1 (T k).2.2.1 ∈ wsL_law
def FPK (ci k : Nat) (ty : FieldType) : Prop := ∃ (C : String) (T : u_T) (N : Nat) (ty0 : Nat → FieldType), vwCl[ci]? = some (C, T, N) ∧ (∀ k, k < N → parseFieldDescriptor (T k).2.2.1 = some (ty0 k)) ∧ (∀ a, a < N → ∀ b, b < N → a ≠ b → (T a).2.1 ≠ (T b).2.1) ∧ (T k).2.2.2 = false ∧ parseFieldDescriptor (T k).2.2.1 = some ty
def inb (i : Int32) (n : Nat) : Bool := !(decide (i < 0)) && decide (i.toNatClampNeg < n)
theorem inb_in {i : Int32} {n : Nat} (h : inb i n = true) : vp_in i n := by
  simp only [inb, Bool.and_eq_true, Bool.not_eq_true', decide_eq_false_iff_not, decide_eq_true_eq] at h
  exact fun q => q.elim h.1 (fun q => Nat.not_lt.mpr q h.2)
def zb (x : Int32) : Bool := decide (x = 0) || decide (x = 1)
theorem zb_nar {x : Int32} (h : zb x = true) : narrow .boolean (.int x) = .int x := by
  simp only [zb, Bool.or_eq_true, decide_eq_true_eq] at h
  rcases h with rfl | rfl <;> rfl
theorem zb_fit {x : Int32} (h : zb x = true) : fits .boolean (.int x) = true := by
  simp only [zb, Bool.or_eq_true, decide_eq_true_eq] at h
  rcases h with rfl | rfl <;> rfl
theorem zb_vp {x : Int32} (h : zb x = true) : vp_nar .boolean x = x := by
  simp only [zb, Bool.or_eq_true, decide_eq_true_eq] at h
  rcases h with rfl | rfl <;> rfl
theorem gd {b : Bool} {α : Type} {a : Option α} {r : α} (h : (if b = false then none else a) = some r) : b = true ∧ a = some r := by
  cases b
  · simp at h
  · exact ⟨rfl, by simpa using h⟩
theorem gn {x : Int32} {α : Type} {a : Option α} {r : α} (h : (if x = 0 then none else a) = some r) : ¬ x = 0 ∧ a = some r := by
  by_cases hx : x = 0
  · simp [hx] at h
  · exact ⟨hx, by simpa [hx] using h⟩
theorem gnL {x : Int64} {α : Type} {a : Option α} {r : α} (h : (if x = 0 then none else a) = some r) : ¬ x = 0 ∧ a = some r := by
  by_cases hx : x = 0
  · simp [hx] at h
  · exact ⟨hx, by simpa [hx] using h⟩
theorem bd {α β : Type} {o : Option α} {k : α → Option β} {r : β} (h : o.bind k = some r) : ∃ a, o = some a ∧ k a = some r := by
  cases o with
  | none => simp at h
  | some a => exact ⟨a, rfl, h⟩
def it1 {σ1 ρ : Type} (body : (σ1 → Option ρ) → σ1 → Option ρ) : Nat → σ1 → Option ρ
  | 0 => fun _ => none
  | k + 1 => body (it1 body k)
def it2 {σ1 σ2 ρ : Type} (body : (σ1 → σ2 → Option ρ) → σ1 → σ2 → Option ρ) : Nat → σ1 → σ2 → Option ρ
  | 0 => fun _ _ => none
  | k + 1 => body (it2 body k)
def it3 {σ1 σ2 σ3 ρ : Type} (body : (σ1 → σ2 → σ3 → Option ρ) → σ1 → σ2 → σ3 → Option ρ) : Nat → σ1 → σ2 → σ3 → Option ρ
  | 0 => fun _ _ _ => none
  | k + 1 => body (it3 body k)
def it4 {σ1 σ2 σ3 σ4 ρ : Type} (body : (σ1 → σ2 → σ3 → σ4 → Option ρ) → σ1 → σ2 → σ3 → σ4 → Option ρ) : Nat → σ1 → σ2 → σ3 → σ4 → Option ρ
  | 0 => fun _ _ _ _ => none
  | k + 1 => body (it4 body k)
def it5 {σ1 σ2 σ3 σ4 σ5 ρ : Type} (body : (σ1 → σ2 → σ3 → σ4 → σ5 → Option ρ) → σ1 → σ2 → σ3 → σ4 → σ5 → Option ρ) : Nat → σ1 → σ2 → σ3 → σ4 → σ5 → Option ρ
  | 0 => fun _ _ _ _ _ => none
  | k + 1 => body (it5 body k)
def it6 {σ1 σ2 σ3 σ4 σ5 σ6 ρ : Type} (body : (σ1 → σ2 → σ3 → σ4 → σ5 → σ6 → Option ρ) → σ1 → σ2 → σ3 → σ4 → σ5 → σ6 → Option ρ) : Nat → σ1 → σ2 → σ3 → σ4 → σ5 → σ6 → Option ρ
  | 0 => fun _ _ _ _ _ _ => none
  | k + 1 => body (it6 body k)
def it7 {σ1 σ2 σ3 σ4 σ5 σ6 σ7 ρ : Type} (body : (σ1 → σ2 → σ3 → σ4 → σ5 → σ6 → σ7 → Option ρ) → σ1 → σ2 → σ3 → σ4 → σ5 → σ6 → σ7 → Option ρ) : Nat → σ1 → σ2 → σ3 → σ4 → σ5 → σ6 → σ7 → Option ρ
  | 0 => fun _ _ _ _ _ _ _ => none
  | k + 1 => body (it7 body k)
def it8 {σ1 σ2 σ3 σ4 σ5 σ6 σ7 σ8 ρ : Type} (body : (σ1 → σ2 → σ3 → σ4 → σ5 → σ6 → σ7 → σ8 → Option ρ) → σ1 → σ2 → σ3 → σ4 → σ5 → σ6 → σ7 → σ8 → Option ρ) : Nat → σ1 → σ2 → σ3 → σ4 → σ5 → σ6 → σ7 → σ8 → Option ρ
  | 0 => fun _ _ _ _ _ _ _ _ => none
  | k + 1 => body (it8 body k)
def it9 {σ1 σ2 σ3 σ4 σ5 σ6 σ7 σ8 σ9 ρ : Type} (body : (σ1 → σ2 → σ3 → σ4 → σ5 → σ6 → σ7 → σ8 → σ9 → Option ρ) → σ1 → σ2 → σ3 → σ4 → σ5 → σ6 → σ7 → σ8 → σ9 → Option ρ) : Nat → σ1 → σ2 → σ3 → σ4 → σ5 → σ6 → σ7 → σ8 → σ9 → Option ρ
  | 0 => fun _ _ _ _ _ _ _ _ _ => none
  | k + 1 => body (it9 body k)
def it10 {σ1 σ2 σ3 σ4 σ5 σ6 σ7 σ8 σ9 σ10 ρ : Type} (body : (σ1 → σ2 → σ3 → σ4 → σ5 → σ6 → σ7 → σ8 → σ9 → σ10 → Option ρ) → σ1 → σ2 → σ3 → σ4 → σ5 → σ6 → σ7 → σ8 → σ9 → σ10 → Option ρ) : Nat → σ1 → σ2 → σ3 → σ4 → σ5 → σ6 → σ7 → σ8 → σ9 → σ10 → Option ρ
  | 0 => fun _ _ _ _ _ _ _ _ _ _ => none
  | k + 1 => body (it10 body k)
def it11 {σ1 σ2 σ3 σ4 σ5 σ6 σ7 σ8 σ9 σ10 σ11 ρ : Type} (body : (σ1 → σ2 → σ3 → σ4 → σ5 → σ6 → σ7 → σ8 → σ9 → σ10 → σ11 → Option ρ) → σ1 → σ2 → σ3 → σ4 → σ5 → σ6 → σ7 → σ8 → σ9 → σ10 → σ11 → Option ρ) : Nat → σ1 → σ2 → σ3 → σ4 → σ5 → σ6 → σ7 → σ8 → σ9 → σ10 → σ11 → Option ρ
  | 0 => fun _ _ _ _ _ _ _ _ _ _ _ => none
  | k + 1 => body (it11 body k)
def it12 {σ1 σ2 σ3 σ4 σ5 σ6 σ7 σ8 σ9 σ10 σ11 σ12 ρ : Type} (body : (σ1 → σ2 → σ3 → σ4 → σ5 → σ6 → σ7 → σ8 → σ9 → σ10 → σ11 → σ12 → Option ρ) → σ1 → σ2 → σ3 → σ4 → σ5 → σ6 → σ7 → σ8 → σ9 → σ10 → σ11 → σ12 → Option ρ) : Nat → σ1 → σ2 → σ3 → σ4 → σ5 → σ6 → σ7 → σ8 → σ9 → σ10 → σ11 → σ12 → Option ρ
  | 0 => fun _ _ _ _ _ _ _ _ _ _ _ _ => none
  | k + 1 => body (it12 body k)
def nbr (x : Int32) : Bool := decide (x.toInt8.toInt32 = x)
def ncr (x : Int32) : Bool := decide (x.toUInt32.toUInt16.toUInt32.toInt32 = x)
theorem nbr_nar {x : Int32} (h : nbr x = true) : narrow .byte (.int x) = .int x := congrArg Value.int (of_decide_eq_true h)
theorem ncr_nar {x : Int32} (h : ncr x = true) : narrow .char (.int x) = .int x := congrArg Value.int (of_decide_eq_true h)
def FU : Nat := 1000000
section MEM
variable {p : Program} {l : Launch} {e : Env} {R : Room} {s : State} {m : MethodId} {args : Array Value} {below : List Frame} {meth : Method} {c : Code} {cc : ByteArray} {nL : Nat} {own : String} {ret : Option FieldType} {D : va_G} {cy : Nat → ClassId} {ad : Nat → Nat} {A : Nat → Prop} {kc ks : Nat} {Z : State → Prop} {μ : Mem} {ls : List (Nat × Value)} {pc : Nat} {rest : List Value}
theorem wa_geti (C : CX p s m args meth c cc nL own ret D cy ad A) {p0 k ci index : Nat} {fs : List Nat} {x : Int32} (hf : FLK own index ci k) (hsh : shp p0 = .inr (ci, fs)) (hk0 : fs[k]? = some 0) (hp : p0 < nPl) (hx : μ.1 p0 k = x) (hdg : decode cc pc = .ok (.getfield index, 3)) (kk : WA p l e R s m args below meth c nL D cy ad A kc ks Z μ ls (pc + 3) (.int x :: rest)) : WA p l e R s m args below meth c nL D cy ad A kc ks Z μ ls pc (.ref p0 :: rest) := by
  intro H locs la hP hS hl
  obtain ⟨Cn, T, N, hc, hin, hkN, hlink⟩ := hf
  have he := wd_at (ad := ad) (cy := cy) (μ := μ) hp
  rw [cell_obj hsh] at he
  exact va_get C.1 C.2.1 C.2.2.2.2.1 hin C.2.2.2.1 C.2.2.2.2.2.1 hP p0 he hc k hkN (C.2.2.2.2.1 _ hlink) (fun _ h => h) (v := .int x) (by rw [fvs_at, hk0, ← hx]; simp) hdg (kk H locs la hP hS hl)
theorem wa_getl (C : CX p s m args meth c cc nL own ret D cy ad A) {p0 k ci index : Nat} {fs : List Nat} {x : Int64} (hf : FLK own index ci k) (hsh : shp p0 = .inr (ci, fs)) (hk0 : fs[k]? = some 1) (hp : p0 < nPl) (hx : μ.2 p0 k = x) (hdg : decode cc pc = .ok (.getfield index, 3)) (kk : WA p l e R s m args below meth c nL D cy ad A kc ks Z μ ls (pc + 3) (.long x :: rest)) : WA p l e R s m args below meth c nL D cy ad A kc ks Z μ ls pc (.ref p0 :: rest) := by
  intro H locs la hP hS hl
  obtain ⟨Cn, T, N, hc, hin, hkN, hlink⟩ := hf
  have he := wd_at (ad := ad) (cy := cy) (μ := μ) hp
  rw [cell_obj hsh] at he
  exact va_get C.1 C.2.1 C.2.2.2.2.1 hin C.2.2.2.1 C.2.2.2.2.2.1 hP p0 he hc k hkN (C.2.2.2.2.1 _ hlink) (fun _ h => h) (v := .long x) (by rw [fvs_at, hk0, ← hx]; simp) hdg (kk H locs la hP hS hl)
theorem wa_getr (C : CX p s m args meth c cc nL own ret D cy ad A) {p0 k ci index q : Nat} {fs : List Nat} (hf : FLK own index ci k) (hsh : shp p0 = .inr (ci, fs)) (hk0 : fs[k]? = some (q + 2)) (hp : p0 < nPl) (hdg : decode cc pc = .ok (.getfield index, 3)) (kk : WA p l e R s m args below meth c nL D cy ad A kc ks Z μ ls (pc + 3) (.ref q :: rest)) : WA p l e R s m args below meth c nL D cy ad A kc ks Z μ ls pc (.ref p0 :: rest) := by
  intro H locs la hP hS hl
  obtain ⟨Cn, T, N, hc, hin, hkN, hlink⟩ := hf
  have he := wd_at (ad := ad) (cy := cy) (μ := μ) hp
  rw [cell_obj hsh] at he
  exact va_get C.1 C.2.1 C.2.2.2.2.1 hin C.2.2.2.1 C.2.2.2.2.2.1 hP p0 he hc k hkN (C.2.2.2.2.1 _ hlink) (fun _ h => h) (v := .ref (ad q)) (by rw [fvs_at, hk0]; simp) hdg (kk H locs la hP hS hl)
theorem wa_puti (C : CX p s m args meth c cc nL own ret D cy ad A) {p0 k ci index : Nat} {fs : List Nat} {x : Int32} {ty : FieldType} (hf : FLK own index ci k) (hg : FPK ci k ty) (hsh : shp p0 = .inr (ci, fs)) (hk0 : fs[k]? = some 0) (hp : p0 < nPl) (hn : narrow ty (.int x) = .int x) (hfit : fits ty (.int x) = true) (hdg : decode cc pc = .ok (.putfield index, 3)) (kk : WA p l e R s m args below meth c nL D cy ad A kc ks Z (pI μ p0 k x) ls (pc + 3) rest) : WA p l e R s m args below meth c nL D cy ad A kc ks Z μ ls pc (.int x :: .ref p0 :: rest) := by
  intro H locs la hP hS hl
  obtain ⟨Cn, T, N, hc, hin, hkN, hlink⟩ := hf
  obtain ⟨Cn', T', N', ty0, hc', hty, hnm, hfin, hd⟩ := hg
  rw [hc] at hc'
  obtain ⟨rfl, rfl, rfl⟩ : Cn = Cn' ∧ T = T' ∧ N = N' := by simpa using hc'
  have he := wd_at (ad := ad) (cy := cy) (μ := μ) hp
  rw [cell_obj hsh] at he
  refine va_put C.1 C.2.1 C.2.2.2.2.1 hin ty0 hty hnm C.2.2.2.1 C.2.2.2.2.2.1 hP (wd_D C.2.2.2.2.2.2.2.2.1 C.2.2.2.2.2.2.2.2.2.1) hS p0 he hc k hkN (C.2.2.2.2.1 _ hlink) (fun _ h => h) hfin hd (v := .int x) hn hfit (by rw [fvs_len]; exact (List.getElem?_eq_some_iff.mp hk0).1) hdg (fun H1 locs1 hP1 _ hS1 => kk H1 locs1 la ?_ hS1 hl)
  rw [fvs_setI hk0, wd_set (μ := μ) (μ' := pI μ p0 k x) hp (cell_obj hsh).symm (fun q hq => cell_cong (pI_ne1 μ p0 k x q hq) (fun _ => rfl))] at hP1
  exact hP1
theorem wa_putl (C : CX p s m args meth c cc nL own ret D cy ad A) {p0 k ci index : Nat} {fs : List Nat} {x : Int64} (hf : FLK own index ci k) (hg : FPK ci k .long) (hsh : shp p0 = .inr (ci, fs)) (hk0 : fs[k]? = some 1) (hp : p0 < nPl) (hdg : decode cc pc = .ok (.putfield index, 3)) (kk : WA p l e R s m args below meth c nL D cy ad A kc ks Z (pL μ p0 k x) ls (pc + 3) rest) : WA p l e R s m args below meth c nL D cy ad A kc ks Z μ ls pc (.long x :: .ref p0 :: rest) := by
  intro H locs la hP hS hl
  obtain ⟨Cn, T, N, hc, hin, hkN, hlink⟩ := hf
  obtain ⟨Cn', T', N', ty0, hc', hty, hnm, hfin, hd⟩ := hg
  rw [hc] at hc'
  obtain ⟨rfl, rfl, rfl⟩ : Cn = Cn' ∧ T = T' ∧ N = N' := by simpa using hc'
  have he := wd_at (ad := ad) (cy := cy) (μ := μ) hp
  rw [cell_obj hsh] at he
  refine va_put C.1 C.2.1 C.2.2.2.2.1 hin ty0 hty hnm C.2.2.2.1 C.2.2.2.2.2.1 hP (wd_D C.2.2.2.2.2.2.2.2.1 C.2.2.2.2.2.2.2.2.2.1) hS p0 he hc k hkN (C.2.2.2.2.1 _ hlink) (fun _ h => h) hfin hd (v := .long x) rfl rfl (by rw [fvs_len]; exact (List.getElem?_eq_some_iff.mp hk0).1) hdg (fun H1 locs1 hP1 _ hS1 => kk H1 locs1 la ?_ hS1 hl)
  rw [fvs_setL hk0, wd_set (μ := μ) (μ' := pL μ p0 k x) hp (cell_obj hsh).symm (fun q hq => cell_cong (fun _ => rfl) (pL_ne2 μ p0 k x q hq))] at hP1
  exact hP1
theorem wa_iald (C : CX p s m args meth c cc nL own ret D cy ad A) {p0 n j : Nat} {i x : Int32} (hsh : shp p0 = .inl (0, n)) (hp : p0 < nPl) (hin : inb i n = true) (hj : i.toNatClampNeg = j) (hx : μ.1 p0 j = x) (hdg : decode cc pc = .ok (.iaload, 1)) (kk : WA p l e R s m args below meth c nL D cy ad A kc ks Z μ ls (pc + 1) (.int x :: rest)) : WA p l e R s m args below meth c nL D cy ad A kc ks Z μ ls pc (.int i :: .ref p0 :: rest) := by
  intro H locs la hP hS hl
  have he := wd_at (ad := ad) (cy := cy) (μ := μ) hp
  rw [cell_arr hsh] at he
  subst hx
  subst hj
  exact va_iald C.1 C.2.1 C.2.2.2.2.2.1 hP p0 0 he rfl (inb_in hin) hdg (kk H locs la hP hS hl)
theorem wa_bald (C : CX p s m args meth c cc nL own ret D cy ad A) {p0 n j : Nat} {i x : Int32} (hsh : shp p0 = .inl (1, n)) (hp : p0 < nPl) (hin : inb i n = true) (hj : i.toNatClampNeg = j) (hx : μ.1 p0 j = x) (hdg : decode cc pc = .ok (.baload, 1)) (kk : WA p l e R s m args below meth c nL D cy ad A kc ks Z μ ls (pc + 1) (.int x :: rest)) : WA p l e R s m args below meth c nL D cy ad A kc ks Z μ ls pc (.int i :: .ref p0 :: rest) := by
  intro H locs la hP hS hl
  have he := wd_at (ad := ad) (cy := cy) (μ := μ) hp
  rw [cell_arr hsh] at he
  subst hx
  subst hj
  exact va_bald C.1 C.2.1 C.2.2.2.2.2.1 hP p0 1 he rfl (inb_in hin) hdg (kk H locs la hP hS hl)
theorem wa_zald (C : CX p s m args meth c cc nL own ret D cy ad A) {p0 n j : Nat} {i x : Int32} (hsh : shp p0 = .inl (2, n)) (hp : p0 < nPl) (hin : inb i n = true) (hj : i.toNatClampNeg = j) (hx : μ.1 p0 j = x) (hdg : decode cc pc = .ok (.baload, 1)) (kk : WA p l e R s m args below meth c nL D cy ad A kc ks Z μ ls (pc + 1) (.int x :: rest)) : WA p l e R s m args below meth c nL D cy ad A kc ks Z μ ls pc (.int i :: .ref p0 :: rest) := by
  intro H locs la hP hS hl
  have he := wd_at (ad := ad) (cy := cy) (μ := μ) hp
  rw [cell_arr hsh] at he
  subst hx
  subst hj
  exact va_zald C.1 C.2.1 C.2.2.2.2.2.1 hP p0 2 he rfl (inb_in hin) hdg (kk H locs la hP hS hl)
theorem wa_lald (C : CX p s m args meth c cc nL own ret D cy ad A) {p0 n j : Nat} {i : Int32} {x : Int64} (hsh : shp p0 = .inl (3, n)) (hp : p0 < nPl) (hin : inb i n = true) (hj : i.toNatClampNeg = j) (hx : μ.2 p0 j = x) (hdg : decode cc pc = .ok (.laload, 1)) (kk : WA p l e R s m args below meth c nL D cy ad A kc ks Z μ ls (pc + 1) (.long x :: rest)) : WA p l e R s m args below meth c nL D cy ad A kc ks Z μ ls pc (.int i :: .ref p0 :: rest) := by
  intro H locs la hP hS hl
  have he := wd_at (ad := ad) (cy := cy) (μ := μ) hp
  rw [cell_arr hsh] at he
  subst hx
  subst hj
  exact va_lald C.1 C.2.1 C.2.2.2.2.2.1 hP p0 3 he rfl (inb_in hin) hdg (kk H locs la hP hS hl)
theorem wa_aald4 (C : CX p s m args meth c cc nL own ret D cy ad A) {i : Int32} {j q : Nat} (hin : inb i 2 = true) (hj : i.toNatClampNeg = j) (hq : 12 + 7 * j = q) (hdg : decode cc pc = .ok (.aaload, 1)) (kk : WA p l e R s m args below meth c nL D cy ad A kc ks Z μ ls (pc + 1) (.ref q :: rest)) : WA p l e R s m args below meth c nL D cy ad A kc ks Z μ ls pc (.int i :: .ref 11 :: rest) := by
  intro H locs la hP hS hl
  have he := wd_at (ad := ad) (cy := cy) (μ := μ) (p := 11) (by decide)
  rw [cell_arr (t := 4) (n := 2) rfl] at he
  subst hj; subst hq
  exact va_aldq C.1 C.2.1 C.2.2.2.2.2.1 hP 11 4 (C := "ThreeAwake$Post") he rfl (inb_in hin) hdg (kk H locs la hP hS hl)
theorem wa_aald5 (C : CX p s m args meth c cc nL own ret D cy ad A) {i : Int32} {j q : Nat} (hin : inb i 4 = true) (hj : i.toNatClampNeg = j) (hq : 27 + 2 * j = q) (hdg : decode cc pc = .ok (.aaload, 1)) (kk : WA p l e R s m args below meth c nL D cy ad A kc ks Z μ ls (pc + 1) (.ref q :: rest)) : WA p l e R s m args below meth c nL D cy ad A kc ks Z μ ls pc (.int i :: .ref 26 :: rest) := by
  intro H locs la hP hS hl
  have he := wd_at (ad := ad) (cy := cy) (μ := μ) (p := 26) (by decide)
  rw [cell_arr (t := 5) (n := 4) rfl] at he
  subst hj; subst hq
  exact va_aldq C.1 C.2.1 C.2.2.2.2.2.1 hP 26 5 (C := "ThreeAwake$Sheet") he rfl (inb_in hin) hdg (kk H locs la hP hS hl)
theorem wa_iast (C : CX p s m args meth c cc nL own ret D cy ad A) {p0 n j : Nat} {i x : Int32} (hsh : shp p0 = .inl (0, n)) (hp : p0 < nPl) (hin : inb i n = true) (hj : i.toNatClampNeg = j) (hdg : decode cc pc = .ok (.iastore, 1)) (kk : WA p l e R s m args below meth c nL D cy ad A kc ks Z (pI μ p0 j x) ls (pc + 1) rest) : WA p l e R s m args below meth c nL D cy ad A kc ks Z μ ls pc (.int x :: .int i :: .ref p0 :: rest) := by
  intro H locs la hP hS hl
  have he := wd_at (ad := ad) (cy := cy) (μ := μ) hp
  rw [cell_arr hsh] at he
  subst hj
  refine va_iast C.1 C.2.1 C.2.2.2.2.2.1 hP (wd_D C.2.2.2.2.2.2.2.2.1 C.2.2.2.2.2.2.2.2.2.1) hS p0 0 he rfl (inb_in hin) hdg (fun H1 locs1 hP1 _ hS1 => kk H1 locs1 la ?_ hS1 hl)
  rw [upd_pI, wd_set (μ := μ) (μ' := pI μ p0 i.toNatClampNeg x) hp (by rw [cell_arr hsh]; rfl) (fun q hq => cell_cong (pI_ne1 μ p0 _ x q hq) (fun _ => rfl))] at hP1
  exact hP1
theorem wa_bast (C : CX p s m args meth c cc nL own ret D cy ad A) {p0 n j : Nat} {i x y : Int32} (hsh : shp p0 = .inl (1, n)) (hp : p0 < nPl) (hin : inb i n = true) (hj : i.toNatClampNeg = j) (hy : x.toInt8.toInt32 = y) (hdg : decode cc pc = .ok (.bastore, 1)) (kk : WA p l e R s m args below meth c nL D cy ad A kc ks Z (pI μ p0 j y) ls (pc + 1) rest) : WA p l e R s m args below meth c nL D cy ad A kc ks Z μ ls pc (.int x :: .int i :: .ref p0 :: rest) := by
  intro H locs la hP hS hl
  have he := wd_at (ad := ad) (cy := cy) (μ := μ) hp
  rw [cell_arr hsh] at he
  subst hj
  subst hy
  refine va_bast C.1 C.2.1 C.2.2.2.2.2.1 hP (wd_D C.2.2.2.2.2.2.2.2.1 C.2.2.2.2.2.2.2.2.2.1) hS p0 1 he rfl (inb_in hin) hdg (fun H1 locs1 hP1 _ hS1 => kk H1 locs1 la ?_ hS1 hl)
  rw [vp_nar_byte, upd_pI, wd_set (μ := μ) (μ' := pI μ p0 i.toNatClampNeg x.toInt8.toInt32) hp (by rw [cell_arr hsh]; rfl) (fun q hq => cell_cong (pI_ne1 μ p0 _ _ q hq) (fun _ => rfl))] at hP1
  exact hP1
theorem wa_zast (C : CX p s m args meth c cc nL own ret D cy ad A) {p0 n j : Nat} {i x : Int32} (hsh : shp p0 = .inl (2, n)) (hp : p0 < nPl) (hin : inb i n = true) (hj : i.toNatClampNeg = j) (hz : zb x = true) (hdg : decode cc pc = .ok (.bastore, 1)) (kk : WA p l e R s m args below meth c nL D cy ad A kc ks Z (pI μ p0 j x) ls (pc + 1) rest) : WA p l e R s m args below meth c nL D cy ad A kc ks Z μ ls pc (.int x :: .int i :: .ref p0 :: rest) := by
  intro H locs la hP hS hl
  have he := wd_at (ad := ad) (cy := cy) (μ := μ) hp
  rw [cell_arr hsh] at he
  subst hj
  refine va_zast C.1 C.2.1 C.2.2.2.2.2.1 hP (wd_D C.2.2.2.2.2.2.2.2.1 C.2.2.2.2.2.2.2.2.2.1) hS p0 2 he rfl (inb_in hin) hdg (fun H1 locs1 hP1 _ hS1 => kk H1 locs1 la ?_ hS1 hl)
  rw [zb_vp hz, upd_pI, wd_set (μ := μ) (μ' := pI μ p0 i.toNatClampNeg x) hp (by rw [cell_arr hsh]; rfl) (fun q hq => cell_cong (pI_ne1 μ p0 _ _ q hq) (fun _ => rfl))] at hP1
  exact hP1
theorem wa_last (C : CX p s m args meth c cc nL own ret D cy ad A) {p0 n j : Nat} {i : Int32} {x : Int64} (hsh : shp p0 = .inl (3, n)) (hp : p0 < nPl) (hin : inb i n = true) (hj : i.toNatClampNeg = j) (hdg : decode cc pc = .ok (.lastore, 1)) (kk : WA p l e R s m args below meth c nL D cy ad A kc ks Z (pL μ p0 j x) ls (pc + 1) rest) : WA p l e R s m args below meth c nL D cy ad A kc ks Z μ ls pc (.long x :: .int i :: .ref p0 :: rest) := by
  intro H locs la hP hS hl
  have he := wd_at (ad := ad) (cy := cy) (μ := μ) hp
  rw [cell_arr hsh] at he
  subst hj
  refine va_last C.1 C.2.1 C.2.2.2.2.2.1 hP (wd_D C.2.2.2.2.2.2.2.2.1 C.2.2.2.2.2.2.2.2.2.1) hS p0 3 he rfl (inb_in hin) hdg (fun H1 locs1 hP1 _ hS1 => kk H1 locs1 la ?_ hS1 hl)
  rw [updL_pL, wd_set (μ := μ) (μ' := pL μ p0 i.toNatClampNeg x) hp (by rw [cell_arr hsh]; rfl) (fun q hq => cell_cong (fun _ => rfl) (pL_ne2 μ p0 _ x q hq))] at hP1
  exact hP1
theorem wa_alen (C : CX p s m args meth c cc nL own ret D cy ad A) {p0 n t : Nat} {v : Int32} (hsh : shp p0 = .inl (t, n)) (hp : p0 < nPl) (ht : t < 4) (hv : Int32.ofNat n = v) (hdg : decode cc pc = .ok (.arraylength, 1)) (kk : WA p l e R s m args below meth c nL D cy ad A kc ks Z μ ls (pc + 1) (.int v :: rest)) : WA p l e R s m args below meth c nL D cy ad A kc ks Z μ ls pc (.ref p0 :: rest) := by
  intro H locs la hP hS hl
  have he := wd_at (ad := ad) (cy := cy) (μ := μ) hp
  rw [cell_arr hsh] at he
  obtain ⟨ty, hty⟩ : ∃ ty, (tysOf cy)[t]? = some (cy t, ty) := by
    match t, ht with
    | 0, _ => exact ⟨_, rfl⟩
    | 1, _ => exact ⟨_, rfl⟩
    | 2, _ => exact ⟨_, rfl⟩
    | 3, _ => exact ⟨_, rfl⟩
  exact va_alen C.1 C.2.1 C.2.2.2.2.2.1 hP p0 t he hty hv hdg (kk H locs la hP hS hl)
theorem wa_gpow (C : CX p s m args meth c cc nL own ret D cy ad A) {index : Nat} (hlink : Cond.fieldLink own index "ThreeAwake" "POWER" "[I" ∈ wsL_law) (hdg : decode cc pc = .ok (.getstatic index, 3)) (kk : WA p l e R s m args below meth c nL D cy ad A kc ks Z μ ls (pc + 3) (.ref 80 :: rest)) : WA p l e R s m args below meth c nL D cy ad A kc ks Z μ ls pc rest :=
  fun H locs la hP hS hl => va_gets C.1 C.2.1 C.2.2.2.2.2.2.2.2.2.2.1 hS C.2.2.2.1 (C.2.2.2.2.1 _ hlink) (fun _ h => h) hdg (kk H locs la hP hS hl)
theorem wa_gshu (C : CX p s m args meth c cc nL own ret D cy ad A) {index : Nat} (hlink : Cond.fieldLink own index "ThreeAwake" "SHUT" "[I" ∈ wsL_law) (hdg : decode cc pc = .ok (.getstatic index, 3)) (kk : WA p l e R s m args below meth c nL D cy ad A kc ks Z μ ls (pc + 3) (.ref 81 :: rest)) : WA p l e R s m args below meth c nL D cy ad A kc ks Z μ ls pc rest :=
  fun H locs la hP hS hl => va_gets C.1 C.2.1 C.2.2.2.2.2.2.2.2.2.2.2.2.1 hS C.2.2.2.1 (C.2.2.2.2.1 _ hlink) (fun _ h => h) hdg (kk H locs la hP hS hl)
theorem wa_pald (C : CX p s m args meth c cc nL own ret D cy ad A) {i : Int32} {j : Nat} (hin : inb i 4 = true) (hj : i.toNatClampNeg = j) (hdg : decode cc pc = .ok (.iaload, 1)) (kk : WA p l e R s m args below meth c nL D cy ad A kc ks Z μ ls (pc + 1) (.int (powF j) :: rest)) : WA p l e R s m args below meth c nL D cy ad A kc ks Z μ ls pc (.int i :: .ref 80 :: rest) :=
  fun H locs la hP hS hl => va_ti C.1 C.2.1 C.2.2.2.2.2.2.2.2.2.2.2.1 hS (inb_in hin) (by rw [hj]; rfl) hdg (kk H locs la hP hS hl)
theorem wa_sald (C : CX p s m args meth c cc nL own ret D cy ad A) {i : Int32} {j : Nat} (hin : inb i 27 = true) (hj : i.toNatClampNeg = j) (hdg : decode cc pc = .ok (.iaload, 1)) (kk : WA p l e R s m args below meth c nL D cy ad A kc ks Z μ ls (pc + 1) (.int (shuF j) :: rest)) : WA p l e R s m args below meth c nL D cy ad A kc ks Z μ ls pc (.int i :: .ref 81 :: rest) :=
  fun H locs la hP hS hl => va_ti C.1 C.2.1 C.2.2.2.2.2.2.2.2.2.2.2.2.2.1 hS (inb_in hin) (by rw [hj]; rfl) hdg (kk H locs la hP hS hl)
theorem wa_iret (C : CX p s m args meth c cc nL own (some .int) D cy ad A) {x : Int32} (hdg : decode cc pc = .ok (.ireturn, 1)) : WA p l e R s m args below meth c nL D cy ad A kc ks (ZZ below args s D cy ad A kc ks (some (.int x)) μ) μ ls pc [.int x] :=
  fun _ _ _ hP hS _ => W.iret C.1 C.2.1 C.2.2.2.2.2.2.1 (fun t ht _ => ⟨⟨rfl, by rw [ht]; exact hP⟩, hS.F ht⟩) hS.2.2 hdg C.2.2.2.2.2.2.2.1
theorem wa_zret (C : CX p s m args meth c cc nL own (some .boolean) D cy ad A) {x : Int32} (hz : zb x = true) (hdg : decode cc pc = .ok (.ireturn, 1)) : WA p l e R s m args below meth c nL D cy ad A kc ks (ZZ below args s D cy ad A kc ks (some (.int x)) μ) μ ls pc [.int x] :=
  fun _ _ _ hP hS _ => W.zret C.1 C.2.1 C.2.2.2.2.2.2.1 (zb_nar hz) (fun t ht _ => ⟨⟨rfl, by rw [ht]; exact hP⟩, hS.F ht⟩) hS.2.2 hdg C.2.2.2.2.2.2.2.1
theorem wa_lret (C : CX p s m args meth c cc nL own (some .long) D cy ad A) {x : Int64} (hdg : decode cc pc = .ok (.lreturn, 1)) : WA p l e R s m args below meth c nL D cy ad A kc ks (ZZ below args s D cy ad A kc ks (some (.long x)) μ) μ ls pc [.long x] :=
  fun _ _ _ hP hS _ => W.lret C.1 C.2.1 C.2.2.2.2.2.2.1 (fun t ht _ => ⟨⟨rfl, by rw [ht]; exact hP⟩, hS.F ht⟩) hS.2.2 hdg C.2.2.2.2.2.2.2.1
theorem wa_vret (C : CX p s m args meth c cc nL own none D cy ad A) (hdg : decode cc pc = .ok (.return_, 1)) : WA p l e R s m args below meth c nL D cy ad A kc ks (ZZ below args s D cy ad A kc ks none μ) μ ls pc [] :=
  fun _ _ _ hP hS _ => W.vret C.1 C.2.1 C.2.2.2.2.2.2.1 (fun t ht _ => ⟨⟨rfl, by rw [ht]; exact hP⟩, hS.F ht⟩) hS.2.2 hdg C.2.2.2.2.2.2.2.1
theorem wa_aret {rt : FieldType} (C : CX p s m args meth c cc nL own (some rt) D cy ad A) {x : Nat} (hrt : (∃ n, rt = .object n) ∨ ∃ t, rt = .array t) (hdg : decode cc pc = .ok (.areturn, 1)) : WA p l e R s m args below meth c nL D cy ad A kc ks (ZZ below args s D cy ad A kc ks (some (.ref x)) μ) μ ls pc [.ref x] :=
  fun _ _ _ hP hS _ => W.aret C.1 C.2.1 C.2.2.2.2.2.2.1 hrt (Or.inr ⟨_, rfl⟩) (fun t ht _ => ⟨⟨rfl, by rw [ht]; exact hP⟩, hS.F ht⟩) hS.2.2 hdg C.2.2.2.2.2.2.2.1
theorem wa_nret {ty : FieldType} (C : CX p s m args meth c cc nL own (some ty) D cy ad A) {x : Int32} (hz : narrow ty (.int x) = .int x) (hdg : decode cc pc = .ok (.ireturn, 1)) : WA p l e R s m args below meth c nL D cy ad A kc ks (ZZ below args s D cy ad A kc ks (some (.int x)) μ) μ ls pc [.int x] :=
  fun _ _ _ hP hS _ => W.zret C.1 C.2.1 C.2.2.2.2.2.2.1 hz (fun t ht _ => ⟨⟨rfl, by rw [ht]; exact hP⟩, hS.F ht⟩) hS.2.2 hdg C.2.2.2.2.2.2.2.1
theorem wa_gN (C : CX p s m args meth c cc nL own ret D cy ad A) {index q : Nat} {n : String} (hlink : va_Nw (.fieldLinkNest own index "ThreeAwake" n "[I" "ThreeAwake") s) (hZ : va_Z "ThreeAwake" n "[I" (.ref (ad q)) A s s.heap) (hdg : decode cc pc = .ok (.getstatic index, 3)) (kk : WA p l e R s m args below meth c nL D cy ad A kc ks Z μ ls (pc + 3) (.ref q :: rest)) : WA p l e R s m args below meth c nL D cy ad A kc ks Z μ ls pc rest :=
  fun H locs la hP hS hl => va_getsN C.1 C.2.1 hZ hS C.2.2.2.1 (hlink.use rfl) (fun _ h => h) hdg (kk H locs la hP hS hl)
theorem CX.st (C : CX p s m args meth c cc nL own ret D cy ad A) : ST ad A s s.heap := C.2.2.2.2.2.2.2.2.2.2
theorem wa_gshu0 (C : CX p s m args meth c cc nL RX0 ret D cy ad A) (hdg : decode cc pc = .ok (.getstatic 19, 3)) (kk : WA p l e R s m args below meth c nL D cy ad A kc ks Z μ ls (pc + 3) (.ref 81 :: rest)) : WA p l e R s m args below meth c nL D cy ad A kc ks Z μ ls pc rest := wa_gN C C.st.2.2.2.2.2.2.2.2.1 C.st.2.2.1 hdg kk
theorem wa_gpow1 (C : CX p s m args meth c cc nL RX1 ret D cy ad A) (hdg : decode cc pc = .ok (.getstatic 41, 3)) (kk : WA p l e R s m args below meth c nL D cy ad A kc ks Z μ ls (pc + 3) (.ref 80 :: rest)) : WA p l e R s m args below meth c nL D cy ad A kc ks Z μ ls pc rest := wa_gN C C.st.2.2.2.2.2.2.2.2.2.1 C.st.1 hdg kk
theorem wa_gshu3 (C : CX p s m args meth c cc nL RX3 ret D cy ad A) (hdg : decode cc pc = .ok (.getstatic 56, 3)) (kk : WA p l e R s m args below meth c nL D cy ad A kc ks Z μ ls (pc + 3) (.ref 81 :: rest)) : WA p l e R s m args below meth c nL D cy ad A kc ks Z μ ls pc rest := wa_gN C C.st.2.2.2.2.2.2.2.2.2.2.1 C.st.2.2.1 hdg kk
theorem wa_gshu7 (C : CX p s m args meth c cc nL RX7 ret D cy ad A) (hdg : decode cc pc = .ok (.getstatic 37, 3)) (kk : WA p l e R s m args below meth c nL D cy ad A kc ks Z μ ls (pc + 3) (.ref 81 :: rest)) : WA p l e R s m args below meth c nL D cy ad A kc ks Z μ ls pc rest := wa_gN C C.st.2.2.2.2.2.2.2.2.2.2.2 C.st.2.2.1 hdg kk
theorem wa_ldcS (C : CX p s m args meth c cc nL RX5 ret D cy ad A) {i index : Nat} (hi : i < 10) (hk : strK.getD i 0 = index) (hdg : decode cc pc = .ok (.ldc index, 2)) (kk : WA p l e R s m args below meth c nL D cy ad A kc ks Z μ ls (pc + 2) (.ref (82 + i) :: rest)) : WA p l e R s m args below meth c nL D cy ad A kc ks Z μ ls pc rest := by
  intro H locs la hP hS hl
  have h := C.st.2.2.2.2.2.1 i hi
  rw [hk] at h
  exact va_ldcS C.1 C.2.1 C.2.2.2.1 h hdg (kk H locs la hP hS hl)
theorem wa_sval (C : CX p s m args meth c cc nL own ret D cy ad A) {i index : Nat} (hi : i < 10) (hlink : Cond.fieldLink own index "java/lang/String" "value" "[B" ∈ wsL_law) (hdg : decode cc pc = .ok (.getfield index, 3)) (kk : WA p l e R s m args below meth c nL D cy ad A kc ks Z μ ls (pc + 3) (.ref (92 + i) :: rest)) : WA p l e R s m args below meth c nL D cy ad A kc ks Z μ ls pc (.ref (82 + i) :: rest) :=
  fun H locs la hP hS hl => vk_getf C.1 C.2.1 (C.st.2.2.2.2.1.1 i hi).2.2.1 hS C.2.2.2.1 (C.2.2.2.2.1 _ hlink) (fun _ h => h) hdg (kk H locs la hP hS hl)
theorem wa_scod (C : CX p s m args meth c cc nL own ret D cy ad A) {i index : Nat} (hi : i < 10) (hlink : Cond.fieldLink own index "java/lang/String" "coder" "B" ∈ wsL_law) (hdg : decode cc pc = .ok (.getfield index, 3)) (kk : WA p l e R s m args below meth c nL D cy ad A kc ks Z μ ls (pc + 3) (.int 0 :: rest)) : WA p l e R s m args below meth c nL D cy ad A kc ks Z μ ls pc (.ref (82 + i) :: rest) :=
  fun H locs la hP hS hl => vk_getf C.1 C.2.1 (C.st.2.2.2.2.1.1 i hi).2.1 hS C.2.2.2.1 (C.2.2.2.2.1 _ hlink) (fun _ h => h) hdg (kk H locs la hP hS hl)
theorem wa_strb (C : CX p s m args meth c cc nL own ret D cy ad A) {i j : Nat} {k : Int32} (hi : i < 10) (hin : inb k (strL.getD i 0) = true) (hj : k.toNatClampNeg = j) (hdg : decode cc pc = .ok (.baload, 1)) (kk : WA p l e R s m args below meth c nL D cy ad A kc ks Z μ ls (pc + 1) (.int (strB i j) :: rest)) : WA p l e R s m args below meth c nL D cy ad A kc ks Z μ ls pc (.int k :: .ref (92 + i) :: rest) :=
  fun H locs la hP hS hl => va_tb C.1 C.2.1 (C.st.2.2.2.2.1.1 i hi).2.2.2 hS (inb_in hin) (v := .int (strB i j)) (by rw [hj]; rfl) hdg (kk H locs la hP hS hl)
theorem wa_stralen (C : CX p s m args meth c cc nL own ret D cy ad A) {i : Nat} {v : Int32} (hi : i < 10) (hv : Int32.ofNat (strL.getD i 0) = v) (hdg : decode cc pc = .ok (.arraylength, 1)) (kk : WA p l e R s m args below meth c nL D cy ad A kc ks Z μ ls (pc + 1) (.int v :: rest)) : WA p l e R s m args below meth c nL D cy ad A kc ks Z μ ls pc (.ref (92 + i) :: rest) := by
  intro H locs la hP hS hl
  obtain ⟨cell, h1, h2, h3, h4, h5, h6, h7⟩ := (C.st.2.2.2.2.1.1 i hi).2.2.2
  exact W.alen C.1 C.2.1 (a := ad (92 + i)) (cell := cell) (by rw [hS.2.1 _ (Array.getElem?_eq_some_iff.mp h1).1 h7]; exact h1) h2 (h5.trans hv) rfl rfl hdg (kk H locs la hP hS hl)
theorem wa_gcs (C : CX p s m args meth c cc nL own ret D cy ad A) {index : Nat} (hlink : Cond.fieldLink own index "java/lang/String" "COMPACT_STRINGS" "Z" ∈ wsL_law) (hdg : decode cc pc = .ok (.getstatic index, 3)) (kk : WA p l e R s m args below meth c nL D cy ad A kc ks Z μ ls (pc + 3) (.int 1 :: rest)) : WA p l e R s m args below meth c nL D cy ad A kc ks Z μ ls pc rest :=
  fun H locs la hP hS hl => va_gets C.1 C.2.1 C.st.2.2.2.2.2.2.1 hS C.2.2.2.1 (C.2.2.2.2.1 _ hlink) (fun _ h => h) hdg (kk H locs la hP hS hl)
theorem wa_gfmt (C : CX p s m args meth c cc nL own ret D cy ad A) {index : Nat} (hlink : Cond.fieldLink own index "jdk/internal/util/Preconditions" "SIOOBE_FORMATTER" "Ljava/util/function/BiFunction;" ∈ wsL_law) (hdg : decode cc pc = .ok (.getstatic index, 3)) (k1 : WA p l e R s m args below meth c nL D cy ad A kc ks Z μ ls (pc + 3) (.ref 102 :: rest)) (k2 : WA p l e R s m args below meth c nL D cy ad A kc ks Z μ ls (pc + 3) (.null :: rest)) : WA p l e R s m args below meth c nL D cy ad A kc ks Z μ ls pc rest := by
  intro H locs la hP hS hl
  rcases C.st.2.2.2.2.2.2.2.1 with h | h
  · exact va_gets C.1 C.2.1 h hS C.2.2.2.1 (C.2.2.2.2.1 _ hlink) (fun _ h => h) hdg (k2 H locs la hP hS hl)
  · exact va_gets C.1 C.2.1 h hS C.2.2.2.1 (C.2.2.2.2.1 _ hlink) (fun _ h => h) hdg (k1 H locs la hP hS hl)
end MEM
