/-! CALLS over WA -/
theorem gts_all : wsL_law.all goodWord = true := by decide +kernel
theorem gts {w0 y0 : Cond} (hy : y0 ∈ wsL_law) : GoodIn (w0 :: wsL_law) (y0 :: wsL_law) := by
  have hg : ∀ w ∈ wsL_law, w ∈ w0 :: wsL_law ∧ ((w.onTables && w.keeps) = true ∨ ∃ ty, w = .arrayClass ty) := fun w hw => ⟨List.mem_cons_of_mem _ hw, good_of_word (List.all_eq_true.mp gts_all w hw)⟩
  intro w hw
  rcases List.mem_cons.mp hw with rfl | h
  · exact hg _ hy
  · exact hg _ h
theorem gts2 {y0 : Cond} (hy : y0 ∈ wsL_law) : GoodIn wsL_law (y0 :: wsL_law) := by
  have hg : ∀ w ∈ wsL_law, w ∈ wsL_law ∧ ((w.onTables && w.keeps) = true ∨ ∃ ty, w = .arrayClass ty) := fun w hw => ⟨hw, good_of_word (List.all_eq_true.mp gts_all w hw)⟩
  intro w hw
  rcases List.mem_cons.mp hw with rfl | h
  · exact hg _ hy
  · exact hg _ h
/-- a callee: its words stand among the law's -/
def MK (y : MethodName) (b : ByteArray) (nL : Nat) (ret : Option FieldType) (n : Nat) : Prop :=
  Cond.code y b nL ret ∈ wsL_law ∧ Cond.initialized y.cls ∈ wsL_law ∧ (y.cls ≠ "java/lang/invoke/MethodHandle" ∧ y.cls ≠ "java/lang/invoke/VarHandle" ∧ (parseMethodDescriptor y.desc).map (fun d => d.parameters.length) = some n)
def MV (y : MethodName) : Prop := Cond.instanceMethod y ∈ wsL_law ∧ Cond.selects y.cls y y ∈ wsL_law
theorem cvl_args (ad : Nat → Nat) : ∀ (vs : List Value) (i : Nat), lv_args i (cvs ad vs) = cvl ad (lv_args i vs) := by
  intro vs
  induction vs with
  | nil => intro i; rfl
  | cons v t ih =>
    intro i
    show (i, cv ad v) :: lv_args (if (cv ad v).category = 2 then i + 2 else i + 1) (cvs ad t) = (i, cv ad v) :: cvl ad (lv_args (if v.category = 2 then i + 2 else i + 1) t)
    rw [cv_cat, ih]
theorem cvs_sl (ad : Nat → Nat) : ∀ (vs : List Value), (lg_sl (cvs ad vs)).length = (lg_sl vs).length := by
  intro vs
  induction vs with
  | nil => rfl
  | cons v t ih =>
    have e1 : lg_sl (cvs ad (v :: t)) = (if (cv ad v).category = 2 then [.val (cv ad v), .second] else [.val (cv ad v)]) ++ lg_sl (cvs ad t) := rfl
    have e2 : lg_sl (v :: t) = (if v.category = 2 then [.val v, .second] else [.val v]) ++ lg_sl t := rfl
    rw [e1, e2, List.length_append, List.length_append, ih, cv_cat]
    split <;> rfl
theorem HT.of {d : Nat} {y : MethodName} {b : ByteArray} {nL : Nat} {ret : Option FieldType} {vs : List Value} {μ : Mem} {r : Option Value} {μ' : Mem} (hy : plainName y.cls = true) (hn : (lg_sl vs).length ≤ nL)
    (body : ∀ {p : Program} {l : Launch} {e : Env} {s : State} {m : MethodId} {args : Array Value} {below : List Frame} {meth : Method} {c : Code} {D : va_G} {cy : Nat → ClassId} {ad : Nat → Nat}, CX p s m args meth c b nL y.cls ret D cy ad (AD ad) → WA p l e (rmD d) s m args below meth c nL D cy ad (AD ad) 0 0 (ZZ below args s D cy ad (AD ad) 0 0 r μ') μ (lv_args 0 vs) 0 []) : HT d y b nL ret vs μ r μ' := by
  intro l D cy ad
  refine Met.ofW (cc := b) (maxL := nL) (ret := ret) hy rfl ?_
  intro p e s m args below meth c s₁ B hml hv
  obtain ⟨rfl, hP, hK, hi, hST⟩ := hv
  have hts := atoms_spec (ws := Cond.code y b nL ret :: wsL_law) B.pre
  have hl := lv_entry (cvs ad vs) (n := nL) (by rw [cvs_sl]; exact hn)
  rw [lg_entry_eq]
  rw [cvl_args] at hl
  exact body ⟨B.exec, B.bytes, hml, findClass_of_methodNamed B.named, fun w hw => hts w (List.mem_cons_of_mem _ hw), hK, B.returns, B.notSynchronized, hi, fun q hq => ⟨q, hq, rfl⟩, hST⟩ _ _ _ hP va_S.rf hl
theorem WLD.blind {D : va_G} {cy : Nat → ClassId} {ad : Nat → Nat} {μ : Mem} {vs : List Value} : FrameBlind (va_Pc vs (WLD D cy ad μ)) := fun a U g mk q => by
  obtain ⟨q0, qP, qK, qi, qS⟩ := q
  exact ⟨q0, qP, va_K.moved (u := U) (U := U.calling g mk a) (Vm.Alike.refl U.vm) qK, qi, ST.same (u := U) (U := U.calling g mk a) rfl qS⟩
theorem cvs_rev (ad : Nat → Nat) (l r : List Value) : cvs ad (l.reverse ++ r) = (cvs ad l).reverse ++ cvs ad r := by simp [cvs]
theorem cvs_sum (ad : Nat → Nat) (l : List Value) : ((cvs ad l).map fun v => v.category).sum = (l.map fun v => v.category).sum := by
  have : (cvs ad l).map (fun v => v.category) = l.map (fun v => v.category) := by
    simp only [cvs, List.map_map]
    apply List.map_congr_left
    intro v _
    exact cv_cat ad v
  rw [this]
section CALL
variable {p : Program} {l : Launch} {e : Env} {R : Room} {s : State} {m : MethodId} {args : Array Value} {below : List Frame} {meth : Method} {c : Code} {cc : ByteArray} {nL : Nat} {own : String} {ret : Option FieldType} {D : va_G} {cy : Nat → ClassId} {ad : Nat → Nat} {A : Nat → Prop} {kc ks : Nat} {Z : State → Prop} {μ : Mem} {ls : List (Nat × Value)} {pc : Nat} {rest : List Value}
theorem wld_at (C : CX p s m args meth c cc nL own ret D cy ad A) {H : Heap} {locs : List Loc} (hP : va_P D vwCl (wd ad cy μ) H) (hS : va_S A s.heap H locs) : ∀ U : State, U.heap = H → s.WarmedH U.vm → WLD D cy ad μ U := by
  intro U hU hW
  have hA : ∀ q, AD ad q → A q := fun q ⟨k, h1, h2⟩ => h2 ▸ C.2.2.2.2.2.2.2.2.2.1 k h1
  refine ⟨by rw [hU]; exact hP, va_K.moved hW.alike C.2.2.2.2.2.1, C.2.2.2.2.2.2.2.2.1, ?_⟩
  rw [hU]
  exact ((C.2.2.2.2.2.2.2.2.2.2.warm hW).kept hS.2.1).narrow hA
theorem wa_cont (C : CX p s m args meth c cc nL own ret D cy ad A) {H : Heap} {locs : List Loc} {la : Array Slot} {st0 : List Value} {r : Option Value} {μ' : Mem} (hS : va_S A s.heap H locs) (hl : lv_has la nL (cvl ad ls))
    (hr : va_Run p l e R s m args below meth c H locs kc ks 0 0 (F0 m pc la st0) (cvs ad rest) (fun st oc t => (oc = .returned (r.map (cv ad)) ∧ va_P D vwCl (wd ad cy μ') t.heap) ∧ va_F (AD ad) st t) (AD ad))
    (kk : WA p l e R s m args below meth c nL D cy ad A kc ks Z μ' ls (pc + 3) (r.toList ++ rest)) : W p l e R s m args below meth c H locs kc ks Z (F0 m pc la st0) := by
  have hA : ∀ q, AD ad q → A q := fun q ⟨k, h1, h2⟩ => h2 ▸ C.2.2.2.2.2.2.2.2.2.1 k h1
  intro T hT X
  obtain ⟨v, st₀, t, T', L, h0, X', hL, e1, e2, ⟨⟨hv, hp⟩, hz, hk⟩, st⟩ := hr T hT X
  cases hv
  rw [h0] at hz hk
  have hS' : va_S A s.heap T'.heap (locs ++ L) := ⟨Nat.le_trans hS.1 (by rw [e1]; exact hz), fun q h1 h2 => by rw [e1, hk q (Nat.lt_of_lt_of_le h1 hS.1) (fun z => h2 (hA q z))]; exact hS.2.1 q h1 h2, fun q hq => by
      rcases List.mem_append.mp hq with h | h
      · exact hS.2.2 q h
      · exact hA _ (hL q h)⟩
  have hP' : va_P D vwCl (wd ad cy μ') T'.heap := by rw [e1]; exact hp
  obtain ⟨t2, a1, b1⟩ := kk T'.heap (locs ++ L) la hP' hS' hl T' rfl X'
  refine ⟨t2, st t2 ?_, b1⟩
  have hst : cvs ad (r.toList ++ rest) = (r.map (cv ad)).toList ++ cvs ad rest := by cases r <;> rfl
  rw [hst] at a1
  exact a1
theorem wa_callV (C : CX p s m args meth c cc nL own ret D cy ad A) {d n p0 ci index nL' : Nat} {fs : List Nat} {y : MethodName} {b : ByteArray} {ret' : Option FieldType} {As st0 : List Value} {r : Option Value} {μ' : Mem} (h : HT d y b nL' ret' (.ref p0 :: As) μ r μ') (hM : MK y b nL' ret' n) (hV : MV y) (hlink : Cond.methodLink own index y ∈ wsL_law) (hsh : shp p0 = .inr (ci, fs)) (hp : p0 < nPl) (hcl : (vwCl[ci]?).map (·.1) = some y.cls) (hn : As.length = n)
    (hR : d + 2 ≤ R.frames ∧ 8 + (nL' + 11) + 60 * (d + 1) ≤ R.locals) (hcs : kc ≤ R.cells ∧ ks ≤ R.slots) (hcat : (rest.map fun v => v.category).sum ≤ 8) (hdg : decode cc pc = .ok (.invokevirtual index, 3)) (hst : st0 = As.reverse ++ .ref p0 :: rest)
    (kk : WA p l e R s m args below meth c nL D cy ad A kc ks Z μ' ls (pc + 3) (r.toList ++ rest)) : WA p l e R s m args below meth c nL D cy ad A kc ks Z μ ls pc st0 := by
  intro H locs la hP hS hl
  subst hst
  have hts := C.2.2.2.2.1
  have he := wd_at (ad := ad) (cy := cy) (μ := μ) hp
  rw [cell_obj hsh] at he
  obtain ⟨qc, hqc, hq1⟩ : ∃ q : vw_C, vwCl[ci]? = some q ∧ q.1 = y.cls := by
    cases hx : vwCl[ci]? with
    | none => rw [hx] at hcl; cases hcl
    | some q => rw [hx] at hcl; exact ⟨q, rfl, Option.some.inj hcl⟩
  have hrecv := va_recv (a := ad p0) C.2.2.2.2.2.1 hP hqc he
  rw [hq1] at hrecv
  have cw : CallW R s args own y.cls index y b nL' ret' (Cond.code y b nL' ret' :: wsL_law) (rmD d) 0 0 n :=
    ⟨callB_of n hts (gts2 hM.1) rfl rfl rfl (hts _ hM.2.1) (hts _ hlink) hM.2.2 ⟨hR.1, hR.2⟩, hts _ hV.1, hts _ hV.2⟩
  have hrun := va_runV (e := e) (below := below) (meth := meth) (locs := locs) (As := cvs ad As) (rest := cvs ad rest) (b := ad p0) (g := F0 m pc la (cvs ad (As.reverse ++ .ref p0 :: rest))) ⟨C.1, C.2.1, C.2.2.1, C.2.2.2.1, hts⟩ (h l D cy ad) cw ⟨WLD.blind, hrecv, fun U hU hW => ⟨rfl, wld_at C hP hS U hU hW⟩⟩ rfl (by simp [cvs, hn]) hl.1 (by rw [cvs_rev]; rfl) (lv_room (by rw [cvs_sum]; exact hcat)) hdg ⟨hcs.1, hcs.2⟩
  exact wa_cont C hS hl hrun kk
theorem wa_callT (C : CX p s m args meth c cc nL own ret D cy ad A) {d n i index nL' : Nat} {y : MethodName} {b : ByteArray} {ret' : Option FieldType} {As st0 : List Value} {r : Option Value} {μ' : Mem} (h : HT d y b nL' ret' (.ref (82 + i) :: As) μ r μ') (hM : MK y b nL' ret' n) (hV : MV y) (hlink : Cond.methodLink own index y ∈ wsL_law) (hi : i < 10) (hcl : y.cls = "java/lang/String") (hn : As.length = n)
    (hR : d + 2 ≤ R.frames ∧ 8 + (nL' + 11) + 60 * (d + 1) ≤ R.locals) (hcs : kc ≤ R.cells ∧ ks ≤ R.slots) (hcat : (rest.map fun v => v.category).sum ≤ 8) (hdg : decode cc pc = .ok (.invokevirtual index, 3)) (hst : st0 = As.reverse ++ .ref (82 + i) :: rest)
    (kk : WA p l e R s m args below meth c nL D cy ad A kc ks Z μ' ls (pc + 3) (r.toList ++ rest)) : WA p l e R s m args below meth c nL D cy ad A kc ks Z μ ls pc st0 := by
  intro H locs la hP hS hl
  subst hst
  have hts := C.2.2.2.2.1
  have hrecv := vk_recv C.st.2.2.2.2.1 hi hS
  rw [← hcl] at hrecv
  have cw : CallW R s args own y.cls index y b nL' ret' (Cond.code y b nL' ret' :: wsL_law) (rmD d) 0 0 n :=
    ⟨callB_of n hts (gts2 hM.1) rfl rfl rfl (hts _ hM.2.1) (hts _ hlink) hM.2.2 ⟨hR.1, hR.2⟩, hts _ hV.1, hts _ hV.2⟩
  have hrun := va_runV (e := e) (below := below) (meth := meth) (locs := locs) (As := cvs ad As) (rest := cvs ad rest) (b := ad (82 + i)) (g := F0 m pc la (cvs ad (As.reverse ++ .ref (82 + i) :: rest))) ⟨C.1, C.2.1, C.2.2.1, C.2.2.2.1, hts⟩ (h l D cy ad) cw ⟨WLD.blind, hrecv, fun U hU hW => ⟨rfl, wld_at C hP hS U hU hW⟩⟩ rfl (by simp [cvs, hn]) hl.1 (by rw [cvs_rev]; rfl) (lv_room (by rw [cvs_sum]; exact hcat)) hdg ⟨hcs.1, hcs.2⟩
  exact wa_cont C hS hl hrun kk
theorem wa_callS (C : CX p s m args meth c cc nL own ret D cy ad A) {d n index nL' : Nat} {y : MethodName} {b : ByteArray} {ret' : Option FieldType} {As st0 : List Value} {r : Option Value} {μ' : Mem} (h : HT d y b nL' ret' As μ r μ') (hM : MK y b nL' ret' n) (hV : Cond.static y ∈ wsL_law) (hlink : Cond.methodLink own index y ∈ wsL_law) (hn : As.length = n)
    (hR : d + 2 ≤ R.frames ∧ 8 + (nL' + 11) + 60 * (d + 1) ≤ R.locals) (hcs : kc ≤ R.cells ∧ ks ≤ R.slots) (hcat : (rest.map fun v => v.category).sum ≤ 8) (hdg : decode cc pc = .ok (.invokestatic index, 3)) (hst : st0 = As.reverse ++ rest)
    (kk : WA p l e R s m args below meth c nL D cy ad A kc ks Z μ' ls (pc + 3) (r.toList ++ rest)) : WA p l e R s m args below meth c nL D cy ad A kc ks Z μ ls pc st0 := by
  intro H locs la hP hS hl
  subst hst
  have hts := C.2.2.2.2.1
  have hrun := va_runS (e := e) (below := below) (meth := meth) (locs := locs) (As := cvs ad As) (rest := cvs ad rest) (g := F0 m pc la (cvs ad (As.reverse ++ rest))) ⟨C.1, C.2.1, C.2.2.1, C.2.2.2.1, hts⟩ (h l D cy ad) ⟨callB_of n hts (gts2 hM.1) rfl rfl rfl (hts _ hM.2.1) (hts _ hlink) hM.2.2 ⟨hR.1, hR.2⟩, hts _ hV⟩ ⟨WLD.blind, fun U hU hW => ⟨rfl, wld_at C hP hS U hU hW⟩⟩ rfl (by simp [cvs, hn]) hl.1 (by rw [cvs_rev]) (lv_room (by rw [cvs_sum]; exact hcat)) hdg ⟨hcs.1, hcs.2⟩
  exact wa_cont C hS hl hrun kk
theorem wa_max (C : CX p s m args meth c cc nL own ret D cy ad A) {index : Nat} {x y : Int32} (hlink : Cond.methodLink own index Lib.Math.max.name ∈ wsL_law) (hstat : Cond.static Lib.Math.max.name ∈ wsL_law) (hini : Cond.initialized "java/lang/Math" ∈ wsL_law) (hcode : Cond.code Lib.Math.max.name Lib.Math.max.code 2 (some .int) ∈ wsL_law) (hR : 1 ≤ R.frames ∧ (rest.map fun v => v.category).sum + 13 ≤ R.locals) (hcs : kc ≤ R.cells ∧ ks ≤ R.slots) (hdg : decode cc pc = .ok (.invokestatic index, 3))
    (kk : WA p l e R s m args below meth c nL D cy ad A kc ks Z μ ls (pc + 3) (.int (if x < y then y else x) :: rest)) : WA p l e R s m args below meth c nL D cy ad A kc ks Z μ ls pc (.int y :: .int x :: rest) :=
  fun H locs la hP hS hl => va_mmax C.1 C.2.1 (C.2.2.1.trans hl.1.symm) C.2.2.2.1 (C.2.2.2.2.1 _ hlink) (C.2.2.2.2.1 _ hstat) (C.2.2.2.2.1 _ hini) (C.2.2.2.2.1 _ hcode) hR.1 (by have h7 := cvs_sum ad rest; unfold cvs at h7; rw [h7]; exact hR.2) hcs.1 hcs.2 hdg (kk H locs la hP hS hl)
theorem wa_min (C : CX p s m args meth c cc nL own ret D cy ad A) {index : Nat} {x y : Int32} (hlink : Cond.methodLink own index Lib.Math.min.name ∈ wsL_law) (hstat : Cond.static Lib.Math.min.name ∈ wsL_law) (hini : Cond.initialized "java/lang/Math" ∈ wsL_law) (hcode : Cond.code Lib.Math.min.name Lib.Math.min.code 2 (some .int) ∈ wsL_law) (hR : 1 ≤ R.frames ∧ (rest.map fun v => v.category).sum + 13 ≤ R.locals) (hcs : kc ≤ R.cells ∧ ks ≤ R.slots) (hdg : decode cc pc = .ok (.invokestatic index, 3))
    (kk : WA p l e R s m args below meth c nL D cy ad A kc ks Z μ ls (pc + 3) (.int (if y < x then y else x) :: rest)) : WA p l e R s m args below meth c nL D cy ad A kc ks Z μ ls pc (.int y :: .int x :: rest) :=
  fun H locs la hP hS hl => va_mmin C.1 C.2.1 (C.2.2.1.trans hl.1.symm) C.2.2.2.1 (C.2.2.2.2.1 _ hlink) (C.2.2.2.2.1 _ hstat) (C.2.2.2.2.1 _ hini) (C.2.2.2.2.1 _ hcode) hR.1 (by have h7 := cvs_sum ad rest; unfold cvs at h7; rw [h7]; exact hR.2) hcs.1 hcs.2 hdg (kk H locs la hP hS hl)
theorem wa_copy (C : CX p s m args meth c cc nL own ret D cy ad A) {index p0 p1 n0 n1 k : Nat} {n : Int32} (hlink : Cond.methodLink own index arraycopyName ∈ wsL_law) (hnat : Cond.native arraycopyName ∈ wsL_law) (hstat : Cond.static arraycopyName ∈ wsL_law) (hini : Cond.initialized "java/lang/System" ∈ wsL_law) (hs0 : shp p0 = .inl (0, n0)) (hs1 : shp p1 = .inl (0, n1)) (hp0 : p0 < nPl) (hp1 : p1 < nPl) (hk : n.toNatClampNeg = k) (hk1 : ¬ n < 0) (hk2 : k ≤ n0) (hk3 : k ≤ n1) (hR : 1 ≤ R.frames ∧ (rest.map fun v => v.category).sum + (nativeFrameWords "java/lang/System" "arraycopy" 5 + 11) ≤ R.locals) (hdg : decode cc pc = .ok (.invokestatic index, 3))
    (kk : WA p l e R s m args below meth c nL D cy ad A kc ks Z (cpI μ p0 p1 k) ls (pc + 3) rest) : WA p l e R s m args below meth c nL D cy ad A kc ks Z μ ls pc (.int n :: .int 0 :: .ref p1 :: .int 0 :: .ref p0 :: rest) := by
  intro H locs la hP hS hl
  have he0 := wd_at (ad := ad) (cy := cy) (μ := μ) hp0
  rw [cell_arr hs0] at he0
  have he1 := wd_at (ad := ad) (cy := cy) (μ := μ) hp1
  rw [cell_arr hs1] at he1
  subst hk
  have e0 : (0 : Int32).toNatClampNeg = 0 := rfl
  refine va_copyi C.1 C.2.1 (C.2.2.1.trans hl.1.symm) C.2.2.2.1 (C.2.2.2.2.1 _ hlink) (C.2.2.2.2.1 _ hnat) (C.2.2.2.2.1 _ hstat) (C.2.2.2.2.1 _ hini) C.2.2.2.2.2.1 hP (wd_D C.2.2.2.2.2.2.2.2.1 C.2.2.2.2.2.2.2.2.2.1) hS p0 p1 0 0 he0 he1 rfl rfl rfl (by decide) (by decide) hk1 (by rw [e0]; omega) (by rw [e0]; omega) (fun _ _ => rfl) hR.1 (by have h7 := cvs_sum ad rest; unfold cvs at h7; rw [h7]; exact hR.2) hdg (fun H1 locs1 hP1 _ hS1 => kk H1 locs1 la ?_ hS1 hl)
  rw [wd_set (μ := μ) (μ' := cpI μ p0 p1 n.toNatClampNeg) hp1 ?_ (fun q hq => cell_cong (fun j => by simp [cpI, hq]) (fun _ => rfl))] at hP1
  · exact hP1
  · rw [cell_arr hs1]
    congr 3
    show Sum.inl _ = Sum.inl _
    congr 1
    funext j
    simp [va_cpy, cpI, e0]
end CALL
theorem tab_out4 {x : Int32} (h0 : ¬ x = 0) (h1 : ¬ x = 1) (h2 : ¬ x = 2) (h3 : ¬ x = 3) (h4 : ¬ x = 4) : x.toInt < 0 ∨ (4 : Int) < x.toInt := by
  have e0 : x.toInt ≠ 0 := fun e => h0 (Int32.toInt_inj.mp (e.trans rfl))
  have e1 : x.toInt ≠ 1 := fun e => h1 (Int32.toInt_inj.mp (e.trans rfl))
  have e2 : x.toInt ≠ 2 := fun e => h2 (Int32.toInt_inj.mp (e.trans rfl))
  have e3 : x.toInt ≠ 3 := fun e => h3 (Int32.toInt_inj.mp (e.trans rfl))
  have e4 : x.toInt ≠ 4 := fun e => h4 (Int32.toInt_inj.mp (e.trans rfl))
  omega
theorem tab_out5 {x : Int32} (h0 : ¬ x = 0) (h1 : ¬ x = 1) (h2 : ¬ x = 2) (h3 : ¬ x = 3) (h4 : ¬ x = 4) (h5 : ¬ x = 5) : x.toInt < 0 ∨ (5 : Int) < x.toInt := by
  have e0 : x.toInt ≠ 0 := fun e => h0 (Int32.toInt_inj.mp (e.trans rfl))
  have e1 : x.toInt ≠ 1 := fun e => h1 (Int32.toInt_inj.mp (e.trans rfl))
  have e2 : x.toInt ≠ 2 := fun e => h2 (Int32.toInt_inj.mp (e.trans rfl))
  have e3 : x.toInt ≠ 3 := fun e => h3 (Int32.toInt_inj.mp (e.trans rfl))
  have e4 : x.toInt ≠ 4 := fun e => h4 (Int32.toInt_inj.mp (e.trans rfl))
  have e5 : x.toInt ≠ 5 := fun e => h5 (Int32.toInt_inj.mp (e.trans rfl))
  omega
theorem tab_out38 {x : Int32} (h0 : ¬ x = 0) (h1 : ¬ x = 1) (h2 : ¬ x = 2) (h3 : ¬ x = 3) (h4 : ¬ x = 4) (h5 : ¬ x = 5) (h6 : ¬ x = 6) (h7 : ¬ x = 7) (h8 : ¬ x = 8) (h9 : ¬ x = 9) (h10 : ¬ x = 10) (h11 : ¬ x = 11) (h12 : ¬ x = 12) (h13 : ¬ x = 13) (h14 : ¬ x = 14) (h15 : ¬ x = 15) (h16 : ¬ x = 16) (h17 : ¬ x = 17) (h18 : ¬ x = 18) (h19 : ¬ x = 19) (h20 : ¬ x = 20) (h21 : ¬ x = 21) (h22 : ¬ x = 22) (h23 : ¬ x = 23) (h24 : ¬ x = 24) (h25 : ¬ x = 25) (h26 : ¬ x = 26) (h27 : ¬ x = 27) (h28 : ¬ x = 28) (h29 : ¬ x = 29) (h30 : ¬ x = 30) (h31 : ¬ x = 31) (h32 : ¬ x = 32) (h33 : ¬ x = 33) (h34 : ¬ x = 34) (h35 : ¬ x = 35) (h36 : ¬ x = 36) (h37 : ¬ x = 37) (h38 : ¬ x = 38) : x.toInt < 0 ∨ (38 : Int) < x.toInt := by
  have e0 : x.toInt ≠ 0 := fun e => h0 (Int32.toInt_inj.mp (e.trans rfl))
  have e1 : x.toInt ≠ 1 := fun e => h1 (Int32.toInt_inj.mp (e.trans rfl))
  have e2 : x.toInt ≠ 2 := fun e => h2 (Int32.toInt_inj.mp (e.trans rfl))
  have e3 : x.toInt ≠ 3 := fun e => h3 (Int32.toInt_inj.mp (e.trans rfl))
  have e4 : x.toInt ≠ 4 := fun e => h4 (Int32.toInt_inj.mp (e.trans rfl))
  have e5 : x.toInt ≠ 5 := fun e => h5 (Int32.toInt_inj.mp (e.trans rfl))
  have e6 : x.toInt ≠ 6 := fun e => h6 (Int32.toInt_inj.mp (e.trans rfl))
  have e7 : x.toInt ≠ 7 := fun e => h7 (Int32.toInt_inj.mp (e.trans rfl))
  have e8 : x.toInt ≠ 8 := fun e => h8 (Int32.toInt_inj.mp (e.trans rfl))
  have e9 : x.toInt ≠ 9 := fun e => h9 (Int32.toInt_inj.mp (e.trans rfl))
  have e10 : x.toInt ≠ 10 := fun e => h10 (Int32.toInt_inj.mp (e.trans rfl))
  have e11 : x.toInt ≠ 11 := fun e => h11 (Int32.toInt_inj.mp (e.trans rfl))
  have e12 : x.toInt ≠ 12 := fun e => h12 (Int32.toInt_inj.mp (e.trans rfl))
  have e13 : x.toInt ≠ 13 := fun e => h13 (Int32.toInt_inj.mp (e.trans rfl))
  have e14 : x.toInt ≠ 14 := fun e => h14 (Int32.toInt_inj.mp (e.trans rfl))
  have e15 : x.toInt ≠ 15 := fun e => h15 (Int32.toInt_inj.mp (e.trans rfl))
  have e16 : x.toInt ≠ 16 := fun e => h16 (Int32.toInt_inj.mp (e.trans rfl))
  have e17 : x.toInt ≠ 17 := fun e => h17 (Int32.toInt_inj.mp (e.trans rfl))
  have e18 : x.toInt ≠ 18 := fun e => h18 (Int32.toInt_inj.mp (e.trans rfl))
  have e19 : x.toInt ≠ 19 := fun e => h19 (Int32.toInt_inj.mp (e.trans rfl))
  have e20 : x.toInt ≠ 20 := fun e => h20 (Int32.toInt_inj.mp (e.trans rfl))
  have e21 : x.toInt ≠ 21 := fun e => h21 (Int32.toInt_inj.mp (e.trans rfl))
  have e22 : x.toInt ≠ 22 := fun e => h22 (Int32.toInt_inj.mp (e.trans rfl))
  have e23 : x.toInt ≠ 23 := fun e => h23 (Int32.toInt_inj.mp (e.trans rfl))
  have e24 : x.toInt ≠ 24 := fun e => h24 (Int32.toInt_inj.mp (e.trans rfl))
  have e25 : x.toInt ≠ 25 := fun e => h25 (Int32.toInt_inj.mp (e.trans rfl))
  have e26 : x.toInt ≠ 26 := fun e => h26 (Int32.toInt_inj.mp (e.trans rfl))
  have e27 : x.toInt ≠ 27 := fun e => h27 (Int32.toInt_inj.mp (e.trans rfl))
  have e28 : x.toInt ≠ 28 := fun e => h28 (Int32.toInt_inj.mp (e.trans rfl))
  have e29 : x.toInt ≠ 29 := fun e => h29 (Int32.toInt_inj.mp (e.trans rfl))
  have e30 : x.toInt ≠ 30 := fun e => h30 (Int32.toInt_inj.mp (e.trans rfl))
  have e31 : x.toInt ≠ 31 := fun e => h31 (Int32.toInt_inj.mp (e.trans rfl))
  have e32 : x.toInt ≠ 32 := fun e => h32 (Int32.toInt_inj.mp (e.trans rfl))
  have e33 : x.toInt ≠ 33 := fun e => h33 (Int32.toInt_inj.mp (e.trans rfl))
  have e34 : x.toInt ≠ 34 := fun e => h34 (Int32.toInt_inj.mp (e.trans rfl))
  have e35 : x.toInt ≠ 35 := fun e => h35 (Int32.toInt_inj.mp (e.trans rfl))
  have e36 : x.toInt ≠ 36 := fun e => h36 (Int32.toInt_inj.mp (e.trans rfl))
  have e37 : x.toInt ≠ 37 := fun e => h37 (Int32.toInt_inj.mp (e.trans rfl))
  have e38 : x.toInt ≠ 38 := fun e => h38 (Int32.toInt_inj.mp (e.trans rfl))
  omega
