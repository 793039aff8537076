def KK (p0 : Nat) : Nat → Bool := fun q => decide (q = p0) || decide (80 ≤ q)
def rmC (d mc ms : Nat) : Room := { frames := d + 1, cells := mc, slots := ms, locals := 60 * (d + 1) }
def PC0 (D : va_G) (cy : Nat → ClassId) (ad : Nat → Nat) (L0 : List (Nat × ACell)) (sz : Nat) (U : State) : Prop := U.heap.size = sz ∧ va_P D vwCl (cw ad cy L0) U.heap ∧ va_K D vwCl (tysOf cy) U ∧ va_D (fun _ => True) (cw ad cy L0) ∧ NI U
def QC0 (D : va_G) (cy : Nat → ClassId) (ad : Nat → Nat) (K : Nat → Bool) (A : Nat → Prop) (L1 : List (Nat × ACell)) : Array Value → State → Outcome → State → Prop := fun _ st oc t => (oc = .returned none ∧ ∃ ad' : Nat → Nat, (∀ q, K q = true → ad' q = ad q) ∧ va_P D vwCl (cw ad' cy L1) t.heap ∧ va_D A (cw ad' cy L1)) ∧ va_F A st t
/-- a constructor: of the blank object c0 at the place q it makes the world L1 -/
def HC (d mc ms : Nat) (y : MethodName) (b : ByteArray) (nL : Nat) (q : Nat) (c0 : ACell) (L1 : List (Nat × ACell)) : Prop :=
  ∀ (l : Launch) (D : va_G) (cy : Nat → ClassId) (ad : Nat → Nat) (sz : Nat), Met l y (Cond.code y b nL none :: wsL_law) (rmC d mc ms) (va_Pc [.ref (ad q)] (PC0 D cy ad [(q, c0)] sz)) (QC0 D cy ad (KK q) (va_A (cw ad cy [(q, c0)]) sz) L1) mc ms (va_A (cw ad cy [(q, c0)]) sz)
theorem PC0.blind {D : va_G} {cy : Nat → ClassId} {ad : Nat → Nat} {L0 : List (Nat × ACell)} {sz : Nat} {vs : List Value} : FrameBlind (va_Pc vs (PC0 D cy ad L0 sz)) := fun a U g mk q => by
  obtain ⟨q0, q1, qP, qK, qD, qN⟩ := q
  exact ⟨q0, q1, qP, va_K.moved (u := U) (U := U.calling g mk a) (Vm.Alike.refl U.vm) qK, qD, NI.same (u := U) (U := U.calling g mk a) rfl qN⟩
theorem HC.of {d mc ms : Nat} {y : MethodName} {b : ByteArray} {nL q : Nat} {c0 : ACell} {L1 : List (Nat × ACell)} (hy : plainName y.cls = true) (hn : 1 ≤ nL)
    (body : ∀ {p : Program} {l : Launch} {e : Env} {s : State} {m : MethodId} {args : Array Value} {below : List Frame} {meth : Method} {c : Code} {D : va_G} {cy : Nat → ClassId} {ad : Nat → Nat} {A : Nat → Prop}, CB p s m args meth c b nL y.cls D cy A → meth.name = y.name → meth.sig.returnType = none → meth.locks = false → WB p l e (rmC d mc ms) s m args below meth c nL D cy A (KK q) ad 0 0 (MQ below (QC0 D cy ad (KK q) A L1) args s mc ms A) [(q, c0)] [(0, .ref q)] 0 []) : HC d mc ms y b nL q c0 L1 := by
  intro l D cy ad sz
  refine Met.ofW (cc := b) (maxL := nL) (ret := none) hy rfl ?_
  intro p e s m args below meth c s₁ B hml hv
  obtain ⟨rfl, hsz, hP, hK, hD0, hN⟩ := hv
  have hts := atoms_spec (ws := Cond.code y b nL none :: wsL_law) B.pre
  have hl := lv_entry ([.ref (ad q)]) (n := nL) hn
  rw [lg_entry_eq]
  subst hsz
  have hD := hD0.self (sz := s.heap.size)
  have hl : lv_has _ nL (cvl ad [(0, .ref q)]) := hl
  exact body ⟨B.exec, B.bytes, hml, findClass_of_methodNamed B.named, fun w hw => hts w (List.mem_cons_of_mem _ hw), hK, hN, fun x h => Or.inr h⟩ (name_of_methodNamed B.named B.method).1 B.returns B.notSynchronized ad (fun _ _ => rfl) _ _ _ hP hD va_S.rf hl
section CC
variable {p : Program} {l : Launch} {e : Env} {R : Room} {s : State} {m : MethodId} {args : Array Value} {below : List Frame} {meth : Method} {c : Code} {cc : ByteArray} {nL : Nat} {own : String} {D : va_G} {cy : Nat → ClassId} {A : Nat → Prop} {K : Nat → Bool} {ad0 : Nat → Nat} {kc ks : Nat} {Z : State → Prop} {L : List (Nat × ACell)} {ls : List (Nat × Value)} {pc : Nat} {rest : List Value}
theorem cb_vret (C : CB p s m args meth c cc nL own D cy A) (hr : meth.sig.returnType = none) (hlk : meth.locks = false) (hdg : decode cc pc = .ok (.return_, 1)) : WB p l e R s m args below meth c nL D cy A K ad0 kc ks (MQ below (QC0 D cy ad0 K A L) args s kc ks A) L ls pc [] := fun ad had H locs la hP hD hS hl =>
  W.vret C.1 C.2.1 hr (fun t ht _ => ⟨⟨rfl, ad, had, by rw [ht]; exact hP, hD⟩, hS.F ht⟩) hS.2.2 hdg hlk
theorem cw_app (ad : Nat → Nat) (cy : Nat → ClassId) (L L' : List (Nat × ACell)) : cw ad cy (L ++ L') = cw ad cy L ++ cw ad cy L' := by simp [cw]
/-- behind a constructor's call: what it made stands beside the rest -/
theorem cb_cont (C : CB p s m args meth c cc nL own D cy A) {q mc ms : Nat} {c0 : ACell} {L1 : List (Nat × ACell)} {ad : Nat → Nat} {H : Heap} {locs : List Loc} {la : Array Slot} {g : JFrame} (hg : g = F0 m pc la (cvs ad (.ref q :: rest))) (had : ∀ q, K q = true → ad q = ad0 q) (hP : va_P D vwCl (cw ad cy (L ++ [(q, c0)])) H) (hD : va_D A (cw ad cy (L ++ [(q, c0)]))) (hS : va_S A s.heap H locs) (hl : lv_has la nL (cvl ad ls))
    (hr : va_Run p l e R s m args below meth c H locs kc ks mc ms g (cvs ad rest) (QC0 D cy ad (KK q) (va_A (cw ad cy [(q, c0)]) H.size) L1 (#[Value.ref (ad q)])) (va_A (cw ad cy [(q, c0)]) H.size))
    (hnew : ∀ r ∈ L1.map (·.1), r = q ∨ (K r = false ∧ r ∉ scp (L ++ [(q, c0)]) ls rest)) (hin : ∀ x ∈ L1, ∀ r ∈ arefs x.2, r ∈ L1.map (·.1))
    (kk : WB p l e R s m args below meth c nL D cy A K ad0 (kc + mc) (ks + ms) Z (L ++ L1) ls (pc + 3) rest) : W p l e R s m args below meth c H locs kc ks Z g := by
  subst hg
  have hPc : va_P D vwCl (cw ad cy [(q, c0)]) H := fun k x hk => hP (L.length + k) x (by
    rw [cw_app, List.getElem?_append_right (by simp [cw])]
    simpa [cw] using hk)
  have hF : ∀ x, va_A (cw ad cy [(q, c0)]) H.size x → A x := va_free hD hS C.2.2.2.2.2.2.2 [L.length] (by rw [cw_app]; simp [cw])
  have hq0 : (cw ad cy (L ++ [(q, c0)]))[L.length]? = some (ad q, acC ad cy c0) := by rw [cw_app]; simp [cw]
  have hap : ∀ (k : Nat) (x : Nat × va_E), (cw ad cy L)[k]? = some x → x.1 < H.size ∧ ¬ va_A (cw ad cy [(q, c0)]) H.size x.1 := by
    intro k x hk
    have hkl : k < L.length := by simpa [cw] using (List.getElem?_eq_some_iff.mp hk).1
    have hk' : (cw ad cy (L ++ [(q, c0)]))[k]? = some x := by rw [cw_app, List.getElem?_append_left (by simpa [cw] using hkl)]; exact hk
    have hlt := (hP k x hk').lt
    refine ⟨hlt, fun h => ?_⟩
    rcases h with ⟨k2, e, h⟩ | h
    · have h2 : x.1 = ad q := by
        cases k2 with
        | zero => simp [cw] at h; exact h.1.symm
        | succ k2 => simp [cw] at h
      have := hD.1 k L.length x _ hk' hq0 h2
      omega
    · omega
  intro T hT X
  obtain ⟨v, st₀, t, T', Ls, h0, X', hL, e1, e2, ⟨⟨hv, ad', hk', hP1, hD1⟩, hz, hk⟩, st⟩ := hr T hT X
  cases hv
  rw [h0] at hz hk
  have hS' : va_S A s.heap T'.heap (locs ++ Ls) := ⟨Nat.le_trans hS.1 (by rw [e1]; exact hz), fun x h1 h2 => by rw [e1, hk x (Nat.lt_of_lt_of_le h1 hS.1) (fun z => h2 (hF x z))]; exact hS.2.1 x h1 h2, fun x hx => by
      rcases List.mem_append.mp hx with h | h
      · exact hS.2.2 x h
      · exact hF _ (hL x h)⟩
  have hP0 : va_P D vwCl (cw ad cy L) T'.heap := by
    intro k x hk1
    have hkl : k < L.length := by simpa [cw] using (List.getElem?_eq_some_iff.mp hk1).1
    have hk2 : (cw ad cy (L ++ [(q, c0)]))[k]? = some x := by rw [cw_app, List.getElem?_append_left (by simpa [cw] using hkl)]; exact hk1
    exact (hP k x hk2).kept (by rw [e1]; exact hk x.1 (hap k x hk1).1 (hap k x hk1).2)
  have hD0 : va_D A (cw ad cy L) := by
    refine ⟨fun i j x y hx hy hxy => ?_, fun k x hx => ?_⟩
    · have hi : i < L.length := by simpa [cw] using (List.getElem?_eq_some_iff.mp hx).1
      have hj : j < L.length := by simpa [cw] using (List.getElem?_eq_some_iff.mp hy).1
      exact hD.1 i j x y (by rw [cw_app, List.getElem?_append_left (by simpa [cw] using hi)]; exact hx) (by rw [cw_app, List.getElem?_append_left (by simpa [cw] using hj)]; exact hy) hxy
    · have hi : k < L.length := by simpa [cw] using (List.getElem?_eq_some_iff.mp hx).1
      exact hD.2 k x (by rw [cw_app, List.getElem?_append_left (by simpa [cw] using hi)]; exact hx)
  have hPj : va_P D vwCl (cw ad cy L ++ cw ad' cy L1) T'.heap := hP0.app (by rw [e1]; exact hP1)
  have hDj : va_D A (cw ad cy L ++ cw ad' cy L1) := hD0.app (hD1.weaken (fun k x _ h => hF x.1 h)) (fun i j x y hx hy hxy => (hap i x hx).2 (by rw [hxy]; exact hD1.2 j y hy))
  have hqq : ad' q = ad q := hk' q (by simp [KK])
  let ad2 : Nat → Nat := fun z => if z ∈ L1.map (·.1) then ad' z else ad z
  have hold : ∀ r, r ∈ scp (L ++ [(q, c0)]) ls rest → ad r = ad2 r := by
    intro r hr
    show ad r = if r ∈ L1.map (·.1) then ad' r else ad r
    split
    · rename_i hm
      rcases hnew r hm with rfl | ⟨-, h⟩
      · exact hqq.symm
      · exact absurd hr h
    · rfl
  have hnw : ∀ r, r ∈ L1.map (·.1) → ad' r = ad2 r := fun r hr => (if_pos hr).symm
  obtain ⟨e3, e4, e5⟩ := scp_cong (cy := cy) hold
  have e6 : cw ad' cy L1 = cw ad2 cy L1 := cw_cong (fun x hx => ⟨hnw _ (List.mem_map.mpr ⟨x, hx, rfl⟩), fun r hr => hnw r (hin x hx r hr)⟩)
  have e7 : cw ad cy L = cw ad2 cy L := by
    rw [cw_app, cw_app] at e3
    exact (List.append_inj e3 (by simp [cw])).1
  have hK2 : ∀ r, K r = true → ad2 r = ad0 r := by
    intro r hrK
    show (if r ∈ L1.map (·.1) then ad' r else ad r) = ad0 r
    split
    · rename_i hm
      rcases hnew r hm with rfl | ⟨h, -⟩
      · rw [hqq]; exact had _ hrK
      · rw [h] at hrK; cases hrK
    · exact had r hrK
  have := kk ad2 hK2 T'.heap (locs ++ Ls) la (by rw [cw_app, ← e7, ← e6]; exact hPj) (by rw [cw_app, ← e7, ← e6]; exact hDj) hS' (by rw [← e4]; exact hl) T' rfl X'
  obtain ⟨t2, a1, b1⟩ := this
  refine ⟨t2, st t2 ?_, b1⟩
  rw [← e5] at a1
  exact a1
def MC (y : MethodName) (b : ByteArray) (nL : Nat) : Prop := Cond.code y b nL none ∈ wsL_law ∧ Cond.initialized y.cls ∈ wsL_law ∧ Cond.instanceMethod y ∈ wsL_law ∧ y.name = "<init>" ∧ (y.cls ≠ "java/lang/invoke/MethodHandle" ∧ y.cls ≠ "java/lang/invoke/VarHandle" ∧ (parseMethodDescriptor y.desc).map (fun d => d.parameters.length) = some 0)
theorem pc_at (C : CB p s m args meth c cc nL own D cy A) {q : Nat} {c0 : ACell} {ad : Nat → Nat} {H : Heap} (hP : va_P D vwCl (cw ad cy (L ++ [(q, c0)])) H) (hD : va_D A (cw ad cy (L ++ [(q, c0)]))) : ∀ U : State, U.heap = H → s.WarmedH U.vm → PC0 D cy ad [(q, c0)] H.size U := by
  intro U hU hW
  have hx : ∀ (k : Nat) (x : Nat × va_E), (cw ad cy [(q, c0)])[k]? = some x → (cw ad cy (L ++ [(q, c0)]))[L.length + k]? = some x := fun k x hk => by
    rw [cw_app, List.getElem?_append_right (by simp [cw])]
    simpa [cw] using hk
  refine ⟨by rw [hU], fun k x hk => by rw [hU]; exact hP _ x (hx k x hk), va_K.moved hW.alike C.2.2.2.2.2.1, ⟨fun i j x y h1 h2 h3 => ?_, fun _ _ _ => trivial⟩, C.2.2.2.2.2.2.1.warm hW⟩
  have := hD.1 _ _ x y (hx i x h1) (hx j y h2) h3
  omega
theorem cb_callN (C : CB p s m args meth c cc nL own D cy A) {d mc ms q nL' index : Nat} {y : MethodName} {b : ByteArray} {c0 : ACell} {L1 : List (Nat × ACell)} (h : HC d mc ms y b nL' q c0 L1) (hM : MC y b nL') (hlink : va_Nw (.methodLinkNest own index y "ThreeAwake") s) (hR : d + 2 ≤ R.frames ∧ 8 + (nL' + 11) + 60 * (d + 1) ≤ R.locals) (hcs : kc + mc ≤ R.cells ∧ ks + ms ≤ R.slots) (hcat : (rest.map fun v => v.category).sum ≤ 8) (hdg : decode cc pc = .ok (.invokespecial index, 3)) (hnew : ∀ r ∈ L1.map (·.1), r = q ∨ (K r = false ∧ r ∉ scp (L ++ [(q, c0)]) ls rest)) (hin : ∀ x ∈ L1, ∀ r ∈ arefs x.2, r ∈ L1.map (·.1))
    (kk : WB p l e R s m args below meth c nL D cy A K ad0 (kc + mc) (ks + ms) Z (L ++ L1) ls (pc + 3) rest) : WB p l e R s m args below meth c nL D cy A K ad0 kc ks Z (L ++ [(q, c0)]) ls pc (.ref q :: rest) := by
  intro ad had H locs la hP hD hS hl
  have hts := C.2.2.2.2.1
  have hrun := va_runIN (p := p) (l := l) (e := e) (R := R) (s := s) (args := args) (below := below) (meth := meth) (H := H) (locs := locs) (cells := kc) (slots := ks) (As := []) (rest := cvs ad rest) (b := ad q) (g := F0 m pc la (cvs ad (.ref q :: rest))) ⟨C.1, C.2.1, C.2.2.1, C.2.2.2.1, hts⟩ (h l D cy ad H.size) ⟨va_cnB 0 hts (gts2 hM.1) rfl rfl rfl hlink (hts _ hM.2.1) hM.2.2.2.2 ⟨hR.1, hR.2⟩, hM.2.2.2.1, hts _ hM.2.2.1⟩ ⟨PC0.blind, fun U hU hW => ⟨rfl, pc_at C hP hD U hU hW⟩⟩ rfl rfl hl.1 rfl (lv_room (by rw [cvs_sum]; exact hcat)) hdg hcs
  exact cb_cont C rfl had hP hD hS hl hrun hnew hin kk
theorem cb_callI (C : CB p s m args meth c cc nL own D cy A) {d mc ms q nL' index : Nat} {y : MethodName} {b : ByteArray} {c0 : ACell} {L1 : List (Nat × ACell)} (h : HC d mc ms y b nL' q c0 L1) (hM : MC y b nL') (hlink : Cond.methodLink own index y ∈ wsL_law) (hR : d + 2 ≤ R.frames ∧ 8 + (nL' + 11) + 60 * (d + 1) ≤ R.locals) (hcs : kc + mc ≤ R.cells ∧ ks + ms ≤ R.slots) (hcat : (rest.map fun v => v.category).sum ≤ 8) (hdg : decode cc pc = .ok (.invokespecial index, 3)) (hnew : ∀ r ∈ L1.map (·.1), r = q ∨ (K r = false ∧ r ∉ scp (L ++ [(q, c0)]) ls rest)) (hin : ∀ x ∈ L1, ∀ r ∈ arefs x.2, r ∈ L1.map (·.1))
    (kk : WB p l e R s m args below meth c nL D cy A K ad0 (kc + mc) (ks + ms) Z (L ++ L1) ls (pc + 3) rest) : WB p l e R s m args below meth c nL D cy A K ad0 kc ks Z (L ++ [(q, c0)]) ls pc (.ref q :: rest) := by
  intro ad had H locs la hP hD hS hl
  have hts := C.2.2.2.2.1
  have hrun := va_runI (p := p) (l := l) (e := e) (R := R) (s := s) (args := args) (below := below) (meth := meth) (H := H) (locs := locs) (cells := kc) (slots := ks) (As := []) (rest := cvs ad rest) (b := ad q) (g := F0 m pc la (cvs ad (.ref q :: rest))) ⟨C.1, C.2.1, C.2.2.1, C.2.2.2.1, hts⟩ (h l D cy ad H.size) ⟨callB_of 0 hts (gts2 hM.1) rfl rfl rfl (hts _ hM.2.1) (hts _ hlink) hM.2.2.2.2 ⟨hR.1, hR.2⟩, hM.2.2.2.1, hts _ hM.2.2.1⟩ ⟨PC0.blind, fun U hU hW => ⟨rfl, pc_at C hP hD U hU hW⟩⟩ rfl rfl hl.1 rfl (lv_room (by rw [cvs_sum]; exact hcat)) hdg hcs
  exact cb_cont C rfl had hP hD hS hl hrun hnew hin kk
end CC
