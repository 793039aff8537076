/-! CONSTRUCTORS: a world that grows, of abstract cells at places; addresses are chosen anew at each making -/
abbrev ACell : Type := (Nat × Nat × List (Option Nat)) ⊕ (Nat × List Value)
def acA (ad : Nat → Nat) (t : Nat) (rs : List (Option Nat)) : (Nat → Int32) ⊕ (Nat → Int64) ⊕ (Nat → UInt32) ⊕ (Nat → UInt64) ⊕ (Nat → Option Nat) :=
  if t = 3 then .inr (.inl (fun _ => 0)) else if t = 4 then .inr (.inr (.inr (.inr (fun i => (rs.getD i none).map ad)))) else if t = 5 then .inr (.inr (.inr (.inr (fun i => (rs.getD i none).map ad)))) else .inl (fun _ => 0)
def acC (ad : Nat → Nat) (cy : Nat → ClassId) : ACell → va_E
  | .inl (t, n, rs) => .inl (cy t, n, acA ad t rs)
  | .inr (ci, vs) => .inr (ci, cvs ad vs)
def cw (ad : Nat → Nat) (cy : Nat → ClassId) (L : List (Nat × ACell)) : va_W := L.map (fun q => (ad q.1, acC ad cy q.2))
def vref : Value → Option Nat := fun v => match v with | .ref r => some r | _ => none
def arefs : ACell → List Nat
  | .inl (_, _, rs) => rs.filterMap id
  | .inr (_, vs) => vs.filterMap vref
/-- all places that a world, locals and a stack name -/
def scp (L : List (Nat × ACell)) (ls : List (Nat × Value)) (st : List Value) : List Nat := L.map (·.1) ++ L.flatMap (fun q => arefs q.2) ++ ls.filterMap (fun q => vref q.2) ++ st.filterMap vref
theorem cv_cong {ad ad' : Nat → Nat} {v : Value} (h : ∀ r, vref v = some r → ad r = ad' r) : cv ad v = cv ad' v := by
  cases v <;> first | rfl | exact congrArg Value.ref (h _ rfl)
theorem cvs_cong {ad ad' : Nat → Nat} {l : List Value} (h : ∀ r, r ∈ l.filterMap vref → ad r = ad' r) : cvs ad l = cvs ad' l := by
  apply List.map_congr_left
  intro v hv
  exact cv_cong (fun r hr => h r (List.mem_filterMap.mpr ⟨v, hv, hr⟩))
theorem acC_cong {ad ad' : Nat → Nat} {cy : Nat → ClassId} {c : ACell} (h : ∀ r, r ∈ arefs c → ad r = ad' r) : acC ad cy c = acC ad' cy c := by
  cases c with
  | inl x =>
    obtain ⟨t, n, rs⟩ := x
    have hf : (fun i => (rs.getD i none).map ad) = (fun i => (rs.getD i none).map ad') := by
      funext i
      cases hi : rs.getD i none with
      | none => rfl
      | some r =>
        have hm : some r ∈ rs := by
          rw [List.getD_eq_getElem?_getD] at hi
          cases hx : rs[i]? with
          | none => rw [hx] at hi; cases hi
          | some y =>
            rw [hx] at hi
            have : y = some r := hi
            subst this
            exact List.mem_of_getElem? hx
        exact congrArg some (h r (List.mem_filterMap.mpr ⟨some r, hm, rfl⟩))
    simp only [acC, acA, hf]
  | inr x => exact congrArg (fun z => Sum.inr (x.1, z)) (cvs_cong h)
theorem cw_cong {ad ad' : Nat → Nat} {cy : Nat → ClassId} {L : List (Nat × ACell)} (h : ∀ q ∈ L, ad q.1 = ad' q.1 ∧ ∀ r, r ∈ arefs q.2 → ad r = ad' r) : cw ad cy L = cw ad' cy L := by
  apply List.map_congr_left
  intro q hq
  rw [(h q hq).1, acC_cong (h q hq).2]
theorem scp_cong {ad ad' : Nat → Nat} {cy : Nat → ClassId} {L : List (Nat × ACell)} {ls : List (Nat × Value)} {st : List Value} (h : ∀ r, r ∈ scp L ls st → ad r = ad' r) : cw ad cy L = cw ad' cy L ∧ cvl ad ls = cvl ad' ls ∧ cvs ad st = cvs ad' st := by
  have hm : ∀ r, r ∈ scp L ls st ↔ (r ∈ L.map (·.1) ∨ r ∈ L.flatMap (fun q => arefs q.2) ∨ r ∈ ls.filterMap (fun q => vref q.2) ∨ r ∈ st.filterMap vref) := by
    intro r
    simp only [scp, List.mem_append, or_assoc]
  refine ⟨cw_cong (fun q hq => ⟨h _ ((hm _).mpr (Or.inl (List.mem_map.mpr ⟨q, hq, rfl⟩))), fun r hr => h _ ((hm _).mpr (Or.inr (Or.inl (List.mem_flatMap.mpr ⟨q, hq, hr⟩))))⟩), ?_, cvs_cong (fun r hr => h _ ((hm _).mpr (Or.inr (Or.inr (Or.inr hr)))))⟩
  apply List.map_congr_left
  intro q hq
  rw [cv_cong (fun r hr => h r ((hm _).mpr (Or.inr (Or.inr (Or.inl (List.mem_filterMap.mpr ⟨q, hq, hr⟩))))))]
/-- links of private constructors -/
def NI (U : State) : Prop := (∀ q ∈ ([(9, yX1_init), (18, yX4_init), (29, yX6_init), (36, yX5_init), (43, yX7_init), (50, yX2_init), (57, yX3_init), (64, yX0_init), (71, yX8_init)] : List (Nat × MethodName)), va_Nw (.methodLinkNest RX9 q.1 q.2 "ThreeAwake") U) ∧ (∀ q ∈ ([(30, yX1_init), (37, yX4_init)] : List (Nat × MethodName)), va_Nw (.methodLinkNest RX5 q.1 q.2 "ThreeAwake") U) ∧ va_AO "ThreeAwake$Post" U ∧ va_AO "ThreeAwake$Sheet" U
theorem NI.warm {s U : State} (hW : s.WarmedH U.vm) (h : NI s) : NI U := ⟨fun q hq => (h.1 q hq).warmM hW, fun q hq => (h.2.1 q hq).warmM hW, h.2.2.1.moved hW.alike, h.2.2.2.moved hW.alike⟩
theorem NI.same {u U : State} (hv : u.vm = U.vm) (h : NI u) : NI U := by
  have ha : u.vm.Alike U.vm := by rw [← hv]; exact Vm.Alike.refl u.vm
  exact ⟨fun q hq => (h.1 q hq).same rfl hv, fun q hq => (h.2.1 q hq).same rfl hv, h.2.2.1.moved ha, h.2.2.2.moved ha⟩
def CB (p : Program) (s : State) (m : MethodId) (args : Array Value) (meth : Method) (c : Code) (cc : ByteArray) (nL : Nat) (own : String) (D : va_G) (cy : Nat → ClassId) (A : Nat → Prop) : Prop :=
  p.tables.exec = Jvm.exec ∧ c.code = cc ∧ c.maxLocals = nL ∧ s.vm.findClass own = some m.cls ∧ (∀ w ∈ wsL_law, w.before args s = true) ∧ va_K D vwCl (tysOf cy) s ∧ NI s ∧ ∀ q, s.heap.size ≤ q → A q
def WB (p : Program) (l : Launch) (e : Env) (R : Room) (s : State) (m : MethodId) (args : Array Value) (below : List Frame) (meth : Method) (c : Code) (nL : Nat) (D : va_G) (cy : Nat → ClassId) (A : Nat → Prop) (K : Nat → Bool) (ad0 : Nat → Nat) (kc ks : Nat) (Z : State → Prop) (L : List (Nat × ACell)) (ls : List (Nat × Value)) (pc : Nat) (st : List Value) : Prop :=
  ∀ ad : Nat → Nat, (∀ q, K q = true → ad q = ad0 q) → ∀ (H : Heap) (locs : List Loc) (la : Array Slot), va_P D vwCl (cw ad cy L) H → va_D A (cw ad cy L) → va_S A s.heap H locs → lv_has la nL (cvl ad ls) → W p l e R s m args below meth c H locs kc ks Z (F0 m pc la (cvs ad st))
section CTOR
variable {p : Program} {l : Launch} {e : Env} {R : Room} {s : State} {m : MethodId} {args : Array Value} {below : List Frame} {meth : Method} {c : Code} {cc : ByteArray} {nL : Nat} {own : String} {D : va_G} {cy : Nat → ClassId} {A : Nat → Prop} {K : Nat → Bool} {ad0 : Nat → Nat} {kc ks : Nat} {Z : State → Prop} {L : List (Nat × ACell)} {ls : List (Nat × Value)} {pc : Nat} {rest : List Value}
theorem cb_iconst (C : CB p s m args meth c cc nL own D cy A) {n : Int} {v : Int32} (hdg : decode cc pc = .ok (.iconst n, 1)) (hv : Int32.ofInt n = v) (k : WB p l e R s m args below meth c nL D cy A K ad0 kc ks Z L ls (pc + 1) (.int v :: rest)) : WB p l e R s m args below meth c nL D cy A K ad0 kc ks Z L ls pc rest := fun ad had H locs la hP hD hS hl => lv_iconst C.1 C.2.1 hdg hv (k ad had H locs la hP hD hS hl)
theorem cb_bipush (C : CB p s m args meth c cc nL own D cy A) {n : Int} {v : Int32} (hdg : decode cc pc = .ok (.bipush n, 2)) (hv : (Int8.ofInt n).toInt32 = v) (k : WB p l e R s m args below meth c nL D cy A K ad0 kc ks Z L ls (pc + 2) (.int v :: rest)) : WB p l e R s m args below meth c nL D cy A K ad0 kc ks Z L ls pc rest := fun ad had H locs la hP hD hS hl => lv_bipush C.1 C.2.1 hdg hv (k ad had H locs la hP hD hS hl)
theorem cb_sipush (C : CB p s m args meth c cc nL own D cy A) {n : Int} {v : Int32} (hdg : decode cc pc = .ok (.sipush n, 3)) (hv : (Int16.ofInt n).toInt32 = v) (k : WB p l e R s m args below meth c nL D cy A K ad0 kc ks Z L ls (pc + 3) (.int v :: rest)) : WB p l e R s m args below meth c nL D cy A K ad0 kc ks Z L ls pc rest := fun ad had H locs la hP hD hS hl => lv_sipush C.1 C.2.1 hdg hv (k ad had H locs la hP hD hS hl)
theorem cb_lconst (C : CB p s m args meth c cc nL own D cy A) {n : Fin 2} {v : Int64} (hdg : decode cc pc = .ok (.lconst n, 1)) (hv : Int64.ofNat (n : Nat) = v) (k : WB p l e R s m args below meth c nL D cy A K ad0 kc ks Z L ls (pc + 1) (.long v :: rest)) : WB p l e R s m args below meth c nL D cy A K ad0 kc ks Z L ls pc rest := fun ad had H locs la hP hD hS hl => lv_lconst C.1 C.2.1 hdg hv (k ad had H locs la hP hD hS hl)
theorem cb_aload_n (C : CB p s m args meth c cc nL own D cy A) {k : Fin 4} {x : Nat} (hdg : decode cc pc = .ok (.aload_n k, 1)) (hl0 : lkv ls (k : Nat) = some (.ref x)) (kk : WB p l e R s m args below meth c nL D cy A K ad0 kc ks Z L ls (pc + 1) (.ref x :: rest)) : WB p l e R s m args below meth c nL D cy A K ad0 kc ks Z L ls pc rest := fun ad had H locs la hP hD hS hl => lv_aload_n C.1 C.2.1 hdg rfl (cvl_at hl hl0) (kk ad had H locs la hP hD hS hl)
theorem cb_astore_n (C : CB p s m args meth c cc nL own D cy A) {k : Fin 4} {x : Nat} (hdg : decode cc pc = .ok (.astore_n k, 1)) (hn : (k : Nat) < nL) (kk : WB p l e R s m args below meth c nL D cy A K ad0 kc ks Z L (st1 ls (k : Nat) (.ref x)) (pc + 1) rest) : WB p l e R s m args below meth c nL D cy A K ad0 kc ks Z L ls pc (.ref x :: rest) := fun ad had H locs la hP hD hS hl => lv_astore_n C.1 C.2.1 hdg rfl hl hn (cvl_st1 ad ls k (.ref x)) (fun la hl => kk ad had H locs la hP hD hS hl)
theorem cb_dup (C : CB p s m args meth c cc nL own D cy A) {va : Value} (hdg : decode cc pc = .ok (.dup, 1)) (hva : va.category = 1) (k : WB p l e R s m args below meth c nL D cy A K ad0 kc ks Z L ls (pc + 1) (va :: va :: rest)) : WB p l e R s m args below meth c nL D cy A K ad0 kc ks Z L ls pc (va :: rest) := fun ad had H locs la hP hD hS hl => lv_dup C.1 C.2.1 hdg ((cv_cat ad va).trans hva) (k ad had H locs la hP hD hS hl)
theorem cb_objInit (C : CB p s m args meth c cc nL own D cy A) {idx x : Nat} (hlink : Cond.methodLink own idx objectInit ∈ wsL_law) (hinst : Cond.instanceMethod objectInit ∈ wsL_law) (hcode : Cond.code objectInit ⟨#[0xb1]⟩ 1 none ∈ wsL_law) (hR : 1 ≤ R.frames ∧ 12 ≤ R.locals) (hdg : decode cc pc = .ok (.invokespecial idx, 3)) (k : WB p l e R s m args below meth c nL D cy A K ad0 kc ks Z L ls (pc + 3) []) : WB p l e R s m args below meth c nL D cy A K ad0 kc ks Z L ls pc [.ref x] := fun ad had H locs la hP hD hS hl =>
  W.objInit C.1 C.2.1 C.2.2.2.1 (C.2.2.2.2.1 _ hlink) (C.2.2.2.2.1 _ hinst) (C.2.2.2.2.1 _ hcode) rfl (hl.1.trans C.2.2.1.symm) rfl hdg hR.1 hR.2 (W.eq (g2 := F0 m (pc + 3) la []) rfl (k ad had H locs la hP hD hS hl))
theorem upad_ne {ad : Nat → Nat} {q x y : Nat} (h : y ≠ q) : (fun z => if z = q then x else ad z) y = ad y := by simp [h]
/-- new: a blank object at the place q -/
theorem cb_new (C : CB p s m args meth c cc nL own D cy A) {q ci index N : Nat} {Cn : String} {T : u_T} (ty : Nat → FieldType) (vs : List Value) (hK : K q = false) (hsc : q ∉ scp L ls rest) (hc : vwCl[ci]? = some (Cn, T, N)) (hin : ∀ w ∈ u_ws Cn T N, w ∈ wsL_law) (hty : ∀ k, k < N → parseFieldDescriptor (T k).2.2.1 = some (ty k)) (hcl : Cond.classLink own index Cn ∈ wsL_law) (hinst : Cond.instantiable Cn N ∈ wsL_law) (hini : Cond.initialized Cn ∈ wsL_law) (hfs : ∀ j, j < N → defaultValue (ty j) = vp_V vs j) (hvs : vs.filterMap vref = []) (hcells : kc + 1 ≤ R.cells) (hslots : ks + N ≤ R.slots) (hdg : decode cc pc = .ok (.new index, 3))
    (kk : WB p l e R s m args below meth c nL D cy A K ad0 (kc + 1) (ks + N) Z (L ++ [(q, .inr (ci, vs))]) ls (pc + 3) (.ref q :: rest)) : WB p l e R s m args below meth c nL D cy A K ad0 kc ks Z L ls pc rest := by
  intro ad had H locs la hP hD hS hl
  refine va_new C.1 C.2.1 C.2.2.2.2.1 hin ty hty C.2.2.2.1 (C.2.2.2.2.1 _ hcl) (C.2.2.2.2.1 _ hinst) (C.2.2.2.2.1 _ hini) C.2.2.2.2.2.1 hP hD hS C.2.2.2.2.2.2.2 hc hfs hcells hslots hdg (fun x H1 hP1 hD1 hS1 => ?_)
  have hag : ∀ r, r ∈ scp L ls rest → ad r = (fun z => if z = q then x else ad z) r := fun r hr => (upad_ne (fun (e : r = q) => hsc (by rw [← e]; exact hr))).symm
  obtain ⟨e1, e2, e3⟩ := scp_cong (cy := cy) hag
  have e4 : cw (fun z => if z = q then x else ad z) cy (L ++ [(q, .inr (ci, vs))]) = cw ad cy L ++ [(x, .inr (ci, vs))] := by
    have h1 : cvs (fun z => if z = q then x else ad z) vs = vs := by
      unfold cvs
      conv => rhs; rw [← List.map_id vs]
      apply List.map_congr_left
      intro v hv
      cases v <;> first | rfl | (exfalso; have := List.mem_filterMap.mpr ⟨_, hv, (rfl : vref (Value.ref _) = some _)⟩; rw [hvs] at this; cases this)
    rw [e1]
    simp only [cw, List.map_append, List.map_cons, List.map_nil, acC, h1, if_true]
  have := kk (fun z => if z = q then x else ad z) (fun r hr => (upad_ne (fun e => by rw [e, hK] at hr; cases hr)).trans (had r hr)) H1 locs la (by rw [e4]; exact hP1) (by rw [e4]; exact hD1) hS1 (by rw [← e2]; exact hl)
  have e5 : cvs (fun z => if z = q then x else ad z) (.ref q :: rest) = .ref x :: cvs ad rest := by
    rw [e3]
    simp [cvs, cv]
  rw [e5] at this
  exact this
theorem cw_at {ad : Nat → Nat} {k q : Nat} {a : ACell} (h : L[k]? = some (q, a)) : (cw ad cy L)[k]? = some (ad q, acC ad cy a) := by
  simp [cw, h]
theorem cw_set {ad : Nat → Nat} {k q : Nat} {a : ACell} : (cw ad cy L).set k (ad q, acC ad cy a) = cw ad cy (L.set k (q, a)) := by
  simp [cw, List.map_set]
/-- putfield of a final reference -/
theorem cb_putF (C : CB p s m args meth c cc nL own D cy A) (hin2 : meth.name = "<init>") {k0 ci k index q r N : Nat} {vs : List Value} {Cn : String} {T : u_T} {ty0 : Nat → FieldType} {ty : FieldType} (hc : vwCl[ci]? = some (Cn, T, N)) (hin : ∀ w ∈ u_ws Cn T N, w ∈ wsL_law) (hty : ∀ k, k < N → parseFieldDescriptor (T k).2.2.1 = some (ty0 k)) (hnm : ∀ a, a < N → ∀ b, b < N → a ≠ b → (T a).2.1 ≠ (T b).2.1) (hL : L[k0]? = some (q, .inr (ci, vs))) (hk : k < N) (hlink : Cond.fieldLink own index (T k).1 (T k).2.1 (T k).2.2.1 ∈ wsL_law) (hfin : (T k).2.2.2 = true) (hdecl : (T k).1 = own) (hd : parseFieldDescriptor (T k).2.2.1 = some ty) (hnar : narrow ty (.ref 0) = .ref 0 ∧ ∀ x, narrow ty (.ref x) = .ref x ∧ fits ty (.ref x) = true) (hlen : k < vs.length) (hdg : decode cc pc = .ok (.putfield index, 3))
    (kk : WB p l e R s m args below meth c nL D cy A K ad0 kc ks Z (L.set k0 (q, .inr (ci, vs.set k (.ref r)))) ls (pc + 3) rest) : WB p l e R s m args below meth c nL D cy A K ad0 kc ks Z L ls pc (.ref r :: .ref q :: rest) := by
  intro ad had H locs la hP hD hS hl
  have e : (cvs ad vs).set k (.ref (ad r)) = cvs ad (vs.set k (.ref r)) := by simp [cvs, List.map_set, cv]
  refine va_putF (v := .ref (ad r)) C.1 C.2.1 C.2.2.2.2.1 hin ty0 hty hnm C.2.2.2.1 C.2.2.2.2.2.1 hP hD hS k0 (cw_at hL) hc k hk (C.2.2.2.2.1 _ hlink) (fun _ h => h) hfin hin2 hdecl hd (hnar.2 _).1 (hnar.2 _).2 (by simpa [cvs] using hlen) hdg (fun H1 locs1 hP1 hD1 hS1 => kk ad had H1 locs1 la ?_ ?_ hS1 hl)
  · have h2 := hP1
    rw [e] at h2
    have h3 := cw_set (L := L) (cy := cy) (ad := ad) (k := k0) (q := q) (a := .inr (ci, vs.set k (.ref r)))
    rw [← h3]
    exact h2
  · have h2 := hD1
    rw [e] at h2
    have h3 := cw_set (L := L) (cy := cy) (ad := ad) (k := k0) (q := q) (a := .inr (ci, vs.set k (.ref r)))
    rw [← h3]
    exact h2
/-- putfield of an int, boolean or long that is not final -/
theorem cb_put (C : CB p s m args meth c cc nL own D cy A) {k0 ci k index q N : Nat} {v : Value} {vs : List Value} {Cn : String} {T : u_T} {ty0 : Nat → FieldType} {ty : FieldType} (hc : vwCl[ci]? = some (Cn, T, N)) (hin : ∀ w ∈ u_ws Cn T N, w ∈ wsL_law) (hty : ∀ k, k < N → parseFieldDescriptor (T k).2.2.1 = some (ty0 k)) (hnm : ∀ a, a < N → ∀ b, b < N → a ≠ b → (T a).2.1 ≠ (T b).2.1) (hL : L[k0]? = some (q, .inr (ci, vs))) (hk : k < N) (hlink : Cond.fieldLink own index (T k).1 (T k).2.1 (T k).2.2.1 ∈ wsL_law) (hfin : (T k).2.2.2 = false) (hd : parseFieldDescriptor (T k).2.2.1 = some ty) (hv : vref v = none) (hn : narrow ty v = v) (hfit : fits ty v = true) (hlen : k < vs.length) (hdg : decode cc pc = .ok (.putfield index, 3))
    (kk : WB p l e R s m args below meth c nL D cy A K ad0 kc ks Z (L.set k0 (q, .inr (ci, vs.set k v))) ls (pc + 3) rest) : WB p l e R s m args below meth c nL D cy A K ad0 kc ks Z L ls pc (v :: .ref q :: rest) := by
  intro ad had H locs la hP hD hS hl
  have ev : cv ad v = v := by cases v <;> first | rfl | cases hv
  have e : (cvs ad vs).set k v = cvs ad (vs.set k v) := by simp [cvs, List.map_set, ev]
  have eg : F0 m pc la (cvs ad (v :: .ref q :: rest)) = F0 m pc la (v :: .ref (ad q) :: cvs ad rest) := by
    show F0 m pc la (cv ad v :: .ref (ad q) :: cvs ad rest) = _
    rw [ev]
  rw [eg]
  refine va_put (v := v) C.1 C.2.1 C.2.2.2.2.1 hin ty0 hty hnm C.2.2.2.1 C.2.2.2.2.2.1 hP hD hS k0 (cw_at hL) hc k hk (C.2.2.2.2.1 _ hlink) (fun _ h => h) hfin hd hn hfit (by simpa [cvs] using hlen) hdg (fun H1 locs1 hP1 hD1 hS1 => kk ad had H1 locs1 la ?_ ?_ hS1 hl)
  · have h2 := hP1
    rw [e] at h2
    rw [← cw_set (L := L) (cy := cy) (ad := ad) (k := k0) (q := q) (a := .inr (ci, vs.set k v))]
    exact h2
  · have h2 := hD1
    rw [e] at h2
    rw [← cw_set (L := L) (cy := cy) (ad := ad) (k := k0) (q := q) (a := .inr (ci, vs.set k v))]
    exact h2
/-- what a new array's cell is: merged into the world under the class that is known for its type -/
theorem cb_grow (C : CB p s m args meth c cc nL own D cy A) {q x t N : Nat} {rs : List (Option Nat)} {ad : Nat → Nat} {st : List Value} {H1 : Heap} {la : Array Slot} {a0 : vp_A} {cA : ClassId} {ty : FieldType} (hK : K q = false) (hsc : q ∉ scp L ls st) (had : ∀ q, K q = true → ad q = ad0 q) (hrs : rs.filterMap id = []) (ha0 : a0 = (N, acA ad t rs)) (hta : ∀ ad', acA ad t rs = acA ad' t rs) (htt : (tysOf cy)[t]? = some (cy t, ty)) (hra : va_RA s cA ty) (hP1 : va_P D vwCl (cw ad cy L ++ [(x, .inl (cA, a0))]) H1) (hD1 : va_D A (cw ad cy L ++ [(x, .inl (cA, a0))])) (hl : lv_has la nL (cvl ad ls)) (hfc : ∀ c1 c2, va_RA s c1 ty → va_RA s c2 ty → c1 = c2) :
    ∃ ad' : Nat → Nat, (∀ q, K q = true → ad' q = ad0 q) ∧ va_P D vwCl (cw ad' cy (L ++ [(q, .inl (t, N, rs))])) H1 ∧ va_D A (cw ad' cy (L ++ [(q, .inl (t, N, rs))])) ∧ lv_has la nL (cvl ad' ls) ∧ cvs ad' (.ref q :: st) = .ref x :: cvs ad st := by
  have hcA : cA = cy t := hfc _ _ hra ((C.2.2.2.2.2.1.2 t _ htt).2)
  have hag : ∀ r, r ∈ scp L ls st → ad r = (fun z => if z = q then x else ad z) r := fun r hr => (upad_ne (fun (e : r = q) => hsc (by rw [← e]; exact hr))).symm
  obtain ⟨e1, e2, e3⟩ := scp_cong (cy := cy) hag
  have e4 : cw (fun z => if z = q then x else ad z) cy (L ++ [(q, .inl (t, N, rs))]) = cw ad cy L ++ [(x, .inl (cA, a0))] := by
    rw [e1]
    simp only [cw, List.map_append, List.map_cons, List.map_nil, acC, if_true, hcA, ha0]
    rw [hta]
  refine ⟨fun z => if z = q then x else ad z, fun r hr => (upad_ne (fun e => by rw [e, hK] at hr; cases hr)).trans (had r hr), by rw [e4]; exact hP1, by rw [e4]; exact hD1, by rw [← e2]; exact hl, ?_⟩
  simp only [cvs, List.map_cons] at e3 ⊢
  rw [← e3]
  simp [cv]
theorem cb_newa (C : CB p s m args meth c cc nL own D cy A) {q t N : Nat} {n : Int32} {atype : ArrayType} {ty : FieldType} (hty : newarray.typeOf atype = ty) (hK : K q = false) (hsc : q ∉ scp L ls rest) (harr : Cond.arrayClass (newarray.typeOf atype) ∈ wsL_law) (htt : (tysOf cy)[t]? = some (cy t, ty)) (hz : ∀ (cA : ClassId) (ad : Nat → Nat), vp_cell cA (N, acA ad t []) = arrV cA N (fun _ => defaultValue ty)) (hta : ∀ ad ad', acA ad t [] = acA ad' t []) (hnm : ∀ U c, va_RA U c ty = (U.vm.findClass ("[" ++ ty.toString) = some c)) (hn : ¬ n < 0) (hN : n.toNatClampNeg = N) (hbytes : N * componentBytes ty ≤ 536870912) (hcells : kc + 1 ≤ R.cells) (hslots : ks + N ≤ R.slots) (hdg : decode cc pc = .ok (.newarray atype, 2))
    (kk : WB p l e R s m args below meth c nL D cy A K ad0 (kc + 1) (ks + N) Z (L ++ [(q, .inl (t, N, []))]) ls (pc + 2) (.ref q :: rest)) : WB p l e R s m args below meth c nL D cy A K ad0 kc ks Z L ls pc (.int n :: rest) := by
  intro ad had H locs la hP hD hS hl
  refine va_newa (a0 := (N, acA ad t [])) C.1 C.2.1 (C.2.2.2.2.1 _ harr) hty C.2.2.2.2.2.1 hP hD hS C.2.2.2.2.2.2.2 (fun cA => hz cA ad) hn hN hbytes hcells hslots hdg (fun x cA H1 hK1 hP1 hD1 hS1 => ?_)
  have hra : va_RA s cA ty := (hK1.2 (tysOf cy).length (cA, ty) (by simp)).2
  obtain ⟨ad', h1, h2, h3, h4, h5⟩ := cb_grow (st := rest) C hK hsc had rfl rfl (hta ad) htt hra hP1 hD1 hl (fun c1 c2 g1 g2 => by rw [hnm] at g1 g2; exact Option.some.inj (g1.symm.trans g2))
  have := kk ad' h1 H1 locs la h2 h3 hS1 h4
  rw [h5] at this
  exact this
theorem cb_newq (C : CB p s m args meth c cc nL own D cy A) {q t N index : Nat} {n : Int32} {Cn : String} (hK : K q = false) (hsc : q ∉ scp L ls rest) (hcl : Cond.classLink own index Cn ∈ wsL_law) (hover : va_AO Cn s) (htt : (tysOf cy)[t]? = some (cy t, .object Cn)) (ht : t = 4 ∨ t = 5) (hn : ¬ n < 0) (hN : n.toNatClampNeg = N) (hbytes : N * 4 ≤ 536870912) (hcells : kc + 1 ≤ R.cells) (hslots : ks + N ≤ R.slots) (hdg : decode cc pc = .ok (.anewarray index, 3))
    (kk : WB p l e R s m args below meth c nL D cy A K ad0 (kc + 1) (ks + N) Z (L ++ [(q, .inl (t, N, []))]) ls (pc + 3) (.ref q :: rest)) : WB p l e R s m args below meth c nL D cy A K ad0 kc ks Z L ls pc (.int n :: rest) := by
  intro ad had H locs la hP hD hS hl
  refine va_newq C.1 C.2.1 C.2.2.2.1 (C.2.2.2.2.1 _ hcl) hover C.2.2.2.2.2.1 hP hD hS C.2.2.2.2.2.2.2 hn hN hbytes hcells hslots hdg (fun x cA H1 hK1 hP1 hD1 hS1 => ?_)
  have hra : va_RA s cA (.object Cn) := (hK1.2 (tysOf cy).length (cA, .object Cn) (by simp)).2
  have hz : ∀ ad : Nat → Nat, acA ad t [] = .inr (.inr (.inr (.inr (fun _ => none)))) := by
    intro ad
    rcases ht with rfl | rfl <;> rfl
  obtain ⟨ad', h1, h2, h3, h4, h5⟩ := cb_grow (a0 := (N, .inr (.inr (.inr (.inr (fun _ => none)))))) (N := N) (t := t) (rs := []) (st := rest) C hK hsc had rfl (by rw [hz]) (fun ad' => by rw [hz, hz]) htt hra hP1 hD1 hl (fun c1 c2 g1 g2 => by
    obtain ⟨_, _, -, -, -, g1⟩ := g1
    obtain ⟨_, _, -, -, -, g2⟩ := g2
    exact Option.some.inj (g1.symm.trans g2))
  have := kk ad' h1 H1 locs la h2 h3 hS1 h4
  rw [h5] at this
  exact this
theorem cb_aast (C : CB p s m args meth c cc nL own D cy A) {k0 k1 q r t n ci j : Nat} {rs rs' : List (Option Nat)} {vs : List Value} {i : Int32} {rc : vw_C} (ht : t = 4 ∨ t = 5) (hL : L[k0]? = some (q, .inl (t, n, rs))) (hv : L[k1]? = some (r, .inr (ci, vs))) (hc : vwCl[ci]? = some rc) (htt : (tysOf cy)[t]? = some (cy t, .object rc.1)) (hin : inb i n = true) (hj : i.toNatClampNeg = j) (hrs : ∀ k, rs'.getD k none = if k = j then some r else rs.getD k none) (hdg : decode cc pc = .ok (.aastore, 1))
    (kk : WB p l e R s m args below meth c nL D cy A K ad0 kc ks Z (L.set k0 (q, .inl (t, n, rs'))) ls (pc + 1) rest) : WB p l e R s m args below meth c nL D cy A K ad0 kc ks Z L ls pc (.ref r :: .int i :: .ref q :: rest) := by
  intro ad had H locs la hP hD hS hl
  have hz : ∀ rs : List (Option Nat), acA ad t rs = .inr (.inr (.inr (.inr (fun i => (rs.getD i none).map ad)))) := by
    intro rs
    rcases ht with rfl | rfl <;> rfl
  have h0 : (cw ad cy L)[k0]? = some (ad q, .inl (cy t, n, .inr (.inr (.inr (.inr (fun i => (rs.getD i none).map ad)))))) := by
    rw [cw_at hL, acC, hz]
  have h1 : (cw ad cy L)[k1]? = some (ad r, .inr (ci, cvs ad vs)) := by
    rw [cw_at hv, acC]
  subst hj
  have e : va_up (fun i => (rs.getD i none).map ad) i.toNatClampNeg (some (ad r)) = (fun k => (rs'.getD k none).map ad) := by
    funext k
    rw [hrs]
    by_cases hk : k = i.toNatClampNeg <;> simp [va_up, hk]
  refine va_astq C.1 C.2.1 C.2.2.2.2.2.1 hP hD hS k0 t k1 ci h0 htt h1 hc (inb_in hin) hdg (fun H1 locs1 hP1 hD1 hS1 => kk ad had H1 locs1 la ?_ ?_ hS1 hl)
  · have h2 := hP1
    rw [e, ← hz] at h2
    rw [← cw_set (L := L) (cy := cy) (ad := ad) (k := k0) (q := q) (a := .inl (t, n, rs'))]
    exact h2
  · have h2 := hD1
    rw [e, ← hz] at h2
    rw [← cw_set (L := L) (cy := cy) (ad := ad) (k := k0) (q := q) (a := .inl (t, n, rs'))]
    exact h2
end CTOR
