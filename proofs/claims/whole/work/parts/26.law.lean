/-! THE CLAIM OUT OF ONE WALK OF THE LAW'S BODY. Your part is whole_start (and what it stands on); all else here is the same for every law, but numbers. -/
def R_law : String := "ThreeAwakeLaw"
def lw_P (b : Addr) (xs : List Int32) (args : Array Value) (s : State) : Prop := args = #[.ref b] ∧ s.IntsAt b xs ∧ xs.length ≤ 2560 ∧ (Jvm.Cond.and given_1 narrow_1).before args s = true
def lw_Q (_ : Array Value) (s : State) (o : Outcome) (t : State) : Prop := o = .returned (some (.int 1)) ∧ Framed s o t [] 600000 7302249
def lw_Z (below : List Frame) (a : Array Value) (s : State) : State → Prop := fun t => ∃ o, t.status = .running ∧ Ended t below o ∧ lw_Q a s o t
/-- the law's own end, with 1 on the stack, nothing written that was there before, its room as the claim has it -/
theorem lw_ret {p : Program} {l : Launch} {e : Env} {s : State} {m : MethodId} {below : List Frame} {meth : Method} {c : Code} {b : Nat} (hx : p.tables.exec = Jvm.exec) (hb : c.code = code) (hr : meth.sig.returnType = ret) (hlocks : meth.locks = false) {pc : Nat} {H : Heap} {ls : Array Slot} (hdg : decode code pc = .ok (.ireturn, 1)) : W p l e room_1 s m #[Value.ref b] below meth c H [] 600000 7302249 (lw_Z below #[Value.ref b] s) (F0 m pc ls [.int 1]) := by
  intro T hT X
  obtain ⟨fs, hret, hrun, hended, hW, hframe⟩ := X.leave (v := some (.int 1)) (hlocks := hlocks) (fun h => by rw [hr] at h; cases h)
  have hmeth' : T.vm.method? m = some meth := X.method'
  refine ⟨T.setFrames fs, ?_, .returned (some (.int 1)), hrun, hended, rfl, ⟨_, rfl⟩, hW, hframe⟩
  jvm_step X.here [X.here.top, hx, hb, hdg, hmeth', hr, ret, narrow_b1]
  (try refine ⟨rfl, ?_⟩); (try refine ⟨rfl, ?_⟩)
  first | (intro acts; rw [hret _ acts rfl rfl rfl]) | rw [hret _ _ rfl rfl rfl]
  exact Steps.refl _
/-- what holds at the law's entry: the machine, the code, the tables' words (any of lw_tbl by 'hts w (by decide +kernel)'), the script of L ints xs at the cell b, what the Statement gives of the start (any of its parts by flat_of_before) -/
def lw_At (p : Program) (s : State) (m : MethodId) (meth : Method) (c : Code) (b L : Nat) (xs : Nat → Int32) : Prop :=
  p.tables.exec = Jvm.exec ∧ c.code = code ∧ meth.sig.returnType = ret ∧ c.maxLocals = 4 ∧ s.vm.findClass R_law = some m.cls ∧ (∀ w ∈ lw_tbl, w.before #[Value.ref b] s = true) ∧ va_X b L xs s s.heap ∧ b < s.heap.size ∧ meth.locks = false ∧ (Jvm.Cond.and given_1 narrow_1).before #[Value.ref b] s = true
theorem qw_0 : Cond.classLink RL 7 RX9 ∈ wsL_law := bk_1 _ (List.mem_of_getElem? (i := 0) rfl)
theorem qw_1 : Cond.instantiable RX9 13 ∈ wsL_law := bk_1 _ (List.mem_of_getElem? (i := 1) rfl)
theorem qw_3 : Cond.classLink RL 10 RX10 ∈ wsL_law := bk_1 _ (List.mem_of_getElem? (i := 3) rfl)
theorem qw_4 : Cond.instantiable RX10 40 ∈ wsL_law := bk_1 _ (List.mem_of_getElem? (i := 4) rfl)
theorem qw_7 : Cond.methodLink RL 9 yX9_init ∈ wsL_law := bk_1 _ (List.mem_of_getElem? (i := 7) rfl)
theorem qw_131 : Cond.methodLink RL 12 yX10_init ∈ wsL_law := bk_6 _ (List.mem_of_getElem? (i := 11) rfl)
def KL : Nat → Bool := fun q => decide (80 ≤ q)
/-- behind the model's constructor the world stands whole -/
theorem cb_callM {p : Program} {l : Launch} {e : Env} {R : Room} {s : State} {m : MethodId} {args : Array Value} {below : List Frame} {meth : Method} {c : Code} {cc : ByteArray} {nL : Nat} {own : String} {D : va_G} {cy : Nat → ClassId} {A : Nat → Prop} {ad0 : Nat → Nat} {kc ks : Nat} {Z : State → Prop} {ls : List (Nat × Value)} {pc : Nat} {rest : List Value}
    (C : CB p s m args meth c cc nL own D cy A) (hST : ST ad0 A s s.heap) {μ1 : Mem} (h : f_X10_initR mu0 = some μ1) {index : Nat} (hlink : Cond.methodLink own index yX10_init ∈ wsL_law) (hR : 122 ≤ R.frames ∧ 8 + (2 + 11) + 7260 ≤ R.locals) (hcs : kc + csM ≤ R.cells ∧ ks + ssM ≤ R.slots) (hcat : (rest.map fun v => v.category).sum ≤ 8) (hdg : decode cc pc = .ok (.invokespecial index, 3))
    (hsc : ∀ r ∈ ls.filterMap (fun q => vref q.2) ++ rest.filterMap vref, KM r = true)
    (kk : ∀ ad : Nat → Nat, (∀ q, KL q = true → ad q = ad0 q) → ∀ (H : Heap) (locs : List Loc) (la : Array Slot), va_P D vwCl (wd ad cy μ1) H → va_D A (wd ad cy μ1) → va_S A s.heap H locs → lv_has la nL (cvl ad ls) → W p l e R s m args below meth c H locs (kc + csM) (ks + ssM) Z (F0 m (pc + 3) la (cvs ad rest))) : WB p l e R s m args below meth c nL D cy A KL ad0 kc ks Z (L9 ++ [(62, bM)]) ls pc (.ref 62 :: rest) := by
  intro ad had H locs la hP hD hS hl
  have hts := C.2.2.2.2.1
  have hF : ∀ x, va_A (cw ad cy (L9 ++ [(62, bM)])) H.size x → A x := fun x hx => by
    rcases hx with ⟨k, e, h⟩ | h
    · exact hD.2 k _ h
    · exact C.2.2.2.2.2.2.2 x (Nat.le_trans hS.1 h)
  have hpre : ∀ U : State, U.heap = H → s.WarmedH U.vm → PCM D cy ad H.size U := by
    intro U hU hW
    refine ⟨⟨by rw [hU], by rw [hU]; exact hP, va_K.moved hW.alike C.2.2.2.2.2.1, hD.weaken (fun _ _ _ _ => trivial), C.2.2.2.2.2.2.1.warm hW⟩, ?_⟩
    rw [hU]
    exact (((hST.ad (fun q hq => had q (by simp [KL, hq]))).warm hW).kept hS.2.1).narrow hF
  have hbl : FrameBlind (va_Pc [.ref (ad 62)] (PCM D cy ad H.size)) := fun a U g mk q => by
    obtain ⟨q0, ⟨q1, qP, qK, qD, qN⟩, qS⟩ := q
    exact ⟨q0, ⟨q1, qP, va_K.moved (u := U) (U := U.calling g mk a) (Vm.Alike.refl U.vm) qK, qD, NI.same (u := U) (U := U.calling g mk a) rfl qN⟩, ST.same (u := U) (U := U.calling g mk a) rfl qS⟩
  have hrun := va_runI (p := p) (l := l) (e := e) (R := R) (s := s) (args := args) (below := below) (meth := meth) (H := H) (locs := locs) (cells := kc) (slots := ks) (As := []) (rest := cvs ad rest) (b := ad 62) (g := F0 m pc la (cvs ad (.ref 62 :: rest))) ⟨C.1, C.2.1, C.2.2.1, C.2.2.2.1, hts⟩ (hm_X10 h l D cy ad H.size) ⟨callB_of 0 hts (gts2 mc_X10.1) rfl rfl rfl (hts _ mc_X10.2.1) (hts _ hlink) mc_X10.2.2.2.2 ⟨hR.1, hR.2⟩, mc_X10.2.2.2.1, hts _ mc_X10.2.2.1⟩ ⟨hbl, fun U hU hW => ⟨rfl, hpre U hU hW⟩⟩ rfl rfl hl.1 rfl (lv_room (by rw [cvs_sum]; exact hcat)) hdg hcs
  intro T hT X
  obtain ⟨v, st₀, t, T', Ls, h0, X', hL, e1, e2, ⟨⟨hv, ad', hk', hP1, hD1⟩, hz, hk⟩, st⟩ := hrun T hT X
  cases hv
  rw [h0] at hz hk
  have hS' : va_S A s.heap T'.heap (locs ++ Ls) := ⟨Nat.le_trans hS.1 (by rw [e1]; exact hz), fun x h1 h2 => by rw [e1, hk x (Nat.lt_of_lt_of_le h1 hS.1) (fun z => h2 (hF x z))]; exact hS.2.1 x h1 h2, fun x hx => by
      rcases List.mem_append.mp hx with h | h
      · exact hS.2.2 x h
      · exact hF _ (hL x h)⟩
  have hag : ∀ r ∈ ls.filterMap (fun q => vref q.2) ++ rest.filterMap vref, ad r = ad' r := fun r hr => (hk' r (hsc r hr)).symm
  have e4 : cvl ad ls = cvl ad' ls := by
    apply List.map_congr_left
    intro q hq
    rw [cv_cong (fun r hr => hag r (List.mem_append_left _ (List.mem_filterMap.mpr ⟨q, hq, hr⟩)))]
  have e5 : cvs ad rest = cvs ad' rest := cvs_cong (fun r hr => hag r (List.mem_append_right _ hr))
  obtain ⟨t2, a1, b1⟩ := kk ad' (fun q hq => (hk' q (by simp [KL] at hq; simp [KM, hq])).trans (had q hq)) T'.heap (locs ++ Ls) la (by rw [e1]; exact hP1) (hD1.weaken (fun k x _ h => hF x.1 h)) hS' (by rw [← e4]; exact hl) T' rfl X'
  refine ⟨t2, st t2 ?_, b1⟩
  rw [← e5] at a1
  exact a1
set_option maxRecDepth 100000 in
set_option maxHeartbeats 8000000 in
/-- the walk of the law, out of what the decompiled functions answer -/
theorem whole_from {μ1 : Mem} (hini : f_X10_initR mu0 = some μ1) (hpure : ∀ (xs : Nat → Int32) (L : Nat), L ≤ 2560 → ∃ μ2 : Mem, f_L_lawR xs L μ1 = some (1, μ2)) {p : Program} {e : Env} {s : State} {m : MethodId} {below : List Frame} {meth : Method} {c : Code} (l : Launch) {b L : Nat} {xs : Nat → Int32} (hL : L ≤ 2560) (C0 : lw_At p s m meth c b L xs) : W p l e room_1 s m #[Value.ref b] below meth c s.heap [] 0 0 (lw_Z below #[Value.ref b] s) (entryFrame m ([Value.ref b] : List Value).toArray 4) := by
  obtain ⟨hx, hb, hr, hml, hown, hts, hX, hbl, hlocks, hgv⟩ := C0
  obtain ⟨D, cy, hK⟩ := start_K hts
  obtain ⟨ad0, had0, hST⟩ := start_ST (b := b) hts hgv
  have hN := start_NI hts
  have C : CB p s m #[Value.ref b] meth c cL_law 4 RL D cy (fun q => s.heap.size ≤ q) := ⟨hx, hb, hml, hown, fun w h => hts w (wsL_in w h), hK, hN, fun _ h => h⟩
  have hl := lv_entry ([.ref b]) (n := 4) (Nat.le_of_ble_eq_true rfl)
  rw [lg_entry_eq]
  obtain ⟨μ2, hp⟩ := hpure xs L hL
  have hwalk : WB p l e room_1 s m #[Value.ref b] below meth c 4 D cy (fun q => s.heap.size ≤ q) KL ad0 0 0 (lw_Z below #[Value.ref b] s) [] [(0, .ref 103)] 0 [] := by
    refine cb_new (q := 0) (ci := 9) C tyX9 [.null, .null, .null, .int 0, .null, .int 0, .null, .null, .null, .null, .null, .null, .null] rfl (by decide) rfl inlX9 tyX9_ok qw_0 qw_1 qw_2 (by decide +kernel) rfl (Nat.le_of_ble_eq_true rfl) (Nat.le_of_ble_eq_true rfl) dL_law_0 ?_
    refine cb_dup C dL_law_3 rfl ?_
    refine cb_callI C hc_X9_0 mc_X9 qw_7 ⟨Nat.le_of_ble_eq_true rfl, Nat.le_of_ble_eq_true rfl⟩ ⟨Nat.le_of_ble_eq_true rfl, Nat.le_of_ble_eq_true rfl⟩ (Nat.le_of_ble_eq_true rfl) dL_law_4 (by decide) (by decide) ?_
    refine WB.L (L' := L9) rfl ?_
    refine cb_astore_n C dL_law_7 (by decide) ?_
    refine cb_new (q := 62) (ci := 10) C tyX10 [.null, .null, .int 0, .int 0, .int 0, .null, .null, .null, .int 0, .int 0, .null, .null, .int 0, .int 0, .int 0, .int 0, .int 0, .int 0, .null, .int 0, .int 0, .int 0, .int 0, .int 0, .int 0, .int 0, .int 0, .null, .int 0, .null, .null, .null, .int 0, .int 0, .null, .null, .null, .null, .int 0, .null] rfl (by decide) rfl inlX10 tyX10_ok qw_3 qw_4 qw_5 (by decide +kernel) rfl (Nat.le_of_ble_eq_true rfl) (Nat.le_of_ble_eq_true rfl) dL_law_8 ?_
    refine cb_dup C dL_law_11 rfl ?_
    refine WB.L (L' := L9 ++ [(62, bM)]) rfl ?_
    refine cb_callM C hST hini qw_131 ⟨Nat.le_of_ble_eq_true rfl, Nat.le_of_ble_eq_true rfl⟩ ⟨Nat.le_of_ble_eq_true rfl, Nat.le_of_ble_eq_true rfl⟩ (Nat.le_of_ble_eq_true rfl) dL_law_12 (by decide) (fun ad had H locs la hP hD hS hl => ?_)
    have hC := wd_cx C hr hlocks hD hST (fun q hq => had q (by simp [KL, hq]))
    have e3 : ad 103 = b := (had 103 rfl).trans had0
    have hSC : SCR ad (fun q => s.heap.size ≤ q) s L xs := ⟨by rw [e3]; exact hX, by rw [e3]; exact hbl, by rw [e3]; exact Nat.not_le.mpr hbl⟩
    refine wa_astore_n (Z := lw_Z below #[Value.ref b] s) (l := l) (e := e) (R := room_1) (below := below) hC dL_law_15 (by decide) ?_ H locs la hP hS hl
    refine WA.sub (ls' := [(0, .ref 103), (1, .ref 0), (2, .ref 62)]) (lsub_c rfl (lsub_c rfl (lsub_c rfl lsub_n))) ?_
    exact r_L_lawR hC hSC ⟨Nat.le_of_ble_eq_true rfl, Nat.le_of_ble_eq_true rfl⟩ ⟨Nat.le_of_ble_eq_true rfl, Nat.le_of_ble_eq_true rfl⟩ (fun ls pc hd H locs la hP hS hl => va_forget (fun q hq => hS.2.2 q hq) (W.widen (k := 600000) (n := 7302249) (Nat.le_of_ble_eq_true rfl) (Nat.le_of_ble_eq_true rfl) (lw_ret hx hb hr hlocks hd))) hp
  refine hwalk ad0 (fun _ _ => rfl) _ _ _ (fun k q h => by simp [cw] at h) ⟨fun i j p q h => by simp [cw] at h, fun k q h => by simp [cw] at h⟩ va_S.rf ?_
  have e0 : cvl ad0 [(0, .ref 103)] = [(0, .ref b)] := by simp [cvl, cv, had0]
  rw [e0]
  exact hl
