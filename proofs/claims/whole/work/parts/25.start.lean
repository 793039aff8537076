theorem wsL_in : ∀ w ∈ wsL_law, w ∈ lw_tbl := fun w h => (List.mem_append.mp h).elim (fun h => (List.mem_append.mp h).elim (fun h => (List.mem_append.mp h).elim (fun h => (List.mem_append.mp h).elim (fun h => (List.mem_append.mp h).elim (fun h => (List.mem_append.mp h).elim (fun h => (List.mem_append.mp h).elim (fun h => (List.mem_append.mp h).elim (fun h => (List.mem_append.mp h).elim (fun h => (List.mem_append.mp h).elim (fun h => (List.mem_append.mp h).elim (fun h => (List.mem_append.mp h).elim (fun h => (List.mem_append.mp h).elim (fun h => ib_1 w h) (fun h => (List.mem_append.mp h).elim (fun h => ib_2 w h) (fun h => (List.mem_append.mp h).elim (fun h => ib_3 w h) (fun h => (List.mem_append.mp h).elim (fun h => ib_4 w h) (fun h => (List.mem_append.mp h).elim (fun h => ib_5 w h) (fun h => (List.mem_append.mp h).elim (fun h => ib_6 w h) (fun h => (List.mem_append.mp h).elim (fun h => ib_7 w h) (fun h => (List.mem_append.mp h).elim (fun h => ib_8 w h) (fun h => (List.mem_append.mp h).elim (fun h => ib_9 w h) (fun h => (List.mem_append.mp h).elim (fun h => ib_10 w h) (fun h => (List.mem_append.mp h).elim (fun h => ib_11 w h) (fun h => (List.mem_append.mp h).elim (fun h => ib_12 w h) (fun h => (List.mem_append.mp h).elim (fun h => ib_13 w h) (fun h => (List.mem_append.mp h).elim (fun h => ib_14 w h) (fun h => (List.mem_append.mp h).elim (fun h => ib_15 w h) (fun h => (List.mem_append.mp h).elim (fun h => ib_16 w h) (fun h => (List.mem_append.mp h).elim (fun h => ib_17 w h) (fun h => (List.mem_append.mp h).elim (fun h => ib_18 w h) (fun h => (List.mem_append.mp h).elim (fun h => ib_19 w h) (fun h => (List.mem_append.mp h).elim (fun h => ib_20 w h) (fun h => (List.mem_append.mp h).elim (fun h => ib_21 w h) (fun h => (List.mem_append.mp h).elim (fun h => ib_22 w h) (fun h => (List.mem_append.mp h).elim (fun h => ib_23 w h) (fun h => (List.mem_append.mp h).elim (fun h => ib_24 w h) (fun h => (List.mem_append.mp h).elim (fun h => ib_25 w h) (fun h => (List.mem_append.mp h).elim (fun h => ib_26 w h) (fun h => (List.mem_append.mp h).elim (fun h => ib_27 w h) (fun h => (List.mem_append.mp h).elim (fun h => ib_28 w h) (fun h => (List.mem_append.mp h).elim (fun h => ib_29 w h) (fun h => (List.mem_append.mp h).elim (fun h => ib_30 w h) (fun h => (List.mem_append.mp h).elim (fun h => ib_31 w h) (fun h => (List.mem_append.mp h).elim (fun h => ib_32 w h) (fun h => (List.mem_append.mp h).elim (fun h => ib_33 w h) (fun h => (List.mem_append.mp h).elim (fun h => ib_34 w h) (fun h => (List.mem_append.mp h).elim (fun h => ib_35 w h) (fun h => (List.mem_append.mp h).elim (fun h => ib_36 w h) (fun h => (List.mem_append.mp h).elim (fun h => ib_37 w h) (fun h => (List.mem_append.mp h).elim (fun h => ib_38 w h) (fun h => (List.mem_append.mp h).elim (fun h => ib_39 w h) (fun h => (List.mem_append.mp h).elim (fun h => ib_40 w h) (fun h => (List.mem_append.mp h).elim (fun h => ib_41 w h) (fun h => (List.mem_append.mp h).elim (fun h => ib_42 w h) (fun h => (List.mem_append.mp h).elim (fun h => ib_43 w h) (fun h => (List.mem_append.mp h).elim (fun h => ib_44 w h) (fun h => (List.mem_append.mp h).elim (fun h => ib_45 w h) (fun h => (List.mem_append.mp h).elim (fun h => ib_46 w h) (fun h => (List.mem_append.mp h).elim (fun h => ib_47 w h) (fun h => ib_48 w h)))))))))))))))))))))))))))))))))))))))))))))))) (fun h => if_9 w h)) (fun h => if_10 w h)) (fun h => if_1 w h)) (fun h => if_4 w h)) (fun h => if_6 w h)) (fun h => if_5 w h)) (fun h => if_7 w h)) (fun h => if_2 w h)) (fun h => if_3 w h)) (fun h => if_0 w h)) (fun h => if_8 w h)) (fun h => by cases h)
def tyF : List FieldType := [.int, .byte, .boolean, .long, .object "ThreeAwake$Post", .object "ThreeAwake$Sheet"]
theorem arr_prim {args : Array Value} {s : State} {ty : FieldType} (h : (Cond.arrayClass ty).before args s = true) (hra : ∀ cA, va_RA s cA ty = (s.vm.findClass ("[" ++ ty.toString) = some cA)) : ∃ cA : ClassId, ArrOfT s cA ty ∧ va_RA s cA ty := by
  obtain ⟨cA, kA, comp, hfind, hk, hkind⟩ := Cond.arrayClass_spec h
  exact ⟨cA, fun n z => ⟨fun k h => (by cases h), kA, hk, comp, hkind⟩, by rw [hra]; exact hfind⟩
theorem arr_obj {args : Array Value} {s : State} {C : String} (h : (Cond.arrayOver (.object C)).before args s = true) : ∃ cA : ClassId, ArrOfT s cA (.object C) ∧ va_RA s cA (.object C) := by
  obtain ⟨comp, c, k, h1, h2, h3, h4, h5⟩ := Cond.arrayOver_spec h
  exact ⟨c, fun n z => ⟨fun k h => (by cases h), k, h3, comp, h4⟩, k, comp, h3, h4, h1, h5⟩
set_option maxRecDepth 100000 in
set_option maxHeartbeats 8000000 in
theorem start_K {args : Array Value} {s : State} (hts : ∀ w ∈ lw_tbl, w.before args s = true) : ∃ (D : va_G) (cy : Nat → ClassId), va_K D vwCl (tysOf cy) s := by
  have hts' : ∀ w ∈ wsL_law, w.before args s = true := fun w h => hts w (wsL_in w h)
  have hc : ∀ c : Nat, ∃ x : ClassId × (Nat → Nat), ∀ q, vwCl[c]? = some q → u_Kn s q.1 q.2.1 q.2.2 x.1 x.2 := by
    intro c
    match c with
    | 0 =>
      obtain ⟨a, b, h⟩ := u_known hts' inlX0 (show (Cond.instantiable RX0 2).before args s = true from (hts _ (List.mem_of_getElem? (i := 342) (by decide +kernel))))
      exact ⟨(a, b), fun q hq => by
        obtain rfl := Option.some.inj (show some (RX0, TX0, 2) = some q from hq)
        exact h⟩
    | 1 =>
      obtain ⟨a, b, h⟩ := u_known hts' inlX1 (show (Cond.instantiable RX1 4).before args s = true from (hts _ (List.mem_of_getElem? (i := 105) (by decide +kernel))))
      exact ⟨(a, b), fun q hq => by
        obtain rfl := Option.some.inj (show some (RX1, TX1, 4) = some q from hq)
        exact h⟩
    | 2 =>
      obtain ⟨a, b, h⟩ := u_known hts' inlX2 (show (Cond.instantiable RX2 2).before args s = true from (hts _ (List.mem_of_getElem? (i := 289) (by decide +kernel))))
      exact ⟨(a, b), fun q hq => by
        obtain rfl := Option.some.inj (show some (RX2, TX2, 2) = some q from hq)
        exact h⟩
    | 3 =>
      obtain ⟨a, b, h⟩ := u_known hts' inlX3 (show (Cond.instantiable RX3 9).before args s = true from (hts _ (List.mem_of_getElem? (i := 306) (by decide +kernel))))
      exact ⟨(a, b), fun q hq => by
        obtain rfl := Option.some.inj (show some (RX3, TX3, 9) = some q from hq)
        exact h⟩
    | 4 =>
      obtain ⟨a, b, h⟩ := u_known hts' inlX4 (show (Cond.instantiable RX4 7).before args s = true from (hts _ (List.mem_of_getElem? (i := 136) (by decide +kernel))))
      exact ⟨(a, b), fun q hq => by
        obtain rfl := Option.some.inj (show some (RX4, TX4, 7) = some q from hq)
        exact h⟩
    | 5 =>
      obtain ⟨a, b, h⟩ := u_known hts' inlX5 (show (Cond.instantiable RX5 15).before args s = true from (hts _ (List.mem_of_getElem? (i := 200) (by decide +kernel))))
      exact ⟨(a, b), fun q hq => by
        obtain rfl := Option.some.inj (show some (RX5, TX5, 15) = some q from hq)
        exact h⟩
    | 6 =>
      obtain ⟨a, b, h⟩ := u_known hts' inlX6 (show (Cond.instantiable RX6 3).before args s = true from (hts _ (List.mem_of_getElem? (i := 182) (by decide +kernel))))
      exact ⟨(a, b), fun q hq => by
        obtain rfl := Option.some.inj (show some (RX6, TX6, 3) = some q from hq)
        exact h⟩
    | 7 =>
      obtain ⟨a, b, h⟩ := u_known hts' inlX7 (show (Cond.instantiable RX7 4).before args s = true from (hts _ (List.mem_of_getElem? (i := 263) (by decide +kernel))))
      exact ⟨(a, b), fun q hq => by
        obtain rfl := Option.some.inj (show some (RX7, TX7, 4) = some q from hq)
        exact h⟩
    | 8 =>
      obtain ⟨a, b, h⟩ := u_known hts' inlX8 (show (Cond.instantiable RX8 2).before args s = true from (hts _ (List.mem_of_getElem? (i := 356) (by decide +kernel))))
      exact ⟨(a, b), fun q hq => by
        obtain rfl := Option.some.inj (show some (RX8, TX8, 2) = some q from hq)
        exact h⟩
    | 9 =>
      obtain ⟨a, b, h⟩ := u_known hts' inlX9 (show (Cond.instantiable RX9 13).before args s = true from (hts _ (List.mem_of_getElem? (i := 97) (by decide +kernel))))
      exact ⟨(a, b), fun q hq => by
        obtain rfl := Option.some.inj (show some (RX9, TX9, 13) = some q from hq)
        exact h⟩
    | 10 =>
      obtain ⟨a, b, h⟩ := u_known hts' inlX10 (show (Cond.instantiable RX10 40).before args s = true from (hts _ (List.mem_of_getElem? (i := 955) (by decide +kernel))))
      exact ⟨(a, b), fun q hq => by
        obtain rfl := Option.some.inj (show some (RX10, TX10, 40) = some q from hq)
        exact h⟩
    | n + 11 => exact ⟨(0, fun _ => 0), fun q hq => by simp [vwCl] at hq⟩
  obtain ⟨f, hf⟩ := Classical.axiomOfChoice hc
  have ha : ∀ t : Nat, ∃ cA : ClassId, ∀ ty, tyF[t]? = some ty → ArrOfT s cA ty ∧ va_RA s cA ty := by
    intro t
    match t with
    | 0 =>
      obtain ⟨cA, h1, h2⟩ := arr_prim (show (Cond.arrayClass .int).before args s = true from (hts _ (List.mem_of_getElem? (i := 134) (by decide +kernel)))) (fun _ => rfl)
      exact ⟨cA, fun ty hq => by
        obtain rfl := Option.some.inj (show some FieldType.int = some ty from hq)
        exact ⟨h1, h2⟩⟩
    | 1 =>
      obtain ⟨cA, h1, h2⟩ := arr_prim (show (Cond.arrayClass .byte).before args s = true from (hts _ (List.mem_of_getElem? (i := 261) (by decide +kernel)))) (fun _ => rfl)
      exact ⟨cA, fun ty hq => by
        obtain rfl := Option.some.inj (show some FieldType.byte = some ty from hq)
        exact ⟨h1, h2⟩⟩
    | 2 =>
      obtain ⟨cA, h1, h2⟩ := arr_prim (show (Cond.arrayClass .boolean).before args s = true from (hts _ (List.mem_of_getElem? (i := 1092) (by decide +kernel)))) (fun _ => rfl)
      exact ⟨cA, fun ty hq => by
        obtain rfl := Option.some.inj (show some FieldType.boolean = some ty from hq)
        exact ⟨h1, h2⟩⟩
    | 3 =>
      obtain ⟨cA, h1, h2⟩ := arr_prim (show (Cond.arrayClass .long).before args s = true from (hts _ (List.mem_of_getElem? (i := 340) (by decide +kernel)))) (fun _ => rfl)
      exact ⟨cA, fun ty hq => by
        obtain rfl := Option.some.inj (show some FieldType.long = some ty from hq)
        exact ⟨h1, h2⟩⟩
    | 4 =>
      obtain ⟨cA, h1, h2⟩ := arr_obj (show (Cond.arrayOver (.object "ThreeAwake$Post")).before args s = true from (hts _ (List.mem_of_getElem? (i := 179) (by decide +kernel))))
      exact ⟨cA, fun ty hq => by
        obtain rfl := Option.some.inj (show some (FieldType.object "ThreeAwake$Post") = some ty from hq)
        exact ⟨h1, h2⟩⟩
    | 5 =>
      obtain ⟨cA, h1, h2⟩ := arr_obj (show (Cond.arrayOver (.object "ThreeAwake$Sheet")).before args s = true from (hts _ (List.mem_of_getElem? (i := 181) (by decide +kernel))))
      exact ⟨cA, fun ty hq => by
        obtain rfl := Option.some.inj (show some (FieldType.object "ThreeAwake$Sheet") = some ty from hq)
        exact ⟨h1, h2⟩⟩
    | n + 6 => exact ⟨0, fun ty hq => by simp [tyF] at hq⟩
  obtain ⟨cy, hcy⟩ := Classical.axiomOfChoice ha
  refine ⟨(fun c => (f c).1, fun c => (f c).2), cy, fun c q hq => hf c q hq, fun k q hk => ?_⟩
  match k with
  | 0 =>
    obtain rfl := Option.some.inj (show some (cy 0, (.int : FieldType)) = some q from hk)
    exact hcy 0 (.int) rfl
  | 1 =>
    obtain rfl := Option.some.inj (show some (cy 1, (.byte : FieldType)) = some q from hk)
    exact hcy 1 (.byte) rfl
  | 2 =>
    obtain rfl := Option.some.inj (show some (cy 2, (.boolean : FieldType)) = some q from hk)
    exact hcy 2 (.boolean) rfl
  | 3 =>
    obtain rfl := Option.some.inj (show some (cy 3, (.long : FieldType)) = some q from hk)
    exact hcy 3 (.long) rfl
  | 4 =>
    obtain rfl := Option.some.inj (show some (cy 4, (.object "ThreeAwake$Post" : FieldType)) = some q from hk)
    exact hcy 4 (.object "ThreeAwake$Post") rfl
  | 5 =>
    obtain rfl := Option.some.inj (show some (cy 5, (.object "ThreeAwake$Sheet" : FieldType)) = some q from hk)
    exact hcy 5 (.object "ThreeAwake$Sheet") rfl
  | n + 6 => simp [tysOf] at hk
set_option maxRecDepth 100000 in
set_option maxHeartbeats 8000000 in
theorem start_NI {args : Array Value} {s : State} (hts : ∀ w ∈ lw_tbl, w.before args s = true) : NI s := by
  refine ⟨fun q hq => ?_, fun q hq => ?_, ?_, ?_⟩
  · rcases List.mem_cons.mp hq with rfl | hq
    · exact va_Nw.of (A := args) rfl (show (Cond.methodLinkNest RX9 9 yX1_init "ThreeAwake").before args s = true from (hts _ (List.mem_of_getElem? (i := 106) (by decide +kernel))))
    rcases List.mem_cons.mp hq with rfl | hq
    · exact va_Nw.of (A := args) rfl (show (Cond.methodLinkNest RX9 18 yX4_init "ThreeAwake").before args s = true from (hts _ (List.mem_of_getElem? (i := 137) (by decide +kernel))))
    rcases List.mem_cons.mp hq with rfl | hq
    · exact va_Nw.of (A := args) rfl (show (Cond.methodLinkNest RX9 29 yX6_init "ThreeAwake").before args s = true from (hts _ (List.mem_of_getElem? (i := 183) (by decide +kernel))))
    rcases List.mem_cons.mp hq with rfl | hq
    · exact va_Nw.of (A := args) rfl (show (Cond.methodLinkNest RX9 36 yX5_init "ThreeAwake").before args s = true from (hts _ (List.mem_of_getElem? (i := 201) (by decide +kernel))))
    rcases List.mem_cons.mp hq with rfl | hq
    · exact va_Nw.of (A := args) rfl (show (Cond.methodLinkNest RX9 43 yX7_init "ThreeAwake").before args s = true from (hts _ (List.mem_of_getElem? (i := 264) (by decide +kernel))))
    rcases List.mem_cons.mp hq with rfl | hq
    · exact va_Nw.of (A := args) rfl (show (Cond.methodLinkNest RX9 50 yX2_init "ThreeAwake").before args s = true from (hts _ (List.mem_of_getElem? (i := 290) (by decide +kernel))))
    rcases List.mem_cons.mp hq with rfl | hq
    · exact va_Nw.of (A := args) rfl (show (Cond.methodLinkNest RX9 57 yX3_init "ThreeAwake").before args s = true from (hts _ (List.mem_of_getElem? (i := 307) (by decide +kernel))))
    rcases List.mem_cons.mp hq with rfl | hq
    · exact va_Nw.of (A := args) rfl (show (Cond.methodLinkNest RX9 64 yX0_init "ThreeAwake").before args s = true from (hts _ (List.mem_of_getElem? (i := 343) (by decide +kernel))))
    rcases List.mem_cons.mp hq with rfl | hq
    · exact va_Nw.of (A := args) rfl (show (Cond.methodLinkNest RX9 71 yX8_init "ThreeAwake").before args s = true from (hts _ (List.mem_of_getElem? (i := 357) (by decide +kernel))))
    cases hq
  · rcases List.mem_cons.mp hq with rfl | hq
    · exact va_Nw.of (A := args) rfl (show (Cond.methodLinkNest RX5 30 yX1_init "ThreeAwake").before args s = true from (hts _ (List.mem_of_getElem? (i := 206) (by decide +kernel))))
    rcases List.mem_cons.mp hq with rfl | hq
    · exact va_Nw.of (A := args) rfl (show (Cond.methodLinkNest RX5 37 yX4_init "ThreeAwake").before args s = true from (hts _ (List.mem_of_getElem? (i := 208) (by decide +kernel))))
    cases hq
  · exact va_AO.of (A := args) (show (Cond.arrayOver (.object "ThreeAwake$Post")).before args s = true from (hts _ (List.mem_of_getElem? (i := 179) (by decide +kernel))))
  · exact va_AO.of (A := args) (show (Cond.arrayOver (.object "ThreeAwake$Sheet")).before args s = true from (hts _ (List.mem_of_getElem? (i := 181) (by decide +kernel))))
theorem fl_narrow {args : Array Value} {s : State} (hgv : (Jvm.Cond.and given_1 narrow_1).before args s = true) : ∀ c ∈ flatC (Jvm.Cond.and given_1 narrow_1), c.before args s = true := flat_of_before _ hgv
theorem nr_pow : ∀ j, j < 4 → Cond.eq (.elem (.static "ThreeAwake" "POWER" "[I") (.int (Int32.ofNat j))) (.int (powF j)) ∈ flatC (Jvm.Cond.and given_1 narrow_1) := by decide +kernel
theorem nr_shu : ∀ j, j < 27 → Cond.eq (.elem (.static "ThreeAwake" "SHUT" "[I") (.int (Int32.ofNat j))) (.int (shuF j)) ∈ flatC (Jvm.Cond.and given_1 narrow_1) := by decide +kernel
def tmS (i : Nat) : Term := .string RX5 (strK.getD i 0)
theorem nr_s1 : ∀ i, i < 10 → Cond.exactly (tmS i) "java/lang/String" ∈ flatC (Jvm.Cond.and given_1 narrow_1) := by decide +kernel
theorem nr_s2 : ∀ i, i < 10 → Cond.eq (.field (tmS i) "java/lang/String" "coder" "B") (.int 0) ∈ flatC (Jvm.Cond.and given_1 narrow_1) := by decide +kernel
theorem nr_s3 : ∀ i, i < 10 → Cond.arrayOf (.field (tmS i) "java/lang/String" "value" "[B") .byte ∈ flatC (Jvm.Cond.and given_1 narrow_1) := by decide +kernel
theorem nr_s4 : ∀ i, i < 10 → Cond.eq (.length (.field (tmS i) "java/lang/String" "value" "[B")) (.int (Int32.ofNat (strL.getD i 0))) ∈ flatC (Jvm.Cond.and given_1 narrow_1) := by decide +kernel
theorem nr_s5 : ∀ i, i < 10 → ∀ j, j < strL.getD i 0 → Cond.eq (.elem (.field (tmS i) "java/lang/String" "value" "[B") (.int (Int32.ofNat j))) (.int ((strY.getD i []).getD j 0)) ∈ flatC (Jvm.Cond.and given_1 narrow_1) := by decide +kernel
theorem nr_s6 : ∀ i, i < 10 → ∀ j, j < 10 → i ≠ j → (Cond.not (Cond.eq (tmS i) (tmS j)) ∈ flatC (Jvm.Cond.and given_1 narrow_1) ∨ Cond.not (Cond.eq (tmS j) (tmS i)) ∈ flatC (Jvm.Cond.and given_1 narrow_1)) := by decide +kernel
theorem nr_sr : ∀ i, i < 10 → Cond.stringRef RX5 (strK.getD i 0) (strT.getD i "") ∈ lw_tbl := by decide +kernel
set_option maxRecDepth 100000 in
set_option maxHeartbeats 8000000 in
theorem start_ST {b : Nat} {args : Array Value} {s : State} (hts : ∀ w ∈ lw_tbl, w.before args s = true) (hgv : (Jvm.Cond.and given_1 narrow_1).before args s = true) : ∃ ad0 : Nat → Nat, ad0 103 = b ∧ ST ad0 (fun q => s.heap.size ≤ q) s s.heap := by
  have hA : ∀ a : Nat, a < s.heap.size → ¬ (fun q => s.heap.size ≤ q) a := fun a h => Nat.not_le.mpr h
  have hs := fl_narrow hgv
  have i9 : (Cond.initialized "ThreeAwake").before args s = true := (hts _ (List.mem_of_getElem? (i := 77) (by decide +kernel)))
  have iS : (Cond.initialized "java/lang/String").before args s = true := (hts _ (List.mem_of_getElem? (i := 89) (by decide +kernel)))
  have iP : (Cond.initialized "jdk/internal/util/Preconditions").before args s = true := (hts _ (List.mem_of_getElem? (i := 91) (by decide +kernel)))
  obtain ⟨t1, e1, hT1⟩ := va_Tof (tm := .static "ThreeAwake" "POWER" "[I") (ty := .int) (N := 4) (f := fun j => .int (powF j)) (A := fun q => s.heap.size ≤ q) (by decide) (hs _ (by decide +kernel)) (va_eqt (hs (Cond.eq (.length (.static "ThreeAwake" "POWER" "[I")) (.int (Int32.ofNat 4))) (by decide +kernel))) (fun j hj => va_eqt (hs _ (nr_pow j hj))) hA
  obtain ⟨t2, e2, hT2⟩ := va_Tof (tm := .static "ThreeAwake" "SHUT" "[I") (ty := .int) (N := 27) (f := fun j => .int (shuF j)) (A := fun q => s.heap.size ≤ q) (by decide) (hs _ (by decide +kernel)) (va_eqt (hs (Cond.eq (.length (.static "ThreeAwake" "SHUT" "[I")) (.int (Int32.ofNat 27))) (by decide +kernel))) (fun j hj => va_eqt (hs _ (nr_shu j hj))) hA
  have hZ1 : va_Z "ThreeAwake" "POWER" "[I" (.ref t1) (fun q => s.heap.size ≤ q) s s.heap := va_Zref (show (Cond.laysStatic "ThreeAwake" "POWER" "[I").before args s = true from (hts _ (List.mem_of_getElem? (i := 480) (by decide +kernel)))) i9 e1 hA
  have hZ2 : va_Z "ThreeAwake" "SHUT" "[I" (.ref t2) (fun q => s.heap.size ≤ q) s s.heap := va_Zref (show (Cond.laysStatic "ThreeAwake" "SHUT" "[I").before args s = true from (hts _ (List.mem_of_getElem? (i := 691) (by decide +kernel)))) i9 e2 hA
  obtain ⟨adK, adV, hS1, hS2⟩ := vk_Sof (args := args) (s := s) (N := 10) (tm := tmS) (len := strL) (byt := strY) (A := fun q => s.heap.size ≤ q) (by decide) (fun i hi => hs _ (nr_s1 i hi)) (fun i hi => hs _ (nr_s2 i hi)) (fun i hi => hs _ (nr_s3 i hi)) (fun i hi => hs _ (nr_s4 i hi)) (fun i hi j hj => hs _ (nr_s5 i hi j hj)) (fun i j hi hj h => (nr_s6 i hi j hj h).elim (fun h => Or.inl (hs _ h)) (fun h => Or.inr (hs _ h))) hA
  have hR : ∀ i, i < 10 → vk_R RX5 (strK.getD i 0) (strT.getD i "") (adK i) s := fun i hi => vk_R.of (hts _ (nr_sr i hi)) (hS2 i hi)
  have hC : va_Z "java/lang/String" "COMPACT_STRINGS" "Z" (.int 1) (fun q => s.heap.size ≤ q) s s.heap := va_Zof (show (Cond.laysStatic "java/lang/String" "COMPACT_STRINGS" "Z").before args s = true from (hts _ (List.mem_of_getElem? (i := 499) (by decide +kernel)))) iS (va_eqi (hs _ (by decide +kernel))) hA
  have hF := va_Zqof (A := fun q => s.heap.size ≤ q) (show (Cond.laysStatic "jdk/internal/util/Preconditions" "SIOOBE_FORMATTER" "Ljava/util/function/BiFunction;").before args s = true from (hts _ (List.mem_of_getElem? (i := 515) (by decide +kernel)))) iP (hs _ (by decide +kernel)) hA
  obtain ⟨t3, hF⟩ : ∃ t3 : Nat, va_Z "jdk/internal/util/Preconditions" "SIOOBE_FORMATTER" "Ljava/util/function/BiFunction;" .null (fun q => s.heap.size ≤ q) s s.heap ∨ va_Z "jdk/internal/util/Preconditions" "SIOOBE_FORMATTER" "Ljava/util/function/BiFunction;" (.ref t3) (fun q => s.heap.size ≤ q) s s.heap := by
    rcases hF with h | ⟨t, h⟩
    · exact ⟨0, Or.inl h⟩
    · exact ⟨t, Or.inr h⟩
  refine ⟨fun q => if q = 80 then t1 else if q = 81 then t2 else if q < 92 then adK (q - 82) else if q < 102 then adV (q - 92) else if q = 102 then t3 else b, rfl, hZ1, hT1, hZ2, hT2, ?_, ?_, hC, hF, va_Nw.of (A := args) rfl (show (Cond.fieldLinkNest RX0 19 "ThreeAwake" "SHUT" "[I" "ThreeAwake").before args s = true from (hts _ (List.mem_of_getElem? (i := 774) (by decide +kernel)))), va_Nw.of (A := args) rfl (show (Cond.fieldLinkNest RX1 41 "ThreeAwake" "POWER" "[I" "ThreeAwake").before args s = true from (hts _ (List.mem_of_getElem? (i := 479) (by decide +kernel)))), va_Nw.of (A := args) rfl (show (Cond.fieldLinkNest RX3 56 "ThreeAwake" "SHUT" "[I" "ThreeAwake").before args s = true from (hts _ (List.mem_of_getElem? (i := 792) (by decide +kernel)))), va_Nw.of (A := args) rfl (show (Cond.fieldLinkNest RX7 37 "ThreeAwake" "SHUT" "[I" "ThreeAwake").before args s = true from (hts _ (List.mem_of_getElem? (i := 690) (by decide +kernel))))⟩
  · have e8 : ∀ i, i < 10 → (if 82 + i = 80 then t1 else if 82 + i = 81 then t2 else if 82 + i < 92 then adK (82 + i - 82) else if 82 + i < 102 then adV (82 + i - 92) else if 82 + i = 102 then t3 else b) = adK i := fun i hi => by
      rw [if_neg (by omega), if_neg (by omega), if_pos (by omega), Nat.add_sub_cancel_left]
    have e9 : ∀ i, i < 10 → (if 92 + i = 80 then t1 else if 92 + i = 81 then t2 else if 92 + i < 92 then adK (92 + i - 82) else if 92 + i < 102 then adV (92 + i - 92) else if 92 + i = 102 then t3 else b) = adV i := fun i hi => by
      rw [if_neg (by omega), if_neg (by omega), if_neg (by omega), if_pos (by omega), Nat.add_sub_cancel_left]
    refine ⟨fun i hi => ?_, fun i j hi hj h => ?_⟩
    · have h := hS1.1 i hi
      dsimp only
      rw [e8 i hi, e9 i hi]
      exact h
    · dsimp only at h
      rw [e8 i hi, e8 j hj] at h
      exact hS1.2 i j hi hj h
  · intro i hi
    have h := hR i hi
    have e8 : (if 82 + i = 80 then t1 else if 82 + i = 81 then t2 else if 82 + i < 92 then adK (82 + i - 82) else if 82 + i < 102 then adV (82 + i - 92) else if 82 + i = 102 then t3 else b) = adK i := by
      rw [if_neg (by omega), if_neg (by omega), if_pos (by omega), Nat.add_sub_cancel_left]
    dsimp only
    rw [e8]
    exact h
