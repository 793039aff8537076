theorem WB.L {p : Program} {l : Launch} {e : Env} {R : Room} {s : State} {m : MethodId} {args : Array Value} {below : List Frame} {meth : Method} {c : Code} {nL : Nat} {D : va_G} {cy : Nat → ClassId} {A : Nat → Prop} {K : Nat → Bool} {ad0 : Nat → Nat} {kc ks : Nat} {Z : State → Prop} {L L' : List (Nat × ACell)} {ls : List (Nat × Value)} {pc : Nat} {st : List Value} (h : L = L') (k : WB p l e R s m args below meth c nL D cy A K ad0 kc ks Z L' ls pc st) : WB p l e R s m args below meth c nL D cy A K ad0 kc ks Z L ls pc st := h ▸ k
theorem qw_8 : Cond.instanceMethod yX9_init ∈ wsL_law := bk_1 _ (List.mem_of_getElem? (i := 8) rfl)
theorem qw_9 : Cond.code yX9_init cX9_init 1 none ∈ wsL_law := bk_1 _ (List.mem_of_getElem? (i := 9) rfl)
theorem qw_10 : Cond.methodLink RX9 1 objectInit ∈ wsL_law := bk_1 _ (List.mem_of_getElem? (i := 10) rfl)
theorem qw_11 : Cond.instanceMethod objectInit ∈ wsL_law := bk_1 _ (List.mem_of_getElem? (i := 11) rfl)
theorem qw_12 : Cond.code objectInit ⟨#[0xb1]⟩ 1 none ∈ wsL_law := bk_1 _ (List.mem_of_getElem? (i := 12) rfl)
theorem qw_13 : Cond.classLink RX9 7 RX1 ∈ wsL_law := bk_1 _ (List.mem_of_getElem? (i := 13) rfl)
theorem qw_14 : Cond.instantiable RX1 4 ∈ wsL_law := bk_1 _ (List.mem_of_getElem? (i := 14) rfl)
theorem qw_17 : Cond.classLink RX9 16 RX4 ∈ wsL_law := bk_1 _ (List.mem_of_getElem? (i := 17) rfl)
theorem qw_18 : Cond.instantiable RX4 7 ∈ wsL_law := bk_1 _ (List.mem_of_getElem? (i := 18) rfl)
theorem qw_22 : Cond.classLink RX9 27 RX6 ∈ wsL_law := bk_1 _ (List.mem_of_getElem? (i := 22) rfl)
theorem qw_23 : Cond.instantiable RX6 3 ∈ wsL_law := bk_1 _ (List.mem_of_getElem? (i := 23) rfl)
theorem qw_26 : Cond.classLink RX9 34 RX5 ∈ wsL_law := bk_2 _ (List.mem_of_getElem? (i := 2) rfl)
theorem qw_27 : Cond.instantiable RX5 15 ∈ wsL_law := bk_2 _ (List.mem_of_getElem? (i := 3) rfl)
theorem qw_30 : Cond.classLink RX9 41 RX7 ∈ wsL_law := bk_2 _ (List.mem_of_getElem? (i := 6) rfl)
theorem qw_31 : Cond.instantiable RX7 4 ∈ wsL_law := bk_2 _ (List.mem_of_getElem? (i := 7) rfl)
theorem qw_34 : Cond.classLink RX9 48 RX2 ∈ wsL_law := bk_2 _ (List.mem_of_getElem? (i := 10) rfl)
theorem qw_35 : Cond.instantiable RX2 2 ∈ wsL_law := bk_2 _ (List.mem_of_getElem? (i := 11) rfl)
theorem qw_38 : Cond.classLink RX9 55 RX3 ∈ wsL_law := bk_2 _ (List.mem_of_getElem? (i := 14) rfl)
theorem qw_39 : Cond.instantiable RX3 9 ∈ wsL_law := bk_2 _ (List.mem_of_getElem? (i := 15) rfl)
theorem qw_42 : Cond.classLink RX9 62 RX0 ∈ wsL_law := bk_2 _ (List.mem_of_getElem? (i := 18) rfl)
theorem qw_43 : Cond.instantiable RX0 2 ∈ wsL_law := bk_2 _ (List.mem_of_getElem? (i := 19) rfl)
theorem qw_46 : Cond.classLink RX9 69 RX8 ∈ wsL_law := bk_2 _ (List.mem_of_getElem? (i := 22) rfl)
theorem qw_47 : Cond.instantiable RX8 2 ∈ wsL_law := bk_2 _ (List.mem_of_getElem? (i := 23) rfl)
theorem qw_50 : Cond.arrayClass .int ∈ wsL_law := bk_3 _ (List.mem_of_getElem? (i := 2) rfl)
theorem qw_52 : Cond.instanceMethod yX1_init ∈ wsL_law := bk_3 _ (List.mem_of_getElem? (i := 4) rfl)
theorem qw_53 : Cond.code yX1_init cX1_init 1 none ∈ wsL_law := bk_3 _ (List.mem_of_getElem? (i := 5) rfl)
theorem qw_54 : Cond.methodLink RX1 3 objectInit ∈ wsL_law := bk_3 _ (List.mem_of_getElem? (i := 6) rfl)
theorem qw_59 : Cond.instanceMethod yX4_init ∈ wsL_law := bk_3 _ (List.mem_of_getElem? (i := 11) rfl)
theorem qw_60 : Cond.code yX4_init cX4_init 1 none ∈ wsL_law := bk_3 _ (List.mem_of_getElem? (i := 12) rfl)
theorem qw_61 : Cond.methodLink RX4 3 objectInit ∈ wsL_law := bk_3 _ (List.mem_of_getElem? (i := 13) rfl)
theorem qw_69 : Cond.instanceMethod yX6_init ∈ wsL_law := bk_3 _ (List.mem_of_getElem? (i := 21) rfl)
theorem qw_70 : Cond.code yX6_init cX6_init 1 none ∈ wsL_law := bk_3 _ (List.mem_of_getElem? (i := 22) rfl)
theorem qw_71 : Cond.methodLink RX6 3 objectInit ∈ wsL_law := bk_3 _ (List.mem_of_getElem? (i := 23) rfl)
theorem qw_75 : Cond.instanceMethod yX5_init ∈ wsL_law := bk_4 _ (List.mem_of_getElem? (i := 3) rfl)
theorem qw_76 : Cond.code yX5_init cX5_init 1 none ∈ wsL_law := bk_4 _ (List.mem_of_getElem? (i := 4) rfl)
theorem qw_77 : Cond.methodLink RX5 3 objectInit ∈ wsL_law := bk_4 _ (List.mem_of_getElem? (i := 5) rfl)
theorem qw_78 : Cond.arrayClass .byte ∈ wsL_law := bk_4 _ (List.mem_of_getElem? (i := 6) rfl)
theorem qw_84 : Cond.classLink RX5 28 RX1 ∈ wsL_law := bk_4 _ (List.mem_of_getElem? (i := 12) rfl)
theorem qw_86 : Cond.classLink RX5 35 RX4 ∈ wsL_law := bk_4 _ (List.mem_of_getElem? (i := 14) rfl)
theorem qw_96 : Cond.instanceMethod yX7_init ∈ wsL_law := bk_5 _ (List.mem_of_getElem? (i := 0) rfl)
theorem qw_97 : Cond.code yX7_init cX7_init 1 none ∈ wsL_law := bk_5 _ (List.mem_of_getElem? (i := 1) rfl)
theorem qw_98 : Cond.methodLink RX7 3 objectInit ∈ wsL_law := bk_5 _ (List.mem_of_getElem? (i := 2) rfl)
theorem qw_103 : Cond.instanceMethod yX2_init ∈ wsL_law := bk_5 _ (List.mem_of_getElem? (i := 7) rfl)
theorem qw_104 : Cond.code yX2_init cX2_init 1 none ∈ wsL_law := bk_5 _ (List.mem_of_getElem? (i := 8) rfl)
theorem qw_105 : Cond.methodLink RX2 3 objectInit ∈ wsL_law := bk_5 _ (List.mem_of_getElem? (i := 9) rfl)
theorem qw_108 : Cond.instanceMethod yX3_init ∈ wsL_law := bk_5 _ (List.mem_of_getElem? (i := 12) rfl)
theorem qw_109 : Cond.code yX3_init cX3_init 1 none ∈ wsL_law := bk_5 _ (List.mem_of_getElem? (i := 13) rfl)
theorem qw_110 : Cond.methodLink RX3 3 objectInit ∈ wsL_law := bk_5 _ (List.mem_of_getElem? (i := 14) rfl)
theorem qw_119 : Cond.arrayClass .long ∈ wsL_law := bk_5 _ (List.mem_of_getElem? (i := 23) rfl)
theorem qw_121 : Cond.instanceMethod yX0_init ∈ wsL_law := bk_6 _ (List.mem_of_getElem? (i := 1) rfl)
theorem qw_122 : Cond.code yX0_init cX0_init 1 none ∈ wsL_law := bk_6 _ (List.mem_of_getElem? (i := 2) rfl)
theorem qw_123 : Cond.methodLink RX0 3 objectInit ∈ wsL_law := bk_6 _ (List.mem_of_getElem? (i := 3) rfl)
theorem qw_126 : Cond.instanceMethod yX8_init ∈ wsL_law := bk_6 _ (List.mem_of_getElem? (i := 6) rfl)
theorem qw_127 : Cond.code yX8_init cX8_init 1 none ∈ wsL_law := bk_6 _ (List.mem_of_getElem? (i := 7) rfl)
theorem qw_128 : Cond.methodLink RX8 3 objectInit ∈ wsL_law := bk_6 _ (List.mem_of_getElem? (i := 8) rfl)
theorem qw_132 : Cond.instanceMethod yX10_init ∈ wsL_law := bk_6 _ (List.mem_of_getElem? (i := 12) rfl)
theorem qw_133 : Cond.code yX10_init cX10_init 2 none ∈ wsL_law := bk_6 _ (List.mem_of_getElem? (i := 13) rfl)
theorem mc_X0 : MC yX0_init cX0_init 1 := ⟨qw_122, qw_44, qw_121, rfl, by decide +kernel⟩
theorem mc_X1 : MC yX1_init cX1_init 1 := ⟨qw_53, qw_15, qw_52, rfl, by decide +kernel⟩
theorem mc_X10 : MC yX10_init cX10_init 2 := ⟨qw_133, qw_5, qw_132, rfl, by decide +kernel⟩
theorem mc_X2 : MC yX2_init cX2_init 1 := ⟨qw_104, qw_36, qw_103, rfl, by decide +kernel⟩
theorem mc_X3 : MC yX3_init cX3_init 1 := ⟨qw_109, qw_40, qw_108, rfl, by decide +kernel⟩
theorem mc_X4 : MC yX4_init cX4_init 1 := ⟨qw_60, qw_19, qw_59, rfl, by decide +kernel⟩
theorem mc_X5 : MC yX5_init cX5_init 1 := ⟨qw_76, qw_28, qw_75, rfl, by decide +kernel⟩
theorem mc_X6 : MC yX6_init cX6_init 1 := ⟨qw_70, qw_24, qw_69, rfl, by decide +kernel⟩
theorem mc_X7 : MC yX7_init cX7_init 1 := ⟨qw_97, qw_32, qw_96, rfl, by decide +kernel⟩
theorem mc_X8 : MC yX8_init cX8_init 1 := ⟨qw_127, qw_48, qw_126, rfl, by decide +kernel⟩
theorem mc_X9 : MC yX9_init cX9_init 1 := ⟨qw_9, qw_2, qw_8, rfl, by decide +kernel⟩
set_option maxRecDepth 100000 in
set_option maxHeartbeats 4000000 in
theorem hc_X1_1 : HC 0 2 9 yX1_init cX1_init 1 1 (.inr (1, [.int 0, .int 0, .null, .null])) [(1, .inr (1, [.int 0, .int 4, .ref 2, .ref 3])), (2, .inl (0, 3, [])), (3, .inl (0, 6, []))] := by
  refine HC.of (by decide +kernel) (by decide) (fun C hin2 hr hlk => ?_)
  refine cb_aload_n C dX1_init_0 rfl ?_
  refine cb_objInit C qw_54 qw_11 qw_12 ⟨Nat.le_of_ble_eq_true rfl, Nat.le_of_ble_eq_true rfl⟩ dX1_init_1 ?_
  refine cb_aload_n C dX1_init_4 rfl ?_
  refine cb_iconst (v := 0) C dX1_init_5 (by decide) ?_
  refine cb_put (k0 := 0) (k := 0) (ty := tyX1 0) C rfl inlX1 tyX1_ok nmX1 rfl (by decide) qw_55 rfl (tyX1_ok 0 (by decide)) rfl rfl rfl (by decide) dX1_init_6 ?_
  refine WB.L (L' := [(1, .inr (1, [.int 0, .int 0, .null, .null]))]) rfl ?_
  refine cb_aload_n C dX1_init_9 rfl ?_
  refine cb_iconst (v := 4) C dX1_init_10 (by decide) ?_
  refine cb_put (k0 := 0) (k := 1) (ty := tyX1 1) C rfl inlX1 tyX1_ok nmX1 rfl (by decide) qw_56 rfl (tyX1_ok 1 (by decide)) rfl rfl rfl (by decide) dX1_init_11 ?_
  refine WB.L (L' := [(1, .inr (1, [.int 0, .int 4, .null, .null]))]) rfl ?_
  refine cb_aload_n C dX1_init_14 rfl ?_
  refine cb_iconst (v := 3) C dX1_init_15 (by decide) ?_
  refine cb_newa (q := 2) (t := 0) (N := 3) (atype := .int) (ty := .int) C rfl rfl (by decide) qw_50 rfl (fun _ _ => rfl) (fun _ _ => rfl) (fun _ _ => rfl) (by decide) (by decide) (Nat.le_of_ble_eq_true rfl) (Nat.le_of_ble_eq_true rfl) (Nat.le_of_ble_eq_true rfl) dX1_init_16 ?_
  refine WB.L (L' := [(1, .inr (1, [.int 0, .int 4, .null, .null])), (2, .inl (0, 3, []))]) rfl ?_
  refine cb_putF (k0 := 0) (k := 2) (ty := tyX1 2) C hin2 rfl inlX1 tyX1_ok nmX1 rfl (by decide) qw_57 rfl rfl (tyX1_ok 2 (by decide)) ⟨rfl, fun _ => ⟨rfl, rfl⟩⟩ (by decide) dX1_init_18 ?_
  refine WB.L (L' := [(1, .inr (1, [.int 0, .int 4, .ref 2, .null])), (2, .inl (0, 3, []))]) rfl ?_
  refine cb_aload_n C dX1_init_21 rfl ?_
  refine cb_bipush (v := 6) C dX1_init_22 (by decide) ?_
  refine cb_newa (q := 3) (t := 0) (N := 6) (atype := .int) (ty := .int) C rfl rfl (by decide) qw_50 rfl (fun _ _ => rfl) (fun _ _ => rfl) (fun _ _ => rfl) (by decide) (by decide) (Nat.le_of_ble_eq_true rfl) (Nat.le_of_ble_eq_true rfl) (Nat.le_of_ble_eq_true rfl) dX1_init_24 ?_
  refine WB.L (L' := [(1, .inr (1, [.int 0, .int 4, .ref 2, .null])), (2, .inl (0, 3, [])), (3, .inl (0, 6, []))]) rfl ?_
  refine cb_putF (k0 := 0) (k := 3) (ty := tyX1 3) C hin2 rfl inlX1 tyX1_ok nmX1 rfl (by decide) qw_58 rfl rfl (tyX1_ok 3 (by decide)) ⟨rfl, fun _ => ⟨rfl, rfl⟩⟩ (by decide) dX1_init_26 ?_
  refine WB.L (L' := [(1, .inr (1, [.int 0, .int 4, .ref 2, .ref 3])), (2, .inl (0, 3, [])), (3, .inl (0, 6, []))]) rfl ?_
  exact cb_vret C hr hlk dX1_init_29
set_option maxRecDepth 100000 in
set_option maxHeartbeats 4000000 in
theorem hc_X4_4 : HC 0 6 33 yX4_init cX4_init 1 4 (.inr (4, [.null, .null, .null, .null, .null, .null, .int 0])) [(4, .inr (4, [.ref 5, .ref 6, .ref 7, .ref 8, .ref 9, .ref 10, .int 0])), (5, .inl (0, 3, [])), (6, .inl (0, 6, [])), (7, .inl (0, 4, [])), (8, .inl (0, 6, [])), (9, .inl (0, 6, [])), (10, .inl (0, 8, []))] := by
  refine HC.of (by decide +kernel) (by decide) (fun C hin2 hr hlk => ?_)
  refine cb_aload_n C dX4_init_0 rfl ?_
  refine cb_objInit C qw_61 qw_11 qw_12 ⟨Nat.le_of_ble_eq_true rfl, Nat.le_of_ble_eq_true rfl⟩ dX4_init_1 ?_
  refine cb_aload_n C dX4_init_4 rfl ?_
  refine cb_iconst (v := 3) C dX4_init_5 (by decide) ?_
  refine cb_newa (q := 5) (t := 0) (N := 3) (atype := .int) (ty := .int) C rfl rfl (by decide) qw_50 rfl (fun _ _ => rfl) (fun _ _ => rfl) (fun _ _ => rfl) (by decide) (by decide) (Nat.le_of_ble_eq_true rfl) (Nat.le_of_ble_eq_true rfl) (Nat.le_of_ble_eq_true rfl) dX4_init_6 ?_
  refine WB.L (L' := [(4, .inr (4, [.null, .null, .null, .null, .null, .null, .int 0])), (5, .inl (0, 3, []))]) rfl ?_
  refine cb_putF (k0 := 0) (k := 0) (ty := tyX4 0) C hin2 rfl inlX4 tyX4_ok nmX4 rfl (by decide) qw_62 rfl rfl (tyX4_ok 0 (by decide)) ⟨rfl, fun _ => ⟨rfl, rfl⟩⟩ (by decide) dX4_init_8 ?_
  refine WB.L (L' := [(4, .inr (4, [.ref 5, .null, .null, .null, .null, .null, .int 0])), (5, .inl (0, 3, []))]) rfl ?_
  refine cb_aload_n C dX4_init_11 rfl ?_
  refine cb_bipush (v := 6) C dX4_init_12 (by decide) ?_
  refine cb_newa (q := 6) (t := 0) (N := 6) (atype := .int) (ty := .int) C rfl rfl (by decide) qw_50 rfl (fun _ _ => rfl) (fun _ _ => rfl) (fun _ _ => rfl) (by decide) (by decide) (Nat.le_of_ble_eq_true rfl) (Nat.le_of_ble_eq_true rfl) (Nat.le_of_ble_eq_true rfl) dX4_init_14 ?_
  refine WB.L (L' := [(4, .inr (4, [.ref 5, .null, .null, .null, .null, .null, .int 0])), (5, .inl (0, 3, [])), (6, .inl (0, 6, []))]) rfl ?_
  refine cb_putF (k0 := 0) (k := 1) (ty := tyX4 1) C hin2 rfl inlX4 tyX4_ok nmX4 rfl (by decide) qw_63 rfl rfl (tyX4_ok 1 (by decide)) ⟨rfl, fun _ => ⟨rfl, rfl⟩⟩ (by decide) dX4_init_16 ?_
  refine WB.L (L' := [(4, .inr (4, [.ref 5, .ref 6, .null, .null, .null, .null, .int 0])), (5, .inl (0, 3, [])), (6, .inl (0, 6, []))]) rfl ?_
  refine cb_aload_n C dX4_init_19 rfl ?_
  refine cb_iconst (v := 4) C dX4_init_20 (by decide) ?_
  refine cb_newa (q := 7) (t := 0) (N := 4) (atype := .int) (ty := .int) C rfl rfl (by decide) qw_50 rfl (fun _ _ => rfl) (fun _ _ => rfl) (fun _ _ => rfl) (by decide) (by decide) (Nat.le_of_ble_eq_true rfl) (Nat.le_of_ble_eq_true rfl) (Nat.le_of_ble_eq_true rfl) dX4_init_21 ?_
  refine WB.L (L' := [(4, .inr (4, [.ref 5, .ref 6, .null, .null, .null, .null, .int 0])), (5, .inl (0, 3, [])), (6, .inl (0, 6, [])), (7, .inl (0, 4, []))]) rfl ?_
  refine cb_putF (k0 := 0) (k := 2) (ty := tyX4 2) C hin2 rfl inlX4 tyX4_ok nmX4 rfl (by decide) qw_64 rfl rfl (tyX4_ok 2 (by decide)) ⟨rfl, fun _ => ⟨rfl, rfl⟩⟩ (by decide) dX4_init_23 ?_
  refine WB.L (L' := [(4, .inr (4, [.ref 5, .ref 6, .ref 7, .null, .null, .null, .int 0])), (5, .inl (0, 3, [])), (6, .inl (0, 6, [])), (7, .inl (0, 4, []))]) rfl ?_
  refine cb_aload_n C dX4_init_26 rfl ?_
  refine cb_bipush (v := 6) C dX4_init_27 (by decide) ?_
  refine cb_newa (q := 8) (t := 0) (N := 6) (atype := .int) (ty := .int) C rfl rfl (by decide) qw_50 rfl (fun _ _ => rfl) (fun _ _ => rfl) (fun _ _ => rfl) (by decide) (by decide) (Nat.le_of_ble_eq_true rfl) (Nat.le_of_ble_eq_true rfl) (Nat.le_of_ble_eq_true rfl) dX4_init_29 ?_
  refine WB.L (L' := [(4, .inr (4, [.ref 5, .ref 6, .ref 7, .null, .null, .null, .int 0])), (5, .inl (0, 3, [])), (6, .inl (0, 6, [])), (7, .inl (0, 4, [])), (8, .inl (0, 6, []))]) rfl ?_
  refine cb_putF (k0 := 0) (k := 3) (ty := tyX4 3) C hin2 rfl inlX4 tyX4_ok nmX4 rfl (by decide) qw_65 rfl rfl (tyX4_ok 3 (by decide)) ⟨rfl, fun _ => ⟨rfl, rfl⟩⟩ (by decide) dX4_init_31 ?_
  refine WB.L (L' := [(4, .inr (4, [.ref 5, .ref 6, .ref 7, .ref 8, .null, .null, .int 0])), (5, .inl (0, 3, [])), (6, .inl (0, 6, [])), (7, .inl (0, 4, [])), (8, .inl (0, 6, []))]) rfl ?_
  refine cb_aload_n C dX4_init_34 rfl ?_
  refine cb_bipush (v := 6) C dX4_init_35 (by decide) ?_
  refine cb_newa (q := 9) (t := 0) (N := 6) (atype := .int) (ty := .int) C rfl rfl (by decide) qw_50 rfl (fun _ _ => rfl) (fun _ _ => rfl) (fun _ _ => rfl) (by decide) (by decide) (Nat.le_of_ble_eq_true rfl) (Nat.le_of_ble_eq_true rfl) (Nat.le_of_ble_eq_true rfl) dX4_init_37 ?_
  refine WB.L (L' := [(4, .inr (4, [.ref 5, .ref 6, .ref 7, .ref 8, .null, .null, .int 0])), (5, .inl (0, 3, [])), (6, .inl (0, 6, [])), (7, .inl (0, 4, [])), (8, .inl (0, 6, [])), (9, .inl (0, 6, []))]) rfl ?_
  refine cb_putF (k0 := 0) (k := 4) (ty := tyX4 4) C hin2 rfl inlX4 tyX4_ok nmX4 rfl (by decide) qw_66 rfl rfl (tyX4_ok 4 (by decide)) ⟨rfl, fun _ => ⟨rfl, rfl⟩⟩ (by decide) dX4_init_39 ?_
  refine WB.L (L' := [(4, .inr (4, [.ref 5, .ref 6, .ref 7, .ref 8, .ref 9, .null, .int 0])), (5, .inl (0, 3, [])), (6, .inl (0, 6, [])), (7, .inl (0, 4, [])), (8, .inl (0, 6, [])), (9, .inl (0, 6, []))]) rfl ?_
  refine cb_aload_n C dX4_init_42 rfl ?_
  refine cb_bipush (v := 8) C dX4_init_43 (by decide) ?_
  refine cb_newa (q := 10) (t := 0) (N := 8) (atype := .int) (ty := .int) C rfl rfl (by decide) qw_50 rfl (fun _ _ => rfl) (fun _ _ => rfl) (fun _ _ => rfl) (by decide) (by decide) (Nat.le_of_ble_eq_true rfl) (Nat.le_of_ble_eq_true rfl) (Nat.le_of_ble_eq_true rfl) dX4_init_45 ?_
  refine WB.L (L' := [(4, .inr (4, [.ref 5, .ref 6, .ref 7, .ref 8, .ref 9, .null, .int 0])), (5, .inl (0, 3, [])), (6, .inl (0, 6, [])), (7, .inl (0, 4, [])), (8, .inl (0, 6, [])), (9, .inl (0, 6, [])), (10, .inl (0, 8, []))]) rfl ?_
  refine cb_putF (k0 := 0) (k := 5) (ty := tyX4 5) C hin2 rfl inlX4 tyX4_ok nmX4 rfl (by decide) qw_67 rfl rfl (tyX4_ok 5 (by decide)) ⟨rfl, fun _ => ⟨rfl, rfl⟩⟩ (by decide) dX4_init_47 ?_
  refine WB.L (L' := [(4, .inr (4, [.ref 5, .ref 6, .ref 7, .ref 8, .ref 9, .ref 10, .int 0])), (5, .inl (0, 3, [])), (6, .inl (0, 6, [])), (7, .inl (0, 4, [])), (8, .inl (0, 6, [])), (9, .inl (0, 6, [])), (10, .inl (0, 8, []))]) rfl ?_
  refine cb_aload_n C dX4_init_50 rfl ?_
  refine cb_iconst (v := 0) C dX4_init_51 (by decide) ?_
  refine cb_put (k0 := 0) (k := 6) (ty := tyX4 6) C rfl inlX4 tyX4_ok nmX4 rfl (by decide) qw_68 rfl (tyX4_ok 6 (by decide)) rfl rfl rfl (by decide) dX4_init_52 ?_
  refine WB.L (L' := [(4, .inr (4, [.ref 5, .ref 6, .ref 7, .ref 8, .ref 9, .ref 10, .int 0])), (5, .inl (0, 3, [])), (6, .inl (0, 6, [])), (7, .inl (0, 4, [])), (8, .inl (0, 6, [])), (9, .inl (0, 6, [])), (10, .inl (0, 8, []))]) rfl ?_
  exact cb_vret C hr hlk dX4_init_55
set_option maxRecDepth 100000 in
set_option maxHeartbeats 4000000 in
theorem hc_X4_12 : HC 0 6 33 yX4_init cX4_init 1 12 (.inr (4, [.null, .null, .null, .null, .null, .null, .int 0])) [(12, .inr (4, [.ref 13, .ref 14, .ref 15, .ref 16, .ref 17, .ref 18, .int 0])), (13, .inl (0, 3, [])), (14, .inl (0, 6, [])), (15, .inl (0, 4, [])), (16, .inl (0, 6, [])), (17, .inl (0, 6, [])), (18, .inl (0, 8, []))] := by
  refine HC.of (by decide +kernel) (by decide) (fun C hin2 hr hlk => ?_)
  refine cb_aload_n C dX4_init_0 rfl ?_
  refine cb_objInit C qw_61 qw_11 qw_12 ⟨Nat.le_of_ble_eq_true rfl, Nat.le_of_ble_eq_true rfl⟩ dX4_init_1 ?_
  refine cb_aload_n C dX4_init_4 rfl ?_
  refine cb_iconst (v := 3) C dX4_init_5 (by decide) ?_
  refine cb_newa (q := 13) (t := 0) (N := 3) (atype := .int) (ty := .int) C rfl rfl (by decide) qw_50 rfl (fun _ _ => rfl) (fun _ _ => rfl) (fun _ _ => rfl) (by decide) (by decide) (Nat.le_of_ble_eq_true rfl) (Nat.le_of_ble_eq_true rfl) (Nat.le_of_ble_eq_true rfl) dX4_init_6 ?_
  refine WB.L (L' := [(12, .inr (4, [.null, .null, .null, .null, .null, .null, .int 0])), (13, .inl (0, 3, []))]) rfl ?_
  refine cb_putF (k0 := 0) (k := 0) (ty := tyX4 0) C hin2 rfl inlX4 tyX4_ok nmX4 rfl (by decide) qw_62 rfl rfl (tyX4_ok 0 (by decide)) ⟨rfl, fun _ => ⟨rfl, rfl⟩⟩ (by decide) dX4_init_8 ?_
  refine WB.L (L' := [(12, .inr (4, [.ref 13, .null, .null, .null, .null, .null, .int 0])), (13, .inl (0, 3, []))]) rfl ?_
  refine cb_aload_n C dX4_init_11 rfl ?_
  refine cb_bipush (v := 6) C dX4_init_12 (by decide) ?_
  refine cb_newa (q := 14) (t := 0) (N := 6) (atype := .int) (ty := .int) C rfl rfl (by decide) qw_50 rfl (fun _ _ => rfl) (fun _ _ => rfl) (fun _ _ => rfl) (by decide) (by decide) (Nat.le_of_ble_eq_true rfl) (Nat.le_of_ble_eq_true rfl) (Nat.le_of_ble_eq_true rfl) dX4_init_14 ?_
  refine WB.L (L' := [(12, .inr (4, [.ref 13, .null, .null, .null, .null, .null, .int 0])), (13, .inl (0, 3, [])), (14, .inl (0, 6, []))]) rfl ?_
  refine cb_putF (k0 := 0) (k := 1) (ty := tyX4 1) C hin2 rfl inlX4 tyX4_ok nmX4 rfl (by decide) qw_63 rfl rfl (tyX4_ok 1 (by decide)) ⟨rfl, fun _ => ⟨rfl, rfl⟩⟩ (by decide) dX4_init_16 ?_
  refine WB.L (L' := [(12, .inr (4, [.ref 13, .ref 14, .null, .null, .null, .null, .int 0])), (13, .inl (0, 3, [])), (14, .inl (0, 6, []))]) rfl ?_
  refine cb_aload_n C dX4_init_19 rfl ?_
  refine cb_iconst (v := 4) C dX4_init_20 (by decide) ?_
  refine cb_newa (q := 15) (t := 0) (N := 4) (atype := .int) (ty := .int) C rfl rfl (by decide) qw_50 rfl (fun _ _ => rfl) (fun _ _ => rfl) (fun _ _ => rfl) (by decide) (by decide) (Nat.le_of_ble_eq_true rfl) (Nat.le_of_ble_eq_true rfl) (Nat.le_of_ble_eq_true rfl) dX4_init_21 ?_
  refine WB.L (L' := [(12, .inr (4, [.ref 13, .ref 14, .null, .null, .null, .null, .int 0])), (13, .inl (0, 3, [])), (14, .inl (0, 6, [])), (15, .inl (0, 4, []))]) rfl ?_
  refine cb_putF (k0 := 0) (k := 2) (ty := tyX4 2) C hin2 rfl inlX4 tyX4_ok nmX4 rfl (by decide) qw_64 rfl rfl (tyX4_ok 2 (by decide)) ⟨rfl, fun _ => ⟨rfl, rfl⟩⟩ (by decide) dX4_init_23 ?_
  refine WB.L (L' := [(12, .inr (4, [.ref 13, .ref 14, .ref 15, .null, .null, .null, .int 0])), (13, .inl (0, 3, [])), (14, .inl (0, 6, [])), (15, .inl (0, 4, []))]) rfl ?_
  refine cb_aload_n C dX4_init_26 rfl ?_
  refine cb_bipush (v := 6) C dX4_init_27 (by decide) ?_
  refine cb_newa (q := 16) (t := 0) (N := 6) (atype := .int) (ty := .int) C rfl rfl (by decide) qw_50 rfl (fun _ _ => rfl) (fun _ _ => rfl) (fun _ _ => rfl) (by decide) (by decide) (Nat.le_of_ble_eq_true rfl) (Nat.le_of_ble_eq_true rfl) (Nat.le_of_ble_eq_true rfl) dX4_init_29 ?_
  refine WB.L (L' := [(12, .inr (4, [.ref 13, .ref 14, .ref 15, .null, .null, .null, .int 0])), (13, .inl (0, 3, [])), (14, .inl (0, 6, [])), (15, .inl (0, 4, [])), (16, .inl (0, 6, []))]) rfl ?_
  refine cb_putF (k0 := 0) (k := 3) (ty := tyX4 3) C hin2 rfl inlX4 tyX4_ok nmX4 rfl (by decide) qw_65 rfl rfl (tyX4_ok 3 (by decide)) ⟨rfl, fun _ => ⟨rfl, rfl⟩⟩ (by decide) dX4_init_31 ?_
  refine WB.L (L' := [(12, .inr (4, [.ref 13, .ref 14, .ref 15, .ref 16, .null, .null, .int 0])), (13, .inl (0, 3, [])), (14, .inl (0, 6, [])), (15, .inl (0, 4, [])), (16, .inl (0, 6, []))]) rfl ?_
  refine cb_aload_n C dX4_init_34 rfl ?_
  refine cb_bipush (v := 6) C dX4_init_35 (by decide) ?_
  refine cb_newa (q := 17) (t := 0) (N := 6) (atype := .int) (ty := .int) C rfl rfl (by decide) qw_50 rfl (fun _ _ => rfl) (fun _ _ => rfl) (fun _ _ => rfl) (by decide) (by decide) (Nat.le_of_ble_eq_true rfl) (Nat.le_of_ble_eq_true rfl) (Nat.le_of_ble_eq_true rfl) dX4_init_37 ?_
  refine WB.L (L' := [(12, .inr (4, [.ref 13, .ref 14, .ref 15, .ref 16, .null, .null, .int 0])), (13, .inl (0, 3, [])), (14, .inl (0, 6, [])), (15, .inl (0, 4, [])), (16, .inl (0, 6, [])), (17, .inl (0, 6, []))]) rfl ?_
  refine cb_putF (k0 := 0) (k := 4) (ty := tyX4 4) C hin2 rfl inlX4 tyX4_ok nmX4 rfl (by decide) qw_66 rfl rfl (tyX4_ok 4 (by decide)) ⟨rfl, fun _ => ⟨rfl, rfl⟩⟩ (by decide) dX4_init_39 ?_
  refine WB.L (L' := [(12, .inr (4, [.ref 13, .ref 14, .ref 15, .ref 16, .ref 17, .null, .int 0])), (13, .inl (0, 3, [])), (14, .inl (0, 6, [])), (15, .inl (0, 4, [])), (16, .inl (0, 6, [])), (17, .inl (0, 6, []))]) rfl ?_
  refine cb_aload_n C dX4_init_42 rfl ?_
  refine cb_bipush (v := 8) C dX4_init_43 (by decide) ?_
  refine cb_newa (q := 18) (t := 0) (N := 8) (atype := .int) (ty := .int) C rfl rfl (by decide) qw_50 rfl (fun _ _ => rfl) (fun _ _ => rfl) (fun _ _ => rfl) (by decide) (by decide) (Nat.le_of_ble_eq_true rfl) (Nat.le_of_ble_eq_true rfl) (Nat.le_of_ble_eq_true rfl) dX4_init_45 ?_
  refine WB.L (L' := [(12, .inr (4, [.ref 13, .ref 14, .ref 15, .ref 16, .ref 17, .null, .int 0])), (13, .inl (0, 3, [])), (14, .inl (0, 6, [])), (15, .inl (0, 4, [])), (16, .inl (0, 6, [])), (17, .inl (0, 6, [])), (18, .inl (0, 8, []))]) rfl ?_
  refine cb_putF (k0 := 0) (k := 5) (ty := tyX4 5) C hin2 rfl inlX4 tyX4_ok nmX4 rfl (by decide) qw_67 rfl rfl (tyX4_ok 5 (by decide)) ⟨rfl, fun _ => ⟨rfl, rfl⟩⟩ (by decide) dX4_init_47 ?_
  refine WB.L (L' := [(12, .inr (4, [.ref 13, .ref 14, .ref 15, .ref 16, .ref 17, .ref 18, .int 0])), (13, .inl (0, 3, [])), (14, .inl (0, 6, [])), (15, .inl (0, 4, [])), (16, .inl (0, 6, [])), (17, .inl (0, 6, [])), (18, .inl (0, 8, []))]) rfl ?_
  refine cb_aload_n C dX4_init_50 rfl ?_
  refine cb_iconst (v := 0) C dX4_init_51 (by decide) ?_
  refine cb_put (k0 := 0) (k := 6) (ty := tyX4 6) C rfl inlX4 tyX4_ok nmX4 rfl (by decide) qw_68 rfl (tyX4_ok 6 (by decide)) rfl rfl rfl (by decide) dX4_init_52 ?_
  refine WB.L (L' := [(12, .inr (4, [.ref 13, .ref 14, .ref 15, .ref 16, .ref 17, .ref 18, .int 0])), (13, .inl (0, 3, [])), (14, .inl (0, 6, [])), (15, .inl (0, 4, [])), (16, .inl (0, 6, [])), (17, .inl (0, 6, [])), (18, .inl (0, 8, []))]) rfl ?_
  exact cb_vret C hr hlk dX4_init_55
set_option maxRecDepth 100000 in
set_option maxHeartbeats 4000000 in
theorem hc_X4_19 : HC 0 6 33 yX4_init cX4_init 1 19 (.inr (4, [.null, .null, .null, .null, .null, .null, .int 0])) [(19, .inr (4, [.ref 20, .ref 21, .ref 22, .ref 23, .ref 24, .ref 25, .int 0])), (20, .inl (0, 3, [])), (21, .inl (0, 6, [])), (22, .inl (0, 4, [])), (23, .inl (0, 6, [])), (24, .inl (0, 6, [])), (25, .inl (0, 8, []))] := by
  refine HC.of (by decide +kernel) (by decide) (fun C hin2 hr hlk => ?_)
  refine cb_aload_n C dX4_init_0 rfl ?_
  refine cb_objInit C qw_61 qw_11 qw_12 ⟨Nat.le_of_ble_eq_true rfl, Nat.le_of_ble_eq_true rfl⟩ dX4_init_1 ?_
  refine cb_aload_n C dX4_init_4 rfl ?_
  refine cb_iconst (v := 3) C dX4_init_5 (by decide) ?_
  refine cb_newa (q := 20) (t := 0) (N := 3) (atype := .int) (ty := .int) C rfl rfl (by decide) qw_50 rfl (fun _ _ => rfl) (fun _ _ => rfl) (fun _ _ => rfl) (by decide) (by decide) (Nat.le_of_ble_eq_true rfl) (Nat.le_of_ble_eq_true rfl) (Nat.le_of_ble_eq_true rfl) dX4_init_6 ?_
  refine WB.L (L' := [(19, .inr (4, [.null, .null, .null, .null, .null, .null, .int 0])), (20, .inl (0, 3, []))]) rfl ?_
  refine cb_putF (k0 := 0) (k := 0) (ty := tyX4 0) C hin2 rfl inlX4 tyX4_ok nmX4 rfl (by decide) qw_62 rfl rfl (tyX4_ok 0 (by decide)) ⟨rfl, fun _ => ⟨rfl, rfl⟩⟩ (by decide) dX4_init_8 ?_
  refine WB.L (L' := [(19, .inr (4, [.ref 20, .null, .null, .null, .null, .null, .int 0])), (20, .inl (0, 3, []))]) rfl ?_
  refine cb_aload_n C dX4_init_11 rfl ?_
  refine cb_bipush (v := 6) C dX4_init_12 (by decide) ?_
  refine cb_newa (q := 21) (t := 0) (N := 6) (atype := .int) (ty := .int) C rfl rfl (by decide) qw_50 rfl (fun _ _ => rfl) (fun _ _ => rfl) (fun _ _ => rfl) (by decide) (by decide) (Nat.le_of_ble_eq_true rfl) (Nat.le_of_ble_eq_true rfl) (Nat.le_of_ble_eq_true rfl) dX4_init_14 ?_
  refine WB.L (L' := [(19, .inr (4, [.ref 20, .null, .null, .null, .null, .null, .int 0])), (20, .inl (0, 3, [])), (21, .inl (0, 6, []))]) rfl ?_
  refine cb_putF (k0 := 0) (k := 1) (ty := tyX4 1) C hin2 rfl inlX4 tyX4_ok nmX4 rfl (by decide) qw_63 rfl rfl (tyX4_ok 1 (by decide)) ⟨rfl, fun _ => ⟨rfl, rfl⟩⟩ (by decide) dX4_init_16 ?_
  refine WB.L (L' := [(19, .inr (4, [.ref 20, .ref 21, .null, .null, .null, .null, .int 0])), (20, .inl (0, 3, [])), (21, .inl (0, 6, []))]) rfl ?_
  refine cb_aload_n C dX4_init_19 rfl ?_
  refine cb_iconst (v := 4) C dX4_init_20 (by decide) ?_
  refine cb_newa (q := 22) (t := 0) (N := 4) (atype := .int) (ty := .int) C rfl rfl (by decide) qw_50 rfl (fun _ _ => rfl) (fun _ _ => rfl) (fun _ _ => rfl) (by decide) (by decide) (Nat.le_of_ble_eq_true rfl) (Nat.le_of_ble_eq_true rfl) (Nat.le_of_ble_eq_true rfl) dX4_init_21 ?_
  refine WB.L (L' := [(19, .inr (4, [.ref 20, .ref 21, .null, .null, .null, .null, .int 0])), (20, .inl (0, 3, [])), (21, .inl (0, 6, [])), (22, .inl (0, 4, []))]) rfl ?_
  refine cb_putF (k0 := 0) (k := 2) (ty := tyX4 2) C hin2 rfl inlX4 tyX4_ok nmX4 rfl (by decide) qw_64 rfl rfl (tyX4_ok 2 (by decide)) ⟨rfl, fun _ => ⟨rfl, rfl⟩⟩ (by decide) dX4_init_23 ?_
  refine WB.L (L' := [(19, .inr (4, [.ref 20, .ref 21, .ref 22, .null, .null, .null, .int 0])), (20, .inl (0, 3, [])), (21, .inl (0, 6, [])), (22, .inl (0, 4, []))]) rfl ?_
  refine cb_aload_n C dX4_init_26 rfl ?_
  refine cb_bipush (v := 6) C dX4_init_27 (by decide) ?_
  refine cb_newa (q := 23) (t := 0) (N := 6) (atype := .int) (ty := .int) C rfl rfl (by decide) qw_50 rfl (fun _ _ => rfl) (fun _ _ => rfl) (fun _ _ => rfl) (by decide) (by decide) (Nat.le_of_ble_eq_true rfl) (Nat.le_of_ble_eq_true rfl) (Nat.le_of_ble_eq_true rfl) dX4_init_29 ?_
  refine WB.L (L' := [(19, .inr (4, [.ref 20, .ref 21, .ref 22, .null, .null, .null, .int 0])), (20, .inl (0, 3, [])), (21, .inl (0, 6, [])), (22, .inl (0, 4, [])), (23, .inl (0, 6, []))]) rfl ?_
  refine cb_putF (k0 := 0) (k := 3) (ty := tyX4 3) C hin2 rfl inlX4 tyX4_ok nmX4 rfl (by decide) qw_65 rfl rfl (tyX4_ok 3 (by decide)) ⟨rfl, fun _ => ⟨rfl, rfl⟩⟩ (by decide) dX4_init_31 ?_
  refine WB.L (L' := [(19, .inr (4, [.ref 20, .ref 21, .ref 22, .ref 23, .null, .null, .int 0])), (20, .inl (0, 3, [])), (21, .inl (0, 6, [])), (22, .inl (0, 4, [])), (23, .inl (0, 6, []))]) rfl ?_
  refine cb_aload_n C dX4_init_34 rfl ?_
  refine cb_bipush (v := 6) C dX4_init_35 (by decide) ?_
  refine cb_newa (q := 24) (t := 0) (N := 6) (atype := .int) (ty := .int) C rfl rfl (by decide) qw_50 rfl (fun _ _ => rfl) (fun _ _ => rfl) (fun _ _ => rfl) (by decide) (by decide) (Nat.le_of_ble_eq_true rfl) (Nat.le_of_ble_eq_true rfl) (Nat.le_of_ble_eq_true rfl) dX4_init_37 ?_
  refine WB.L (L' := [(19, .inr (4, [.ref 20, .ref 21, .ref 22, .ref 23, .null, .null, .int 0])), (20, .inl (0, 3, [])), (21, .inl (0, 6, [])), (22, .inl (0, 4, [])), (23, .inl (0, 6, [])), (24, .inl (0, 6, []))]) rfl ?_
  refine cb_putF (k0 := 0) (k := 4) (ty := tyX4 4) C hin2 rfl inlX4 tyX4_ok nmX4 rfl (by decide) qw_66 rfl rfl (tyX4_ok 4 (by decide)) ⟨rfl, fun _ => ⟨rfl, rfl⟩⟩ (by decide) dX4_init_39 ?_
  refine WB.L (L' := [(19, .inr (4, [.ref 20, .ref 21, .ref 22, .ref 23, .ref 24, .null, .int 0])), (20, .inl (0, 3, [])), (21, .inl (0, 6, [])), (22, .inl (0, 4, [])), (23, .inl (0, 6, [])), (24, .inl (0, 6, []))]) rfl ?_
  refine cb_aload_n C dX4_init_42 rfl ?_
  refine cb_bipush (v := 8) C dX4_init_43 (by decide) ?_
  refine cb_newa (q := 25) (t := 0) (N := 8) (atype := .int) (ty := .int) C rfl rfl (by decide) qw_50 rfl (fun _ _ => rfl) (fun _ _ => rfl) (fun _ _ => rfl) (by decide) (by decide) (Nat.le_of_ble_eq_true rfl) (Nat.le_of_ble_eq_true rfl) (Nat.le_of_ble_eq_true rfl) dX4_init_45 ?_
  refine WB.L (L' := [(19, .inr (4, [.ref 20, .ref 21, .ref 22, .ref 23, .ref 24, .null, .int 0])), (20, .inl (0, 3, [])), (21, .inl (0, 6, [])), (22, .inl (0, 4, [])), (23, .inl (0, 6, [])), (24, .inl (0, 6, [])), (25, .inl (0, 8, []))]) rfl ?_
  refine cb_putF (k0 := 0) (k := 5) (ty := tyX4 5) C hin2 rfl inlX4 tyX4_ok nmX4 rfl (by decide) qw_67 rfl rfl (tyX4_ok 5 (by decide)) ⟨rfl, fun _ => ⟨rfl, rfl⟩⟩ (by decide) dX4_init_47 ?_
  refine WB.L (L' := [(19, .inr (4, [.ref 20, .ref 21, .ref 22, .ref 23, .ref 24, .ref 25, .int 0])), (20, .inl (0, 3, [])), (21, .inl (0, 6, [])), (22, .inl (0, 4, [])), (23, .inl (0, 6, [])), (24, .inl (0, 6, [])), (25, .inl (0, 8, []))]) rfl ?_
  refine cb_aload_n C dX4_init_50 rfl ?_
  refine cb_iconst (v := 0) C dX4_init_51 (by decide) ?_
  refine cb_put (k0 := 0) (k := 6) (ty := tyX4 6) C rfl inlX4 tyX4_ok nmX4 rfl (by decide) qw_68 rfl (tyX4_ok 6 (by decide)) rfl rfl rfl (by decide) dX4_init_52 ?_
  refine WB.L (L' := [(19, .inr (4, [.ref 20, .ref 21, .ref 22, .ref 23, .ref 24, .ref 25, .int 0])), (20, .inl (0, 3, [])), (21, .inl (0, 6, [])), (22, .inl (0, 4, [])), (23, .inl (0, 6, [])), (24, .inl (0, 6, [])), (25, .inl (0, 8, []))]) rfl ?_
  exact cb_vret C hr hlk dX4_init_55
set_option maxRecDepth 100000 in
set_option maxHeartbeats 4000000 in
theorem hc_X6_27 : HC 0 1 40 yX6_init cX6_init 1 27 (.inr (6, [.int 0, .int 0, .null])) [(27, .inr (6, [.int 0, .int (-1), .ref 28])), (28, .inl (0, 40, []))] := by
  refine HC.of (by decide +kernel) (by decide) (fun C hin2 hr hlk => ?_)
  refine cb_aload_n C dX6_init_0 rfl ?_
  refine cb_objInit C qw_71 qw_11 qw_12 ⟨Nat.le_of_ble_eq_true rfl, Nat.le_of_ble_eq_true rfl⟩ dX6_init_1 ?_
  refine cb_aload_n C dX6_init_4 rfl ?_
  refine cb_iconst (v := 0) C dX6_init_5 (by decide) ?_
  refine cb_put (k0 := 0) (k := 0) (ty := tyX6 0) C rfl inlX6 tyX6_ok nmX6 rfl (by decide) qw_72 rfl (tyX6_ok 0 (by decide)) rfl rfl rfl (by decide) dX6_init_6 ?_
  refine WB.L (L' := [(27, .inr (6, [.int 0, .int 0, .null]))]) rfl ?_
  refine cb_aload_n C dX6_init_9 rfl ?_
  refine cb_iconst (v := -1) C dX6_init_10 (by decide) ?_
  refine cb_put (k0 := 0) (k := 1) (ty := tyX6 1) C rfl inlX6 tyX6_ok nmX6 rfl (by decide) qw_73 rfl (tyX6_ok 1 (by decide)) rfl rfl rfl (by decide) dX6_init_11 ?_
  refine WB.L (L' := [(27, .inr (6, [.int 0, .int (-1), .null]))]) rfl ?_
  refine cb_aload_n C dX6_init_14 rfl ?_
  refine cb_bipush (v := 40) C dX6_init_15 (by decide) ?_
  refine cb_newa (q := 28) (t := 0) (N := 40) (atype := .int) (ty := .int) C rfl rfl (by decide) qw_50 rfl (fun _ _ => rfl) (fun _ _ => rfl) (fun _ _ => rfl) (by decide) (by decide) (Nat.le_of_ble_eq_true rfl) (Nat.le_of_ble_eq_true rfl) (Nat.le_of_ble_eq_true rfl) dX6_init_17 ?_
  refine WB.L (L' := [(27, .inr (6, [.int 0, .int (-1), .null])), (28, .inl (0, 40, []))]) rfl ?_
  refine cb_putF (k0 := 0) (k := 2) (ty := tyX6 2) C hin2 rfl inlX6 tyX6_ok nmX6 rfl (by decide) qw_74 rfl rfl (tyX6_ok 2 (by decide)) ⟨rfl, fun _ => ⟨rfl, rfl⟩⟩ (by decide) dX6_init_19 ?_
  refine WB.L (L' := [(27, .inr (6, [.int 0, .int (-1), .ref 28])), (28, .inl (0, 40, []))]) rfl ?_
  exact cb_vret C hr hlk dX6_init_22
set_option maxRecDepth 100000 in
set_option maxHeartbeats 4000000 in
theorem hc_X6_29 : HC 0 1 40 yX6_init cX6_init 1 29 (.inr (6, [.int 0, .int 0, .null])) [(29, .inr (6, [.int 0, .int (-1), .ref 30])), (30, .inl (0, 40, []))] := by
  refine HC.of (by decide +kernel) (by decide) (fun C hin2 hr hlk => ?_)
  refine cb_aload_n C dX6_init_0 rfl ?_
  refine cb_objInit C qw_71 qw_11 qw_12 ⟨Nat.le_of_ble_eq_true rfl, Nat.le_of_ble_eq_true rfl⟩ dX6_init_1 ?_
  refine cb_aload_n C dX6_init_4 rfl ?_
  refine cb_iconst (v := 0) C dX6_init_5 (by decide) ?_
  refine cb_put (k0 := 0) (k := 0) (ty := tyX6 0) C rfl inlX6 tyX6_ok nmX6 rfl (by decide) qw_72 rfl (tyX6_ok 0 (by decide)) rfl rfl rfl (by decide) dX6_init_6 ?_
  refine WB.L (L' := [(29, .inr (6, [.int 0, .int 0, .null]))]) rfl ?_
  refine cb_aload_n C dX6_init_9 rfl ?_
  refine cb_iconst (v := -1) C dX6_init_10 (by decide) ?_
  refine cb_put (k0 := 0) (k := 1) (ty := tyX6 1) C rfl inlX6 tyX6_ok nmX6 rfl (by decide) qw_73 rfl (tyX6_ok 1 (by decide)) rfl rfl rfl (by decide) dX6_init_11 ?_
  refine WB.L (L' := [(29, .inr (6, [.int 0, .int (-1), .null]))]) rfl ?_
  refine cb_aload_n C dX6_init_14 rfl ?_
  refine cb_bipush (v := 40) C dX6_init_15 (by decide) ?_
  refine cb_newa (q := 30) (t := 0) (N := 40) (atype := .int) (ty := .int) C rfl rfl (by decide) qw_50 rfl (fun _ _ => rfl) (fun _ _ => rfl) (fun _ _ => rfl) (by decide) (by decide) (Nat.le_of_ble_eq_true rfl) (Nat.le_of_ble_eq_true rfl) (Nat.le_of_ble_eq_true rfl) dX6_init_17 ?_
  refine WB.L (L' := [(29, .inr (6, [.int 0, .int (-1), .null])), (30, .inl (0, 40, []))]) rfl ?_
  refine cb_putF (k0 := 0) (k := 2) (ty := tyX6 2) C hin2 rfl inlX6 tyX6_ok nmX6 rfl (by decide) qw_74 rfl rfl (tyX6_ok 2 (by decide)) ⟨rfl, fun _ => ⟨rfl, rfl⟩⟩ (by decide) dX6_init_19 ?_
  refine WB.L (L' := [(29, .inr (6, [.int 0, .int (-1), .ref 30])), (30, .inl (0, 40, []))]) rfl ?_
  exact cb_vret C hr hlk dX6_init_22
set_option maxRecDepth 100000 in
set_option maxHeartbeats 4000000 in
theorem hc_X6_31 : HC 0 1 40 yX6_init cX6_init 1 31 (.inr (6, [.int 0, .int 0, .null])) [(31, .inr (6, [.int 0, .int (-1), .ref 32])), (32, .inl (0, 40, []))] := by
  refine HC.of (by decide +kernel) (by decide) (fun C hin2 hr hlk => ?_)
  refine cb_aload_n C dX6_init_0 rfl ?_
  refine cb_objInit C qw_71 qw_11 qw_12 ⟨Nat.le_of_ble_eq_true rfl, Nat.le_of_ble_eq_true rfl⟩ dX6_init_1 ?_
  refine cb_aload_n C dX6_init_4 rfl ?_
  refine cb_iconst (v := 0) C dX6_init_5 (by decide) ?_
  refine cb_put (k0 := 0) (k := 0) (ty := tyX6 0) C rfl inlX6 tyX6_ok nmX6 rfl (by decide) qw_72 rfl (tyX6_ok 0 (by decide)) rfl rfl rfl (by decide) dX6_init_6 ?_
  refine WB.L (L' := [(31, .inr (6, [.int 0, .int 0, .null]))]) rfl ?_
  refine cb_aload_n C dX6_init_9 rfl ?_
  refine cb_iconst (v := -1) C dX6_init_10 (by decide) ?_
  refine cb_put (k0 := 0) (k := 1) (ty := tyX6 1) C rfl inlX6 tyX6_ok nmX6 rfl (by decide) qw_73 rfl (tyX6_ok 1 (by decide)) rfl rfl rfl (by decide) dX6_init_11 ?_
  refine WB.L (L' := [(31, .inr (6, [.int 0, .int (-1), .null]))]) rfl ?_
  refine cb_aload_n C dX6_init_14 rfl ?_
  refine cb_bipush (v := 40) C dX6_init_15 (by decide) ?_
  refine cb_newa (q := 32) (t := 0) (N := 40) (atype := .int) (ty := .int) C rfl rfl (by decide) qw_50 rfl (fun _ _ => rfl) (fun _ _ => rfl) (fun _ _ => rfl) (by decide) (by decide) (Nat.le_of_ble_eq_true rfl) (Nat.le_of_ble_eq_true rfl) (Nat.le_of_ble_eq_true rfl) dX6_init_17 ?_
  refine WB.L (L' := [(31, .inr (6, [.int 0, .int (-1), .null])), (32, .inl (0, 40, []))]) rfl ?_
  refine cb_putF (k0 := 0) (k := 2) (ty := tyX6 2) C hin2 rfl inlX6 tyX6_ok nmX6 rfl (by decide) qw_74 rfl rfl (tyX6_ok 2 (by decide)) ⟨rfl, fun _ => ⟨rfl, rfl⟩⟩ (by decide) dX6_init_19 ?_
  refine WB.L (L' := [(31, .inr (6, [.int 0, .int (-1), .ref 32])), (32, .inl (0, 40, []))]) rfl ?_
  exact cb_vret C hr hlk dX6_init_22
set_option maxRecDepth 100000 in
set_option maxHeartbeats 4000000 in
theorem hc_X6_33 : HC 0 1 40 yX6_init cX6_init 1 33 (.inr (6, [.int 0, .int 0, .null])) [(33, .inr (6, [.int 0, .int (-1), .ref 34])), (34, .inl (0, 40, []))] := by
  refine HC.of (by decide +kernel) (by decide) (fun C hin2 hr hlk => ?_)
  refine cb_aload_n C dX6_init_0 rfl ?_
  refine cb_objInit C qw_71 qw_11 qw_12 ⟨Nat.le_of_ble_eq_true rfl, Nat.le_of_ble_eq_true rfl⟩ dX6_init_1 ?_
  refine cb_aload_n C dX6_init_4 rfl ?_
  refine cb_iconst (v := 0) C dX6_init_5 (by decide) ?_
  refine cb_put (k0 := 0) (k := 0) (ty := tyX6 0) C rfl inlX6 tyX6_ok nmX6 rfl (by decide) qw_72 rfl (tyX6_ok 0 (by decide)) rfl rfl rfl (by decide) dX6_init_6 ?_
  refine WB.L (L' := [(33, .inr (6, [.int 0, .int 0, .null]))]) rfl ?_
  refine cb_aload_n C dX6_init_9 rfl ?_
  refine cb_iconst (v := -1) C dX6_init_10 (by decide) ?_
  refine cb_put (k0 := 0) (k := 1) (ty := tyX6 1) C rfl inlX6 tyX6_ok nmX6 rfl (by decide) qw_73 rfl (tyX6_ok 1 (by decide)) rfl rfl rfl (by decide) dX6_init_11 ?_
  refine WB.L (L' := [(33, .inr (6, [.int 0, .int (-1), .null]))]) rfl ?_
  refine cb_aload_n C dX6_init_14 rfl ?_
  refine cb_bipush (v := 40) C dX6_init_15 (by decide) ?_
  refine cb_newa (q := 34) (t := 0) (N := 40) (atype := .int) (ty := .int) C rfl rfl (by decide) qw_50 rfl (fun _ _ => rfl) (fun _ _ => rfl) (fun _ _ => rfl) (by decide) (by decide) (Nat.le_of_ble_eq_true rfl) (Nat.le_of_ble_eq_true rfl) (Nat.le_of_ble_eq_true rfl) dX6_init_17 ?_
  refine WB.L (L' := [(33, .inr (6, [.int 0, .int (-1), .null])), (34, .inl (0, 40, []))]) rfl ?_
  refine cb_putF (k0 := 0) (k := 2) (ty := tyX6 2) C hin2 rfl inlX6 tyX6_ok nmX6 rfl (by decide) qw_74 rfl rfl (tyX6_ok 2 (by decide)) ⟨rfl, fun _ => ⟨rfl, rfl⟩⟩ (by decide) dX6_init_19 ?_
  refine WB.L (L' := [(33, .inr (6, [.int 0, .int (-1), .ref 34])), (34, .inl (0, 40, []))]) rfl ?_
  exact cb_vret C hr hlk dX6_init_22
set_option maxRecDepth 100000 in
set_option maxHeartbeats 4000000 in
theorem hc_X1_37 : HC 0 2 9 yX1_init cX1_init 1 37 (.inr (1, [.int 0, .int 0, .null, .null])) [(37, .inr (1, [.int 0, .int 4, .ref 38, .ref 39])), (38, .inl (0, 3, [])), (39, .inl (0, 6, []))] := by
  refine HC.of (by decide +kernel) (by decide) (fun C hin2 hr hlk => ?_)
  refine cb_aload_n C dX1_init_0 rfl ?_
  refine cb_objInit C qw_54 qw_11 qw_12 ⟨Nat.le_of_ble_eq_true rfl, Nat.le_of_ble_eq_true rfl⟩ dX1_init_1 ?_
  refine cb_aload_n C dX1_init_4 rfl ?_
  refine cb_iconst (v := 0) C dX1_init_5 (by decide) ?_
  refine cb_put (k0 := 0) (k := 0) (ty := tyX1 0) C rfl inlX1 tyX1_ok nmX1 rfl (by decide) qw_55 rfl (tyX1_ok 0 (by decide)) rfl rfl rfl (by decide) dX1_init_6 ?_
  refine WB.L (L' := [(37, .inr (1, [.int 0, .int 0, .null, .null]))]) rfl ?_
  refine cb_aload_n C dX1_init_9 rfl ?_
  refine cb_iconst (v := 4) C dX1_init_10 (by decide) ?_
  refine cb_put (k0 := 0) (k := 1) (ty := tyX1 1) C rfl inlX1 tyX1_ok nmX1 rfl (by decide) qw_56 rfl (tyX1_ok 1 (by decide)) rfl rfl rfl (by decide) dX1_init_11 ?_
  refine WB.L (L' := [(37, .inr (1, [.int 0, .int 4, .null, .null]))]) rfl ?_
  refine cb_aload_n C dX1_init_14 rfl ?_
  refine cb_iconst (v := 3) C dX1_init_15 (by decide) ?_
  refine cb_newa (q := 38) (t := 0) (N := 3) (atype := .int) (ty := .int) C rfl rfl (by decide) qw_50 rfl (fun _ _ => rfl) (fun _ _ => rfl) (fun _ _ => rfl) (by decide) (by decide) (Nat.le_of_ble_eq_true rfl) (Nat.le_of_ble_eq_true rfl) (Nat.le_of_ble_eq_true rfl) dX1_init_16 ?_
  refine WB.L (L' := [(37, .inr (1, [.int 0, .int 4, .null, .null])), (38, .inl (0, 3, []))]) rfl ?_
  refine cb_putF (k0 := 0) (k := 2) (ty := tyX1 2) C hin2 rfl inlX1 tyX1_ok nmX1 rfl (by decide) qw_57 rfl rfl (tyX1_ok 2 (by decide)) ⟨rfl, fun _ => ⟨rfl, rfl⟩⟩ (by decide) dX1_init_18 ?_
  refine WB.L (L' := [(37, .inr (1, [.int 0, .int 4, .ref 38, .null])), (38, .inl (0, 3, []))]) rfl ?_
  refine cb_aload_n C dX1_init_21 rfl ?_
  refine cb_bipush (v := 6) C dX1_init_22 (by decide) ?_
  refine cb_newa (q := 39) (t := 0) (N := 6) (atype := .int) (ty := .int) C rfl rfl (by decide) qw_50 rfl (fun _ _ => rfl) (fun _ _ => rfl) (fun _ _ => rfl) (by decide) (by decide) (Nat.le_of_ble_eq_true rfl) (Nat.le_of_ble_eq_true rfl) (Nat.le_of_ble_eq_true rfl) dX1_init_24 ?_
  refine WB.L (L' := [(37, .inr (1, [.int 0, .int 4, .ref 38, .null])), (38, .inl (0, 3, [])), (39, .inl (0, 6, []))]) rfl ?_
  refine cb_putF (k0 := 0) (k := 3) (ty := tyX1 3) C hin2 rfl inlX1 tyX1_ok nmX1 rfl (by decide) qw_58 rfl rfl (tyX1_ok 3 (by decide)) ⟨rfl, fun _ => ⟨rfl, rfl⟩⟩ (by decide) dX1_init_26 ?_
  refine WB.L (L' := [(37, .inr (1, [.int 0, .int 4, .ref 38, .ref 39])), (38, .inl (0, 3, [])), (39, .inl (0, 6, []))]) rfl ?_
  exact cb_vret C hr hlk dX1_init_29
set_option maxRecDepth 100000 in
set_option maxHeartbeats 4000000 in
theorem hc_X4_40 : HC 0 6 33 yX4_init cX4_init 1 40 (.inr (4, [.null, .null, .null, .null, .null, .null, .int 0])) [(40, .inr (4, [.ref 41, .ref 42, .ref 43, .ref 44, .ref 45, .ref 46, .int 0])), (41, .inl (0, 3, [])), (42, .inl (0, 6, [])), (43, .inl (0, 4, [])), (44, .inl (0, 6, [])), (45, .inl (0, 6, [])), (46, .inl (0, 8, []))] := by
  refine HC.of (by decide +kernel) (by decide) (fun C hin2 hr hlk => ?_)
  refine cb_aload_n C dX4_init_0 rfl ?_
  refine cb_objInit C qw_61 qw_11 qw_12 ⟨Nat.le_of_ble_eq_true rfl, Nat.le_of_ble_eq_true rfl⟩ dX4_init_1 ?_
  refine cb_aload_n C dX4_init_4 rfl ?_
  refine cb_iconst (v := 3) C dX4_init_5 (by decide) ?_
  refine cb_newa (q := 41) (t := 0) (N := 3) (atype := .int) (ty := .int) C rfl rfl (by decide) qw_50 rfl (fun _ _ => rfl) (fun _ _ => rfl) (fun _ _ => rfl) (by decide) (by decide) (Nat.le_of_ble_eq_true rfl) (Nat.le_of_ble_eq_true rfl) (Nat.le_of_ble_eq_true rfl) dX4_init_6 ?_
  refine WB.L (L' := [(40, .inr (4, [.null, .null, .null, .null, .null, .null, .int 0])), (41, .inl (0, 3, []))]) rfl ?_
  refine cb_putF (k0 := 0) (k := 0) (ty := tyX4 0) C hin2 rfl inlX4 tyX4_ok nmX4 rfl (by decide) qw_62 rfl rfl (tyX4_ok 0 (by decide)) ⟨rfl, fun _ => ⟨rfl, rfl⟩⟩ (by decide) dX4_init_8 ?_
  refine WB.L (L' := [(40, .inr (4, [.ref 41, .null, .null, .null, .null, .null, .int 0])), (41, .inl (0, 3, []))]) rfl ?_
  refine cb_aload_n C dX4_init_11 rfl ?_
  refine cb_bipush (v := 6) C dX4_init_12 (by decide) ?_
  refine cb_newa (q := 42) (t := 0) (N := 6) (atype := .int) (ty := .int) C rfl rfl (by decide) qw_50 rfl (fun _ _ => rfl) (fun _ _ => rfl) (fun _ _ => rfl) (by decide) (by decide) (Nat.le_of_ble_eq_true rfl) (Nat.le_of_ble_eq_true rfl) (Nat.le_of_ble_eq_true rfl) dX4_init_14 ?_
  refine WB.L (L' := [(40, .inr (4, [.ref 41, .null, .null, .null, .null, .null, .int 0])), (41, .inl (0, 3, [])), (42, .inl (0, 6, []))]) rfl ?_
  refine cb_putF (k0 := 0) (k := 1) (ty := tyX4 1) C hin2 rfl inlX4 tyX4_ok nmX4 rfl (by decide) qw_63 rfl rfl (tyX4_ok 1 (by decide)) ⟨rfl, fun _ => ⟨rfl, rfl⟩⟩ (by decide) dX4_init_16 ?_
  refine WB.L (L' := [(40, .inr (4, [.ref 41, .ref 42, .null, .null, .null, .null, .int 0])), (41, .inl (0, 3, [])), (42, .inl (0, 6, []))]) rfl ?_
  refine cb_aload_n C dX4_init_19 rfl ?_
  refine cb_iconst (v := 4) C dX4_init_20 (by decide) ?_
  refine cb_newa (q := 43) (t := 0) (N := 4) (atype := .int) (ty := .int) C rfl rfl (by decide) qw_50 rfl (fun _ _ => rfl) (fun _ _ => rfl) (fun _ _ => rfl) (by decide) (by decide) (Nat.le_of_ble_eq_true rfl) (Nat.le_of_ble_eq_true rfl) (Nat.le_of_ble_eq_true rfl) dX4_init_21 ?_
  refine WB.L (L' := [(40, .inr (4, [.ref 41, .ref 42, .null, .null, .null, .null, .int 0])), (41, .inl (0, 3, [])), (42, .inl (0, 6, [])), (43, .inl (0, 4, []))]) rfl ?_
  refine cb_putF (k0 := 0) (k := 2) (ty := tyX4 2) C hin2 rfl inlX4 tyX4_ok nmX4 rfl (by decide) qw_64 rfl rfl (tyX4_ok 2 (by decide)) ⟨rfl, fun _ => ⟨rfl, rfl⟩⟩ (by decide) dX4_init_23 ?_
  refine WB.L (L' := [(40, .inr (4, [.ref 41, .ref 42, .ref 43, .null, .null, .null, .int 0])), (41, .inl (0, 3, [])), (42, .inl (0, 6, [])), (43, .inl (0, 4, []))]) rfl ?_
  refine cb_aload_n C dX4_init_26 rfl ?_
  refine cb_bipush (v := 6) C dX4_init_27 (by decide) ?_
  refine cb_newa (q := 44) (t := 0) (N := 6) (atype := .int) (ty := .int) C rfl rfl (by decide) qw_50 rfl (fun _ _ => rfl) (fun _ _ => rfl) (fun _ _ => rfl) (by decide) (by decide) (Nat.le_of_ble_eq_true rfl) (Nat.le_of_ble_eq_true rfl) (Nat.le_of_ble_eq_true rfl) dX4_init_29 ?_
  refine WB.L (L' := [(40, .inr (4, [.ref 41, .ref 42, .ref 43, .null, .null, .null, .int 0])), (41, .inl (0, 3, [])), (42, .inl (0, 6, [])), (43, .inl (0, 4, [])), (44, .inl (0, 6, []))]) rfl ?_
  refine cb_putF (k0 := 0) (k := 3) (ty := tyX4 3) C hin2 rfl inlX4 tyX4_ok nmX4 rfl (by decide) qw_65 rfl rfl (tyX4_ok 3 (by decide)) ⟨rfl, fun _ => ⟨rfl, rfl⟩⟩ (by decide) dX4_init_31 ?_
  refine WB.L (L' := [(40, .inr (4, [.ref 41, .ref 42, .ref 43, .ref 44, .null, .null, .int 0])), (41, .inl (0, 3, [])), (42, .inl (0, 6, [])), (43, .inl (0, 4, [])), (44, .inl (0, 6, []))]) rfl ?_
  refine cb_aload_n C dX4_init_34 rfl ?_
  refine cb_bipush (v := 6) C dX4_init_35 (by decide) ?_
  refine cb_newa (q := 45) (t := 0) (N := 6) (atype := .int) (ty := .int) C rfl rfl (by decide) qw_50 rfl (fun _ _ => rfl) (fun _ _ => rfl) (fun _ _ => rfl) (by decide) (by decide) (Nat.le_of_ble_eq_true rfl) (Nat.le_of_ble_eq_true rfl) (Nat.le_of_ble_eq_true rfl) dX4_init_37 ?_
  refine WB.L (L' := [(40, .inr (4, [.ref 41, .ref 42, .ref 43, .ref 44, .null, .null, .int 0])), (41, .inl (0, 3, [])), (42, .inl (0, 6, [])), (43, .inl (0, 4, [])), (44, .inl (0, 6, [])), (45, .inl (0, 6, []))]) rfl ?_
  refine cb_putF (k0 := 0) (k := 4) (ty := tyX4 4) C hin2 rfl inlX4 tyX4_ok nmX4 rfl (by decide) qw_66 rfl rfl (tyX4_ok 4 (by decide)) ⟨rfl, fun _ => ⟨rfl, rfl⟩⟩ (by decide) dX4_init_39 ?_
  refine WB.L (L' := [(40, .inr (4, [.ref 41, .ref 42, .ref 43, .ref 44, .ref 45, .null, .int 0])), (41, .inl (0, 3, [])), (42, .inl (0, 6, [])), (43, .inl (0, 4, [])), (44, .inl (0, 6, [])), (45, .inl (0, 6, []))]) rfl ?_
  refine cb_aload_n C dX4_init_42 rfl ?_
  refine cb_bipush (v := 8) C dX4_init_43 (by decide) ?_
  refine cb_newa (q := 46) (t := 0) (N := 8) (atype := .int) (ty := .int) C rfl rfl (by decide) qw_50 rfl (fun _ _ => rfl) (fun _ _ => rfl) (fun _ _ => rfl) (by decide) (by decide) (Nat.le_of_ble_eq_true rfl) (Nat.le_of_ble_eq_true rfl) (Nat.le_of_ble_eq_true rfl) dX4_init_45 ?_
  refine WB.L (L' := [(40, .inr (4, [.ref 41, .ref 42, .ref 43, .ref 44, .ref 45, .null, .int 0])), (41, .inl (0, 3, [])), (42, .inl (0, 6, [])), (43, .inl (0, 4, [])), (44, .inl (0, 6, [])), (45, .inl (0, 6, [])), (46, .inl (0, 8, []))]) rfl ?_
  refine cb_putF (k0 := 0) (k := 5) (ty := tyX4 5) C hin2 rfl inlX4 tyX4_ok nmX4 rfl (by decide) qw_67 rfl rfl (tyX4_ok 5 (by decide)) ⟨rfl, fun _ => ⟨rfl, rfl⟩⟩ (by decide) dX4_init_47 ?_
  refine WB.L (L' := [(40, .inr (4, [.ref 41, .ref 42, .ref 43, .ref 44, .ref 45, .ref 46, .int 0])), (41, .inl (0, 3, [])), (42, .inl (0, 6, [])), (43, .inl (0, 4, [])), (44, .inl (0, 6, [])), (45, .inl (0, 6, [])), (46, .inl (0, 8, []))]) rfl ?_
  refine cb_aload_n C dX4_init_50 rfl ?_
  refine cb_iconst (v := 0) C dX4_init_51 (by decide) ?_
  refine cb_put (k0 := 0) (k := 6) (ty := tyX4 6) C rfl inlX4 tyX4_ok nmX4 rfl (by decide) qw_68 rfl (tyX4_ok 6 (by decide)) rfl rfl rfl (by decide) dX4_init_52 ?_
  refine WB.L (L' := [(40, .inr (4, [.ref 41, .ref 42, .ref 43, .ref 44, .ref 45, .ref 46, .int 0])), (41, .inl (0, 3, [])), (42, .inl (0, 6, [])), (43, .inl (0, 4, [])), (44, .inl (0, 6, [])), (45, .inl (0, 6, [])), (46, .inl (0, 8, []))]) rfl ?_
  exact cb_vret C hr hlk dX4_init_55
set_option maxRecDepth 100000 in
set_option maxHeartbeats 4000000 in
theorem hc_X5_35 : HC 1 11 373 yX5_init cX5_init 1 35 (.inr (5, [.null, .int 0, .int 0, .int 0, .int 0, .null, .null, .int 0, .int 0, .int 0, .int 0, .int 0, .int 0, .int 0, .int 0])) [(35, .inr (5, [.ref 36, .int 0, .int 0, .int 0, .int 0, .ref 37, .ref 40, .int 0, .int 0, .int 0, .int 0, .int 0, .int 0, .int 0, .int 0])), (36, .inl (1, 320, [])), (37, .inr (1, [.int 0, .int 4, .ref 38, .ref 39])), (38, .inl (0, 3, [])), (39, .inl (0, 6, [])), (40, .inr (4, [.ref 41, .ref 42, .ref 43, .ref 44, .ref 45, .ref 46, .int 0])), (41, .inl (0, 3, [])), (42, .inl (0, 6, [])), (43, .inl (0, 4, [])), (44, .inl (0, 6, [])), (45, .inl (0, 6, [])), (46, .inl (0, 8, []))] := by
  refine HC.of (by decide +kernel) (by decide) (fun C hin2 hr hlk => ?_)
  refine cb_aload_n C dX5_init_0 rfl ?_
  refine cb_objInit C qw_77 qw_11 qw_12 ⟨Nat.le_of_ble_eq_true rfl, Nat.le_of_ble_eq_true rfl⟩ dX5_init_1 ?_
  refine cb_aload_n C dX5_init_4 rfl ?_
  refine cb_sipush (v := 320) C dX5_init_5 (by decide) ?_
  refine cb_newa (q := 36) (t := 1) (N := 320) (atype := .byte) (ty := .byte) C rfl rfl (by decide) qw_78 rfl (fun _ _ => rfl) (fun _ _ => rfl) (fun _ _ => rfl) (by decide) (by decide) (Nat.le_of_ble_eq_true rfl) (Nat.le_of_ble_eq_true rfl) (Nat.le_of_ble_eq_true rfl) dX5_init_8 ?_
  refine WB.L (L' := [(35, .inr (5, [.null, .int 0, .int 0, .int 0, .int 0, .null, .null, .int 0, .int 0, .int 0, .int 0, .int 0, .int 0, .int 0, .int 0])), (36, .inl (1, 320, []))]) rfl ?_
  refine cb_putF (k0 := 0) (k := 0) (ty := tyX5 0) C hin2 rfl inlX5 tyX5_ok nmX5 rfl (by decide) qw_79 rfl rfl (tyX5_ok 0 (by decide)) ⟨rfl, fun _ => ⟨rfl, rfl⟩⟩ (by decide) dX5_init_10 ?_
  refine WB.L (L' := [(35, .inr (5, [.ref 36, .int 0, .int 0, .int 0, .int 0, .null, .null, .int 0, .int 0, .int 0, .int 0, .int 0, .int 0, .int 0, .int 0])), (36, .inl (1, 320, []))]) rfl ?_
  refine cb_aload_n C dX5_init_13 rfl ?_
  refine cb_iconst (v := 0) C dX5_init_14 (by decide) ?_
  refine cb_put (k0 := 0) (k := 1) (ty := tyX5 1) C rfl inlX5 tyX5_ok nmX5 rfl (by decide) qw_80 rfl (tyX5_ok 1 (by decide)) rfl rfl rfl (by decide) dX5_init_15 ?_
  refine WB.L (L' := [(35, .inr (5, [.ref 36, .int 0, .int 0, .int 0, .int 0, .null, .null, .int 0, .int 0, .int 0, .int 0, .int 0, .int 0, .int 0, .int 0])), (36, .inl (1, 320, []))]) rfl ?_
  refine cb_aload_n C dX5_init_18 rfl ?_
  refine cb_iconst (v := 0) C dX5_init_19 (by decide) ?_
  refine cb_put (k0 := 0) (k := 2) (ty := tyX5 2) C rfl inlX5 tyX5_ok nmX5 rfl (by decide) qw_81 rfl (tyX5_ok 2 (by decide)) rfl rfl rfl (by decide) dX5_init_20 ?_
  refine WB.L (L' := [(35, .inr (5, [.ref 36, .int 0, .int 0, .int 0, .int 0, .null, .null, .int 0, .int 0, .int 0, .int 0, .int 0, .int 0, .int 0, .int 0])), (36, .inl (1, 320, []))]) rfl ?_
  refine cb_aload_n C dX5_init_23 rfl ?_
  refine cb_iconst (v := 0) C dX5_init_24 (by decide) ?_
  refine cb_put (k0 := 0) (k := 3) (ty := tyX5 3) C rfl inlX5 tyX5_ok nmX5 rfl (by decide) qw_82 rfl (tyX5_ok 3 (by decide)) rfl rfl rfl (by decide) dX5_init_25 ?_
  refine WB.L (L' := [(35, .inr (5, [.ref 36, .int 0, .int 0, .int 0, .int 0, .null, .null, .int 0, .int 0, .int 0, .int 0, .int 0, .int 0, .int 0, .int 0])), (36, .inl (1, 320, []))]) rfl ?_
  refine cb_aload_n C dX5_init_28 rfl ?_
  refine cb_iconst (v := 0) C dX5_init_29 (by decide) ?_
  refine cb_put (k0 := 0) (k := 4) (ty := tyX5 4) C rfl inlX5 tyX5_ok nmX5 rfl (by decide) qw_83 rfl (tyX5_ok 4 (by decide)) rfl rfl rfl (by decide) dX5_init_30 ?_
  refine WB.L (L' := [(35, .inr (5, [.ref 36, .int 0, .int 0, .int 0, .int 0, .null, .null, .int 0, .int 0, .int 0, .int 0, .int 0, .int 0, .int 0, .int 0])), (36, .inl (1, 320, []))]) rfl ?_
  refine cb_aload_n C dX5_init_33 rfl ?_
  refine cb_new (q := 37) (ci := 1) C tyX1 [.int 0, .int 0, .null, .null] rfl (by decide) rfl inlX1 tyX1_ok qw_84 qw_14 qw_15 (by decide +kernel) rfl (Nat.le_of_ble_eq_true rfl) (Nat.le_of_ble_eq_true rfl) dX5_init_34 ?_
  refine cb_dup C dX5_init_37 rfl ?_
  refine cb_callN C (hc_X1_37) mc_X1 (C.2.2.2.2.2.2.1.2.1 (30, yX1_init) (List.mem_of_getElem? (i := 0) rfl)) ⟨Nat.le_of_ble_eq_true rfl, Nat.le_of_ble_eq_true rfl⟩ ⟨Nat.le_of_ble_eq_true rfl, Nat.le_of_ble_eq_true rfl⟩ (Nat.le_of_ble_eq_true rfl) dX5_init_38 (by decide) (by decide) ?_
  refine WB.L (L' := [(35, .inr (5, [.ref 36, .int 0, .int 0, .int 0, .int 0, .null, .null, .int 0, .int 0, .int 0, .int 0, .int 0, .int 0, .int 0, .int 0])), (36, .inl (1, 320, [])), (37, .inr (1, [.int 0, .int 4, .ref 38, .ref 39])), (38, .inl (0, 3, [])), (39, .inl (0, 6, []))]) rfl ?_
  refine cb_putF (k0 := 0) (k := 5) (ty := tyX5 5) C hin2 rfl inlX5 tyX5_ok nmX5 rfl (by decide) qw_85 rfl rfl (tyX5_ok 5 (by decide)) ⟨rfl, fun _ => ⟨rfl, rfl⟩⟩ (by decide) dX5_init_41 ?_
  refine WB.L (L' := [(35, .inr (5, [.ref 36, .int 0, .int 0, .int 0, .int 0, .ref 37, .null, .int 0, .int 0, .int 0, .int 0, .int 0, .int 0, .int 0, .int 0])), (36, .inl (1, 320, [])), (37, .inr (1, [.int 0, .int 4, .ref 38, .ref 39])), (38, .inl (0, 3, [])), (39, .inl (0, 6, []))]) rfl ?_
  refine cb_aload_n C dX5_init_44 rfl ?_
  refine cb_new (q := 40) (ci := 4) C tyX4 [.null, .null, .null, .null, .null, .null, .int 0] rfl (by decide) rfl inlX4 tyX4_ok qw_86 qw_18 qw_19 (by decide +kernel) rfl (Nat.le_of_ble_eq_true rfl) (Nat.le_of_ble_eq_true rfl) dX5_init_45 ?_
  refine cb_dup C dX5_init_48 rfl ?_
  refine cb_callN C (hc_X4_40) mc_X4 (C.2.2.2.2.2.2.1.2.1 (37, yX4_init) (List.mem_of_getElem? (i := 1) rfl)) ⟨Nat.le_of_ble_eq_true rfl, Nat.le_of_ble_eq_true rfl⟩ ⟨Nat.le_of_ble_eq_true rfl, Nat.le_of_ble_eq_true rfl⟩ (Nat.le_of_ble_eq_true rfl) dX5_init_49 (by decide) (by decide) ?_
  refine WB.L (L' := [(35, .inr (5, [.ref 36, .int 0, .int 0, .int 0, .int 0, .ref 37, .null, .int 0, .int 0, .int 0, .int 0, .int 0, .int 0, .int 0, .int 0])), (36, .inl (1, 320, [])), (37, .inr (1, [.int 0, .int 4, .ref 38, .ref 39])), (38, .inl (0, 3, [])), (39, .inl (0, 6, [])), (40, .inr (4, [.ref 41, .ref 42, .ref 43, .ref 44, .ref 45, .ref 46, .int 0])), (41, .inl (0, 3, [])), (42, .inl (0, 6, [])), (43, .inl (0, 4, [])), (44, .inl (0, 6, [])), (45, .inl (0, 6, [])), (46, .inl (0, 8, []))]) rfl ?_
  refine cb_putF (k0 := 0) (k := 6) (ty := tyX5 6) C hin2 rfl inlX5 tyX5_ok nmX5 rfl (by decide) qw_87 rfl rfl (tyX5_ok 6 (by decide)) ⟨rfl, fun _ => ⟨rfl, rfl⟩⟩ (by decide) dX5_init_52 ?_
  refine WB.L (L' := [(35, .inr (5, [.ref 36, .int 0, .int 0, .int 0, .int 0, .ref 37, .ref 40, .int 0, .int 0, .int 0, .int 0, .int 0, .int 0, .int 0, .int 0])), (36, .inl (1, 320, [])), (37, .inr (1, [.int 0, .int 4, .ref 38, .ref 39])), (38, .inl (0, 3, [])), (39, .inl (0, 6, [])), (40, .inr (4, [.ref 41, .ref 42, .ref 43, .ref 44, .ref 45, .ref 46, .int 0])), (41, .inl (0, 3, [])), (42, .inl (0, 6, [])), (43, .inl (0, 4, [])), (44, .inl (0, 6, [])), (45, .inl (0, 6, [])), (46, .inl (0, 8, []))]) rfl ?_
  refine cb_aload_n C dX5_init_55 rfl ?_
  refine cb_iconst (v := 0) C dX5_init_56 (by decide) ?_
  refine cb_put (k0 := 0) (k := 7) (ty := tyX5 7) C rfl inlX5 tyX5_ok nmX5 rfl (by decide) qw_88 rfl (tyX5_ok 7 (by decide)) rfl rfl rfl (by decide) dX5_init_57 ?_
  refine WB.L (L' := [(35, .inr (5, [.ref 36, .int 0, .int 0, .int 0, .int 0, .ref 37, .ref 40, .int 0, .int 0, .int 0, .int 0, .int 0, .int 0, .int 0, .int 0])), (36, .inl (1, 320, [])), (37, .inr (1, [.int 0, .int 4, .ref 38, .ref 39])), (38, .inl (0, 3, [])), (39, .inl (0, 6, [])), (40, .inr (4, [.ref 41, .ref 42, .ref 43, .ref 44, .ref 45, .ref 46, .int 0])), (41, .inl (0, 3, [])), (42, .inl (0, 6, [])), (43, .inl (0, 4, [])), (44, .inl (0, 6, [])), (45, .inl (0, 6, [])), (46, .inl (0, 8, []))]) rfl ?_
  refine cb_aload_n C dX5_init_60 rfl ?_
  refine cb_iconst (v := 0) C dX5_init_61 (by decide) ?_
  refine cb_put (k0 := 0) (k := 8) (ty := tyX5 8) C rfl inlX5 tyX5_ok nmX5 rfl (by decide) qw_89 rfl (tyX5_ok 8 (by decide)) rfl rfl rfl (by decide) dX5_init_62 ?_
  refine WB.L (L' := [(35, .inr (5, [.ref 36, .int 0, .int 0, .int 0, .int 0, .ref 37, .ref 40, .int 0, .int 0, .int 0, .int 0, .int 0, .int 0, .int 0, .int 0])), (36, .inl (1, 320, [])), (37, .inr (1, [.int 0, .int 4, .ref 38, .ref 39])), (38, .inl (0, 3, [])), (39, .inl (0, 6, [])), (40, .inr (4, [.ref 41, .ref 42, .ref 43, .ref 44, .ref 45, .ref 46, .int 0])), (41, .inl (0, 3, [])), (42, .inl (0, 6, [])), (43, .inl (0, 4, [])), (44, .inl (0, 6, [])), (45, .inl (0, 6, [])), (46, .inl (0, 8, []))]) rfl ?_
  refine cb_aload_n C dX5_init_65 rfl ?_
  refine cb_iconst (v := 0) C dX5_init_66 (by decide) ?_
  refine cb_put (k0 := 0) (k := 9) (ty := tyX5 9) C rfl inlX5 tyX5_ok nmX5 rfl (by decide) qw_90 rfl (tyX5_ok 9 (by decide)) rfl rfl rfl (by decide) dX5_init_67 ?_
  refine WB.L (L' := [(35, .inr (5, [.ref 36, .int 0, .int 0, .int 0, .int 0, .ref 37, .ref 40, .int 0, .int 0, .int 0, .int 0, .int 0, .int 0, .int 0, .int 0])), (36, .inl (1, 320, [])), (37, .inr (1, [.int 0, .int 4, .ref 38, .ref 39])), (38, .inl (0, 3, [])), (39, .inl (0, 6, [])), (40, .inr (4, [.ref 41, .ref 42, .ref 43, .ref 44, .ref 45, .ref 46, .int 0])), (41, .inl (0, 3, [])), (42, .inl (0, 6, [])), (43, .inl (0, 4, [])), (44, .inl (0, 6, [])), (45, .inl (0, 6, [])), (46, .inl (0, 8, []))]) rfl ?_
  refine cb_aload_n C dX5_init_70 rfl ?_
  refine cb_iconst (v := 0) C dX5_init_71 (by decide) ?_
  refine cb_put (k0 := 0) (k := 10) (ty := tyX5 10) C rfl inlX5 tyX5_ok nmX5 rfl (by decide) qw_91 rfl (tyX5_ok 10 (by decide)) rfl rfl rfl (by decide) dX5_init_72 ?_
  refine WB.L (L' := [(35, .inr (5, [.ref 36, .int 0, .int 0, .int 0, .int 0, .ref 37, .ref 40, .int 0, .int 0, .int 0, .int 0, .int 0, .int 0, .int 0, .int 0])), (36, .inl (1, 320, [])), (37, .inr (1, [.int 0, .int 4, .ref 38, .ref 39])), (38, .inl (0, 3, [])), (39, .inl (0, 6, [])), (40, .inr (4, [.ref 41, .ref 42, .ref 43, .ref 44, .ref 45, .ref 46, .int 0])), (41, .inl (0, 3, [])), (42, .inl (0, 6, [])), (43, .inl (0, 4, [])), (44, .inl (0, 6, [])), (45, .inl (0, 6, [])), (46, .inl (0, 8, []))]) rfl ?_
  refine cb_aload_n C dX5_init_75 rfl ?_
  refine cb_iconst (v := 0) C dX5_init_76 (by decide) ?_
  refine cb_put (k0 := 0) (k := 11) (ty := tyX5 11) C rfl inlX5 tyX5_ok nmX5 rfl (by decide) qw_92 rfl (tyX5_ok 11 (by decide)) rfl rfl rfl (by decide) dX5_init_77 ?_
  refine WB.L (L' := [(35, .inr (5, [.ref 36, .int 0, .int 0, .int 0, .int 0, .ref 37, .ref 40, .int 0, .int 0, .int 0, .int 0, .int 0, .int 0, .int 0, .int 0])), (36, .inl (1, 320, [])), (37, .inr (1, [.int 0, .int 4, .ref 38, .ref 39])), (38, .inl (0, 3, [])), (39, .inl (0, 6, [])), (40, .inr (4, [.ref 41, .ref 42, .ref 43, .ref 44, .ref 45, .ref 46, .int 0])), (41, .inl (0, 3, [])), (42, .inl (0, 6, [])), (43, .inl (0, 4, [])), (44, .inl (0, 6, [])), (45, .inl (0, 6, [])), (46, .inl (0, 8, []))]) rfl ?_
  refine cb_aload_n C dX5_init_80 rfl ?_
  refine cb_iconst (v := 0) C dX5_init_81 (by decide) ?_
  refine cb_put (k0 := 0) (k := 12) (ty := tyX5 12) C rfl inlX5 tyX5_ok nmX5 rfl (by decide) qw_93 rfl (tyX5_ok 12 (by decide)) rfl rfl rfl (by decide) dX5_init_82 ?_
  refine WB.L (L' := [(35, .inr (5, [.ref 36, .int 0, .int 0, .int 0, .int 0, .ref 37, .ref 40, .int 0, .int 0, .int 0, .int 0, .int 0, .int 0, .int 0, .int 0])), (36, .inl (1, 320, [])), (37, .inr (1, [.int 0, .int 4, .ref 38, .ref 39])), (38, .inl (0, 3, [])), (39, .inl (0, 6, [])), (40, .inr (4, [.ref 41, .ref 42, .ref 43, .ref 44, .ref 45, .ref 46, .int 0])), (41, .inl (0, 3, [])), (42, .inl (0, 6, [])), (43, .inl (0, 4, [])), (44, .inl (0, 6, [])), (45, .inl (0, 6, [])), (46, .inl (0, 8, []))]) rfl ?_
  refine cb_aload_n C dX5_init_85 rfl ?_
  refine cb_iconst (v := 0) C dX5_init_86 (by decide) ?_
  refine cb_put (k0 := 0) (k := 13) (ty := tyX5 13) C rfl inlX5 tyX5_ok nmX5 rfl (by decide) qw_94 rfl (tyX5_ok 13 (by decide)) rfl rfl rfl (by decide) dX5_init_87 ?_
  refine WB.L (L' := [(35, .inr (5, [.ref 36, .int 0, .int 0, .int 0, .int 0, .ref 37, .ref 40, .int 0, .int 0, .int 0, .int 0, .int 0, .int 0, .int 0, .int 0])), (36, .inl (1, 320, [])), (37, .inr (1, [.int 0, .int 4, .ref 38, .ref 39])), (38, .inl (0, 3, [])), (39, .inl (0, 6, [])), (40, .inr (4, [.ref 41, .ref 42, .ref 43, .ref 44, .ref 45, .ref 46, .int 0])), (41, .inl (0, 3, [])), (42, .inl (0, 6, [])), (43, .inl (0, 4, [])), (44, .inl (0, 6, [])), (45, .inl (0, 6, [])), (46, .inl (0, 8, []))]) rfl ?_
  refine cb_aload_n C dX5_init_90 rfl ?_
  refine cb_iconst (v := 0) C dX5_init_91 (by decide) ?_
  refine cb_put (k0 := 0) (k := 14) (ty := tyX5 14) C rfl inlX5 tyX5_ok nmX5 rfl (by decide) qw_95 rfl (tyX5_ok 14 (by decide)) rfl rfl rfl (by decide) dX5_init_92 ?_
  refine WB.L (L' := [(35, .inr (5, [.ref 36, .int 0, .int 0, .int 0, .int 0, .ref 37, .ref 40, .int 0, .int 0, .int 0, .int 0, .int 0, .int 0, .int 0, .int 0])), (36, .inl (1, 320, [])), (37, .inr (1, [.int 0, .int 4, .ref 38, .ref 39])), (38, .inl (0, 3, [])), (39, .inl (0, 6, [])), (40, .inr (4, [.ref 41, .ref 42, .ref 43, .ref 44, .ref 45, .ref 46, .int 0])), (41, .inl (0, 3, [])), (42, .inl (0, 6, [])), (43, .inl (0, 4, [])), (44, .inl (0, 6, [])), (45, .inl (0, 6, [])), (46, .inl (0, 8, []))]) rfl ?_
  exact cb_vret C hr hlk dX5_init_95
set_option maxRecDepth 100000 in
set_option maxHeartbeats 4000000 in
theorem hc_X7_47 : HC 0 1 6 yX7_init cX7_init 1 47 (.inr (7, [.null, .int 0, .int 0, .int 0])) [(47, .inr (7, [.ref 48, .int 0, .int 0, .int 0])), (48, .inl (0, 6, []))] := by
  refine HC.of (by decide +kernel) (by decide) (fun C hin2 hr hlk => ?_)
  refine cb_aload_n C dX7_init_0 rfl ?_
  refine cb_objInit C qw_98 qw_11 qw_12 ⟨Nat.le_of_ble_eq_true rfl, Nat.le_of_ble_eq_true rfl⟩ dX7_init_1 ?_
  refine cb_aload_n C dX7_init_4 rfl ?_
  refine cb_bipush (v := 6) C dX7_init_5 (by decide) ?_
  refine cb_newa (q := 48) (t := 0) (N := 6) (atype := .int) (ty := .int) C rfl rfl (by decide) qw_50 rfl (fun _ _ => rfl) (fun _ _ => rfl) (fun _ _ => rfl) (by decide) (by decide) (Nat.le_of_ble_eq_true rfl) (Nat.le_of_ble_eq_true rfl) (Nat.le_of_ble_eq_true rfl) dX7_init_7 ?_
  refine WB.L (L' := [(47, .inr (7, [.null, .int 0, .int 0, .int 0])), (48, .inl (0, 6, []))]) rfl ?_
  refine cb_putF (k0 := 0) (k := 0) (ty := tyX7 0) C hin2 rfl inlX7 tyX7_ok nmX7 rfl (by decide) qw_99 rfl rfl (tyX7_ok 0 (by decide)) ⟨rfl, fun _ => ⟨rfl, rfl⟩⟩ (by decide) dX7_init_9 ?_
  refine WB.L (L' := [(47, .inr (7, [.ref 48, .int 0, .int 0, .int 0])), (48, .inl (0, 6, []))]) rfl ?_
  refine cb_aload_n C dX7_init_12 rfl ?_
  refine cb_iconst (v := 0) C dX7_init_13 (by decide) ?_
  refine cb_put (k0 := 0) (k := 1) (ty := tyX7 1) C rfl inlX7 tyX7_ok nmX7 rfl (by decide) qw_100 rfl (tyX7_ok 1 (by decide)) rfl rfl rfl (by decide) dX7_init_14 ?_
  refine WB.L (L' := [(47, .inr (7, [.ref 48, .int 0, .int 0, .int 0])), (48, .inl (0, 6, []))]) rfl ?_
  refine cb_aload_n C dX7_init_17 rfl ?_
  refine cb_iconst (v := 0) C dX7_init_18 (by decide) ?_
  refine cb_put (k0 := 0) (k := 2) (ty := tyX7 2) C rfl inlX7 tyX7_ok nmX7 rfl (by decide) qw_101 rfl (tyX7_ok 2 (by decide)) rfl rfl rfl (by decide) dX7_init_19 ?_
  refine WB.L (L' := [(47, .inr (7, [.ref 48, .int 0, .int 0, .int 0])), (48, .inl (0, 6, []))]) rfl ?_
  refine cb_aload_n C dX7_init_22 rfl ?_
  refine cb_iconst (v := 0) C dX7_init_23 (by decide) ?_
  refine cb_put (k0 := 0) (k := 3) (ty := tyX7 3) C rfl inlX7 tyX7_ok nmX7 rfl (by decide) qw_102 rfl (tyX7_ok 3 (by decide)) rfl rfl rfl (by decide) dX7_init_24 ?_
  refine WB.L (L' := [(47, .inr (7, [.ref 48, .int 0, .int 0, .int 0])), (48, .inl (0, 6, []))]) rfl ?_
  exact cb_vret C hr hlk dX7_init_27
set_option maxRecDepth 100000 in
set_option maxHeartbeats 4000000 in
theorem hc_X2_49 : HC 0 1 6 yX2_init cX2_init 1 49 (.inr (2, [.null, .int 0])) [(49, .inr (2, [.ref 50, .int 0])), (50, .inl (0, 6, []))] := by
  refine HC.of (by decide +kernel) (by decide) (fun C hin2 hr hlk => ?_)
  refine cb_aload_n C dX2_init_0 rfl ?_
  refine cb_objInit C qw_105 qw_11 qw_12 ⟨Nat.le_of_ble_eq_true rfl, Nat.le_of_ble_eq_true rfl⟩ dX2_init_1 ?_
  refine cb_aload_n C dX2_init_4 rfl ?_
  refine cb_bipush (v := 6) C dX2_init_5 (by decide) ?_
  refine cb_newa (q := 50) (t := 0) (N := 6) (atype := .int) (ty := .int) C rfl rfl (by decide) qw_50 rfl (fun _ _ => rfl) (fun _ _ => rfl) (fun _ _ => rfl) (by decide) (by decide) (Nat.le_of_ble_eq_true rfl) (Nat.le_of_ble_eq_true rfl) (Nat.le_of_ble_eq_true rfl) dX2_init_7 ?_
  refine WB.L (L' := [(49, .inr (2, [.null, .int 0])), (50, .inl (0, 6, []))]) rfl ?_
  refine cb_putF (k0 := 0) (k := 0) (ty := tyX2 0) C hin2 rfl inlX2 tyX2_ok nmX2 rfl (by decide) qw_106 rfl rfl (tyX2_ok 0 (by decide)) ⟨rfl, fun _ => ⟨rfl, rfl⟩⟩ (by decide) dX2_init_9 ?_
  refine WB.L (L' := [(49, .inr (2, [.ref 50, .int 0])), (50, .inl (0, 6, []))]) rfl ?_
  refine cb_aload_n C dX2_init_12 rfl ?_
  refine cb_iconst (v := 0) C dX2_init_13 (by decide) ?_
  refine cb_put (k0 := 0) (k := 1) (ty := tyX2 1) C rfl inlX2 tyX2_ok nmX2 rfl (by decide) qw_107 rfl (tyX2_ok 1 (by decide)) rfl rfl rfl (by decide) dX2_init_14 ?_
  refine WB.L (L' := [(49, .inr (2, [.ref 50, .int 0])), (50, .inl (0, 6, []))]) rfl ?_
  exact cb_vret C hr hlk dX2_init_17
set_option maxRecDepth 100000 in
set_option maxHeartbeats 4000000 in
theorem hc_X3_51 : HC 0 5 409 yX3_init cX3_init 1 51 (.inr (3, [.null, .int 0, .int 0, .int 0, .int 0, .null, .null, .null, .null])) [(51, .inr (3, [.ref 52, .int 0, .int 0, .int 0, .int 1, .ref 53, .ref 54, .ref 55, .ref 56])), (52, .inl (0, 6, [])), (53, .inl (0, 6, [])), (54, .inl (0, 7, [])), (55, .inl (0, 6, [])), (56, .inl (3, 384, []))] := by
  refine HC.of (by decide +kernel) (by decide) (fun C hin2 hr hlk => ?_)
  refine cb_aload_n C dX3_init_0 rfl ?_
  refine cb_objInit C qw_110 qw_11 qw_12 ⟨Nat.le_of_ble_eq_true rfl, Nat.le_of_ble_eq_true rfl⟩ dX3_init_1 ?_
  refine cb_aload_n C dX3_init_4 rfl ?_
  refine cb_bipush (v := 6) C dX3_init_5 (by decide) ?_
  refine cb_newa (q := 52) (t := 0) (N := 6) (atype := .int) (ty := .int) C rfl rfl (by decide) qw_50 rfl (fun _ _ => rfl) (fun _ _ => rfl) (fun _ _ => rfl) (by decide) (by decide) (Nat.le_of_ble_eq_true rfl) (Nat.le_of_ble_eq_true rfl) (Nat.le_of_ble_eq_true rfl) dX3_init_7 ?_
  refine WB.L (L' := [(51, .inr (3, [.null, .int 0, .int 0, .int 0, .int 0, .null, .null, .null, .null])), (52, .inl (0, 6, []))]) rfl ?_
  refine cb_putF (k0 := 0) (k := 0) (ty := tyX3 0) C hin2 rfl inlX3 tyX3_ok nmX3 rfl (by decide) qw_111 rfl rfl (tyX3_ok 0 (by decide)) ⟨rfl, fun _ => ⟨rfl, rfl⟩⟩ (by decide) dX3_init_9 ?_
  refine WB.L (L' := [(51, .inr (3, [.ref 52, .int 0, .int 0, .int 0, .int 0, .null, .null, .null, .null])), (52, .inl (0, 6, []))]) rfl ?_
  refine cb_aload_n C dX3_init_12 rfl ?_
  refine cb_iconst (v := 0) C dX3_init_13 (by decide) ?_
  refine cb_put (k0 := 0) (k := 1) (ty := tyX3 1) C rfl inlX3 tyX3_ok nmX3 rfl (by decide) qw_112 rfl (tyX3_ok 1 (by decide)) rfl rfl rfl (by decide) dX3_init_14 ?_
  refine WB.L (L' := [(51, .inr (3, [.ref 52, .int 0, .int 0, .int 0, .int 0, .null, .null, .null, .null])), (52, .inl (0, 6, []))]) rfl ?_
  refine cb_aload_n C dX3_init_17 rfl ?_
  refine cb_iconst (v := 0) C dX3_init_18 (by decide) ?_
  refine cb_put (k0 := 0) (k := 2) (ty := tyX3 2) C rfl inlX3 tyX3_ok nmX3 rfl (by decide) qw_113 rfl (tyX3_ok 2 (by decide)) rfl rfl rfl (by decide) dX3_init_19 ?_
  refine WB.L (L' := [(51, .inr (3, [.ref 52, .int 0, .int 0, .int 0, .int 0, .null, .null, .null, .null])), (52, .inl (0, 6, []))]) rfl ?_
  refine cb_aload_n C dX3_init_22 rfl ?_
  refine cb_iconst (v := 0) C dX3_init_23 (by decide) ?_
  refine cb_put (k0 := 0) (k := 3) (ty := tyX3 3) C rfl inlX3 tyX3_ok nmX3 rfl (by decide) qw_114 rfl (tyX3_ok 3 (by decide)) rfl rfl rfl (by decide) dX3_init_24 ?_
  refine WB.L (L' := [(51, .inr (3, [.ref 52, .int 0, .int 0, .int 0, .int 0, .null, .null, .null, .null])), (52, .inl (0, 6, []))]) rfl ?_
  refine cb_aload_n C dX3_init_27 rfl ?_
  refine cb_iconst (v := 1) C dX3_init_28 (by decide) ?_
  refine cb_put (k0 := 0) (k := 4) (ty := tyX3 4) C rfl inlX3 tyX3_ok nmX3 rfl (by decide) qw_115 rfl (tyX3_ok 4 (by decide)) rfl rfl rfl (by decide) dX3_init_29 ?_
  refine WB.L (L' := [(51, .inr (3, [.ref 52, .int 0, .int 0, .int 0, .int 1, .null, .null, .null, .null])), (52, .inl (0, 6, []))]) rfl ?_
  refine cb_aload_n C dX3_init_32 rfl ?_
  refine cb_bipush (v := 6) C dX3_init_33 (by decide) ?_
  refine cb_newa (q := 53) (t := 0) (N := 6) (atype := .int) (ty := .int) C rfl rfl (by decide) qw_50 rfl (fun _ _ => rfl) (fun _ _ => rfl) (fun _ _ => rfl) (by decide) (by decide) (Nat.le_of_ble_eq_true rfl) (Nat.le_of_ble_eq_true rfl) (Nat.le_of_ble_eq_true rfl) dX3_init_35 ?_
  refine WB.L (L' := [(51, .inr (3, [.ref 52, .int 0, .int 0, .int 0, .int 1, .null, .null, .null, .null])), (52, .inl (0, 6, [])), (53, .inl (0, 6, []))]) rfl ?_
  refine cb_putF (k0 := 0) (k := 5) (ty := tyX3 5) C hin2 rfl inlX3 tyX3_ok nmX3 rfl (by decide) qw_116 rfl rfl (tyX3_ok 5 (by decide)) ⟨rfl, fun _ => ⟨rfl, rfl⟩⟩ (by decide) dX3_init_37 ?_
  refine WB.L (L' := [(51, .inr (3, [.ref 52, .int 0, .int 0, .int 0, .int 1, .ref 53, .null, .null, .null])), (52, .inl (0, 6, [])), (53, .inl (0, 6, []))]) rfl ?_
  refine cb_aload_n C dX3_init_40 rfl ?_
  refine cb_bipush (v := 7) C dX3_init_41 (by decide) ?_
  refine cb_newa (q := 54) (t := 0) (N := 7) (atype := .int) (ty := .int) C rfl rfl (by decide) qw_50 rfl (fun _ _ => rfl) (fun _ _ => rfl) (fun _ _ => rfl) (by decide) (by decide) (Nat.le_of_ble_eq_true rfl) (Nat.le_of_ble_eq_true rfl) (Nat.le_of_ble_eq_true rfl) dX3_init_43 ?_
  refine WB.L (L' := [(51, .inr (3, [.ref 52, .int 0, .int 0, .int 0, .int 1, .ref 53, .null, .null, .null])), (52, .inl (0, 6, [])), (53, .inl (0, 6, [])), (54, .inl (0, 7, []))]) rfl ?_
  refine cb_putF (k0 := 0) (k := 6) (ty := tyX3 6) C hin2 rfl inlX3 tyX3_ok nmX3 rfl (by decide) qw_117 rfl rfl (tyX3_ok 6 (by decide)) ⟨rfl, fun _ => ⟨rfl, rfl⟩⟩ (by decide) dX3_init_45 ?_
  refine WB.L (L' := [(51, .inr (3, [.ref 52, .int 0, .int 0, .int 0, .int 1, .ref 53, .ref 54, .null, .null])), (52, .inl (0, 6, [])), (53, .inl (0, 6, [])), (54, .inl (0, 7, []))]) rfl ?_
  refine cb_aload_n C dX3_init_48 rfl ?_
  refine cb_bipush (v := 6) C dX3_init_49 (by decide) ?_
  refine cb_newa (q := 55) (t := 0) (N := 6) (atype := .int) (ty := .int) C rfl rfl (by decide) qw_50 rfl (fun _ _ => rfl) (fun _ _ => rfl) (fun _ _ => rfl) (by decide) (by decide) (Nat.le_of_ble_eq_true rfl) (Nat.le_of_ble_eq_true rfl) (Nat.le_of_ble_eq_true rfl) dX3_init_51 ?_
  refine WB.L (L' := [(51, .inr (3, [.ref 52, .int 0, .int 0, .int 0, .int 1, .ref 53, .ref 54, .null, .null])), (52, .inl (0, 6, [])), (53, .inl (0, 6, [])), (54, .inl (0, 7, [])), (55, .inl (0, 6, []))]) rfl ?_
  refine cb_putF (k0 := 0) (k := 7) (ty := tyX3 7) C hin2 rfl inlX3 tyX3_ok nmX3 rfl (by decide) qw_118 rfl rfl (tyX3_ok 7 (by decide)) ⟨rfl, fun _ => ⟨rfl, rfl⟩⟩ (by decide) dX3_init_53 ?_
  refine WB.L (L' := [(51, .inr (3, [.ref 52, .int 0, .int 0, .int 0, .int 1, .ref 53, .ref 54, .ref 55, .null])), (52, .inl (0, 6, [])), (53, .inl (0, 6, [])), (54, .inl (0, 7, [])), (55, .inl (0, 6, []))]) rfl ?_
  refine cb_aload_n C dX3_init_56 rfl ?_
  refine cb_sipush (v := 384) C dX3_init_57 (by decide) ?_
  refine cb_newa (q := 56) (t := 3) (N := 384) (atype := .long) (ty := .long) C rfl rfl (by decide) qw_119 rfl (fun _ _ => rfl) (fun _ _ => rfl) (fun _ _ => rfl) (by decide) (by decide) (Nat.le_of_ble_eq_true rfl) (Nat.le_of_ble_eq_true rfl) (Nat.le_of_ble_eq_true rfl) dX3_init_60 ?_
  refine WB.L (L' := [(51, .inr (3, [.ref 52, .int 0, .int 0, .int 0, .int 1, .ref 53, .ref 54, .ref 55, .null])), (52, .inl (0, 6, [])), (53, .inl (0, 6, [])), (54, .inl (0, 7, [])), (55, .inl (0, 6, [])), (56, .inl (3, 384, []))]) rfl ?_
  refine cb_putF (k0 := 0) (k := 8) (ty := tyX3 8) C hin2 rfl inlX3 tyX3_ok nmX3 rfl (by decide) qw_120 rfl rfl (tyX3_ok 8 (by decide)) ⟨rfl, fun _ => ⟨rfl, rfl⟩⟩ (by decide) dX3_init_62 ?_
  refine WB.L (L' := [(51, .inr (3, [.ref 52, .int 0, .int 0, .int 0, .int 1, .ref 53, .ref 54, .ref 55, .ref 56])), (52, .inl (0, 6, [])), (53, .inl (0, 6, [])), (54, .inl (0, 7, [])), (55, .inl (0, 6, [])), (56, .inl (3, 384, []))]) rfl ?_
  exact cb_vret C hr hlk dX3_init_65
set_option maxRecDepth 100000 in
set_option maxHeartbeats 4000000 in
theorem hc_X0_57 : HC 0 1 3 yX0_init cX0_init 1 57 (.inr (0, [.null, .int 0])) [(57, .inr (0, [.ref 58, .int 0])), (58, .inl (0, 3, []))] := by
  refine HC.of (by decide +kernel) (by decide) (fun C hin2 hr hlk => ?_)
  refine cb_aload_n C dX0_init_0 rfl ?_
  refine cb_objInit C qw_123 qw_11 qw_12 ⟨Nat.le_of_ble_eq_true rfl, Nat.le_of_ble_eq_true rfl⟩ dX0_init_1 ?_
  refine cb_aload_n C dX0_init_4 rfl ?_
  refine cb_iconst (v := 3) C dX0_init_5 (by decide) ?_
  refine cb_newa (q := 58) (t := 0) (N := 3) (atype := .int) (ty := .int) C rfl rfl (by decide) qw_50 rfl (fun _ _ => rfl) (fun _ _ => rfl) (fun _ _ => rfl) (by decide) (by decide) (Nat.le_of_ble_eq_true rfl) (Nat.le_of_ble_eq_true rfl) (Nat.le_of_ble_eq_true rfl) dX0_init_6 ?_
  refine WB.L (L' := [(57, .inr (0, [.null, .int 0])), (58, .inl (0, 3, []))]) rfl ?_
  refine cb_putF (k0 := 0) (k := 0) (ty := tyX0 0) C hin2 rfl inlX0 tyX0_ok nmX0 rfl (by decide) qw_124 rfl rfl (tyX0_ok 0 (by decide)) ⟨rfl, fun _ => ⟨rfl, rfl⟩⟩ (by decide) dX0_init_8 ?_
  refine WB.L (L' := [(57, .inr (0, [.ref 58, .int 0])), (58, .inl (0, 3, []))]) rfl ?_
  refine cb_aload_n C dX0_init_11 rfl ?_
  refine cb_iconst (v := 0) C dX0_init_12 (by decide) ?_
  refine cb_put (k0 := 0) (k := 1) (ty := tyX0 1) C rfl inlX0 tyX0_ok nmX0 rfl (by decide) qw_125 rfl (tyX0_ok 1 (by decide)) rfl rfl rfl (by decide) dX0_init_13 ?_
  refine WB.L (L' := [(57, .inr (0, [.ref 58, .int 0])), (58, .inl (0, 3, []))]) rfl ?_
  exact cb_vret C hr hlk dX0_init_16
set_option maxRecDepth 100000 in
set_option maxHeartbeats 4000000 in
theorem hc_X8_59 : HC 0 1 4 yX8_init cX8_init 1 59 (.inr (8, [.null, .long 0])) [(59, .inr (8, [.ref 60, .long 1])), (60, .inl (3, 4, []))] := by
  refine HC.of (by decide +kernel) (by decide) (fun C hin2 hr hlk => ?_)
  refine cb_aload_n C dX8_init_0 rfl ?_
  refine cb_objInit C qw_128 qw_11 qw_12 ⟨Nat.le_of_ble_eq_true rfl, Nat.le_of_ble_eq_true rfl⟩ dX8_init_1 ?_
  refine cb_aload_n C dX8_init_4 rfl ?_
  refine cb_iconst (v := 4) C dX8_init_5 (by decide) ?_
  refine cb_newa (q := 60) (t := 3) (N := 4) (atype := .long) (ty := .long) C rfl rfl (by decide) qw_119 rfl (fun _ _ => rfl) (fun _ _ => rfl) (fun _ _ => rfl) (by decide) (by decide) (Nat.le_of_ble_eq_true rfl) (Nat.le_of_ble_eq_true rfl) (Nat.le_of_ble_eq_true rfl) dX8_init_6 ?_
  refine WB.L (L' := [(59, .inr (8, [.null, .long 0])), (60, .inl (3, 4, []))]) rfl ?_
  refine cb_putF (k0 := 0) (k := 0) (ty := tyX8 0) C hin2 rfl inlX8 tyX8_ok nmX8 rfl (by decide) qw_129 rfl rfl (tyX8_ok 0 (by decide)) ⟨rfl, fun _ => ⟨rfl, rfl⟩⟩ (by decide) dX8_init_8 ?_
  refine WB.L (L' := [(59, .inr (8, [.ref 60, .long 0])), (60, .inl (3, 4, []))]) rfl ?_
  refine cb_aload_n C dX8_init_11 rfl ?_
  refine cb_lconst (v := 1) C dX8_init_12 (by decide) ?_
  refine cb_put (k0 := 0) (k := 1) (ty := tyX8 1) C rfl inlX8 tyX8_ok nmX8 rfl (by decide) qw_130 rfl (tyX8_ok 1 (by decide)) rfl rfl rfl (by decide) dX8_init_13 ?_
  refine WB.L (L' := [(59, .inr (8, [.ref 60, .long 1])), (60, .inl (3, 4, []))]) rfl ?_
  exact cb_vret C hr hlk dX8_init_16
set_option maxRecDepth 100000 in
set_option maxHeartbeats 4000000 in
theorem hc_X9_0 : HC 2 61 1149 yX9_init cX9_init 1 0 (.inr (9, [.null, .null, .null, .int 0, .null, .int 0, .null, .null, .null, .null, .null, .null, .null])) [(0, .inr (9, [.ref 1, .ref 4, .ref 11, .int 0, .ref 26, .int 0, .ref 35, .ref 47, .ref 49, .ref 51, .ref 57, .ref 59, .ref 61])), (1, .inr (1, [.int 0, .int 4, .ref 2, .ref 3])), (2, .inl (0, 3, [])), (3, .inl (0, 6, [])), (4, .inr (4, [.ref 5, .ref 6, .ref 7, .ref 8, .ref 9, .ref 10, .int 0])), (5, .inl (0, 3, [])), (6, .inl (0, 6, [])), (7, .inl (0, 4, [])), (8, .inl (0, 6, [])), (9, .inl (0, 6, [])), (10, .inl (0, 8, [])), (11, .inl (4, 2, [some 12, some 19])), (12, .inr (4, [.ref 13, .ref 14, .ref 15, .ref 16, .ref 17, .ref 18, .int 0])), (13, .inl (0, 3, [])), (14, .inl (0, 6, [])), (15, .inl (0, 4, [])), (16, .inl (0, 6, [])), (17, .inl (0, 6, [])), (18, .inl (0, 8, [])), (19, .inr (4, [.ref 20, .ref 21, .ref 22, .ref 23, .ref 24, .ref 25, .int 0])), (20, .inl (0, 3, [])), (21, .inl (0, 6, [])), (22, .inl (0, 4, [])), (23, .inl (0, 6, [])), (24, .inl (0, 6, [])), (25, .inl (0, 8, [])), (26, .inl (5, 4, [some 27, some 29, some 31, some 33])), (27, .inr (6, [.int 0, .int (-1), .ref 28])), (28, .inl (0, 40, [])), (29, .inr (6, [.int 0, .int (-1), .ref 30])), (30, .inl (0, 40, [])), (31, .inr (6, [.int 0, .int (-1), .ref 32])), (32, .inl (0, 40, [])), (33, .inr (6, [.int 0, .int (-1), .ref 34])), (34, .inl (0, 40, [])), (35, .inr (5, [.ref 36, .int 0, .int 0, .int 0, .int 0, .ref 37, .ref 40, .int 0, .int 0, .int 0, .int 0, .int 0, .int 0, .int 0, .int 0])), (36, .inl (1, 320, [])), (37, .inr (1, [.int 0, .int 4, .ref 38, .ref 39])), (38, .inl (0, 3, [])), (39, .inl (0, 6, [])), (40, .inr (4, [.ref 41, .ref 42, .ref 43, .ref 44, .ref 45, .ref 46, .int 0])), (41, .inl (0, 3, [])), (42, .inl (0, 6, [])), (43, .inl (0, 4, [])), (44, .inl (0, 6, [])), (45, .inl (0, 6, [])), (46, .inl (0, 8, [])), (47, .inr (7, [.ref 48, .int 0, .int 0, .int 0])), (48, .inl (0, 6, [])), (49, .inr (2, [.ref 50, .int 0])), (50, .inl (0, 6, [])), (51, .inr (3, [.ref 52, .int 0, .int 0, .int 0, .int 1, .ref 53, .ref 54, .ref 55, .ref 56])), (52, .inl (0, 6, [])), (53, .inl (0, 6, [])), (54, .inl (0, 7, [])), (55, .inl (0, 6, [])), (56, .inl (3, 384, [])), (57, .inr (0, [.ref 58, .int 0])), (58, .inl (0, 3, [])), (59, .inr (8, [.ref 60, .long 1])), (60, .inl (3, 4, [])), (61, .inl (0, 3, []))] := by
  refine HC.of (by decide +kernel) (by decide) (fun C hin2 hr hlk => ?_)
  refine cb_aload_n C dX9_init_0 rfl ?_
  refine cb_objInit C qw_10 qw_11 qw_12 ⟨Nat.le_of_ble_eq_true rfl, Nat.le_of_ble_eq_true rfl⟩ dX9_init_1 ?_
  refine cb_aload_n C dX9_init_4 rfl ?_
  refine cb_new (q := 1) (ci := 1) C tyX1 [.int 0, .int 0, .null, .null] rfl (by decide) rfl inlX1 tyX1_ok qw_13 qw_14 qw_15 (by decide +kernel) rfl (Nat.le_of_ble_eq_true rfl) (Nat.le_of_ble_eq_true rfl) dX9_init_5 ?_
  refine cb_dup C dX9_init_8 rfl ?_
  refine cb_callN C (hc_X1_1) mc_X1 (C.2.2.2.2.2.2.1.1 (9, yX1_init) (List.mem_of_getElem? (i := 0) rfl)) ⟨Nat.le_of_ble_eq_true rfl, Nat.le_of_ble_eq_true rfl⟩ ⟨Nat.le_of_ble_eq_true rfl, Nat.le_of_ble_eq_true rfl⟩ (Nat.le_of_ble_eq_true rfl) dX9_init_9 (by decide) (by decide) ?_
  refine WB.L (L' := [(0, .inr (9, [.null, .null, .null, .int 0, .null, .int 0, .null, .null, .null, .null, .null, .null, .null])), (1, .inr (1, [.int 0, .int 4, .ref 2, .ref 3])), (2, .inl (0, 3, [])), (3, .inl (0, 6, []))]) rfl ?_
  refine cb_putF (k0 := 0) (k := 0) (ty := tyX9 0) C hin2 rfl inlX9 tyX9_ok nmX9 rfl (by decide) qw_16 rfl rfl (tyX9_ok 0 (by decide)) ⟨rfl, fun _ => ⟨rfl, rfl⟩⟩ (by decide) dX9_init_12 ?_
  refine WB.L (L' := [(0, .inr (9, [.ref 1, .null, .null, .int 0, .null, .int 0, .null, .null, .null, .null, .null, .null, .null])), (1, .inr (1, [.int 0, .int 4, .ref 2, .ref 3])), (2, .inl (0, 3, [])), (3, .inl (0, 6, []))]) rfl ?_
  refine cb_aload_n C dX9_init_15 rfl ?_
  refine cb_new (q := 4) (ci := 4) C tyX4 [.null, .null, .null, .null, .null, .null, .int 0] rfl (by decide) rfl inlX4 tyX4_ok qw_17 qw_18 qw_19 (by decide +kernel) rfl (Nat.le_of_ble_eq_true rfl) (Nat.le_of_ble_eq_true rfl) dX9_init_16 ?_
  refine cb_dup C dX9_init_19 rfl ?_
  refine cb_callN C (hc_X4_4) mc_X4 (C.2.2.2.2.2.2.1.1 (18, yX4_init) (List.mem_of_getElem? (i := 1) rfl)) ⟨Nat.le_of_ble_eq_true rfl, Nat.le_of_ble_eq_true rfl⟩ ⟨Nat.le_of_ble_eq_true rfl, Nat.le_of_ble_eq_true rfl⟩ (Nat.le_of_ble_eq_true rfl) dX9_init_20 (by decide) (by decide) ?_
  refine WB.L (L' := [(0, .inr (9, [.ref 1, .null, .null, .int 0, .null, .int 0, .null, .null, .null, .null, .null, .null, .null])), (1, .inr (1, [.int 0, .int 4, .ref 2, .ref 3])), (2, .inl (0, 3, [])), (3, .inl (0, 6, [])), (4, .inr (4, [.ref 5, .ref 6, .ref 7, .ref 8, .ref 9, .ref 10, .int 0])), (5, .inl (0, 3, [])), (6, .inl (0, 6, [])), (7, .inl (0, 4, [])), (8, .inl (0, 6, [])), (9, .inl (0, 6, [])), (10, .inl (0, 8, []))]) rfl ?_
  refine cb_putF (k0 := 0) (k := 1) (ty := tyX9 1) C hin2 rfl inlX9 tyX9_ok nmX9 rfl (by decide) qw_20 rfl rfl (tyX9_ok 1 (by decide)) ⟨rfl, fun _ => ⟨rfl, rfl⟩⟩ (by decide) dX9_init_23 ?_
  refine WB.L (L' := [(0, .inr (9, [.ref 1, .ref 4, .null, .int 0, .null, .int 0, .null, .null, .null, .null, .null, .null, .null])), (1, .inr (1, [.int 0, .int 4, .ref 2, .ref 3])), (2, .inl (0, 3, [])), (3, .inl (0, 6, [])), (4, .inr (4, [.ref 5, .ref 6, .ref 7, .ref 8, .ref 9, .ref 10, .int 0])), (5, .inl (0, 3, [])), (6, .inl (0, 6, [])), (7, .inl (0, 4, [])), (8, .inl (0, 6, [])), (9, .inl (0, 6, [])), (10, .inl (0, 8, []))]) rfl ?_
  refine cb_aload_n C dX9_init_26 rfl ?_
  refine cb_iconst (v := 2) C dX9_init_27 (by decide) ?_
  refine cb_newq (q := 11) (t := 4) (N := 2) C rfl (by decide) qw_17 C.2.2.2.2.2.2.1.2.2.1 rfl (by decide) (by decide) (by decide) (Nat.le_of_ble_eq_true rfl) (Nat.le_of_ble_eq_true rfl) (Nat.le_of_ble_eq_true rfl) dX9_init_28 ?_
  refine WB.L (L' := [(0, .inr (9, [.ref 1, .ref 4, .null, .int 0, .null, .int 0, .null, .null, .null, .null, .null, .null, .null])), (1, .inr (1, [.int 0, .int 4, .ref 2, .ref 3])), (2, .inl (0, 3, [])), (3, .inl (0, 6, [])), (4, .inr (4, [.ref 5, .ref 6, .ref 7, .ref 8, .ref 9, .ref 10, .int 0])), (5, .inl (0, 3, [])), (6, .inl (0, 6, [])), (7, .inl (0, 4, [])), (8, .inl (0, 6, [])), (9, .inl (0, 6, [])), (10, .inl (0, 8, [])), (11, .inl (4, 2, []))]) rfl ?_
  refine cb_dup C dX9_init_31 rfl ?_
  refine cb_iconst (v := 0) C dX9_init_32 (by decide) ?_
  refine cb_new (q := 12) (ci := 4) C tyX4 [.null, .null, .null, .null, .null, .null, .int 0] rfl (by decide) rfl inlX4 tyX4_ok qw_17 qw_18 qw_19 (by decide +kernel) rfl (Nat.le_of_ble_eq_true rfl) (Nat.le_of_ble_eq_true rfl) dX9_init_33 ?_
  refine cb_dup C dX9_init_36 rfl ?_
  refine cb_callN C (hc_X4_12) mc_X4 (C.2.2.2.2.2.2.1.1 (18, yX4_init) (List.mem_of_getElem? (i := 1) rfl)) ⟨Nat.le_of_ble_eq_true rfl, Nat.le_of_ble_eq_true rfl⟩ ⟨Nat.le_of_ble_eq_true rfl, Nat.le_of_ble_eq_true rfl⟩ (Nat.le_of_ble_eq_true rfl) dX9_init_37 (by decide) (by decide) ?_
  refine WB.L (L' := [(0, .inr (9, [.ref 1, .ref 4, .null, .int 0, .null, .int 0, .null, .null, .null, .null, .null, .null, .null])), (1, .inr (1, [.int 0, .int 4, .ref 2, .ref 3])), (2, .inl (0, 3, [])), (3, .inl (0, 6, [])), (4, .inr (4, [.ref 5, .ref 6, .ref 7, .ref 8, .ref 9, .ref 10, .int 0])), (5, .inl (0, 3, [])), (6, .inl (0, 6, [])), (7, .inl (0, 4, [])), (8, .inl (0, 6, [])), (9, .inl (0, 6, [])), (10, .inl (0, 8, [])), (11, .inl (4, 2, [])), (12, .inr (4, [.ref 13, .ref 14, .ref 15, .ref 16, .ref 17, .ref 18, .int 0])), (13, .inl (0, 3, [])), (14, .inl (0, 6, [])), (15, .inl (0, 4, [])), (16, .inl (0, 6, [])), (17, .inl (0, 6, [])), (18, .inl (0, 8, []))]) rfl ?_
  refine cb_aast (k0 := 11) (k1 := 12) (j := 0) (rs' := [some 12]) C (by decide) rfl rfl rfl rfl (by decide) (by decide) (fun k => by rcases k with _ | _ | _ | _ | _ | k <;> simp) dX9_init_40 ?_
  refine WB.L (L' := [(0, .inr (9, [.ref 1, .ref 4, .null, .int 0, .null, .int 0, .null, .null, .null, .null, .null, .null, .null])), (1, .inr (1, [.int 0, .int 4, .ref 2, .ref 3])), (2, .inl (0, 3, [])), (3, .inl (0, 6, [])), (4, .inr (4, [.ref 5, .ref 6, .ref 7, .ref 8, .ref 9, .ref 10, .int 0])), (5, .inl (0, 3, [])), (6, .inl (0, 6, [])), (7, .inl (0, 4, [])), (8, .inl (0, 6, [])), (9, .inl (0, 6, [])), (10, .inl (0, 8, [])), (11, .inl (4, 2, [some 12])), (12, .inr (4, [.ref 13, .ref 14, .ref 15, .ref 16, .ref 17, .ref 18, .int 0])), (13, .inl (0, 3, [])), (14, .inl (0, 6, [])), (15, .inl (0, 4, [])), (16, .inl (0, 6, [])), (17, .inl (0, 6, [])), (18, .inl (0, 8, []))]) rfl ?_
  refine cb_dup C dX9_init_41 rfl ?_
  refine cb_iconst (v := 1) C dX9_init_42 (by decide) ?_
  refine cb_new (q := 19) (ci := 4) C tyX4 [.null, .null, .null, .null, .null, .null, .int 0] rfl (by decide) rfl inlX4 tyX4_ok qw_17 qw_18 qw_19 (by decide +kernel) rfl (Nat.le_of_ble_eq_true rfl) (Nat.le_of_ble_eq_true rfl) dX9_init_43 ?_
  refine cb_dup C dX9_init_46 rfl ?_
  refine cb_callN C (hc_X4_19) mc_X4 (C.2.2.2.2.2.2.1.1 (18, yX4_init) (List.mem_of_getElem? (i := 1) rfl)) ⟨Nat.le_of_ble_eq_true rfl, Nat.le_of_ble_eq_true rfl⟩ ⟨Nat.le_of_ble_eq_true rfl, Nat.le_of_ble_eq_true rfl⟩ (Nat.le_of_ble_eq_true rfl) dX9_init_47 (by decide) (by decide) ?_
  refine WB.L (L' := [(0, .inr (9, [.ref 1, .ref 4, .null, .int 0, .null, .int 0, .null, .null, .null, .null, .null, .null, .null])), (1, .inr (1, [.int 0, .int 4, .ref 2, .ref 3])), (2, .inl (0, 3, [])), (3, .inl (0, 6, [])), (4, .inr (4, [.ref 5, .ref 6, .ref 7, .ref 8, .ref 9, .ref 10, .int 0])), (5, .inl (0, 3, [])), (6, .inl (0, 6, [])), (7, .inl (0, 4, [])), (8, .inl (0, 6, [])), (9, .inl (0, 6, [])), (10, .inl (0, 8, [])), (11, .inl (4, 2, [some 12])), (12, .inr (4, [.ref 13, .ref 14, .ref 15, .ref 16, .ref 17, .ref 18, .int 0])), (13, .inl (0, 3, [])), (14, .inl (0, 6, [])), (15, .inl (0, 4, [])), (16, .inl (0, 6, [])), (17, .inl (0, 6, [])), (18, .inl (0, 8, [])), (19, .inr (4, [.ref 20, .ref 21, .ref 22, .ref 23, .ref 24, .ref 25, .int 0])), (20, .inl (0, 3, [])), (21, .inl (0, 6, [])), (22, .inl (0, 4, [])), (23, .inl (0, 6, [])), (24, .inl (0, 6, [])), (25, .inl (0, 8, []))]) rfl ?_
  refine cb_aast (k0 := 11) (k1 := 19) (j := 1) (rs' := [some 12, some 19]) C (by decide) rfl rfl rfl rfl (by decide) (by decide) (fun k => by rcases k with _ | _ | _ | _ | _ | k <;> simp) dX9_init_50 ?_
  refine WB.L (L' := [(0, .inr (9, [.ref 1, .ref 4, .null, .int 0, .null, .int 0, .null, .null, .null, .null, .null, .null, .null])), (1, .inr (1, [.int 0, .int 4, .ref 2, .ref 3])), (2, .inl (0, 3, [])), (3, .inl (0, 6, [])), (4, .inr (4, [.ref 5, .ref 6, .ref 7, .ref 8, .ref 9, .ref 10, .int 0])), (5, .inl (0, 3, [])), (6, .inl (0, 6, [])), (7, .inl (0, 4, [])), (8, .inl (0, 6, [])), (9, .inl (0, 6, [])), (10, .inl (0, 8, [])), (11, .inl (4, 2, [some 12, some 19])), (12, .inr (4, [.ref 13, .ref 14, .ref 15, .ref 16, .ref 17, .ref 18, .int 0])), (13, .inl (0, 3, [])), (14, .inl (0, 6, [])), (15, .inl (0, 4, [])), (16, .inl (0, 6, [])), (17, .inl (0, 6, [])), (18, .inl (0, 8, [])), (19, .inr (4, [.ref 20, .ref 21, .ref 22, .ref 23, .ref 24, .ref 25, .int 0])), (20, .inl (0, 3, [])), (21, .inl (0, 6, [])), (22, .inl (0, 4, [])), (23, .inl (0, 6, [])), (24, .inl (0, 6, [])), (25, .inl (0, 8, []))]) rfl ?_
  refine cb_putF (k0 := 0) (k := 2) (ty := tyX9 2) C hin2 rfl inlX9 tyX9_ok nmX9 rfl (by decide) qw_21 rfl rfl (tyX9_ok 2 (by decide)) ⟨rfl, fun _ => ⟨rfl, rfl⟩⟩ (by decide) dX9_init_51 ?_
  refine WB.L (L' := [(0, .inr (9, [.ref 1, .ref 4, .ref 11, .int 0, .null, .int 0, .null, .null, .null, .null, .null, .null, .null])), (1, .inr (1, [.int 0, .int 4, .ref 2, .ref 3])), (2, .inl (0, 3, [])), (3, .inl (0, 6, [])), (4, .inr (4, [.ref 5, .ref 6, .ref 7, .ref 8, .ref 9, .ref 10, .int 0])), (5, .inl (0, 3, [])), (6, .inl (0, 6, [])), (7, .inl (0, 4, [])), (8, .inl (0, 6, [])), (9, .inl (0, 6, [])), (10, .inl (0, 8, [])), (11, .inl (4, 2, [some 12, some 19])), (12, .inr (4, [.ref 13, .ref 14, .ref 15, .ref 16, .ref 17, .ref 18, .int 0])), (13, .inl (0, 3, [])), (14, .inl (0, 6, [])), (15, .inl (0, 4, [])), (16, .inl (0, 6, [])), (17, .inl (0, 6, [])), (18, .inl (0, 8, [])), (19, .inr (4, [.ref 20, .ref 21, .ref 22, .ref 23, .ref 24, .ref 25, .int 0])), (20, .inl (0, 3, [])), (21, .inl (0, 6, [])), (22, .inl (0, 4, [])), (23, .inl (0, 6, [])), (24, .inl (0, 6, [])), (25, .inl (0, 8, []))]) rfl ?_
  refine cb_aload_n C dX9_init_54 rfl ?_
  refine cb_iconst (v := 4) C dX9_init_55 (by decide) ?_
  refine cb_newq (q := 26) (t := 5) (N := 4) C rfl (by decide) qw_22 C.2.2.2.2.2.2.1.2.2.2 rfl (by decide) (by decide) (by decide) (Nat.le_of_ble_eq_true rfl) (Nat.le_of_ble_eq_true rfl) (Nat.le_of_ble_eq_true rfl) dX9_init_56 ?_
  refine WB.L (L' := [(0, .inr (9, [.ref 1, .ref 4, .ref 11, .int 0, .null, .int 0, .null, .null, .null, .null, .null, .null, .null])), (1, .inr (1, [.int 0, .int 4, .ref 2, .ref 3])), (2, .inl (0, 3, [])), (3, .inl (0, 6, [])), (4, .inr (4, [.ref 5, .ref 6, .ref 7, .ref 8, .ref 9, .ref 10, .int 0])), (5, .inl (0, 3, [])), (6, .inl (0, 6, [])), (7, .inl (0, 4, [])), (8, .inl (0, 6, [])), (9, .inl (0, 6, [])), (10, .inl (0, 8, [])), (11, .inl (4, 2, [some 12, some 19])), (12, .inr (4, [.ref 13, .ref 14, .ref 15, .ref 16, .ref 17, .ref 18, .int 0])), (13, .inl (0, 3, [])), (14, .inl (0, 6, [])), (15, .inl (0, 4, [])), (16, .inl (0, 6, [])), (17, .inl (0, 6, [])), (18, .inl (0, 8, [])), (19, .inr (4, [.ref 20, .ref 21, .ref 22, .ref 23, .ref 24, .ref 25, .int 0])), (20, .inl (0, 3, [])), (21, .inl (0, 6, [])), (22, .inl (0, 4, [])), (23, .inl (0, 6, [])), (24, .inl (0, 6, [])), (25, .inl (0, 8, [])), (26, .inl (5, 4, []))]) rfl ?_
  refine cb_dup C dX9_init_59 rfl ?_
  refine cb_iconst (v := 0) C dX9_init_60 (by decide) ?_
  refine cb_new (q := 27) (ci := 6) C tyX6 [.int 0, .int 0, .null] rfl (by decide) rfl inlX6 tyX6_ok qw_22 qw_23 qw_24 (by decide +kernel) rfl (Nat.le_of_ble_eq_true rfl) (Nat.le_of_ble_eq_true rfl) dX9_init_61 ?_
  refine cb_dup C dX9_init_64 rfl ?_
  refine cb_callN C (hc_X6_27) mc_X6 (C.2.2.2.2.2.2.1.1 (29, yX6_init) (List.mem_of_getElem? (i := 2) rfl)) ⟨Nat.le_of_ble_eq_true rfl, Nat.le_of_ble_eq_true rfl⟩ ⟨Nat.le_of_ble_eq_true rfl, Nat.le_of_ble_eq_true rfl⟩ (Nat.le_of_ble_eq_true rfl) dX9_init_65 (by decide) (by decide) ?_
  refine WB.L (L' := [(0, .inr (9, [.ref 1, .ref 4, .ref 11, .int 0, .null, .int 0, .null, .null, .null, .null, .null, .null, .null])), (1, .inr (1, [.int 0, .int 4, .ref 2, .ref 3])), (2, .inl (0, 3, [])), (3, .inl (0, 6, [])), (4, .inr (4, [.ref 5, .ref 6, .ref 7, .ref 8, .ref 9, .ref 10, .int 0])), (5, .inl (0, 3, [])), (6, .inl (0, 6, [])), (7, .inl (0, 4, [])), (8, .inl (0, 6, [])), (9, .inl (0, 6, [])), (10, .inl (0, 8, [])), (11, .inl (4, 2, [some 12, some 19])), (12, .inr (4, [.ref 13, .ref 14, .ref 15, .ref 16, .ref 17, .ref 18, .int 0])), (13, .inl (0, 3, [])), (14, .inl (0, 6, [])), (15, .inl (0, 4, [])), (16, .inl (0, 6, [])), (17, .inl (0, 6, [])), (18, .inl (0, 8, [])), (19, .inr (4, [.ref 20, .ref 21, .ref 22, .ref 23, .ref 24, .ref 25, .int 0])), (20, .inl (0, 3, [])), (21, .inl (0, 6, [])), (22, .inl (0, 4, [])), (23, .inl (0, 6, [])), (24, .inl (0, 6, [])), (25, .inl (0, 8, [])), (26, .inl (5, 4, [])), (27, .inr (6, [.int 0, .int (-1), .ref 28])), (28, .inl (0, 40, []))]) rfl ?_
  refine cb_aast (k0 := 26) (k1 := 27) (j := 0) (rs' := [some 27]) C (by decide) rfl rfl rfl rfl (by decide) (by decide) (fun k => by rcases k with _ | _ | _ | _ | _ | k <;> simp) dX9_init_68 ?_
  refine WB.L (L' := [(0, .inr (9, [.ref 1, .ref 4, .ref 11, .int 0, .null, .int 0, .null, .null, .null, .null, .null, .null, .null])), (1, .inr (1, [.int 0, .int 4, .ref 2, .ref 3])), (2, .inl (0, 3, [])), (3, .inl (0, 6, [])), (4, .inr (4, [.ref 5, .ref 6, .ref 7, .ref 8, .ref 9, .ref 10, .int 0])), (5, .inl (0, 3, [])), (6, .inl (0, 6, [])), (7, .inl (0, 4, [])), (8, .inl (0, 6, [])), (9, .inl (0, 6, [])), (10, .inl (0, 8, [])), (11, .inl (4, 2, [some 12, some 19])), (12, .inr (4, [.ref 13, .ref 14, .ref 15, .ref 16, .ref 17, .ref 18, .int 0])), (13, .inl (0, 3, [])), (14, .inl (0, 6, [])), (15, .inl (0, 4, [])), (16, .inl (0, 6, [])), (17, .inl (0, 6, [])), (18, .inl (0, 8, [])), (19, .inr (4, [.ref 20, .ref 21, .ref 22, .ref 23, .ref 24, .ref 25, .int 0])), (20, .inl (0, 3, [])), (21, .inl (0, 6, [])), (22, .inl (0, 4, [])), (23, .inl (0, 6, [])), (24, .inl (0, 6, [])), (25, .inl (0, 8, [])), (26, .inl (5, 4, [some 27])), (27, .inr (6, [.int 0, .int (-1), .ref 28])), (28, .inl (0, 40, []))]) rfl ?_
  refine cb_dup C dX9_init_69 rfl ?_
  refine cb_iconst (v := 1) C dX9_init_70 (by decide) ?_
  refine cb_new (q := 29) (ci := 6) C tyX6 [.int 0, .int 0, .null] rfl (by decide) rfl inlX6 tyX6_ok qw_22 qw_23 qw_24 (by decide +kernel) rfl (Nat.le_of_ble_eq_true rfl) (Nat.le_of_ble_eq_true rfl) dX9_init_71 ?_
  refine cb_dup C dX9_init_74 rfl ?_
  refine cb_callN C (hc_X6_29) mc_X6 (C.2.2.2.2.2.2.1.1 (29, yX6_init) (List.mem_of_getElem? (i := 2) rfl)) ⟨Nat.le_of_ble_eq_true rfl, Nat.le_of_ble_eq_true rfl⟩ ⟨Nat.le_of_ble_eq_true rfl, Nat.le_of_ble_eq_true rfl⟩ (Nat.le_of_ble_eq_true rfl) dX9_init_75 (by decide) (by decide) ?_
  refine WB.L (L' := [(0, .inr (9, [.ref 1, .ref 4, .ref 11, .int 0, .null, .int 0, .null, .null, .null, .null, .null, .null, .null])), (1, .inr (1, [.int 0, .int 4, .ref 2, .ref 3])), (2, .inl (0, 3, [])), (3, .inl (0, 6, [])), (4, .inr (4, [.ref 5, .ref 6, .ref 7, .ref 8, .ref 9, .ref 10, .int 0])), (5, .inl (0, 3, [])), (6, .inl (0, 6, [])), (7, .inl (0, 4, [])), (8, .inl (0, 6, [])), (9, .inl (0, 6, [])), (10, .inl (0, 8, [])), (11, .inl (4, 2, [some 12, some 19])), (12, .inr (4, [.ref 13, .ref 14, .ref 15, .ref 16, .ref 17, .ref 18, .int 0])), (13, .inl (0, 3, [])), (14, .inl (0, 6, [])), (15, .inl (0, 4, [])), (16, .inl (0, 6, [])), (17, .inl (0, 6, [])), (18, .inl (0, 8, [])), (19, .inr (4, [.ref 20, .ref 21, .ref 22, .ref 23, .ref 24, .ref 25, .int 0])), (20, .inl (0, 3, [])), (21, .inl (0, 6, [])), (22, .inl (0, 4, [])), (23, .inl (0, 6, [])), (24, .inl (0, 6, [])), (25, .inl (0, 8, [])), (26, .inl (5, 4, [some 27])), (27, .inr (6, [.int 0, .int (-1), .ref 28])), (28, .inl (0, 40, [])), (29, .inr (6, [.int 0, .int (-1), .ref 30])), (30, .inl (0, 40, []))]) rfl ?_
  refine cb_aast (k0 := 26) (k1 := 29) (j := 1) (rs' := [some 27, some 29]) C (by decide) rfl rfl rfl rfl (by decide) (by decide) (fun k => by rcases k with _ | _ | _ | _ | _ | k <;> simp) dX9_init_78 ?_
  refine WB.L (L' := [(0, .inr (9, [.ref 1, .ref 4, .ref 11, .int 0, .null, .int 0, .null, .null, .null, .null, .null, .null, .null])), (1, .inr (1, [.int 0, .int 4, .ref 2, .ref 3])), (2, .inl (0, 3, [])), (3, .inl (0, 6, [])), (4, .inr (4, [.ref 5, .ref 6, .ref 7, .ref 8, .ref 9, .ref 10, .int 0])), (5, .inl (0, 3, [])), (6, .inl (0, 6, [])), (7, .inl (0, 4, [])), (8, .inl (0, 6, [])), (9, .inl (0, 6, [])), (10, .inl (0, 8, [])), (11, .inl (4, 2, [some 12, some 19])), (12, .inr (4, [.ref 13, .ref 14, .ref 15, .ref 16, .ref 17, .ref 18, .int 0])), (13, .inl (0, 3, [])), (14, .inl (0, 6, [])), (15, .inl (0, 4, [])), (16, .inl (0, 6, [])), (17, .inl (0, 6, [])), (18, .inl (0, 8, [])), (19, .inr (4, [.ref 20, .ref 21, .ref 22, .ref 23, .ref 24, .ref 25, .int 0])), (20, .inl (0, 3, [])), (21, .inl (0, 6, [])), (22, .inl (0, 4, [])), (23, .inl (0, 6, [])), (24, .inl (0, 6, [])), (25, .inl (0, 8, [])), (26, .inl (5, 4, [some 27, some 29])), (27, .inr (6, [.int 0, .int (-1), .ref 28])), (28, .inl (0, 40, [])), (29, .inr (6, [.int 0, .int (-1), .ref 30])), (30, .inl (0, 40, []))]) rfl ?_
  refine cb_dup C dX9_init_79 rfl ?_
  refine cb_iconst (v := 2) C dX9_init_80 (by decide) ?_
  refine cb_new (q := 31) (ci := 6) C tyX6 [.int 0, .int 0, .null] rfl (by decide) rfl inlX6 tyX6_ok qw_22 qw_23 qw_24 (by decide +kernel) rfl (Nat.le_of_ble_eq_true rfl) (Nat.le_of_ble_eq_true rfl) dX9_init_81 ?_
  refine cb_dup C dX9_init_84 rfl ?_
  refine cb_callN C (hc_X6_31) mc_X6 (C.2.2.2.2.2.2.1.1 (29, yX6_init) (List.mem_of_getElem? (i := 2) rfl)) ⟨Nat.le_of_ble_eq_true rfl, Nat.le_of_ble_eq_true rfl⟩ ⟨Nat.le_of_ble_eq_true rfl, Nat.le_of_ble_eq_true rfl⟩ (Nat.le_of_ble_eq_true rfl) dX9_init_85 (by decide) (by decide) ?_
  refine WB.L (L' := [(0, .inr (9, [.ref 1, .ref 4, .ref 11, .int 0, .null, .int 0, .null, .null, .null, .null, .null, .null, .null])), (1, .inr (1, [.int 0, .int 4, .ref 2, .ref 3])), (2, .inl (0, 3, [])), (3, .inl (0, 6, [])), (4, .inr (4, [.ref 5, .ref 6, .ref 7, .ref 8, .ref 9, .ref 10, .int 0])), (5, .inl (0, 3, [])), (6, .inl (0, 6, [])), (7, .inl (0, 4, [])), (8, .inl (0, 6, [])), (9, .inl (0, 6, [])), (10, .inl (0, 8, [])), (11, .inl (4, 2, [some 12, some 19])), (12, .inr (4, [.ref 13, .ref 14, .ref 15, .ref 16, .ref 17, .ref 18, .int 0])), (13, .inl (0, 3, [])), (14, .inl (0, 6, [])), (15, .inl (0, 4, [])), (16, .inl (0, 6, [])), (17, .inl (0, 6, [])), (18, .inl (0, 8, [])), (19, .inr (4, [.ref 20, .ref 21, .ref 22, .ref 23, .ref 24, .ref 25, .int 0])), (20, .inl (0, 3, [])), (21, .inl (0, 6, [])), (22, .inl (0, 4, [])), (23, .inl (0, 6, [])), (24, .inl (0, 6, [])), (25, .inl (0, 8, [])), (26, .inl (5, 4, [some 27, some 29])), (27, .inr (6, [.int 0, .int (-1), .ref 28])), (28, .inl (0, 40, [])), (29, .inr (6, [.int 0, .int (-1), .ref 30])), (30, .inl (0, 40, [])), (31, .inr (6, [.int 0, .int (-1), .ref 32])), (32, .inl (0, 40, []))]) rfl ?_
  refine cb_aast (k0 := 26) (k1 := 31) (j := 2) (rs' := [some 27, some 29, some 31]) C (by decide) rfl rfl rfl rfl (by decide) (by decide) (fun k => by rcases k with _ | _ | _ | _ | _ | k <;> simp) dX9_init_88 ?_
  refine WB.L (L' := [(0, .inr (9, [.ref 1, .ref 4, .ref 11, .int 0, .null, .int 0, .null, .null, .null, .null, .null, .null, .null])), (1, .inr (1, [.int 0, .int 4, .ref 2, .ref 3])), (2, .inl (0, 3, [])), (3, .inl (0, 6, [])), (4, .inr (4, [.ref 5, .ref 6, .ref 7, .ref 8, .ref 9, .ref 10, .int 0])), (5, .inl (0, 3, [])), (6, .inl (0, 6, [])), (7, .inl (0, 4, [])), (8, .inl (0, 6, [])), (9, .inl (0, 6, [])), (10, .inl (0, 8, [])), (11, .inl (4, 2, [some 12, some 19])), (12, .inr (4, [.ref 13, .ref 14, .ref 15, .ref 16, .ref 17, .ref 18, .int 0])), (13, .inl (0, 3, [])), (14, .inl (0, 6, [])), (15, .inl (0, 4, [])), (16, .inl (0, 6, [])), (17, .inl (0, 6, [])), (18, .inl (0, 8, [])), (19, .inr (4, [.ref 20, .ref 21, .ref 22, .ref 23, .ref 24, .ref 25, .int 0])), (20, .inl (0, 3, [])), (21, .inl (0, 6, [])), (22, .inl (0, 4, [])), (23, .inl (0, 6, [])), (24, .inl (0, 6, [])), (25, .inl (0, 8, [])), (26, .inl (5, 4, [some 27, some 29, some 31])), (27, .inr (6, [.int 0, .int (-1), .ref 28])), (28, .inl (0, 40, [])), (29, .inr (6, [.int 0, .int (-1), .ref 30])), (30, .inl (0, 40, [])), (31, .inr (6, [.int 0, .int (-1), .ref 32])), (32, .inl (0, 40, []))]) rfl ?_
  refine cb_dup C dX9_init_89 rfl ?_
  refine cb_iconst (v := 3) C dX9_init_90 (by decide) ?_
  refine cb_new (q := 33) (ci := 6) C tyX6 [.int 0, .int 0, .null] rfl (by decide) rfl inlX6 tyX6_ok qw_22 qw_23 qw_24 (by decide +kernel) rfl (Nat.le_of_ble_eq_true rfl) (Nat.le_of_ble_eq_true rfl) dX9_init_91 ?_
  refine cb_dup C dX9_init_94 rfl ?_
  refine cb_callN C (hc_X6_33) mc_X6 (C.2.2.2.2.2.2.1.1 (29, yX6_init) (List.mem_of_getElem? (i := 2) rfl)) ⟨Nat.le_of_ble_eq_true rfl, Nat.le_of_ble_eq_true rfl⟩ ⟨Nat.le_of_ble_eq_true rfl, Nat.le_of_ble_eq_true rfl⟩ (Nat.le_of_ble_eq_true rfl) dX9_init_95 (by decide) (by decide) ?_
  refine WB.L (L' := [(0, .inr (9, [.ref 1, .ref 4, .ref 11, .int 0, .null, .int 0, .null, .null, .null, .null, .null, .null, .null])), (1, .inr (1, [.int 0, .int 4, .ref 2, .ref 3])), (2, .inl (0, 3, [])), (3, .inl (0, 6, [])), (4, .inr (4, [.ref 5, .ref 6, .ref 7, .ref 8, .ref 9, .ref 10, .int 0])), (5, .inl (0, 3, [])), (6, .inl (0, 6, [])), (7, .inl (0, 4, [])), (8, .inl (0, 6, [])), (9, .inl (0, 6, [])), (10, .inl (0, 8, [])), (11, .inl (4, 2, [some 12, some 19])), (12, .inr (4, [.ref 13, .ref 14, .ref 15, .ref 16, .ref 17, .ref 18, .int 0])), (13, .inl (0, 3, [])), (14, .inl (0, 6, [])), (15, .inl (0, 4, [])), (16, .inl (0, 6, [])), (17, .inl (0, 6, [])), (18, .inl (0, 8, [])), (19, .inr (4, [.ref 20, .ref 21, .ref 22, .ref 23, .ref 24, .ref 25, .int 0])), (20, .inl (0, 3, [])), (21, .inl (0, 6, [])), (22, .inl (0, 4, [])), (23, .inl (0, 6, [])), (24, .inl (0, 6, [])), (25, .inl (0, 8, [])), (26, .inl (5, 4, [some 27, some 29, some 31])), (27, .inr (6, [.int 0, .int (-1), .ref 28])), (28, .inl (0, 40, [])), (29, .inr (6, [.int 0, .int (-1), .ref 30])), (30, .inl (0, 40, [])), (31, .inr (6, [.int 0, .int (-1), .ref 32])), (32, .inl (0, 40, [])), (33, .inr (6, [.int 0, .int (-1), .ref 34])), (34, .inl (0, 40, []))]) rfl ?_
  refine cb_aast (k0 := 26) (k1 := 33) (j := 3) (rs' := [some 27, some 29, some 31, some 33]) C (by decide) rfl rfl rfl rfl (by decide) (by decide) (fun k => by rcases k with _ | _ | _ | _ | _ | k <;> simp) dX9_init_98 ?_
  refine WB.L (L' := [(0, .inr (9, [.ref 1, .ref 4, .ref 11, .int 0, .null, .int 0, .null, .null, .null, .null, .null, .null, .null])), (1, .inr (1, [.int 0, .int 4, .ref 2, .ref 3])), (2, .inl (0, 3, [])), (3, .inl (0, 6, [])), (4, .inr (4, [.ref 5, .ref 6, .ref 7, .ref 8, .ref 9, .ref 10, .int 0])), (5, .inl (0, 3, [])), (6, .inl (0, 6, [])), (7, .inl (0, 4, [])), (8, .inl (0, 6, [])), (9, .inl (0, 6, [])), (10, .inl (0, 8, [])), (11, .inl (4, 2, [some 12, some 19])), (12, .inr (4, [.ref 13, .ref 14, .ref 15, .ref 16, .ref 17, .ref 18, .int 0])), (13, .inl (0, 3, [])), (14, .inl (0, 6, [])), (15, .inl (0, 4, [])), (16, .inl (0, 6, [])), (17, .inl (0, 6, [])), (18, .inl (0, 8, [])), (19, .inr (4, [.ref 20, .ref 21, .ref 22, .ref 23, .ref 24, .ref 25, .int 0])), (20, .inl (0, 3, [])), (21, .inl (0, 6, [])), (22, .inl (0, 4, [])), (23, .inl (0, 6, [])), (24, .inl (0, 6, [])), (25, .inl (0, 8, [])), (26, .inl (5, 4, [some 27, some 29, some 31, some 33])), (27, .inr (6, [.int 0, .int (-1), .ref 28])), (28, .inl (0, 40, [])), (29, .inr (6, [.int 0, .int (-1), .ref 30])), (30, .inl (0, 40, [])), (31, .inr (6, [.int 0, .int (-1), .ref 32])), (32, .inl (0, 40, [])), (33, .inr (6, [.int 0, .int (-1), .ref 34])), (34, .inl (0, 40, []))]) rfl ?_
  refine cb_putF (k0 := 0) (k := 4) (ty := tyX9 4) C hin2 rfl inlX9 tyX9_ok nmX9 rfl (by decide) qw_25 rfl rfl (tyX9_ok 4 (by decide)) ⟨rfl, fun _ => ⟨rfl, rfl⟩⟩ (by decide) dX9_init_99 ?_
  refine WB.L (L' := [(0, .inr (9, [.ref 1, .ref 4, .ref 11, .int 0, .ref 26, .int 0, .null, .null, .null, .null, .null, .null, .null])), (1, .inr (1, [.int 0, .int 4, .ref 2, .ref 3])), (2, .inl (0, 3, [])), (3, .inl (0, 6, [])), (4, .inr (4, [.ref 5, .ref 6, .ref 7, .ref 8, .ref 9, .ref 10, .int 0])), (5, .inl (0, 3, [])), (6, .inl (0, 6, [])), (7, .inl (0, 4, [])), (8, .inl (0, 6, [])), (9, .inl (0, 6, [])), (10, .inl (0, 8, [])), (11, .inl (4, 2, [some 12, some 19])), (12, .inr (4, [.ref 13, .ref 14, .ref 15, .ref 16, .ref 17, .ref 18, .int 0])), (13, .inl (0, 3, [])), (14, .inl (0, 6, [])), (15, .inl (0, 4, [])), (16, .inl (0, 6, [])), (17, .inl (0, 6, [])), (18, .inl (0, 8, [])), (19, .inr (4, [.ref 20, .ref 21, .ref 22, .ref 23, .ref 24, .ref 25, .int 0])), (20, .inl (0, 3, [])), (21, .inl (0, 6, [])), (22, .inl (0, 4, [])), (23, .inl (0, 6, [])), (24, .inl (0, 6, [])), (25, .inl (0, 8, [])), (26, .inl (5, 4, [some 27, some 29, some 31, some 33])), (27, .inr (6, [.int 0, .int (-1), .ref 28])), (28, .inl (0, 40, [])), (29, .inr (6, [.int 0, .int (-1), .ref 30])), (30, .inl (0, 40, [])), (31, .inr (6, [.int 0, .int (-1), .ref 32])), (32, .inl (0, 40, [])), (33, .inr (6, [.int 0, .int (-1), .ref 34])), (34, .inl (0, 40, []))]) rfl ?_
  refine cb_aload_n C dX9_init_102 rfl ?_
  refine cb_new (q := 35) (ci := 5) C tyX5 [.null, .int 0, .int 0, .int 0, .int 0, .null, .null, .int 0, .int 0, .int 0, .int 0, .int 0, .int 0, .int 0, .int 0] rfl (by decide) rfl inlX5 tyX5_ok qw_26 qw_27 qw_28 (by decide +kernel) rfl (Nat.le_of_ble_eq_true rfl) (Nat.le_of_ble_eq_true rfl) dX9_init_103 ?_
  refine cb_dup C dX9_init_106 rfl ?_
  refine cb_callN C (hc_X5_35) mc_X5 (C.2.2.2.2.2.2.1.1 (36, yX5_init) (List.mem_of_getElem? (i := 3) rfl)) ⟨Nat.le_of_ble_eq_true rfl, Nat.le_of_ble_eq_true rfl⟩ ⟨Nat.le_of_ble_eq_true rfl, Nat.le_of_ble_eq_true rfl⟩ (Nat.le_of_ble_eq_true rfl) dX9_init_107 (by decide) (by decide) ?_
  refine WB.L (L' := [(0, .inr (9, [.ref 1, .ref 4, .ref 11, .int 0, .ref 26, .int 0, .null, .null, .null, .null, .null, .null, .null])), (1, .inr (1, [.int 0, .int 4, .ref 2, .ref 3])), (2, .inl (0, 3, [])), (3, .inl (0, 6, [])), (4, .inr (4, [.ref 5, .ref 6, .ref 7, .ref 8, .ref 9, .ref 10, .int 0])), (5, .inl (0, 3, [])), (6, .inl (0, 6, [])), (7, .inl (0, 4, [])), (8, .inl (0, 6, [])), (9, .inl (0, 6, [])), (10, .inl (0, 8, [])), (11, .inl (4, 2, [some 12, some 19])), (12, .inr (4, [.ref 13, .ref 14, .ref 15, .ref 16, .ref 17, .ref 18, .int 0])), (13, .inl (0, 3, [])), (14, .inl (0, 6, [])), (15, .inl (0, 4, [])), (16, .inl (0, 6, [])), (17, .inl (0, 6, [])), (18, .inl (0, 8, [])), (19, .inr (4, [.ref 20, .ref 21, .ref 22, .ref 23, .ref 24, .ref 25, .int 0])), (20, .inl (0, 3, [])), (21, .inl (0, 6, [])), (22, .inl (0, 4, [])), (23, .inl (0, 6, [])), (24, .inl (0, 6, [])), (25, .inl (0, 8, [])), (26, .inl (5, 4, [some 27, some 29, some 31, some 33])), (27, .inr (6, [.int 0, .int (-1), .ref 28])), (28, .inl (0, 40, [])), (29, .inr (6, [.int 0, .int (-1), .ref 30])), (30, .inl (0, 40, [])), (31, .inr (6, [.int 0, .int (-1), .ref 32])), (32, .inl (0, 40, [])), (33, .inr (6, [.int 0, .int (-1), .ref 34])), (34, .inl (0, 40, [])), (35, .inr (5, [.ref 36, .int 0, .int 0, .int 0, .int 0, .ref 37, .ref 40, .int 0, .int 0, .int 0, .int 0, .int 0, .int 0, .int 0, .int 0])), (36, .inl (1, 320, [])), (37, .inr (1, [.int 0, .int 4, .ref 38, .ref 39])), (38, .inl (0, 3, [])), (39, .inl (0, 6, [])), (40, .inr (4, [.ref 41, .ref 42, .ref 43, .ref 44, .ref 45, .ref 46, .int 0])), (41, .inl (0, 3, [])), (42, .inl (0, 6, [])), (43, .inl (0, 4, [])), (44, .inl (0, 6, [])), (45, .inl (0, 6, [])), (46, .inl (0, 8, []))]) rfl ?_
  refine cb_putF (k0 := 0) (k := 6) (ty := tyX9 6) C hin2 rfl inlX9 tyX9_ok nmX9 rfl (by decide) qw_29 rfl rfl (tyX9_ok 6 (by decide)) ⟨rfl, fun _ => ⟨rfl, rfl⟩⟩ (by decide) dX9_init_110 ?_
  refine WB.L (L' := [(0, .inr (9, [.ref 1, .ref 4, .ref 11, .int 0, .ref 26, .int 0, .ref 35, .null, .null, .null, .null, .null, .null])), (1, .inr (1, [.int 0, .int 4, .ref 2, .ref 3])), (2, .inl (0, 3, [])), (3, .inl (0, 6, [])), (4, .inr (4, [.ref 5, .ref 6, .ref 7, .ref 8, .ref 9, .ref 10, .int 0])), (5, .inl (0, 3, [])), (6, .inl (0, 6, [])), (7, .inl (0, 4, [])), (8, .inl (0, 6, [])), (9, .inl (0, 6, [])), (10, .inl (0, 8, [])), (11, .inl (4, 2, [some 12, some 19])), (12, .inr (4, [.ref 13, .ref 14, .ref 15, .ref 16, .ref 17, .ref 18, .int 0])), (13, .inl (0, 3, [])), (14, .inl (0, 6, [])), (15, .inl (0, 4, [])), (16, .inl (0, 6, [])), (17, .inl (0, 6, [])), (18, .inl (0, 8, [])), (19, .inr (4, [.ref 20, .ref 21, .ref 22, .ref 23, .ref 24, .ref 25, .int 0])), (20, .inl (0, 3, [])), (21, .inl (0, 6, [])), (22, .inl (0, 4, [])), (23, .inl (0, 6, [])), (24, .inl (0, 6, [])), (25, .inl (0, 8, [])), (26, .inl (5, 4, [some 27, some 29, some 31, some 33])), (27, .inr (6, [.int 0, .int (-1), .ref 28])), (28, .inl (0, 40, [])), (29, .inr (6, [.int 0, .int (-1), .ref 30])), (30, .inl (0, 40, [])), (31, .inr (6, [.int 0, .int (-1), .ref 32])), (32, .inl (0, 40, [])), (33, .inr (6, [.int 0, .int (-1), .ref 34])), (34, .inl (0, 40, [])), (35, .inr (5, [.ref 36, .int 0, .int 0, .int 0, .int 0, .ref 37, .ref 40, .int 0, .int 0, .int 0, .int 0, .int 0, .int 0, .int 0, .int 0])), (36, .inl (1, 320, [])), (37, .inr (1, [.int 0, .int 4, .ref 38, .ref 39])), (38, .inl (0, 3, [])), (39, .inl (0, 6, [])), (40, .inr (4, [.ref 41, .ref 42, .ref 43, .ref 44, .ref 45, .ref 46, .int 0])), (41, .inl (0, 3, [])), (42, .inl (0, 6, [])), (43, .inl (0, 4, [])), (44, .inl (0, 6, [])), (45, .inl (0, 6, [])), (46, .inl (0, 8, []))]) rfl ?_
  refine cb_aload_n C dX9_init_113 rfl ?_
  refine cb_new (q := 47) (ci := 7) C tyX7 [.null, .int 0, .int 0, .int 0] rfl (by decide) rfl inlX7 tyX7_ok qw_30 qw_31 qw_32 (by decide +kernel) rfl (Nat.le_of_ble_eq_true rfl) (Nat.le_of_ble_eq_true rfl) dX9_init_114 ?_
  refine cb_dup C dX9_init_117 rfl ?_
  refine cb_callN C (hc_X7_47) mc_X7 (C.2.2.2.2.2.2.1.1 (43, yX7_init) (List.mem_of_getElem? (i := 4) rfl)) ⟨Nat.le_of_ble_eq_true rfl, Nat.le_of_ble_eq_true rfl⟩ ⟨Nat.le_of_ble_eq_true rfl, Nat.le_of_ble_eq_true rfl⟩ (Nat.le_of_ble_eq_true rfl) dX9_init_118 (by decide) (by decide) ?_
  refine WB.L (L' := [(0, .inr (9, [.ref 1, .ref 4, .ref 11, .int 0, .ref 26, .int 0, .ref 35, .null, .null, .null, .null, .null, .null])), (1, .inr (1, [.int 0, .int 4, .ref 2, .ref 3])), (2, .inl (0, 3, [])), (3, .inl (0, 6, [])), (4, .inr (4, [.ref 5, .ref 6, .ref 7, .ref 8, .ref 9, .ref 10, .int 0])), (5, .inl (0, 3, [])), (6, .inl (0, 6, [])), (7, .inl (0, 4, [])), (8, .inl (0, 6, [])), (9, .inl (0, 6, [])), (10, .inl (0, 8, [])), (11, .inl (4, 2, [some 12, some 19])), (12, .inr (4, [.ref 13, .ref 14, .ref 15, .ref 16, .ref 17, .ref 18, .int 0])), (13, .inl (0, 3, [])), (14, .inl (0, 6, [])), (15, .inl (0, 4, [])), (16, .inl (0, 6, [])), (17, .inl (0, 6, [])), (18, .inl (0, 8, [])), (19, .inr (4, [.ref 20, .ref 21, .ref 22, .ref 23, .ref 24, .ref 25, .int 0])), (20, .inl (0, 3, [])), (21, .inl (0, 6, [])), (22, .inl (0, 4, [])), (23, .inl (0, 6, [])), (24, .inl (0, 6, [])), (25, .inl (0, 8, [])), (26, .inl (5, 4, [some 27, some 29, some 31, some 33])), (27, .inr (6, [.int 0, .int (-1), .ref 28])), (28, .inl (0, 40, [])), (29, .inr (6, [.int 0, .int (-1), .ref 30])), (30, .inl (0, 40, [])), (31, .inr (6, [.int 0, .int (-1), .ref 32])), (32, .inl (0, 40, [])), (33, .inr (6, [.int 0, .int (-1), .ref 34])), (34, .inl (0, 40, [])), (35, .inr (5, [.ref 36, .int 0, .int 0, .int 0, .int 0, .ref 37, .ref 40, .int 0, .int 0, .int 0, .int 0, .int 0, .int 0, .int 0, .int 0])), (36, .inl (1, 320, [])), (37, .inr (1, [.int 0, .int 4, .ref 38, .ref 39])), (38, .inl (0, 3, [])), (39, .inl (0, 6, [])), (40, .inr (4, [.ref 41, .ref 42, .ref 43, .ref 44, .ref 45, .ref 46, .int 0])), (41, .inl (0, 3, [])), (42, .inl (0, 6, [])), (43, .inl (0, 4, [])), (44, .inl (0, 6, [])), (45, .inl (0, 6, [])), (46, .inl (0, 8, [])), (47, .inr (7, [.ref 48, .int 0, .int 0, .int 0])), (48, .inl (0, 6, []))]) rfl ?_
  refine cb_putF (k0 := 0) (k := 7) (ty := tyX9 7) C hin2 rfl inlX9 tyX9_ok nmX9 rfl (by decide) qw_33 rfl rfl (tyX9_ok 7 (by decide)) ⟨rfl, fun _ => ⟨rfl, rfl⟩⟩ (by decide) dX9_init_121 ?_
  refine WB.L (L' := [(0, .inr (9, [.ref 1, .ref 4, .ref 11, .int 0, .ref 26, .int 0, .ref 35, .ref 47, .null, .null, .null, .null, .null])), (1, .inr (1, [.int 0, .int 4, .ref 2, .ref 3])), (2, .inl (0, 3, [])), (3, .inl (0, 6, [])), (4, .inr (4, [.ref 5, .ref 6, .ref 7, .ref 8, .ref 9, .ref 10, .int 0])), (5, .inl (0, 3, [])), (6, .inl (0, 6, [])), (7, .inl (0, 4, [])), (8, .inl (0, 6, [])), (9, .inl (0, 6, [])), (10, .inl (0, 8, [])), (11, .inl (4, 2, [some 12, some 19])), (12, .inr (4, [.ref 13, .ref 14, .ref 15, .ref 16, .ref 17, .ref 18, .int 0])), (13, .inl (0, 3, [])), (14, .inl (0, 6, [])), (15, .inl (0, 4, [])), (16, .inl (0, 6, [])), (17, .inl (0, 6, [])), (18, .inl (0, 8, [])), (19, .inr (4, [.ref 20, .ref 21, .ref 22, .ref 23, .ref 24, .ref 25, .int 0])), (20, .inl (0, 3, [])), (21, .inl (0, 6, [])), (22, .inl (0, 4, [])), (23, .inl (0, 6, [])), (24, .inl (0, 6, [])), (25, .inl (0, 8, [])), (26, .inl (5, 4, [some 27, some 29, some 31, some 33])), (27, .inr (6, [.int 0, .int (-1), .ref 28])), (28, .inl (0, 40, [])), (29, .inr (6, [.int 0, .int (-1), .ref 30])), (30, .inl (0, 40, [])), (31, .inr (6, [.int 0, .int (-1), .ref 32])), (32, .inl (0, 40, [])), (33, .inr (6, [.int 0, .int (-1), .ref 34])), (34, .inl (0, 40, [])), (35, .inr (5, [.ref 36, .int 0, .int 0, .int 0, .int 0, .ref 37, .ref 40, .int 0, .int 0, .int 0, .int 0, .int 0, .int 0, .int 0, .int 0])), (36, .inl (1, 320, [])), (37, .inr (1, [.int 0, .int 4, .ref 38, .ref 39])), (38, .inl (0, 3, [])), (39, .inl (0, 6, [])), (40, .inr (4, [.ref 41, .ref 42, .ref 43, .ref 44, .ref 45, .ref 46, .int 0])), (41, .inl (0, 3, [])), (42, .inl (0, 6, [])), (43, .inl (0, 4, [])), (44, .inl (0, 6, [])), (45, .inl (0, 6, [])), (46, .inl (0, 8, [])), (47, .inr (7, [.ref 48, .int 0, .int 0, .int 0])), (48, .inl (0, 6, []))]) rfl ?_
  refine cb_aload_n C dX9_init_124 rfl ?_
  refine cb_new (q := 49) (ci := 2) C tyX2 [.null, .int 0] rfl (by decide) rfl inlX2 tyX2_ok qw_34 qw_35 qw_36 (by decide +kernel) rfl (Nat.le_of_ble_eq_true rfl) (Nat.le_of_ble_eq_true rfl) dX9_init_125 ?_
  refine cb_dup C dX9_init_128 rfl ?_
  refine cb_callN C (hc_X2_49) mc_X2 (C.2.2.2.2.2.2.1.1 (50, yX2_init) (List.mem_of_getElem? (i := 5) rfl)) ⟨Nat.le_of_ble_eq_true rfl, Nat.le_of_ble_eq_true rfl⟩ ⟨Nat.le_of_ble_eq_true rfl, Nat.le_of_ble_eq_true rfl⟩ (Nat.le_of_ble_eq_true rfl) dX9_init_129 (by decide) (by decide) ?_
  refine WB.L (L' := [(0, .inr (9, [.ref 1, .ref 4, .ref 11, .int 0, .ref 26, .int 0, .ref 35, .ref 47, .null, .null, .null, .null, .null])), (1, .inr (1, [.int 0, .int 4, .ref 2, .ref 3])), (2, .inl (0, 3, [])), (3, .inl (0, 6, [])), (4, .inr (4, [.ref 5, .ref 6, .ref 7, .ref 8, .ref 9, .ref 10, .int 0])), (5, .inl (0, 3, [])), (6, .inl (0, 6, [])), (7, .inl (0, 4, [])), (8, .inl (0, 6, [])), (9, .inl (0, 6, [])), (10, .inl (0, 8, [])), (11, .inl (4, 2, [some 12, some 19])), (12, .inr (4, [.ref 13, .ref 14, .ref 15, .ref 16, .ref 17, .ref 18, .int 0])), (13, .inl (0, 3, [])), (14, .inl (0, 6, [])), (15, .inl (0, 4, [])), (16, .inl (0, 6, [])), (17, .inl (0, 6, [])), (18, .inl (0, 8, [])), (19, .inr (4, [.ref 20, .ref 21, .ref 22, .ref 23, .ref 24, .ref 25, .int 0])), (20, .inl (0, 3, [])), (21, .inl (0, 6, [])), (22, .inl (0, 4, [])), (23, .inl (0, 6, [])), (24, .inl (0, 6, [])), (25, .inl (0, 8, [])), (26, .inl (5, 4, [some 27, some 29, some 31, some 33])), (27, .inr (6, [.int 0, .int (-1), .ref 28])), (28, .inl (0, 40, [])), (29, .inr (6, [.int 0, .int (-1), .ref 30])), (30, .inl (0, 40, [])), (31, .inr (6, [.int 0, .int (-1), .ref 32])), (32, .inl (0, 40, [])), (33, .inr (6, [.int 0, .int (-1), .ref 34])), (34, .inl (0, 40, [])), (35, .inr (5, [.ref 36, .int 0, .int 0, .int 0, .int 0, .ref 37, .ref 40, .int 0, .int 0, .int 0, .int 0, .int 0, .int 0, .int 0, .int 0])), (36, .inl (1, 320, [])), (37, .inr (1, [.int 0, .int 4, .ref 38, .ref 39])), (38, .inl (0, 3, [])), (39, .inl (0, 6, [])), (40, .inr (4, [.ref 41, .ref 42, .ref 43, .ref 44, .ref 45, .ref 46, .int 0])), (41, .inl (0, 3, [])), (42, .inl (0, 6, [])), (43, .inl (0, 4, [])), (44, .inl (0, 6, [])), (45, .inl (0, 6, [])), (46, .inl (0, 8, [])), (47, .inr (7, [.ref 48, .int 0, .int 0, .int 0])), (48, .inl (0, 6, [])), (49, .inr (2, [.ref 50, .int 0])), (50, .inl (0, 6, []))]) rfl ?_
  refine cb_putF (k0 := 0) (k := 8) (ty := tyX9 8) C hin2 rfl inlX9 tyX9_ok nmX9 rfl (by decide) qw_37 rfl rfl (tyX9_ok 8 (by decide)) ⟨rfl, fun _ => ⟨rfl, rfl⟩⟩ (by decide) dX9_init_132 ?_
  refine WB.L (L' := [(0, .inr (9, [.ref 1, .ref 4, .ref 11, .int 0, .ref 26, .int 0, .ref 35, .ref 47, .ref 49, .null, .null, .null, .null])), (1, .inr (1, [.int 0, .int 4, .ref 2, .ref 3])), (2, .inl (0, 3, [])), (3, .inl (0, 6, [])), (4, .inr (4, [.ref 5, .ref 6, .ref 7, .ref 8, .ref 9, .ref 10, .int 0])), (5, .inl (0, 3, [])), (6, .inl (0, 6, [])), (7, .inl (0, 4, [])), (8, .inl (0, 6, [])), (9, .inl (0, 6, [])), (10, .inl (0, 8, [])), (11, .inl (4, 2, [some 12, some 19])), (12, .inr (4, [.ref 13, .ref 14, .ref 15, .ref 16, .ref 17, .ref 18, .int 0])), (13, .inl (0, 3, [])), (14, .inl (0, 6, [])), (15, .inl (0, 4, [])), (16, .inl (0, 6, [])), (17, .inl (0, 6, [])), (18, .inl (0, 8, [])), (19, .inr (4, [.ref 20, .ref 21, .ref 22, .ref 23, .ref 24, .ref 25, .int 0])), (20, .inl (0, 3, [])), (21, .inl (0, 6, [])), (22, .inl (0, 4, [])), (23, .inl (0, 6, [])), (24, .inl (0, 6, [])), (25, .inl (0, 8, [])), (26, .inl (5, 4, [some 27, some 29, some 31, some 33])), (27, .inr (6, [.int 0, .int (-1), .ref 28])), (28, .inl (0, 40, [])), (29, .inr (6, [.int 0, .int (-1), .ref 30])), (30, .inl (0, 40, [])), (31, .inr (6, [.int 0, .int (-1), .ref 32])), (32, .inl (0, 40, [])), (33, .inr (6, [.int 0, .int (-1), .ref 34])), (34, .inl (0, 40, [])), (35, .inr (5, [.ref 36, .int 0, .int 0, .int 0, .int 0, .ref 37, .ref 40, .int 0, .int 0, .int 0, .int 0, .int 0, .int 0, .int 0, .int 0])), (36, .inl (1, 320, [])), (37, .inr (1, [.int 0, .int 4, .ref 38, .ref 39])), (38, .inl (0, 3, [])), (39, .inl (0, 6, [])), (40, .inr (4, [.ref 41, .ref 42, .ref 43, .ref 44, .ref 45, .ref 46, .int 0])), (41, .inl (0, 3, [])), (42, .inl (0, 6, [])), (43, .inl (0, 4, [])), (44, .inl (0, 6, [])), (45, .inl (0, 6, [])), (46, .inl (0, 8, [])), (47, .inr (7, [.ref 48, .int 0, .int 0, .int 0])), (48, .inl (0, 6, [])), (49, .inr (2, [.ref 50, .int 0])), (50, .inl (0, 6, []))]) rfl ?_
  refine cb_aload_n C dX9_init_135 rfl ?_
  refine cb_new (q := 51) (ci := 3) C tyX3 [.null, .int 0, .int 0, .int 0, .int 0, .null, .null, .null, .null] rfl (by decide) rfl inlX3 tyX3_ok qw_38 qw_39 qw_40 (by decide +kernel) rfl (Nat.le_of_ble_eq_true rfl) (Nat.le_of_ble_eq_true rfl) dX9_init_136 ?_
  refine cb_dup C dX9_init_139 rfl ?_
  refine cb_callN C (hc_X3_51) mc_X3 (C.2.2.2.2.2.2.1.1 (57, yX3_init) (List.mem_of_getElem? (i := 6) rfl)) ⟨Nat.le_of_ble_eq_true rfl, Nat.le_of_ble_eq_true rfl⟩ ⟨Nat.le_of_ble_eq_true rfl, Nat.le_of_ble_eq_true rfl⟩ (Nat.le_of_ble_eq_true rfl) dX9_init_140 (by decide) (by decide) ?_
  refine WB.L (L' := [(0, .inr (9, [.ref 1, .ref 4, .ref 11, .int 0, .ref 26, .int 0, .ref 35, .ref 47, .ref 49, .null, .null, .null, .null])), (1, .inr (1, [.int 0, .int 4, .ref 2, .ref 3])), (2, .inl (0, 3, [])), (3, .inl (0, 6, [])), (4, .inr (4, [.ref 5, .ref 6, .ref 7, .ref 8, .ref 9, .ref 10, .int 0])), (5, .inl (0, 3, [])), (6, .inl (0, 6, [])), (7, .inl (0, 4, [])), (8, .inl (0, 6, [])), (9, .inl (0, 6, [])), (10, .inl (0, 8, [])), (11, .inl (4, 2, [some 12, some 19])), (12, .inr (4, [.ref 13, .ref 14, .ref 15, .ref 16, .ref 17, .ref 18, .int 0])), (13, .inl (0, 3, [])), (14, .inl (0, 6, [])), (15, .inl (0, 4, [])), (16, .inl (0, 6, [])), (17, .inl (0, 6, [])), (18, .inl (0, 8, [])), (19, .inr (4, [.ref 20, .ref 21, .ref 22, .ref 23, .ref 24, .ref 25, .int 0])), (20, .inl (0, 3, [])), (21, .inl (0, 6, [])), (22, .inl (0, 4, [])), (23, .inl (0, 6, [])), (24, .inl (0, 6, [])), (25, .inl (0, 8, [])), (26, .inl (5, 4, [some 27, some 29, some 31, some 33])), (27, .inr (6, [.int 0, .int (-1), .ref 28])), (28, .inl (0, 40, [])), (29, .inr (6, [.int 0, .int (-1), .ref 30])), (30, .inl (0, 40, [])), (31, .inr (6, [.int 0, .int (-1), .ref 32])), (32, .inl (0, 40, [])), (33, .inr (6, [.int 0, .int (-1), .ref 34])), (34, .inl (0, 40, [])), (35, .inr (5, [.ref 36, .int 0, .int 0, .int 0, .int 0, .ref 37, .ref 40, .int 0, .int 0, .int 0, .int 0, .int 0, .int 0, .int 0, .int 0])), (36, .inl (1, 320, [])), (37, .inr (1, [.int 0, .int 4, .ref 38, .ref 39])), (38, .inl (0, 3, [])), (39, .inl (0, 6, [])), (40, .inr (4, [.ref 41, .ref 42, .ref 43, .ref 44, .ref 45, .ref 46, .int 0])), (41, .inl (0, 3, [])), (42, .inl (0, 6, [])), (43, .inl (0, 4, [])), (44, .inl (0, 6, [])), (45, .inl (0, 6, [])), (46, .inl (0, 8, [])), (47, .inr (7, [.ref 48, .int 0, .int 0, .int 0])), (48, .inl (0, 6, [])), (49, .inr (2, [.ref 50, .int 0])), (50, .inl (0, 6, [])), (51, .inr (3, [.ref 52, .int 0, .int 0, .int 0, .int 1, .ref 53, .ref 54, .ref 55, .ref 56])), (52, .inl (0, 6, [])), (53, .inl (0, 6, [])), (54, .inl (0, 7, [])), (55, .inl (0, 6, [])), (56, .inl (3, 384, []))]) rfl ?_
  refine cb_putF (k0 := 0) (k := 9) (ty := tyX9 9) C hin2 rfl inlX9 tyX9_ok nmX9 rfl (by decide) qw_41 rfl rfl (tyX9_ok 9 (by decide)) ⟨rfl, fun _ => ⟨rfl, rfl⟩⟩ (by decide) dX9_init_143 ?_
  refine WB.L (L' := [(0, .inr (9, [.ref 1, .ref 4, .ref 11, .int 0, .ref 26, .int 0, .ref 35, .ref 47, .ref 49, .ref 51, .null, .null, .null])), (1, .inr (1, [.int 0, .int 4, .ref 2, .ref 3])), (2, .inl (0, 3, [])), (3, .inl (0, 6, [])), (4, .inr (4, [.ref 5, .ref 6, .ref 7, .ref 8, .ref 9, .ref 10, .int 0])), (5, .inl (0, 3, [])), (6, .inl (0, 6, [])), (7, .inl (0, 4, [])), (8, .inl (0, 6, [])), (9, .inl (0, 6, [])), (10, .inl (0, 8, [])), (11, .inl (4, 2, [some 12, some 19])), (12, .inr (4, [.ref 13, .ref 14, .ref 15, .ref 16, .ref 17, .ref 18, .int 0])), (13, .inl (0, 3, [])), (14, .inl (0, 6, [])), (15, .inl (0, 4, [])), (16, .inl (0, 6, [])), (17, .inl (0, 6, [])), (18, .inl (0, 8, [])), (19, .inr (4, [.ref 20, .ref 21, .ref 22, .ref 23, .ref 24, .ref 25, .int 0])), (20, .inl (0, 3, [])), (21, .inl (0, 6, [])), (22, .inl (0, 4, [])), (23, .inl (0, 6, [])), (24, .inl (0, 6, [])), (25, .inl (0, 8, [])), (26, .inl (5, 4, [some 27, some 29, some 31, some 33])), (27, .inr (6, [.int 0, .int (-1), .ref 28])), (28, .inl (0, 40, [])), (29, .inr (6, [.int 0, .int (-1), .ref 30])), (30, .inl (0, 40, [])), (31, .inr (6, [.int 0, .int (-1), .ref 32])), (32, .inl (0, 40, [])), (33, .inr (6, [.int 0, .int (-1), .ref 34])), (34, .inl (0, 40, [])), (35, .inr (5, [.ref 36, .int 0, .int 0, .int 0, .int 0, .ref 37, .ref 40, .int 0, .int 0, .int 0, .int 0, .int 0, .int 0, .int 0, .int 0])), (36, .inl (1, 320, [])), (37, .inr (1, [.int 0, .int 4, .ref 38, .ref 39])), (38, .inl (0, 3, [])), (39, .inl (0, 6, [])), (40, .inr (4, [.ref 41, .ref 42, .ref 43, .ref 44, .ref 45, .ref 46, .int 0])), (41, .inl (0, 3, [])), (42, .inl (0, 6, [])), (43, .inl (0, 4, [])), (44, .inl (0, 6, [])), (45, .inl (0, 6, [])), (46, .inl (0, 8, [])), (47, .inr (7, [.ref 48, .int 0, .int 0, .int 0])), (48, .inl (0, 6, [])), (49, .inr (2, [.ref 50, .int 0])), (50, .inl (0, 6, [])), (51, .inr (3, [.ref 52, .int 0, .int 0, .int 0, .int 1, .ref 53, .ref 54, .ref 55, .ref 56])), (52, .inl (0, 6, [])), (53, .inl (0, 6, [])), (54, .inl (0, 7, [])), (55, .inl (0, 6, [])), (56, .inl (3, 384, []))]) rfl ?_
  refine cb_aload_n C dX9_init_146 rfl ?_
  refine cb_new (q := 57) (ci := 0) C tyX0 [.null, .int 0] rfl (by decide) rfl inlX0 tyX0_ok qw_42 qw_43 qw_44 (by decide +kernel) rfl (Nat.le_of_ble_eq_true rfl) (Nat.le_of_ble_eq_true rfl) dX9_init_147 ?_
  refine cb_dup C dX9_init_150 rfl ?_
  refine cb_callN C (hc_X0_57) mc_X0 (C.2.2.2.2.2.2.1.1 (64, yX0_init) (List.mem_of_getElem? (i := 7) rfl)) ⟨Nat.le_of_ble_eq_true rfl, Nat.le_of_ble_eq_true rfl⟩ ⟨Nat.le_of_ble_eq_true rfl, Nat.le_of_ble_eq_true rfl⟩ (Nat.le_of_ble_eq_true rfl) dX9_init_151 (by decide) (by decide) ?_
  refine WB.L (L' := [(0, .inr (9, [.ref 1, .ref 4, .ref 11, .int 0, .ref 26, .int 0, .ref 35, .ref 47, .ref 49, .ref 51, .null, .null, .null])), (1, .inr (1, [.int 0, .int 4, .ref 2, .ref 3])), (2, .inl (0, 3, [])), (3, .inl (0, 6, [])), (4, .inr (4, [.ref 5, .ref 6, .ref 7, .ref 8, .ref 9, .ref 10, .int 0])), (5, .inl (0, 3, [])), (6, .inl (0, 6, [])), (7, .inl (0, 4, [])), (8, .inl (0, 6, [])), (9, .inl (0, 6, [])), (10, .inl (0, 8, [])), (11, .inl (4, 2, [some 12, some 19])), (12, .inr (4, [.ref 13, .ref 14, .ref 15, .ref 16, .ref 17, .ref 18, .int 0])), (13, .inl (0, 3, [])), (14, .inl (0, 6, [])), (15, .inl (0, 4, [])), (16, .inl (0, 6, [])), (17, .inl (0, 6, [])), (18, .inl (0, 8, [])), (19, .inr (4, [.ref 20, .ref 21, .ref 22, .ref 23, .ref 24, .ref 25, .int 0])), (20, .inl (0, 3, [])), (21, .inl (0, 6, [])), (22, .inl (0, 4, [])), (23, .inl (0, 6, [])), (24, .inl (0, 6, [])), (25, .inl (0, 8, [])), (26, .inl (5, 4, [some 27, some 29, some 31, some 33])), (27, .inr (6, [.int 0, .int (-1), .ref 28])), (28, .inl (0, 40, [])), (29, .inr (6, [.int 0, .int (-1), .ref 30])), (30, .inl (0, 40, [])), (31, .inr (6, [.int 0, .int (-1), .ref 32])), (32, .inl (0, 40, [])), (33, .inr (6, [.int 0, .int (-1), .ref 34])), (34, .inl (0, 40, [])), (35, .inr (5, [.ref 36, .int 0, .int 0, .int 0, .int 0, .ref 37, .ref 40, .int 0, .int 0, .int 0, .int 0, .int 0, .int 0, .int 0, .int 0])), (36, .inl (1, 320, [])), (37, .inr (1, [.int 0, .int 4, .ref 38, .ref 39])), (38, .inl (0, 3, [])), (39, .inl (0, 6, [])), (40, .inr (4, [.ref 41, .ref 42, .ref 43, .ref 44, .ref 45, .ref 46, .int 0])), (41, .inl (0, 3, [])), (42, .inl (0, 6, [])), (43, .inl (0, 4, [])), (44, .inl (0, 6, [])), (45, .inl (0, 6, [])), (46, .inl (0, 8, [])), (47, .inr (7, [.ref 48, .int 0, .int 0, .int 0])), (48, .inl (0, 6, [])), (49, .inr (2, [.ref 50, .int 0])), (50, .inl (0, 6, [])), (51, .inr (3, [.ref 52, .int 0, .int 0, .int 0, .int 1, .ref 53, .ref 54, .ref 55, .ref 56])), (52, .inl (0, 6, [])), (53, .inl (0, 6, [])), (54, .inl (0, 7, [])), (55, .inl (0, 6, [])), (56, .inl (3, 384, [])), (57, .inr (0, [.ref 58, .int 0])), (58, .inl (0, 3, []))]) rfl ?_
  refine cb_putF (k0 := 0) (k := 10) (ty := tyX9 10) C hin2 rfl inlX9 tyX9_ok nmX9 rfl (by decide) qw_45 rfl rfl (tyX9_ok 10 (by decide)) ⟨rfl, fun _ => ⟨rfl, rfl⟩⟩ (by decide) dX9_init_154 ?_
  refine WB.L (L' := [(0, .inr (9, [.ref 1, .ref 4, .ref 11, .int 0, .ref 26, .int 0, .ref 35, .ref 47, .ref 49, .ref 51, .ref 57, .null, .null])), (1, .inr (1, [.int 0, .int 4, .ref 2, .ref 3])), (2, .inl (0, 3, [])), (3, .inl (0, 6, [])), (4, .inr (4, [.ref 5, .ref 6, .ref 7, .ref 8, .ref 9, .ref 10, .int 0])), (5, .inl (0, 3, [])), (6, .inl (0, 6, [])), (7, .inl (0, 4, [])), (8, .inl (0, 6, [])), (9, .inl (0, 6, [])), (10, .inl (0, 8, [])), (11, .inl (4, 2, [some 12, some 19])), (12, .inr (4, [.ref 13, .ref 14, .ref 15, .ref 16, .ref 17, .ref 18, .int 0])), (13, .inl (0, 3, [])), (14, .inl (0, 6, [])), (15, .inl (0, 4, [])), (16, .inl (0, 6, [])), (17, .inl (0, 6, [])), (18, .inl (0, 8, [])), (19, .inr (4, [.ref 20, .ref 21, .ref 22, .ref 23, .ref 24, .ref 25, .int 0])), (20, .inl (0, 3, [])), (21, .inl (0, 6, [])), (22, .inl (0, 4, [])), (23, .inl (0, 6, [])), (24, .inl (0, 6, [])), (25, .inl (0, 8, [])), (26, .inl (5, 4, [some 27, some 29, some 31, some 33])), (27, .inr (6, [.int 0, .int (-1), .ref 28])), (28, .inl (0, 40, [])), (29, .inr (6, [.int 0, .int (-1), .ref 30])), (30, .inl (0, 40, [])), (31, .inr (6, [.int 0, .int (-1), .ref 32])), (32, .inl (0, 40, [])), (33, .inr (6, [.int 0, .int (-1), .ref 34])), (34, .inl (0, 40, [])), (35, .inr (5, [.ref 36, .int 0, .int 0, .int 0, .int 0, .ref 37, .ref 40, .int 0, .int 0, .int 0, .int 0, .int 0, .int 0, .int 0, .int 0])), (36, .inl (1, 320, [])), (37, .inr (1, [.int 0, .int 4, .ref 38, .ref 39])), (38, .inl (0, 3, [])), (39, .inl (0, 6, [])), (40, .inr (4, [.ref 41, .ref 42, .ref 43, .ref 44, .ref 45, .ref 46, .int 0])), (41, .inl (0, 3, [])), (42, .inl (0, 6, [])), (43, .inl (0, 4, [])), (44, .inl (0, 6, [])), (45, .inl (0, 6, [])), (46, .inl (0, 8, [])), (47, .inr (7, [.ref 48, .int 0, .int 0, .int 0])), (48, .inl (0, 6, [])), (49, .inr (2, [.ref 50, .int 0])), (50, .inl (0, 6, [])), (51, .inr (3, [.ref 52, .int 0, .int 0, .int 0, .int 1, .ref 53, .ref 54, .ref 55, .ref 56])), (52, .inl (0, 6, [])), (53, .inl (0, 6, [])), (54, .inl (0, 7, [])), (55, .inl (0, 6, [])), (56, .inl (3, 384, [])), (57, .inr (0, [.ref 58, .int 0])), (58, .inl (0, 3, []))]) rfl ?_
  refine cb_aload_n C dX9_init_157 rfl ?_
  refine cb_new (q := 59) (ci := 8) C tyX8 [.null, .long 0] rfl (by decide) rfl inlX8 tyX8_ok qw_46 qw_47 qw_48 (by decide +kernel) rfl (Nat.le_of_ble_eq_true rfl) (Nat.le_of_ble_eq_true rfl) dX9_init_158 ?_
  refine cb_dup C dX9_init_161 rfl ?_
  refine cb_callN C (hc_X8_59) mc_X8 (C.2.2.2.2.2.2.1.1 (71, yX8_init) (List.mem_of_getElem? (i := 8) rfl)) ⟨Nat.le_of_ble_eq_true rfl, Nat.le_of_ble_eq_true rfl⟩ ⟨Nat.le_of_ble_eq_true rfl, Nat.le_of_ble_eq_true rfl⟩ (Nat.le_of_ble_eq_true rfl) dX9_init_162 (by decide) (by decide) ?_
  refine WB.L (L' := [(0, .inr (9, [.ref 1, .ref 4, .ref 11, .int 0, .ref 26, .int 0, .ref 35, .ref 47, .ref 49, .ref 51, .ref 57, .null, .null])), (1, .inr (1, [.int 0, .int 4, .ref 2, .ref 3])), (2, .inl (0, 3, [])), (3, .inl (0, 6, [])), (4, .inr (4, [.ref 5, .ref 6, .ref 7, .ref 8, .ref 9, .ref 10, .int 0])), (5, .inl (0, 3, [])), (6, .inl (0, 6, [])), (7, .inl (0, 4, [])), (8, .inl (0, 6, [])), (9, .inl (0, 6, [])), (10, .inl (0, 8, [])), (11, .inl (4, 2, [some 12, some 19])), (12, .inr (4, [.ref 13, .ref 14, .ref 15, .ref 16, .ref 17, .ref 18, .int 0])), (13, .inl (0, 3, [])), (14, .inl (0, 6, [])), (15, .inl (0, 4, [])), (16, .inl (0, 6, [])), (17, .inl (0, 6, [])), (18, .inl (0, 8, [])), (19, .inr (4, [.ref 20, .ref 21, .ref 22, .ref 23, .ref 24, .ref 25, .int 0])), (20, .inl (0, 3, [])), (21, .inl (0, 6, [])), (22, .inl (0, 4, [])), (23, .inl (0, 6, [])), (24, .inl (0, 6, [])), (25, .inl (0, 8, [])), (26, .inl (5, 4, [some 27, some 29, some 31, some 33])), (27, .inr (6, [.int 0, .int (-1), .ref 28])), (28, .inl (0, 40, [])), (29, .inr (6, [.int 0, .int (-1), .ref 30])), (30, .inl (0, 40, [])), (31, .inr (6, [.int 0, .int (-1), .ref 32])), (32, .inl (0, 40, [])), (33, .inr (6, [.int 0, .int (-1), .ref 34])), (34, .inl (0, 40, [])), (35, .inr (5, [.ref 36, .int 0, .int 0, .int 0, .int 0, .ref 37, .ref 40, .int 0, .int 0, .int 0, .int 0, .int 0, .int 0, .int 0, .int 0])), (36, .inl (1, 320, [])), (37, .inr (1, [.int 0, .int 4, .ref 38, .ref 39])), (38, .inl (0, 3, [])), (39, .inl (0, 6, [])), (40, .inr (4, [.ref 41, .ref 42, .ref 43, .ref 44, .ref 45, .ref 46, .int 0])), (41, .inl (0, 3, [])), (42, .inl (0, 6, [])), (43, .inl (0, 4, [])), (44, .inl (0, 6, [])), (45, .inl (0, 6, [])), (46, .inl (0, 8, [])), (47, .inr (7, [.ref 48, .int 0, .int 0, .int 0])), (48, .inl (0, 6, [])), (49, .inr (2, [.ref 50, .int 0])), (50, .inl (0, 6, [])), (51, .inr (3, [.ref 52, .int 0, .int 0, .int 0, .int 1, .ref 53, .ref 54, .ref 55, .ref 56])), (52, .inl (0, 6, [])), (53, .inl (0, 6, [])), (54, .inl (0, 7, [])), (55, .inl (0, 6, [])), (56, .inl (3, 384, [])), (57, .inr (0, [.ref 58, .int 0])), (58, .inl (0, 3, [])), (59, .inr (8, [.ref 60, .long 1])), (60, .inl (3, 4, []))]) rfl ?_
  refine cb_putF (k0 := 0) (k := 11) (ty := tyX9 11) C hin2 rfl inlX9 tyX9_ok nmX9 rfl (by decide) qw_49 rfl rfl (tyX9_ok 11 (by decide)) ⟨rfl, fun _ => ⟨rfl, rfl⟩⟩ (by decide) dX9_init_165 ?_
  refine WB.L (L' := [(0, .inr (9, [.ref 1, .ref 4, .ref 11, .int 0, .ref 26, .int 0, .ref 35, .ref 47, .ref 49, .ref 51, .ref 57, .ref 59, .null])), (1, .inr (1, [.int 0, .int 4, .ref 2, .ref 3])), (2, .inl (0, 3, [])), (3, .inl (0, 6, [])), (4, .inr (4, [.ref 5, .ref 6, .ref 7, .ref 8, .ref 9, .ref 10, .int 0])), (5, .inl (0, 3, [])), (6, .inl (0, 6, [])), (7, .inl (0, 4, [])), (8, .inl (0, 6, [])), (9, .inl (0, 6, [])), (10, .inl (0, 8, [])), (11, .inl (4, 2, [some 12, some 19])), (12, .inr (4, [.ref 13, .ref 14, .ref 15, .ref 16, .ref 17, .ref 18, .int 0])), (13, .inl (0, 3, [])), (14, .inl (0, 6, [])), (15, .inl (0, 4, [])), (16, .inl (0, 6, [])), (17, .inl (0, 6, [])), (18, .inl (0, 8, [])), (19, .inr (4, [.ref 20, .ref 21, .ref 22, .ref 23, .ref 24, .ref 25, .int 0])), (20, .inl (0, 3, [])), (21, .inl (0, 6, [])), (22, .inl (0, 4, [])), (23, .inl (0, 6, [])), (24, .inl (0, 6, [])), (25, .inl (0, 8, [])), (26, .inl (5, 4, [some 27, some 29, some 31, some 33])), (27, .inr (6, [.int 0, .int (-1), .ref 28])), (28, .inl (0, 40, [])), (29, .inr (6, [.int 0, .int (-1), .ref 30])), (30, .inl (0, 40, [])), (31, .inr (6, [.int 0, .int (-1), .ref 32])), (32, .inl (0, 40, [])), (33, .inr (6, [.int 0, .int (-1), .ref 34])), (34, .inl (0, 40, [])), (35, .inr (5, [.ref 36, .int 0, .int 0, .int 0, .int 0, .ref 37, .ref 40, .int 0, .int 0, .int 0, .int 0, .int 0, .int 0, .int 0, .int 0])), (36, .inl (1, 320, [])), (37, .inr (1, [.int 0, .int 4, .ref 38, .ref 39])), (38, .inl (0, 3, [])), (39, .inl (0, 6, [])), (40, .inr (4, [.ref 41, .ref 42, .ref 43, .ref 44, .ref 45, .ref 46, .int 0])), (41, .inl (0, 3, [])), (42, .inl (0, 6, [])), (43, .inl (0, 4, [])), (44, .inl (0, 6, [])), (45, .inl (0, 6, [])), (46, .inl (0, 8, [])), (47, .inr (7, [.ref 48, .int 0, .int 0, .int 0])), (48, .inl (0, 6, [])), (49, .inr (2, [.ref 50, .int 0])), (50, .inl (0, 6, [])), (51, .inr (3, [.ref 52, .int 0, .int 0, .int 0, .int 1, .ref 53, .ref 54, .ref 55, .ref 56])), (52, .inl (0, 6, [])), (53, .inl (0, 6, [])), (54, .inl (0, 7, [])), (55, .inl (0, 6, [])), (56, .inl (3, 384, [])), (57, .inr (0, [.ref 58, .int 0])), (58, .inl (0, 3, [])), (59, .inr (8, [.ref 60, .long 1])), (60, .inl (3, 4, []))]) rfl ?_
  refine cb_aload_n C dX9_init_168 rfl ?_
  refine cb_iconst (v := 3) C dX9_init_169 (by decide) ?_
  refine cb_newa (q := 61) (t := 0) (N := 3) (atype := .int) (ty := .int) C rfl rfl (by decide) qw_50 rfl (fun _ _ => rfl) (fun _ _ => rfl) (fun _ _ => rfl) (by decide) (by decide) (Nat.le_of_ble_eq_true rfl) (Nat.le_of_ble_eq_true rfl) (Nat.le_of_ble_eq_true rfl) dX9_init_170 ?_
  refine WB.L (L' := [(0, .inr (9, [.ref 1, .ref 4, .ref 11, .int 0, .ref 26, .int 0, .ref 35, .ref 47, .ref 49, .ref 51, .ref 57, .ref 59, .null])), (1, .inr (1, [.int 0, .int 4, .ref 2, .ref 3])), (2, .inl (0, 3, [])), (3, .inl (0, 6, [])), (4, .inr (4, [.ref 5, .ref 6, .ref 7, .ref 8, .ref 9, .ref 10, .int 0])), (5, .inl (0, 3, [])), (6, .inl (0, 6, [])), (7, .inl (0, 4, [])), (8, .inl (0, 6, [])), (9, .inl (0, 6, [])), (10, .inl (0, 8, [])), (11, .inl (4, 2, [some 12, some 19])), (12, .inr (4, [.ref 13, .ref 14, .ref 15, .ref 16, .ref 17, .ref 18, .int 0])), (13, .inl (0, 3, [])), (14, .inl (0, 6, [])), (15, .inl (0, 4, [])), (16, .inl (0, 6, [])), (17, .inl (0, 6, [])), (18, .inl (0, 8, [])), (19, .inr (4, [.ref 20, .ref 21, .ref 22, .ref 23, .ref 24, .ref 25, .int 0])), (20, .inl (0, 3, [])), (21, .inl (0, 6, [])), (22, .inl (0, 4, [])), (23, .inl (0, 6, [])), (24, .inl (0, 6, [])), (25, .inl (0, 8, [])), (26, .inl (5, 4, [some 27, some 29, some 31, some 33])), (27, .inr (6, [.int 0, .int (-1), .ref 28])), (28, .inl (0, 40, [])), (29, .inr (6, [.int 0, .int (-1), .ref 30])), (30, .inl (0, 40, [])), (31, .inr (6, [.int 0, .int (-1), .ref 32])), (32, .inl (0, 40, [])), (33, .inr (6, [.int 0, .int (-1), .ref 34])), (34, .inl (0, 40, [])), (35, .inr (5, [.ref 36, .int 0, .int 0, .int 0, .int 0, .ref 37, .ref 40, .int 0, .int 0, .int 0, .int 0, .int 0, .int 0, .int 0, .int 0])), (36, .inl (1, 320, [])), (37, .inr (1, [.int 0, .int 4, .ref 38, .ref 39])), (38, .inl (0, 3, [])), (39, .inl (0, 6, [])), (40, .inr (4, [.ref 41, .ref 42, .ref 43, .ref 44, .ref 45, .ref 46, .int 0])), (41, .inl (0, 3, [])), (42, .inl (0, 6, [])), (43, .inl (0, 4, [])), (44, .inl (0, 6, [])), (45, .inl (0, 6, [])), (46, .inl (0, 8, [])), (47, .inr (7, [.ref 48, .int 0, .int 0, .int 0])), (48, .inl (0, 6, [])), (49, .inr (2, [.ref 50, .int 0])), (50, .inl (0, 6, [])), (51, .inr (3, [.ref 52, .int 0, .int 0, .int 0, .int 1, .ref 53, .ref 54, .ref 55, .ref 56])), (52, .inl (0, 6, [])), (53, .inl (0, 6, [])), (54, .inl (0, 7, [])), (55, .inl (0, 6, [])), (56, .inl (3, 384, [])), (57, .inr (0, [.ref 58, .int 0])), (58, .inl (0, 3, [])), (59, .inr (8, [.ref 60, .long 1])), (60, .inl (3, 4, [])), (61, .inl (0, 3, []))]) rfl ?_
  refine cb_putF (k0 := 0) (k := 12) (ty := tyX9 12) C hin2 rfl inlX9 tyX9_ok nmX9 rfl (by decide) qw_51 rfl rfl (tyX9_ok 12 (by decide)) ⟨rfl, fun _ => ⟨rfl, rfl⟩⟩ (by decide) dX9_init_172 ?_
  refine WB.L (L' := [(0, .inr (9, [.ref 1, .ref 4, .ref 11, .int 0, .ref 26, .int 0, .ref 35, .ref 47, .ref 49, .ref 51, .ref 57, .ref 59, .ref 61])), (1, .inr (1, [.int 0, .int 4, .ref 2, .ref 3])), (2, .inl (0, 3, [])), (3, .inl (0, 6, [])), (4, .inr (4, [.ref 5, .ref 6, .ref 7, .ref 8, .ref 9, .ref 10, .int 0])), (5, .inl (0, 3, [])), (6, .inl (0, 6, [])), (7, .inl (0, 4, [])), (8, .inl (0, 6, [])), (9, .inl (0, 6, [])), (10, .inl (0, 8, [])), (11, .inl (4, 2, [some 12, some 19])), (12, .inr (4, [.ref 13, .ref 14, .ref 15, .ref 16, .ref 17, .ref 18, .int 0])), (13, .inl (0, 3, [])), (14, .inl (0, 6, [])), (15, .inl (0, 4, [])), (16, .inl (0, 6, [])), (17, .inl (0, 6, [])), (18, .inl (0, 8, [])), (19, .inr (4, [.ref 20, .ref 21, .ref 22, .ref 23, .ref 24, .ref 25, .int 0])), (20, .inl (0, 3, [])), (21, .inl (0, 6, [])), (22, .inl (0, 4, [])), (23, .inl (0, 6, [])), (24, .inl (0, 6, [])), (25, .inl (0, 8, [])), (26, .inl (5, 4, [some 27, some 29, some 31, some 33])), (27, .inr (6, [.int 0, .int (-1), .ref 28])), (28, .inl (0, 40, [])), (29, .inr (6, [.int 0, .int (-1), .ref 30])), (30, .inl (0, 40, [])), (31, .inr (6, [.int 0, .int (-1), .ref 32])), (32, .inl (0, 40, [])), (33, .inr (6, [.int 0, .int (-1), .ref 34])), (34, .inl (0, 40, [])), (35, .inr (5, [.ref 36, .int 0, .int 0, .int 0, .int 0, .ref 37, .ref 40, .int 0, .int 0, .int 0, .int 0, .int 0, .int 0, .int 0, .int 0])), (36, .inl (1, 320, [])), (37, .inr (1, [.int 0, .int 4, .ref 38, .ref 39])), (38, .inl (0, 3, [])), (39, .inl (0, 6, [])), (40, .inr (4, [.ref 41, .ref 42, .ref 43, .ref 44, .ref 45, .ref 46, .int 0])), (41, .inl (0, 3, [])), (42, .inl (0, 6, [])), (43, .inl (0, 4, [])), (44, .inl (0, 6, [])), (45, .inl (0, 6, [])), (46, .inl (0, 8, [])), (47, .inr (7, [.ref 48, .int 0, .int 0, .int 0])), (48, .inl (0, 6, [])), (49, .inr (2, [.ref 50, .int 0])), (50, .inl (0, 6, [])), (51, .inr (3, [.ref 52, .int 0, .int 0, .int 0, .int 1, .ref 53, .ref 54, .ref 55, .ref 56])), (52, .inl (0, 6, [])), (53, .inl (0, 6, [])), (54, .inl (0, 7, [])), (55, .inl (0, 6, [])), (56, .inl (3, 384, [])), (57, .inr (0, [.ref 58, .int 0])), (58, .inl (0, 3, [])), (59, .inr (8, [.ref 60, .long 1])), (60, .inl (3, 4, [])), (61, .inl (0, 3, []))]) rfl ?_
  exact cb_vret C hr hlk dX9_init_175
