theorem dX9_rest_39 : decode cX9_rest 39 = .ok (.iload_n 3, 1) := by decide +kernel
theorem dX9_rest_40 : decode cX9_rest 40 = .ok (.iaload, 1) := by decide +kernel
theorem dX9_rest_41 : decode cX9_rest 41 = .ok (.iaload, 1) := by decide +kernel
theorem dX9_rest_42 : decode cX9_rest 42 = .ok (.iload_n 1, 1) := by decide +kernel
theorem dX9_rest_43 : decode cX9_rest 43 = .ok (.ishr, 1) := by decide +kernel
theorem dX9_rest_44 : decode cX9_rest 44 = .ok (.iconst 1, 1) := by decide +kernel
theorem dX9_rest_45 : decode cX9_rest 45 = .ok (.iand, 1) := by decide +kernel
theorem dX9_rest_46 : decode cX9_rest 46 = .ok (.iadd, 1) := by decide +kernel
theorem dX9_rest_47 : decode cX9_rest 47 = .ok (.istore_n 2, 1) := by decide +kernel
theorem dX9_rest_48 : decode cX9_rest 48 = .ok (.iinc 3 1, 3) := by decide +kernel
theorem dX9_rest_51 : decode cX9_rest 51 = .ok (.goto (-34), 3) := by decide +kernel
theorem dX9_rest_54 : decode cX9_rest 54 = .ok (.iload_n 2, 1) := by decide +kernel
theorem dX9_rest_55 : decode cX9_rest 55 = .ok (.ireturn, 1) := by decide +kernel
theorem dX9_round_0 : decode cX9_round 0 = .ok (.iload_n 1, 1) := by decide +kernel
theorem dX9_round_1 : decode cX9_round 1 = .ok (.ifCond .eq 17, 3) := by decide +kernel
theorem dX9_round_4 : decode cX9_round 4 = .ok (.iload_n 1, 1) := by decide +kernel
theorem dX9_round_5 : decode cX9_round 5 = .ok (.bipush 10, 2) := by decide +kernel
theorem dX9_round_7 : decode cX9_round 7 = .ok (.if_icmp .lt 9, 3) := by decide +kernel
theorem dX9_round_10 : decode cX9_round 10 = .ok (.iload_n 1, 1) := by decide +kernel
theorem dX9_round_11 : decode cX9_round 11 = .ok (.bipush 13, 2) := by decide +kernel
theorem dX9_round_13 : decode cX9_round 13 = .ok (.if_icmp .lt 5, 3) := by decide +kernel
theorem dX9_round_16 : decode cX9_round 16 = .ok (.iconst (-1), 1) := by decide +kernel
theorem dX9_round_17 : decode cX9_round 17 = .ok (.ireturn, 1) := by decide +kernel
theorem dX9_round_18 : decode cX9_round 18 = .ok (.aload_n 0, 1) := by decide +kernel
theorem dX9_round_19 : decode cX9_round 19 = .ok (.getfield 10, 3) := by decide +kernel
theorem dX9_round_22 : decode cX9_round 22 = .ok (.getfield 113, 3) := by decide +kernel
theorem dX9_round_25 : decode cX9_round 25 = .ok (.ifCond .ne 6, 3) := by decide +kernel
theorem dX9_round_28 : decode cX9_round 28 = .ok (.bipush (-2), 2) := by decide +kernel
theorem dX9_round_30 : decode cX9_round 30 = .ok (.ireturn, 1) := by decide +kernel
theorem dX9_round_31 : decode cX9_round 31 = .ok (.aload_n 0, 1) := by decide +kernel
theorem dX9_round_32 : decode cX9_round 32 = .ok (.getfield 65, 3) := by decide +kernel
theorem dX9_round_35 : decode cX9_round 35 = .ok (.aload_n 0, 1) := by decide +kernel
theorem dX9_round_36 : decode cX9_round 36 = .ok (.invokevirtual 135, 3) := by decide +kernel
theorem dX9_round_39 : decode cX9_round 39 = .ok (.aload_n 0, 1) := by decide +kernel
theorem dX9_round_40 : decode cX9_round 40 = .ok (.getfield 19, 3) := by decide +kernel
theorem dX9_round_43 : decode cX9_round 43 = .ok (.getfield 151, 3) := by decide +kernel
theorem dX9_round_46 : decode cX9_round 46 = .ok (.invokevirtual 210, 3) := by decide +kernel
theorem dX9_round_49 : decode cX9_round 49 = .ok (.istore_n 2, 1) := by decide +kernel
theorem dX9_round_50 : decode cX9_round 50 = .ok (.iload_n 2, 1) := by decide +kernel
theorem dX9_round_51 : decode cX9_round 51 = .ok (.ifCond .ne 6, 3) := by decide +kernel
theorem dX9_round_54 : decode cX9_round 54 = .ok (.bipush (-4), 2) := by decide +kernel
theorem dX9_round_56 : decode cX9_round 56 = .ok (.ireturn, 1) := by decide +kernel
theorem dX9_round_57 : decode cX9_round 57 = .ok (.iload_n 1, 1) := by decide +kernel
theorem dX9_round_58 : decode cX9_round 58 = .ok (.ifCond .ne 5, 3) := by decide +kernel
theorem dX9_round_61 : decode cX9_round 61 = .ok (.iload_n 2, 1) := by decide +kernel
theorem dX9_round_62 : decode cX9_round 62 = .ok (.ireturn, 1) := by decide +kernel
theorem dX9_round_63 : decode cX9_round 63 = .ok (.iload_n 1, 1) := by decide +kernel
theorem dX9_round_64 : decode cX9_round 64 = .ok (.bipush 10, 2) := by decide +kernel
theorem dX9_round_66 : decode cX9_round 66 = .ok (.isub, 1) := by decide +kernel
theorem dX9_round_67 : decode cX9_round 67 = .ok (.iload_n 2, 1) := by decide +kernel
theorem dX9_round_68 : decode cX9_round 68 = .ok (.if_icmp .ge 18, 3) := by decide +kernel
theorem dX9_round_71 : decode cX9_round 71 = .ok (.aload_n 0, 1) := by decide +kernel
theorem dX9_round_72 : decode cX9_round 72 = .ok (.getfield 65, 3) := by decide +kernel
theorem dX9_round_75 : decode cX9_round 75 = .ok (.getfield 214, 3) := by decide +kernel
theorem dX9_round_78 : decode cX9_round 78 = .ok (.iload_n 1, 1) := by decide +kernel
theorem dX9_round_79 : decode cX9_round 79 = .ok (.bipush 10, 2) := by decide +kernel
theorem dX9_round_81 : decode cX9_round 81 = .ok (.isub, 1) := by decide +kernel
theorem dX9_round_82 : decode cX9_round 82 = .ok (.iaload, 1) := by decide +kernel
theorem dX9_round_83 : decode cX9_round 83 = .ok (.goto 5, 3) := by decide +kernel
theorem dX9_round_86 : decode cX9_round 86 = .ok (.bipush (-4), 2) := by decide +kernel
theorem dX9_round_88 : decode cX9_round 88 = .ok (.ireturn, 1) := by decide +kernel
theorem dX9_best_0 : decode cX9_best 0 = .ok (.iload_n 1, 1) := by decide +kernel
theorem dX9_best_1 : decode cX9_best 1 = .ok (.ifCond .eq 25, 3) := by decide +kernel
theorem dX9_best_4 : decode cX9_best 4 = .ok (.iload_n 1, 1) := by decide +kernel
theorem dX9_best_5 : decode cX9_best 5 = .ok (.bipush 10, 2) := by decide +kernel
theorem dX9_best_7 : decode cX9_best 7 = .ok (.if_icmp .lt 17, 3) := by decide +kernel
theorem dX9_best_10 : decode cX9_best 10 = .ok (.aload_n 0, 1) := by decide +kernel
theorem dX9_best_11 : decode cX9_best 11 = .ok (.getfield 10, 3) := by decide +kernel
theorem dX9_best_14 : decode cX9_best 14 = .ok (.iload_n 1, 1) := by decide +kernel
theorem dX9_best_15 : decode cX9_best 15 = .ok (.bipush 10, 2) := by decide +kernel
theorem dX9_best_17 : decode cX9_best 17 = .ok (.isub, 1) := by decide +kernel
theorem dX9_best_18 : decode cX9_best 18 = .ok (.invokevirtual 148, 3) := by decide +kernel
theorem dX9_best_21 : decode cX9_best 21 = .ok (.ifCond .ne 5, 3) := by decide +kernel
theorem dX9_best_24 : decode cX9_best 24 = .ok (.iconst (-1), 1) := by decide +kernel
theorem dX9_best_25 : decode cX9_best 25 = .ok (.ireturn, 1) := by decide +kernel
theorem dX9_best_26 : decode cX9_best 26 = .ok (.aload_n 0, 1) := by decide +kernel
theorem dX9_best_27 : decode cX9_best 27 = .ok (.getfield 58, 3) := by decide +kernel
theorem dX9_best_30 : decode cX9_best 30 = .ok (.aload_n 0, 1) := by decide +kernel
theorem dX9_best_31 : decode cX9_best 31 = .ok (.getfield 10, 3) := by decide +kernel
theorem dX9_best_34 : decode cX9_best 34 = .ok (.aload_n 0, 1) := by decide +kernel
theorem dX9_best_35 : decode cX9_best 35 = .ok (.getfield 19, 3) := by decide +kernel
theorem dX9_best_38 : decode cX9_best 38 = .ok (.aload_n 0, 1) := by decide +kernel
theorem dX9_best_39 : decode cX9_best 39 = .ok (.invokevirtual 135, 3) := by decide +kernel
theorem dX9_best_42 : decode cX9_best 42 = .ok (.invokevirtual 215, 3) := by decide +kernel
theorem dX9_best_45 : decode cX9_best 45 = .ok (.aload_n 0, 1) := by decide +kernel
theorem dX9_best_46 : decode cX9_best 46 = .ok (.getfield 58, 3) := by decide +kernel
theorem dX9_best_49 : decode cX9_best 49 = .ok (.iconst (-1), 1) := by decide +kernel
theorem dX9_best_50 : decode cX9_best 50 = .ok (.invokevirtual 219, 3) := by decide +kernel
theorem dX9_best_53 : decode cX9_best 53 = .ok (.istore_n 2, 1) := by decide +kernel
theorem dX9_best_54 : decode cX9_best 54 = .ok (.iload_n 2, 1) := by decide +kernel
theorem dX9_best_55 : decode cX9_best 55 = .ok (.ifCond .ge 6, 3) := by decide +kernel
theorem dX9_best_58 : decode cX9_best 58 = .ok (.bipush (-4), 2) := by decide +kernel
theorem dX9_best_60 : decode cX9_best 60 = .ok (.ireturn, 1) := by decide +kernel
theorem dX9_best_61 : decode cX9_best 61 = .ok (.iload_n 1, 1) := by decide +kernel
theorem dX9_best_62 : decode cX9_best 62 = .ok (.ifCond .ne 5, 3) := by decide +kernel
theorem dX9_best_65 : decode cX9_best 65 = .ok (.iload_n 2, 1) := by decide +kernel
theorem dX9_best_66 : decode cX9_best 66 = .ok (.ireturn, 1) := by decide +kernel
theorem dX9_best_67 : decode cX9_best 67 = .ok (.aload_n 0, 1) := by decide +kernel
theorem dX9_best_68 : decode cX9_best 68 = .ok (.getfield 58, 3) := by decide +kernel
theorem dX9_best_71 : decode cX9_best 71 = .ok (.iload_n 2, 1) := by decide +kernel
theorem dX9_best_72 : decode cX9_best 72 = .ok (.invokevirtual 222, 3) := by decide +kernel
theorem dX9_best_75 : decode cX9_best 75 = .ok (.pop, 1) := by decide +kernel
theorem dX9_best_76 : decode cX9_best 76 = .ok (.aload_n 0, 1) := by decide +kernel
theorem dX9_best_77 : decode cX9_best 77 = .ok (.getfield 58, 3) := by decide +kernel
theorem dX9_best_80 : decode cX9_best 80 = .ok (.getfield 225, 3) := by decide +kernel
theorem dX9_best_83 : decode cX9_best 83 = .ok (.iload_n 1, 1) := by decide +kernel
theorem dX9_best_84 : decode cX9_best 84 = .ok (.bipush 10, 2) := by decide +kernel
theorem dX9_best_86 : decode cX9_best 86 = .ok (.isub, 1) := by decide +kernel
theorem dX9_best_87 : decode cX9_best 87 = .ok (.iaload, 1) := by decide +kernel
theorem dX9_best_88 : decode cX9_best 88 = .ok (.ireturn, 1) := by decide +kernel
theorem dX9_without_0 : decode cX9_without 0 = .ok (.aload_n 0, 1) := by decide +kernel
theorem dX9_without_1 : decode cX9_without 1 = .ok (.getfield 10, 3) := by decide +kernel
theorem dX9_without_4 : decode cX9_without 4 = .ok (.iload_n 1, 1) := by decide +kernel
theorem dX9_without_5 : decode cX9_without 5 = .ok (.invokevirtual 119, 3) := by decide +kernel
theorem dX9_without_8 : decode cX9_without 8 = .ok (.ifCond .ne 5, 3) := by decide +kernel
theorem dX9_without_11 : decode cX9_without 11 = .ok (.iconst (-1), 1) := by decide +kernel
theorem dX9_without_12 : decode cX9_without 12 = .ok (.ireturn, 1) := by decide +kernel
theorem dX9_without_13 : decode cX9_without 13 = .ok (.aload_n 0, 1) := by decide +kernel
theorem dX9_without_14 : decode cX9_without 14 = .ok (.getfield 44, 3) := by decide +kernel
theorem dX9_without_17 : decode cX9_without 17 = .ok (.aload_n 0, 1) := by decide +kernel
theorem dX9_without_18 : decode cX9_without 18 = .ok (.getfield 10, 3) := by decide +kernel
theorem dX9_without_21 : decode cX9_without 21 = .ok (.aload_n 0, 1) := by decide +kernel
theorem dX9_without_22 : decode cX9_without 22 = .ok (.getfield 19, 3) := by decide +kernel
theorem dX9_without_25 : decode cX9_without 25 = .ok (.getfield 129, 3) := by decide +kernel
theorem dX9_without_28 : decode cX9_without 28 = .ok (.aload_n 0, 1) := by decide +kernel
theorem dX9_without_29 : decode cX9_without 29 = .ok (.getfield 10, 3) := by decide +kernel
theorem dX9_without_32 : decode cX9_without 32 = .ok (.invokevirtual 226, 3) := by decide +kernel
theorem dX9_without_35 : decode cX9_without 35 = .ok (.iconst 1, 1) := by decide +kernel
theorem dX9_without_36 : decode cX9_without 36 = .ok (.iload_n 1, 1) := by decide +kernel
theorem dX9_without_37 : decode cX9_without 37 = .ok (.ishl, 1) := by decide +kernel
theorem dX9_without_38 : decode cX9_without 38 = .ok (.iconst (-1), 1) := by decide +kernel
theorem dX9_without_39 : decode cX9_without 39 = .ok (.ixor, 1) := by decide +kernel
theorem dX9_without_40 : decode cX9_without 40 = .ok (.iand, 1) := by decide +kernel
theorem dX9_without_41 : decode cX9_without 41 = .ok (.invokevirtual 229, 3) := by decide +kernel
theorem dX9_without_44 : decode cX9_without 44 = .ok (.aload_n 0, 1) := by decide +kernel
theorem dX9_without_45 : decode cX9_without 45 = .ok (.getfield 58, 3) := by decide +kernel
theorem dX9_without_48 : decode cX9_without 48 = .ok (.aload_n 0, 1) := by decide +kernel
theorem dX9_without_49 : decode cX9_without 49 = .ok (.getfield 10, 3) := by decide +kernel
theorem dX9_without_52 : decode cX9_without 52 = .ok (.aload_n 0, 1) := by decide +kernel
theorem dX9_without_53 : decode cX9_without 53 = .ok (.getfield 19, 3) := by decide +kernel
theorem dX9_without_56 : decode cX9_without 56 = .ok (.aload_n 0, 1) := by decide +kernel
theorem dX9_without_57 : decode cX9_without 57 = .ok (.getfield 44, 3) := by decide +kernel
theorem dX9_without_60 : decode cX9_without 60 = .ok (.invokevirtual 215, 3) := by decide +kernel
theorem dX9_without_63 : decode cX9_without 63 = .ok (.aload_n 0, 1) := by decide +kernel
theorem dX9_without_64 : decode cX9_without 64 = .ok (.getfield 58, 3) := by decide +kernel
theorem dX9_without_67 : decode cX9_without 67 = .ok (.iconst (-1), 1) := by decide +kernel
theorem dX9_without_68 : decode cX9_without 68 = .ok (.invokevirtual 219, 3) := by decide +kernel
theorem dX9_without_71 : decode cX9_without 71 = .ok (.istore_n 2, 1) := by decide +kernel
theorem dX9_without_72 : decode cX9_without 72 = .ok (.iload_n 2, 1) := by decide +kernel
theorem dX9_without_73 : decode cX9_without 73 = .ok (.ifCond .ge 8, 3) := by decide +kernel
theorem dX9_without_76 : decode cX9_without 76 = .ok (.bipush (-4), 2) := by decide +kernel
theorem dX9_without_78 : decode cX9_without 78 = .ok (.goto 4, 3) := by decide +kernel
theorem dX9_without_81 : decode cX9_without 81 = .ok (.iload_n 2, 1) := by decide +kernel
theorem dX9_without_82 : decode cX9_without 82 = .ok (.ireturn, 1) := by decide +kernel
theorem dX9_beds_0 : decode cX9_beds 0 = .ok (.iload_n 1, 1) := by decide +kernel
theorem dX9_beds_1 : decode cX9_beds 1 = .ok (.ifCond .eq 25, 3) := by decide +kernel
theorem dX9_beds_4 : decode cX9_beds 4 = .ok (.iload_n 1, 1) := by decide +kernel
theorem dX9_beds_5 : decode cX9_beds 5 = .ok (.bipush 10, 2) := by decide +kernel
theorem dX9_beds_7 : decode cX9_beds 7 = .ok (.if_icmp .lt 17, 3) := by decide +kernel
theorem dX9_beds_10 : decode cX9_beds 10 = .ok (.aload_n 0, 1) := by decide +kernel
theorem dX9_beds_11 : decode cX9_beds 11 = .ok (.getfield 10, 3) := by decide +kernel
theorem dX9_beds_14 : decode cX9_beds 14 = .ok (.iload_n 1, 1) := by decide +kernel
theorem dX9_beds_15 : decode cX9_beds 15 = .ok (.bipush 10, 2) := by decide +kernel
theorem dX9_beds_17 : decode cX9_beds 17 = .ok (.isub, 1) := by decide +kernel
theorem dX9_beds_18 : decode cX9_beds 18 = .ok (.invokevirtual 119, 3) := by decide +kernel
theorem dX9_beds_21 : decode cX9_beds 21 = .ok (.ifCond .ne 5, 3) := by decide +kernel
theorem dX9_beds_24 : decode cX9_beds 24 = .ok (.iconst (-1), 1) := by decide +kernel
theorem dX9_beds_25 : decode cX9_beds 25 = .ok (.ireturn, 1) := by decide +kernel
theorem dX9_beds_26 : decode cX9_beds 26 = .ok (.iconst (-1), 1) := by decide +kernel
theorem dX9_beds_27 : decode cX9_beds 27 = .ok (.istore_n 2, 1) := by decide +kernel
theorem dX9_beds_28 : decode cX9_beds 28 = .ok (.iconst 0, 1) := by decide +kernel
theorem dX9_beds_29 : decode cX9_beds 29 = .ok (.istore_n 3, 1) := by decide +kernel
theorem dX9_beds_30 : decode cX9_beds 30 = .ok (.iconst 1, 1) := by decide +kernel
theorem dX9_beds_31 : decode cX9_beds 31 = .ok (.iconst 2, 1) := by decide +kernel
theorem dX9_beds_32 : decode cX9_beds 32 = .ok (.aload_n 0, 1) := by decide +kernel
theorem dX9_beds_33 : decode cX9_beds 33 = .ok (.getfield 10, 3) := by decide +kernel
theorem dX9_beds_36 : decode cX9_beds 36 = .ok (.getfield 113, 3) := by decide +kernel
theorem dX9_beds_39 : decode cX9_beds 39 = .ok (.imul, 1) := by decide +kernel
theorem dX9_beds_40 : decode cX9_beds 40 = .ok (.ishl, 1) := by decide +kernel
theorem dX9_beds_41 : decode cX9_beds 41 = .ok (.istore 4, 2) := by decide +kernel
theorem dX9_beds_43 : decode cX9_beds 43 = .ok (.iconst 0, 1) := by decide +kernel
theorem dX9_beds_44 : decode cX9_beds 44 = .ok (.istore 5, 2) := by decide +kernel
theorem dX9_beds_46 : decode cX9_beds 46 = .ok (.iload 5, 2) := by decide +kernel
theorem dX9_beds_48 : decode cX9_beds 48 = .ok (.iload 4, 2) := by decide +kernel
theorem dX9_beds_50 : decode cX9_beds 50 = .ok (.if_icmp .ge 78, 3) := by decide +kernel
theorem dX9_beds_53 : decode cX9_beds 53 = .ok (.aload_n 0, 1) := by decide +kernel
theorem dX9_beds_54 : decode cX9_beds 54 = .ok (.iload 5, 2) := by decide +kernel
theorem dX9_beds_56 : decode cX9_beds 56 = .ok (.invokevirtual 232, 3) := by decide +kernel
theorem dX9_beds_59 : decode cX9_beds 59 = .ok (.aload_n 0, 1) := by decide +kernel
theorem dX9_beds_60 : decode cX9_beds 60 = .ok (.getfield 44, 3) := by decide +kernel
theorem dX9_beds_63 : decode cX9_beds 63 = .ok (.aload_n 0, 1) := by decide +kernel
theorem dX9_beds_64 : decode cX9_beds 64 = .ok (.getfield 10, 3) := by decide +kernel
theorem dX9_beds_67 : decode cX9_beds 67 = .ok (.aload_n 0, 1) := by decide +kernel
theorem dX9_beds_68 : decode cX9_beds 68 = .ok (.getfield 76, 3) := by decide +kernel
theorem dX9_beds_71 : decode cX9_beds 71 = .ok (.aload_n 0, 1) := by decide +kernel
theorem dX9_beds_72 : decode cX9_beds 72 = .ok (.getfield 10, 3) := by decide +kernel
theorem dX9_beds_75 : decode cX9_beds 75 = .ok (.invokevirtual 226, 3) := by decide +kernel
theorem dX9_beds_78 : decode cX9_beds 78 = .ok (.invokevirtual 229, 3) := by decide +kernel
theorem dX9_beds_81 : decode cX9_beds 81 = .ok (.aload_n 0, 1) := by decide +kernel
theorem dX9_beds_82 : decode cX9_beds 82 = .ok (.getfield 58, 3) := by decide +kernel
theorem dX9_beds_85 : decode cX9_beds 85 = .ok (.aload_n 0, 1) := by decide +kernel
theorem dX9_beds_86 : decode cX9_beds 86 = .ok (.getfield 10, 3) := by decide +kernel
theorem dX9_beds_89 : decode cX9_beds 89 = .ok (.aload_n 0, 1) := by decide +kernel
theorem dX9_beds_90 : decode cX9_beds 90 = .ok (.getfield 19, 3) := by decide +kernel
theorem dX9_beds_93 : decode cX9_beds 93 = .ok (.aload_n 0, 1) := by decide +kernel
theorem dX9_beds_94 : decode cX9_beds 94 = .ok (.getfield 44, 3) := by decide +kernel
theorem dX9_beds_97 : decode cX9_beds 97 = .ok (.invokevirtual 215, 3) := by decide +kernel
theorem dX9_beds_100 : decode cX9_beds 100 = .ok (.aload_n 0, 1) := by decide +kernel
theorem dX9_beds_101 : decode cX9_beds 101 = .ok (.getfield 58, 3) := by decide +kernel
theorem dX9_beds_104 : decode cX9_beds 104 = .ok (.iload_n 2, 1) := by decide +kernel
theorem dX9_beds_105 : decode cX9_beds 105 = .ok (.invokevirtual 219, 3) := by decide +kernel
theorem dX9_beds_108 : decode cX9_beds 108 = .ok (.istore 6, 2) := by decide +kernel
theorem dX9_beds_110 : decode cX9_beds 110 = .ok (.iload 6, 2) := by decide +kernel
theorem dX9_beds_112 : decode cX9_beds 112 = .ok (.iload_n 2, 1) := by decide +kernel
theorem dX9_beds_113 : decode cX9_beds 113 = .ok (.if_icmp .le 9, 3) := by decide +kernel
theorem dX9_beds_116 : decode cX9_beds 116 = .ok (.iload 6, 2) := by decide +kernel
theorem dX9_beds_118 : decode cX9_beds 118 = .ok (.istore_n 2, 1) := by decide +kernel
theorem dX9_beds_119 : decode cX9_beds 119 = .ok (.iload 5, 2) := by decide +kernel
theorem dX9_beds_121 : decode cX9_beds 121 = .ok (.istore_n 3, 1) := by decide +kernel
theorem dX9_beds_122 : decode cX9_beds 122 = .ok (.iinc 5 1, 3) := by decide +kernel
theorem dX9_beds_125 : decode cX9_beds 125 = .ok (.goto (-79), 3) := by decide +kernel
theorem dX9_beds_128 : decode cX9_beds 128 = .ok (.iload_n 2, 1) := by decide +kernel
theorem dX9_beds_129 : decode cX9_beds 129 = .ok (.ifCond .ge 6, 3) := by decide +kernel
theorem dX9_beds_132 : decode cX9_beds 132 = .ok (.bipush (-4), 2) := by decide +kernel
theorem dX9_beds_134 : decode cX9_beds 134 = .ok (.ireturn, 1) := by decide +kernel
theorem dX9_beds_135 : decode cX9_beds 135 = .ok (.aload_n 0, 1) := by decide +kernel
theorem dX9_beds_136 : decode cX9_beds 136 = .ok (.iload_n 3, 1) := by decide +kernel
theorem dX9_beds_137 : decode cX9_beds 137 = .ok (.invokevirtual 232, 3) := by decide +kernel
theorem dX9_beds_140 : decode cX9_beds 140 = .ok (.iload_n 1, 1) := by decide +kernel
theorem dX9_beds_141 : decode cX9_beds 141 = .ok (.ifCond .ne 7, 3) := by decide +kernel
theorem dX9_beds_144 : decode cX9_beds 144 = .ok (.iload_n 2, 1) := by decide +kernel
theorem dX9_beds_145 : decode cX9_beds 145 = .ok (.goto 12, 3) := by decide +kernel
theorem dX9_beds_148 : decode cX9_beds 148 = .ok (.aload_n 0, 1) := by decide +kernel
theorem dX9_beds_149 : decode cX9_beds 149 = .ok (.getfield 76, 3) := by decide +kernel
theorem dX9_beds_152 : decode cX9_beds 152 = .ok (.iload_n 1, 1) := by decide +kernel
theorem dX9_beds_153 : decode cX9_beds 153 = .ok (.bipush 10, 2) := by decide +kernel
theorem dX9_beds_155 : decode cX9_beds 155 = .ok (.isub, 1) := by decide +kernel
theorem dX9_beds_156 : decode cX9_beds 156 = .ok (.iaload, 1) := by decide +kernel
theorem dX9_beds_157 : decode cX9_beds 157 = .ok (.ireturn, 1) := by decide +kernel
theorem dX9_late_0 : decode cX9_late 0 = .ok (.aload_n 0, 1) := by decide +kernel
theorem dX9_late_1 : decode cX9_late 1 = .ok (.iload_n 1, 1) := by decide +kernel
theorem dX9_late_2 : decode cX9_late 2 = .ok (.iload_n 2, 1) := by decide +kernel
theorem dX9_late_3 : decode cX9_late 3 = .ok (.invokevirtual 160, 3) := by decide +kernel
theorem dX9_late_6 : decode cX9_late 6 = .ok (.ifCond .eq 10, 3) := by decide +kernel
theorem dX9_late_9 : decode cX9_late 9 = .ok (.iload_n 3, 1) := by decide +kernel
theorem dX9_late_10 : decode cX9_late 10 = .ok (.invokestatic 123, 3) := by decide +kernel
theorem dX9_late_13 : decode cX9_late 13 = .ok (.ifCond .ne 5, 3) := by decide +kernel
theorem dX9_late_16 : decode cX9_late 16 = .ok (.iconst (-1), 1) := by decide +kernel
theorem dX9_late_17 : decode cX9_late 17 = .ok (.ireturn, 1) := by decide +kernel
theorem dX9_late_18 : decode cX9_late 18 = .ok (.aload_n 0, 1) := by decide +kernel
theorem dX9_late_19 : decode cX9_late 19 = .ok (.invokevirtual 135, 3) := by decide +kernel
theorem dX9_late_22 : decode cX9_late 22 = .ok (.pop, 1) := by decide +kernel
theorem dX9_late_23 : decode cX9_late 23 = .ok (.iconst 4, 1) := by decide +kernel
theorem dX9_late_24 : decode cX9_late 24 = .ok (.istore 4, 2) := by decide +kernel
theorem dX9_late_26 : decode cX9_late 26 = .ok (.bipush (-4), 2) := by decide +kernel
theorem dX9_late_28 : decode cX9_late 28 = .ok (.istore 5, 2) := by decide +kernel
theorem dX9_late_30 : decode cX9_late 30 = .ok (.iconst 0, 1) := by decide +kernel
theorem dX9_late_31 : decode cX9_late 31 = .ok (.istore 6, 2) := by decide +kernel
theorem dX9_late_33 : decode cX9_late 33 = .ok (.iload 6, 2) := by decide +kernel
theorem dX9_late_35 : decode cX9_late 35 = .ok (.bipush 8, 2) := by decide +kernel
theorem dX9_late_37 : decode cX9_late 37 = .ok (.if_icmp .ge 80, 3) := by decide +kernel
theorem dX9_late_40 : decode cX9_late 40 = .ok (.iload_n 2, 1) := by decide +kernel
theorem dX9_late_41 : decode cX9_late 41 = .ok (.iload 6, 2) := by decide +kernel
theorem dX9_late_43 : decode cX9_late 43 = .ok (.invokestatic 236, 3) := by decide +kernel
theorem dX9_late_46 : decode cX9_late 46 = .ok (.istore 7, 2) := by decide +kernel
theorem dX9_late_48 : decode cX9_late 48 = .ok (.iload 6, 2) := by decide +kernel
theorem dX9_late_50 : decode cX9_late 50 = .ok (.invokestatic 191, 3) := by decide +kernel
theorem dX9_late_53 : decode cX9_late 53 = .ok (.istore 8, 2) := by decide +kernel
theorem dX9_late_55 : decode cX9_late 55 = .ok (.iload 8, 2) := by decide +kernel
theorem dX9_late_57 : decode cX9_late 57 = .ok (.iload 4, 2) := by decide +kernel
theorem dX9_late_59 : decode cX9_late 59 = .ok (.if_icmp .lt 17, 3) := by decide +kernel
theorem dX9_late_62 : decode cX9_late 62 = .ok (.iload 8, 2) := by decide +kernel
theorem dX9_late_64 : decode cX9_late 64 = .ok (.iload 4, 2) := by decide +kernel
theorem dX9_late_66 : decode cX9_late 66 = .ok (.if_icmp .ne 14, 3) := by decide +kernel
theorem dX9_late_69 : decode cX9_late 69 = .ok (.iload 7, 2) := by decide +kernel
theorem dX9_late_71 : decode cX9_late 71 = .ok (.iload 5, 2) := by decide +kernel
theorem dX9_late_73 : decode cX9_late 73 = .ok (.if_icmp .ge 7, 3) := by decide +kernel
theorem dX9_late_76 : decode cX9_late 76 = .ok (.iconst 1, 1) := by decide +kernel
theorem dX9_late_77 : decode cX9_late 77 = .ok (.goto 4, 3) := by decide +kernel
theorem dX9_late_80 : decode cX9_late 80 = .ok (.iconst 0, 1) := by decide +kernel
theorem dX9_late_81 : decode cX9_late 81 = .ok (.istore 9, 2) := by decide +kernel
theorem dX9_late_83 : decode cX9_late 83 = .ok (.iload 7, 2) := by decide +kernel
theorem dX9_late_85 : decode cX9_late 85 = .ok (.ifCond .lt 26, 3) := by decide +kernel
theorem dX9_late_88 : decode cX9_late 88 = .ok (.iload 9, 2) := by decide +kernel
theorem dX9_late_90 : decode cX9_late 90 = .ok (.ifCond .eq 21, 3) := by decide +kernel
theorem dX9_late_93 : decode cX9_late 93 = .ok (.aload_n 0, 1) := by decide +kernel
theorem dX9_late_94 : decode cX9_late 94 = .ok (.iload_n 1, 1) := by decide +kernel
theorem dX9_late_95 : decode cX9_late 95 = .ok (.iload 7, 2) := by decide +kernel
theorem dX9_late_97 : decode cX9_late 97 = .ok (.invokevirtual 178, 3) := by decide +kernel
theorem dX9_late_100 : decode cX9_late 100 = .ok (.ifCond .eq 11, 3) := by decide +kernel
theorem dX9_late_103 : decode cX9_late 103 = .ok (.iload 8, 2) := by decide +kernel
theorem dX9_late_105 : decode cX9_late 105 = .ok (.istore 4, 2) := by decide +kernel
theorem dX9_late_107 : decode cX9_late 107 = .ok (.iload 7, 2) := by decide +kernel
theorem dX9_late_109 : decode cX9_late 109 = .ok (.istore 5, 2) := by decide +kernel
theorem dX9_late_111 : decode cX9_late 111 = .ok (.iinc 6 1, 3) := by decide +kernel
theorem dX9_late_114 : decode cX9_late 114 = .ok (.goto (-81), 3) := by decide +kernel
theorem dX9_late_117 : decode cX9_late 117 = .ok (.iload 5, 2) := by decide +kernel
theorem dX9_late_119 : decode cX9_late 119 = .ok (.bipush (-4), 2) := by decide +kernel
theorem dX9_late_121 : decode cX9_late 121 = .ok (.if_icmp .ne 6, 3) := by decide +kernel
theorem dX9_late_124 : decode cX9_late 124 = .ok (.bipush (-4), 2) := by decide +kernel
theorem dX9_late_126 : decode cX9_late 126 = .ok (.ireturn, 1) := by decide +kernel
theorem dX9_late_127 : decode cX9_late 127 = .ok (.iload_n 3, 1) := by decide +kernel
theorem dX9_late_128 : decode cX9_late 128 = .ok (.ifCond .ne 8, 3) := by decide +kernel
theorem dX9_late_131 : decode cX9_late 131 = .ok (.iload 4, 2) := by decide +kernel
theorem dX9_late_133 : decode cX9_late 133 = .ok (.goto 5, 3) := by decide +kernel
theorem dX9_late_136 : decode cX9_late 136 = .ok (.iload 5, 2) := by decide +kernel
theorem dX9_late_138 : decode cX9_late 138 = .ok (.ireturn, 1) := by decide +kernel
theorem dX9_odds_0 : decode cX9_odds 0 = .ok (.iload_n 1, 1) := by decide +kernel
theorem dX9_odds_1 : decode cX9_odds 1 = .ok (.invokestatic 145, 3) := by decide +kernel
theorem dX9_odds_4 : decode cX9_odds 4 = .ok (.ifCond .eq 21, 3) := by decide +kernel
theorem dX9_odds_7 : decode cX9_odds 7 = .ok (.aload_n 0, 1) := by decide +kernel
theorem dX9_odds_8 : decode cX9_odds 8 = .ok (.getfield 10, 3) := by decide +kernel
theorem dX9_odds_11 : decode cX9_odds 11 = .ok (.iload_n 2, 1) := by decide +kernel
theorem dX9_odds_12 : decode cX9_odds 12 = .ok (.invokevirtual 148, 3) := by decide +kernel
theorem dX9_odds_15 : decode cX9_odds 15 = .ok (.ifCond .eq 10, 3) := by decide +kernel
theorem dX9_odds_18 : decode cX9_odds 18 = .ok (.iload_n 3, 1) := by decide +kernel
theorem dX9_odds_19 : decode cX9_odds 19 = .ok (.invokestatic 123, 3) := by decide +kernel
theorem dX9_odds_22 : decode cX9_odds 22 = .ok (.ifCond .ne 7, 3) := by decide +kernel
theorem dX9_odds_25 : decode cX9_odds 25 = .ok (.ldc2_w 239, 3) := by decide +kernel
theorem dX9_odds_28 : decode cX9_odds 28 = .ok (.lreturn, 1) := by decide +kernel
theorem dX9_odds_29 : decode cX9_odds 29 = .ok (.aload_n 0, 1) := by decide +kernel
theorem dX9_odds_30 : decode cX9_odds 30 = .ok (.iload_n 2, 1) := by decide +kernel
theorem dX9_odds_31 : decode cX9_odds 31 = .ok (.invokevirtual 241, 3) := by decide +kernel
theorem dX9_odds_34 : decode cX9_odds 34 = .ok (.aload_n 0, 1) := by decide +kernel
theorem dX9_odds_35 : decode cX9_odds 35 = .ok (.getfield 72, 3) := by decide +kernel
theorem dX9_odds_38 : decode cX9_odds 38 = .ok (.aload_n 0, 1) := by decide +kernel
theorem dX9_odds_39 : decode cX9_odds 39 = .ok (.getfield 72, 3) := by decide +kernel
theorem dX9_odds_42 : decode cX9_odds 42 = .ok (.getfield 244, 3) := by decide +kernel
theorem dX9_odds_45 : decode cX9_odds 45 = .ok (.iload_n 1, 1) := by decide +kernel
theorem dX9_odds_46 : decode cX9_odds 46 = .ok (.laload, 1) := by decide +kernel
theorem dX9_odds_47 : decode cX9_odds 47 = .ok (.iload_n 3, 1) := by decide +kernel
theorem dX9_odds_48 : decode cX9_odds 48 = .ok (.invokevirtual 248, 3) := by decide +kernel
theorem dX9_odds_51 : decode cX9_odds 51 = .ok (.lreturn, 1) := by decide +kernel
theorem dX9_mean_0 : decode cX9_mean 0 = .ok (.aload_n 0, 1) := by decide +kernel
theorem dX9_mean_1 : decode cX9_mean 1 = .ok (.getfield 10, 3) := by decide +kernel
theorem dX9_mean_4 : decode cX9_mean 4 = .ok (.iload_n 1, 1) := by decide +kernel
theorem dX9_mean_5 : decode cX9_mean 5 = .ok (.invokevirtual 148, 3) := by decide +kernel
theorem dX9_mean_8 : decode cX9_mean 8 = .ok (.ifCond .eq 10, 3) := by decide +kernel
theorem dX9_mean_11 : decode cX9_mean 11 = .ok (.iload_n 2, 1) := by decide +kernel
theorem dX9_mean_12 : decode cX9_mean 12 = .ok (.invokestatic 123, 3) := by decide +kernel
theorem dX9_mean_15 : decode cX9_mean 15 = .ok (.ifCond .ne 7, 3) := by decide +kernel
theorem dX9_mean_18 : decode cX9_mean 18 = .ok (.ldc2_w 239, 3) := by decide +kernel
theorem dX9_mean_21 : decode cX9_mean 21 = .ok (.lreturn, 1) := by decide +kernel
theorem dX9_mean_22 : decode cX9_mean 22 = .ok (.aload_n 0, 1) := by decide +kernel
theorem dX9_mean_23 : decode cX9_mean 23 = .ok (.iload_n 1, 1) := by decide +kernel
theorem dX9_mean_24 : decode cX9_mean 24 = .ok (.invokevirtual 241, 3) := by decide +kernel
theorem dX9_mean_27 : decode cX9_mean 27 = .ok (.lconst 0, 1) := by decide +kernel
theorem dX9_mean_28 : decode cX9_mean 28 = .ok (.lstore_n 3, 1) := by decide +kernel
theorem dX9_mean_29 : decode cX9_mean 29 = .ok (.iconst 0, 1) := by decide +kernel
theorem dX9_mean_30 : decode cX9_mean 30 = .ok (.istore 5, 2) := by decide +kernel
theorem dX9_mean_32 : decode cX9_mean 32 = .ok (.iload 5, 2) := by decide +kernel
theorem dX9_mean_34 : decode cX9_mean 34 = .ok (.iconst 4, 1) := by decide +kernel
theorem dX9_mean_35 : decode cX9_mean 35 = .ok (.if_icmp .ge 22, 3) := by decide +kernel
theorem dX9_mean_38 : decode cX9_mean 38 = .ok (.lload_n 3, 1) := by decide +kernel
theorem dX9_mean_39 : decode cX9_mean 39 = .ok (.aload_n 0, 1) := by decide +kernel
theorem dX9_mean_40 : decode cX9_mean 40 = .ok (.getfield 72, 3) := by decide +kernel
theorem dX9_mean_43 : decode cX9_mean 43 = .ok (.getfield 244, 3) := by decide +kernel
theorem dX9_mean_46 : decode cX9_mean 46 = .ok (.iload 5, 2) := by decide +kernel
theorem dX9_mean_48 : decode cX9_mean 48 = .ok (.laload, 1) := by decide +kernel
theorem dX9_mean_49 : decode cX9_mean 49 = .ok (.ladd, 1) := by decide +kernel
theorem dX9_mean_50 : decode cX9_mean 50 = .ok (.lstore_n 3, 1) := by decide +kernel
theorem dX9_mean_51 : decode cX9_mean 51 = .ok (.iinc 5 1, 3) := by decide +kernel
theorem dX9_mean_54 : decode cX9_mean 54 = .ok (.goto (-22), 3) := by decide +kernel
theorem dX9_mean_57 : decode cX9_mean 57 = .ok (.aload_n 0, 1) := by decide +kernel
theorem dX9_mean_58 : decode cX9_mean 58 = .ok (.getfield 72, 3) := by decide +kernel
theorem dX9_mean_61 : decode cX9_mean 61 = .ok (.lload_n 3, 1) := by decide +kernel
theorem dX9_mean_62 : decode cX9_mean 62 = .ok (.iload_n 2, 1) := by decide +kernel
theorem dX9_mean_63 : decode cX9_mean 63 = .ok (.invokevirtual 248, 3) := by decide +kernel
theorem dX9_mean_66 : decode cX9_mean 66 = .ok (.lreturn, 1) := by decide +kernel
theorem dX9_hear_0 : decode cX9_hear 0 = .ok (.aload_n 0, 1) := by decide +kernel
theorem dX9_hear_1 : decode cX9_hear 1 = .ok (.getfield 10, 3) := by decide +kernel
theorem dX9_hear_4 : decode cX9_hear 4 = .ok (.iload_n 1, 1) := by decide +kernel
theorem dX9_hear_5 : decode cX9_hear 5 = .ok (.invokevirtual 148, 3) := by decide +kernel
theorem dX9_hear_8 : decode cX9_hear 8 = .ok (.ifCond .eq 10, 3) := by decide +kernel
theorem dX9_hear_11 : decode cX9_hear 11 = .ok (.iload_n 2, 1) := by decide +kernel
theorem dX9_hear_12 : decode cX9_hear 12 = .ok (.invokestatic 145, 3) := by decide +kernel
theorem dX9_hear_15 : decode cX9_hear 15 = .ok (.ifCond .ne 5, 3) := by decide +kernel
theorem dX9_hear_18 : decode cX9_hear 18 = .ok (.iconst (-1), 1) := by decide +kernel
theorem dX9_hear_19 : decode cX9_hear 19 = .ok (.ireturn, 1) := by decide +kernel
theorem dX9_hear_20 : decode cX9_hear 20 = .ok (.aload_n 0, 1) := by decide +kernel
theorem dX9_hear_21 : decode cX9_hear 21 = .ok (.getfield 19, 3) := by decide +kernel
theorem dX9_hear_24 : decode cX9_hear 24 = .ok (.getfield 252, 3) := by decide +kernel
theorem dX9_hear_27 : decode cX9_hear 27 = .ok (.bipush 8, 2) := by decide +kernel
theorem dX9_hear_29 : decode cX9_hear 29 = .ok (.if_icmp .lt 6, 3) := by decide +kernel
theorem dX9_hear_32 : decode cX9_hear 32 = .ok (.bipush (-3), 2) := by decide +kernel
theorem dX9_hear_34 : decode cX9_hear 34 = .ok (.ireturn, 1) := by decide +kernel
theorem dX9_hear_35 : decode cX9_hear 35 = .ok (.aload_n 0, 1) := by decide +kernel
theorem dX9_hear_36 : decode cX9_hear 36 = .ok (.getfield 19, 3) := by decide +kernel
theorem dX9_hear_39 : decode cX9_hear 39 = .ok (.getfield 255, 3) := by decide +kernel
theorem dX9_hear_42 : decode cX9_hear 42 = .ok (.aload_n 0, 1) := by decide +kernel
theorem dX9_hear_43 : decode cX9_hear 43 = .ok (.getfield 19, 3) := by decide +kernel
theorem dX9_hear_46 : decode cX9_hear 46 = .ok (.getfield 252, 3) := by decide +kernel
theorem dX9_hear_49 : decode cX9_hear 49 = .ok (.iload_n 1, 1) := by decide +kernel
theorem dX9_hear_50 : decode cX9_hear 50 = .ok (.iconst 4, 1) := by decide +kernel
theorem dX9_hear_51 : decode cX9_hear 51 = .ok (.imul, 1) := by decide +kernel
theorem dX9_hear_52 : decode cX9_hear 52 = .ok (.iload_n 2, 1) := by decide +kernel
theorem dX9_hear_53 : decode cX9_hear 53 = .ok (.iadd, 1) := by decide +kernel
theorem dX9_hear_54 : decode cX9_hear 54 = .ok (.iconst 2, 1) := by decide +kernel
theorem dX9_hear_55 : decode cX9_hear 55 = .ok (.imul, 1) := by decide +kernel
theorem dX9_hear_56 : decode cX9_hear 56 = .ok (.iload_n 3, 1) := by decide +kernel
theorem dX9_hear_57 : decode cX9_hear 57 = .ok (.ifCond .eq 7, 3) := by decide +kernel
theorem dX9_hear_60 : decode cX9_hear 60 = .ok (.iconst 1, 1) := by decide +kernel
theorem dX9_hear_61 : decode cX9_hear 61 = .ok (.goto 4, 3) := by decide +kernel
theorem dX9_hear_64 : decode cX9_hear 64 = .ok (.iconst 0, 1) := by decide +kernel
theorem dX9_hear_65 : decode cX9_hear 65 = .ok (.iadd, 1) := by decide +kernel
theorem dX9_hear_66 : decode cX9_hear 66 = .ok (.iastore, 1) := by decide +kernel
theorem dX9_hear_67 : decode cX9_hear 67 = .ok (.aload_n 0, 1) := by decide +kernel
theorem dX9_hear_68 : decode cX9_hear 68 = .ok (.getfield 19, 3) := by decide +kernel
theorem dX9_hear_71 : decode cX9_hear 71 = .ok (.dup, 1) := by decide +kernel
theorem dX9_hear_72 : decode cX9_hear 72 = .ok (.getfield 252, 3) := by decide +kernel
theorem dX9_hear_75 : decode cX9_hear 75 = .ok (.iconst 1, 1) := by decide +kernel
theorem dX9_hear_76 : decode cX9_hear 76 = .ok (.iadd, 1) := by decide +kernel
theorem dX9_hear_77 : decode cX9_hear 77 = .ok (.putfield 252, 3) := by decide +kernel
theorem dX9_hear_80 : decode cX9_hear 80 = .ok (.aload_n 0, 1) := by decide +kernel
theorem dX9_hear_81 : decode cX9_hear 81 = .ok (.getfield 19, 3) := by decide +kernel
theorem dX9_hear_84 : decode cX9_hear 84 = .ok (.getfield 252, 3) := by decide +kernel
theorem dX9_hear_87 : decode cX9_hear 87 = .ok (.ireturn, 1) := by decide +kernel
theorem dX9_forget_0 : decode cX9_forget 0 = .ok (.iload_n 1, 1) := by decide +kernel
theorem dX9_forget_1 : decode cX9_forget 1 = .ok (.ifCond .lt 14, 3) := by decide +kernel
theorem dX9_forget_4 : decode cX9_forget 4 = .ok (.iload_n 1, 1) := by decide +kernel
theorem dX9_forget_5 : decode cX9_forget 5 = .ok (.aload_n 0, 1) := by decide +kernel
theorem dX9_forget_6 : decode cX9_forget 6 = .ok (.getfield 19, 3) := by decide +kernel
theorem dX9_forget_9 : decode cX9_forget 9 = .ok (.getfield 252, 3) := by decide +kernel
theorem dX9_forget_12 : decode cX9_forget 12 = .ok (.if_icmp .le 5, 3) := by decide +kernel
theorem dX9_forget_15 : decode cX9_forget 15 = .ok (.iconst (-1), 1) := by decide +kernel
theorem dX9_forget_16 : decode cX9_forget 16 = .ok (.ireturn, 1) := by decide +kernel
theorem dX9_forget_17 : decode cX9_forget 17 = .ok (.aload_n 0, 1) := by decide +kernel
theorem dX9_forget_18 : decode cX9_forget 18 = .ok (.getfield 19, 3) := by decide +kernel
theorem dX9_forget_21 : decode cX9_forget 21 = .ok (.getfield 252, 3) := by decide +kernel
theorem dX9_forget_24 : decode cX9_forget 24 = .ok (.istore_n 2, 1) := by decide +kernel
theorem dX9_forget_25 : decode cX9_forget 25 = .ok (.aload_n 0, 1) := by decide +kernel
theorem dX9_forget_26 : decode cX9_forget 26 = .ok (.getfield 19, 3) := by decide +kernel
theorem dX9_forget_29 : decode cX9_forget 29 = .ok (.iload_n 1, 1) := by decide +kernel
theorem dX9_forget_30 : decode cX9_forget 30 = .ok (.putfield 252, 3) := by decide +kernel
theorem dX9_forget_33 : decode cX9_forget 33 = .ok (.iload_n 2, 1) := by decide +kernel
theorem dX9_forget_34 : decode cX9_forget 34 = .ok (.ireturn, 1) := by decide +kernel
theorem dX9_fits_0 : decode cX9_fits 0 = .ok (.aload_n 0, 1) := by decide +kernel
theorem dX9_fits_1 : decode cX9_fits 1 = .ok (.getfield 10, 3) := by decide +kernel
theorem dX9_fits_4 : decode cX9_fits 4 = .ok (.iload_n 1, 1) := by decide +kernel
theorem dX9_fits_5 : decode cX9_fits 5 = .ok (.invokevirtual 148, 3) := by decide +kernel
theorem dX9_fits_8 : decode cX9_fits 8 = .ok (.ifCond .eq 12, 3) := by decide +kernel
theorem dX9_fits_11 : decode cX9_fits 11 = .ok (.iload_n 2, 1) := by decide +kernel
theorem dX9_fits_12 : decode cX9_fits 12 = .ok (.ifCond .lt 8, 3) := by decide +kernel
theorem dX9_fits_15 : decode cX9_fits 15 = .ok (.iload_n 2, 1) := by decide +kernel
theorem dX9_fits_16 : decode cX9_fits 16 = .ok (.iconst 3, 1) := by decide +kernel
theorem dX9_fits_17 : decode cX9_fits 17 = .ok (.if_icmp .le 5, 3) := by decide +kernel
theorem dX9_fits_20 : decode cX9_fits 20 = .ok (.iconst (-1), 1) := by decide +kernel
theorem dX9_fits_21 : decode cX9_fits 21 = .ok (.ireturn, 1) := by decide +kernel
theorem dX9_fits_22 : decode cX9_fits 22 = .ok (.aload_n 0, 1) := by decide +kernel
theorem dX9_fits_23 : decode cX9_fits 23 = .ok (.invokevirtual 135, 3) := by decide +kernel
theorem dX9_fits_26 : decode cX9_fits 26 = .ok (.pop, 1) := by decide +kernel
theorem dX9_fits_27 : decode cX9_fits 27 = .ok (.iconst 0, 1) := by decide +kernel
theorem dX9_fits_28 : decode cX9_fits 28 = .ok (.istore_n 3, 1) := by decide +kernel
theorem dX9_fits_29 : decode cX9_fits 29 = .ok (.bipush (-4), 2) := by decide +kernel
theorem dX9_fits_31 : decode cX9_fits 31 = .ok (.istore 4, 2) := by decide +kernel
theorem dX9_fits_33 : decode cX9_fits 33 = .ok (.aload_n 0, 1) := by decide +kernel
theorem dX9_fits_34 : decode cX9_fits 34 = .ok (.getfield 44, 3) := by decide +kernel
theorem dX9_fits_37 : decode cX9_fits 37 = .ok (.getfield 258, 3) := by decide +kernel
theorem dX9_fits_40 : decode cX9_fits 40 = .ok (.istore 5, 2) := by decide +kernel
theorem dX9_fits_42 : decode cX9_fits 42 = .ok (.iconst 0, 1) := by decide +kernel
theorem dX9_fits_43 : decode cX9_fits 43 = .ok (.istore 6, 2) := by decide +kernel
theorem dX9_fits_45 : decode cX9_fits 45 = .ok (.iconst 0, 1) := by decide +kernel
theorem dX9_fits_46 : decode cX9_fits 46 = .ok (.istore 7, 2) := by decide +kernel
theorem dX9_fits_48 : decode cX9_fits 48 = .ok (.iload 7, 2) := by decide +kernel
theorem dX9_fits_50 : decode cX9_fits 50 = .ok (.aload_n 0, 1) := by decide +kernel
theorem dX9_fits_51 : decode cX9_fits 51 = .ok (.getfield 10, 3) := by decide +kernel
theorem dX9_fits_54 : decode cX9_fits 54 = .ok (.invokevirtual 181, 3) := by decide +kernel
theorem dX9_fits_57 : decode cX9_fits 57 = .ok (.if_icmp .ge 57, 3) := by decide +kernel
theorem dX9_fits_60 : decode cX9_fits 60 = .ok (.aload_n 0, 1) := by decide +kernel
theorem dX9_fits_61 : decode cX9_fits 61 = .ok (.iload_n 1, 1) := by decide +kernel
theorem dX9_fits_62 : decode cX9_fits 62 = .ok (.iload 7, 2) := by decide +kernel
theorem dX9_fits_64 : decode cX9_fits 64 = .ok (.invokevirtual 261, 3) := by decide +kernel
theorem dX9_fits_67 : decode cX9_fits 67 = .ok (.ifCond .eq 41, 3) := by decide +kernel
theorem dX9_fits_70 : decode cX9_fits 70 = .ok (.iload_n 3, 1) := by decide +kernel
theorem dX9_fits_71 : decode cX9_fits 71 = .ok (.ifCond .ne 8, 3) := by decide +kernel
theorem dX9_fits_74 : decode cX9_fits 74 = .ok (.iload 7, 2) := by decide +kernel
theorem dX9_fits_76 : decode cX9_fits 76 = .ok (.goto 5, 3) := by decide +kernel
theorem dX9_fits_79 : decode cX9_fits 79 = .ok (.iload 4, 2) := by decide +kernel
theorem dX9_fits_81 : decode cX9_fits 81 = .ok (.istore 4, 2) := by decide +kernel
theorem dX9_fits_83 : decode cX9_fits 83 = .ok (.iinc 3 1, 3) := by decide +kernel
theorem dX9_fits_86 : decode cX9_fits 86 = .ok (.iload 5, 2) := by decide +kernel
theorem dX9_fits_88 : decode cX9_fits 88 = .ok (.getstatic 185, 3) := by decide +kernel
theorem dX9_fits_91 : decode cX9_fits 91 = .ok (.iload 7, 2) := by decide +kernel
theorem dX9_fits_93 : decode cX9_fits 93 = .ok (.iaload, 1) := by decide +kernel
theorem dX9_fits_94 : decode cX9_fits 94 = .ok (.iand, 1) := by decide +kernel
theorem dX9_fits_95 : decode cX9_fits 95 = .ok (.istore 5, 2) := by decide +kernel
theorem dX9_fits_97 : decode cX9_fits 97 = .ok (.iload 6, 2) := by decide +kernel
theorem dX9_fits_99 : decode cX9_fits 99 = .ok (.getstatic 185, 3) := by decide +kernel
theorem dX9_fits_102 : decode cX9_fits 102 = .ok (.iload 7, 2) := by decide +kernel
theorem dX9_fits_104 : decode cX9_fits 104 = .ok (.iaload, 1) := by decide +kernel
theorem dX9_fits_105 : decode cX9_fits 105 = .ok (.ior, 1) := by decide +kernel
theorem dX9_fits_106 : decode cX9_fits 106 = .ok (.istore 6, 2) := by decide +kernel
theorem dX9_fits_108 : decode cX9_fits 108 = .ok (.iinc 7 1, 3) := by decide +kernel
theorem dX9_fits_111 : decode cX9_fits 111 = .ok (.goto (-63), 3) := by decide +kernel
theorem dX9_fits_114 : decode cX9_fits 114 = .ok (.iload_n 2, 1) := by decide +kernel
theorem dX9_fits_115 : decode cX9_fits 115 = .ok (.ifCond .ne 5, 3) := by decide +kernel
theorem dX9_fits_118 : decode cX9_fits 118 = .ok (.iload_n 3, 1) := by decide +kernel
theorem dX9_fits_119 : decode cX9_fits 119 = .ok (.ireturn, 1) := by decide +kernel
theorem dX9_fits_120 : decode cX9_fits 120 = .ok (.iload_n 3, 1) := by decide +kernel
theorem dX9_fits_121 : decode cX9_fits 121 = .ok (.ifCond .eq 8, 3) := by decide +kernel
theorem dX9_fits_124 : decode cX9_fits 124 = .ok (.iload_n 2, 1) := by decide +kernel
theorem dX9_fits_125 : decode cX9_fits 125 = .ok (.iconst 1, 1) := by decide +kernel
theorem dX9_fits_126 : decode cX9_fits 126 = .ok (.if_icmp .ne 6, 3) := by decide +kernel
theorem dX9_fits_129 : decode cX9_fits 129 = .ok (.iload 4, 2) := by decide +kernel
theorem dX9_fits_131 : decode cX9_fits 131 = .ok (.ireturn, 1) := by decide +kernel
theorem dX9_fits_132 : decode cX9_fits 132 = .ok (.iload_n 2, 1) := by decide +kernel
theorem dX9_fits_133 : decode cX9_fits 133 = .ok (.iconst 2, 1) := by decide +kernel
theorem dX9_fits_134 : decode cX9_fits 134 = .ok (.if_icmp .ne 8, 3) := by decide +kernel
theorem dX9_fits_137 : decode cX9_fits 137 = .ok (.iload 5, 2) := by decide +kernel
theorem dX9_fits_139 : decode cX9_fits 139 = .ok (.goto 15, 3) := by decide +kernel
theorem dX9_fits_142 : decode cX9_fits 142 = .ok (.aload_n 0, 1) := by decide +kernel
theorem dX9_fits_143 : decode cX9_fits 143 = .ok (.getfield 44, 3) := by decide +kernel
theorem dX9_fits_146 : decode cX9_fits 146 = .ok (.getfield 258, 3) := by decide +kernel
theorem dX9_fits_149 : decode cX9_fits 149 = .ok (.iload 6, 2) := by decide +kernel
theorem dX9_fits_151 : decode cX9_fits 151 = .ok (.iconst (-1), 1) := by decide +kernel
theorem dX9_fits_152 : decode cX9_fits 152 = .ok (.ixor, 1) := by decide +kernel
theorem dX9_fits_153 : decode cX9_fits 153 = .ok (.iand, 1) := by decide +kernel
theorem dX9_fits_154 : decode cX9_fits 154 = .ok (.ireturn, 1) := by decide +kernel
theorem dX9_keep_0 : decode cX9_keep 0 = .ok (.iload_n 1, 1) := by decide +kernel
theorem dX9_keep_1 : decode cX9_keep 1 = .ok (.invokestatic 264, 3) := by decide +kernel
theorem dX9_keep_4 : decode cX9_keep 4 = .ok (.ifCond .ne 5, 3) := by decide +kernel
theorem dX9_keep_7 : decode cX9_keep 7 = .ok (.iconst (-1), 1) := by decide +kernel
theorem dX9_keep_8 : decode cX9_keep 8 = .ok (.ireturn, 1) := by decide +kernel
theorem dX9_keep_9 : decode cX9_keep 9 = .ok (.aload_n 0, 1) := by decide +kernel
theorem dX9_keep_10 : decode cX9_keep 10 = .ok (.getfield 104, 3) := by decide +kernel
theorem dX9_keep_13 : decode cX9_keep 13 = .ok (.iload_n 1, 1) := by decide +kernel
theorem dX9_keep_14 : decode cX9_keep 14 = .ok (.ishr, 1) := by decide +kernel
theorem dX9_keep_15 : decode cX9_keep 15 = .ok (.iconst 1, 1) := by decide +kernel
theorem dX9_keep_16 : decode cX9_keep 16 = .ok (.iand, 1) := by decide +kernel
theorem dX9_keep_17 : decode cX9_keep 17 = .ok (.istore_n 2, 1) := by decide +kernel
theorem dX9_keep_18 : decode cX9_keep 18 = .ok (.aload_n 0, 1) := by decide +kernel
theorem dX9_keep_19 : decode cX9_keep 19 = .ok (.getfield 23, 3) := by decide +kernel
theorem dX9_keep_22 : decode cX9_keep 22 = .ok (.iload_n 1, 1) := by decide +kernel
theorem dX9_keep_23 : decode cX9_keep 23 = .ok (.aaload, 1) := by decide +kernel
theorem dX9_keep_24 : decode cX9_keep 24 = .ok (.aload_n 0, 1) := by decide +kernel
theorem dX9_keep_25 : decode cX9_keep 25 = .ok (.getfield 19, 3) := by decide +kernel
theorem dX9_keep_28 : decode cX9_keep 28 = .ok (.invokevirtual 101, 3) := by decide +kernel
theorem dX9_keep_31 : decode cX9_keep 31 = .ok (.aload_n 0, 1) := by decide +kernel
theorem dX9_keep_32 : decode cX9_keep 32 = .ok (.dup, 1) := by decide +kernel
theorem dX9_keep_33 : decode cX9_keep 33 = .ok (.getfield 104, 3) := by decide +kernel
theorem dX9_keep_36 : decode cX9_keep 36 = .ok (.iconst 1, 1) := by decide +kernel
theorem dX9_keep_37 : decode cX9_keep 37 = .ok (.iload_n 1, 1) := by decide +kernel
theorem dX9_keep_38 : decode cX9_keep 38 = .ok (.ishl, 1) := by decide +kernel
theorem dX9_keep_39 : decode cX9_keep 39 = .ok (.ior, 1) := by decide +kernel
theorem dX9_keep_40 : decode cX9_keep 40 = .ok (.putfield 104, 3) := by decide +kernel
theorem dX9_keep_43 : decode cX9_keep 43 = .ok (.iload_n 2, 1) := by decide +kernel
theorem dX9_keep_44 : decode cX9_keep 44 = .ok (.ireturn, 1) := by decide +kernel
theorem dX9_back_0 : decode cX9_back 0 = .ok (.iload_n 1, 1) := by decide +kernel
theorem dX9_back_1 : decode cX9_back 1 = .ok (.invokestatic 264, 3) := by decide +kernel
theorem dX9_back_4 : decode cX9_back 4 = .ok (.ifCond .ne 5, 3) := by decide +kernel
theorem dX9_back_7 : decode cX9_back 7 = .ok (.iconst (-1), 1) := by decide +kernel
theorem dX9_back_8 : decode cX9_back 8 = .ok (.ireturn, 1) := by decide +kernel
theorem dX9_back_9 : decode cX9_back 9 = .ok (.aload_n 0, 1) := by decide +kernel
theorem dX9_back_10 : decode cX9_back 10 = .ok (.getfield 104, 3) := by decide +kernel
theorem dX9_back_13 : decode cX9_back 13 = .ok (.iload_n 1, 1) := by decide +kernel
theorem dX9_back_14 : decode cX9_back 14 = .ok (.ishr, 1) := by decide +kernel
theorem dX9_back_15 : decode cX9_back 15 = .ok (.iconst 1, 1) := by decide +kernel
theorem dX9_back_16 : decode cX9_back 16 = .ok (.iand, 1) := by decide +kernel
theorem dX9_back_17 : decode cX9_back 17 = .ok (.ifCond .ne 6, 3) := by decide +kernel
theorem dX9_back_20 : decode cX9_back 20 = .ok (.bipush (-2), 2) := by decide +kernel
theorem dX9_back_22 : decode cX9_back 22 = .ok (.ireturn, 1) := by decide +kernel
theorem dX9_back_23 : decode cX9_back 23 = .ok (.aload_n 0, 1) := by decide +kernel
theorem dX9_back_24 : decode cX9_back 24 = .ok (.getfield 19, 3) := by decide +kernel
theorem dX9_back_27 : decode cX9_back 27 = .ok (.aload_n 0, 1) := by decide +kernel
theorem dX9_back_28 : decode cX9_back 28 = .ok (.getfield 23, 3) := by decide +kernel
theorem dX9_back_31 : decode cX9_back 31 = .ok (.iload_n 1, 1) := by decide +kernel
theorem dX9_back_32 : decode cX9_back 32 = .ok (.aaload, 1) := by decide +kernel
theorem dX9_back_33 : decode cX9_back 33 = .ok (.invokevirtual 101, 3) := by decide +kernel
theorem dX9_back_36 : decode cX9_back 36 = .ok (.aload_n 0, 1) := by decide +kernel
theorem dX9_back_37 : decode cX9_back 37 = .ok (.getfield 10, 3) := by decide +kernel
theorem dX9_back_40 : decode cX9_back 40 = .ok (.getfield 113, 3) := by decide +kernel
theorem dX9_back_43 : decode cX9_back 43 = .ok (.ireturn, 1) := by decide +kernel
theorem dX9_sheet_0 : decode cX9_sheet 0 = .ok (.iload_n 1, 1) := by decide +kernel
theorem dX9_sheet_1 : decode cX9_sheet 1 = .ok (.invokestatic 267, 3) := by decide +kernel
theorem dX9_sheet_4 : decode cX9_sheet 4 = .ok (.ifCond .eq 16, 3) := by decide +kernel
theorem dX9_sheet_7 : decode cX9_sheet 7 = .ok (.iload_n 2, 1) := by decide +kernel
theorem dX9_sheet_8 : decode cX9_sheet 8 = .ok (.invokestatic 270, 3) := by decide +kernel
theorem dX9_sheet_11 : decode cX9_sheet 11 = .ok (.ifCond .eq 9, 3) := by decide +kernel
theorem dX9_sheet_14 : decode cX9_sheet 14 = .ok (.iload_n 3, 1) := by decide +kernel
theorem dX9_sheet_15 : decode cX9_sheet 15 = .ok (.bipush 40, 2) := by decide +kernel
theorem dX9_sheet_17 : decode cX9_sheet 17 = .ok (.if_icmp .le 5, 3) := by decide +kernel
theorem dX9_sheet_20 : decode cX9_sheet 20 = .ok (.iconst (-1), 1) := by decide +kernel
theorem dX9_sheet_21 : decode cX9_sheet 21 = .ok (.ireturn, 1) := by decide +kernel
theorem dX9_sheet_22 : decode cX9_sheet 22 = .ok (.iload_n 3, 1) := by decide +kernel
theorem dX9_sheet_23 : decode cX9_sheet 23 = .ok (.ifCond .ge 6, 3) := by decide +kernel
theorem dX9_sheet_26 : decode cX9_sheet 26 = .ok (.bipush (-14), 2) := by decide +kernel
theorem dX9_sheet_28 : decode cX9_sheet 28 = .ok (.ireturn, 1) := by decide +kernel
theorem dX9_sheet_29 : decode cX9_sheet 29 = .ok (.aload_n 0, 1) := by decide +kernel
theorem dX9_sheet_30 : decode cX9_sheet 30 = .ok (.getfield 30, 3) := by decide +kernel
theorem dX9_sheet_33 : decode cX9_sheet 33 = .ok (.iload_n 1, 1) := by decide +kernel
theorem dX9_sheet_34 : decode cX9_sheet 34 = .ok (.aaload, 1) := by decide +kernel
theorem dX9_sheet_35 : decode cX9_sheet 35 = .ok (.iload_n 2, 1) := by decide +kernel
theorem dX9_sheet_36 : decode cX9_sheet 36 = .ok (.iload_n 3, 1) := by decide +kernel
theorem dX9_sheet_37 : decode cX9_sheet 37 = .ok (.invokevirtual 273, 3) := by decide +kernel
theorem dX9_sheet_40 : decode cX9_sheet 40 = .ok (.iconst 1, 1) := by decide +kernel
theorem dX9_sheet_41 : decode cX9_sheet 41 = .ok (.ireturn, 1) := by decide +kernel
theorem dX9_lay_0 : decode cX9_lay 0 = .ok (.iload_n 1, 1) := by decide +kernel
theorem dX9_lay_1 : decode cX9_lay 1 = .ok (.invokestatic 267, 3) := by decide +kernel
theorem dX9_lay_4 : decode cX9_lay 4 = .ok (.ifCond .ne 5, 3) := by decide +kernel
theorem dX9_lay_7 : decode cX9_lay 7 = .ok (.iconst (-1), 1) := by decide +kernel
theorem dX9_lay_8 : decode cX9_lay 8 = .ok (.ireturn, 1) := by decide +kernel
theorem dX9_lay_9 : decode cX9_lay 9 = .ok (.aload_n 0, 1) := by decide +kernel
theorem dX9_lay_10 : decode cX9_lay 10 = .ok (.getfield 30, 3) := by decide +kernel
theorem dX9_lay_13 : decode cX9_lay 13 = .ok (.iload_n 1, 1) := by decide +kernel
theorem dX9_lay_14 : decode cX9_lay 14 = .ok (.aaload, 1) := by decide +kernel
theorem dX9_lay_15 : decode cX9_lay 15 = .ok (.iload_n 2, 1) := by decide +kernel
theorem dX9_lay_16 : decode cX9_lay 16 = .ok (.invokevirtual 277, 3) := by decide +kernel
theorem dX9_lay_19 : decode cX9_lay 19 = .ok (.istore 4, 2) := by decide +kernel
theorem dX9_lay_21 : decode cX9_lay 21 = .ok (.iload 4, 2) := by decide +kernel
theorem dX9_lay_23 : decode cX9_lay 23 = .ok (.ifCond .eq 9, 3) := by decide +kernel
theorem dX9_lay_26 : decode cX9_lay 26 = .ok (.bipush (-10), 2) := by decide +kernel
theorem dX9_lay_28 : decode cX9_lay 28 = .ok (.iload 4, 2) := by decide +kernel
theorem dX9_lay_30 : decode cX9_lay 30 = .ok (.isub, 1) := by decide +kernel
theorem dX9_lay_31 : decode cX9_lay 31 = .ok (.ireturn, 1) := by decide +kernel
theorem dX9_lay_32 : decode cX9_lay 32 = .ok (.aload_n 0, 1) := by decide +kernel
theorem dX9_lay_33 : decode cX9_lay 33 = .ok (.getfield 30, 3) := by decide +kernel
theorem dX9_lay_36 : decode cX9_lay 36 = .ok (.iload_n 1, 1) := by decide +kernel
theorem dX9_lay_37 : decode cX9_lay 37 = .ok (.aaload, 1) := by decide +kernel
theorem dX9_lay_38 : decode cX9_lay 38 = .ok (.iload_n 2, 1) := by decide +kernel
theorem dX9_lay_39 : decode cX9_lay 39 = .ok (.iload_n 3, 1) := by decide +kernel
theorem dX9_lay_40 : decode cX9_lay 40 = .ok (.invokevirtual 280, 3) := by decide +kernel
theorem dX9_lay_43 : decode cX9_lay 43 = .ok (.iconst 1, 1) := by decide +kernel
theorem dX9_lay_44 : decode cX9_lay 44 = .ok (.ireturn, 1) := by decide +kernel
theorem dX9_read_0 : decode cX9_read 0 = .ok (.iload_n 1, 1) := by decide +kernel
theorem dX9_read_1 : decode cX9_read 1 = .ok (.invokestatic 267, 3) := by decide +kernel
theorem dX9_read_4 : decode cX9_read 4 = .ok (.ifCond .eq 22, 3) := by decide +kernel
theorem dX9_read_7 : decode cX9_read 7 = .ok (.iload_n 2, 1) := by decide +kernel
theorem dX9_read_8 : decode cX9_read 8 = .ok (.invokestatic 270, 3) := by decide +kernel
theorem dX9_read_11 : decode cX9_read 11 = .ok (.ifCond .eq 15, 3) := by decide +kernel
theorem dX9_read_14 : decode cX9_read 14 = .ok (.iload 4, 2) := by decide +kernel
theorem dX9_read_16 : decode cX9_read 16 = .ok (.ifCond .lt 10, 3) := by decide +kernel
theorem dX9_read_19 : decode cX9_read 19 = .ok (.iload 4, 2) := by decide +kernel
theorem dX9_read_21 : decode cX9_read 21 = .ok (.bipush 13, 2) := by decide +kernel
theorem dX9_read_23 : decode cX9_read 23 = .ok (.if_icmp .le 5, 3) := by decide +kernel
theorem dX9_read_26 : decode cX9_read 26 = .ok (.iconst (-1), 1) := by decide +kernel
theorem dX9_read_27 : decode cX9_read 27 = .ok (.ireturn, 1) := by decide +kernel
theorem dX9_read_28 : decode cX9_read 28 = .ok (.aload_n 0, 1) := by decide +kernel
theorem dX9_read_29 : decode cX9_read 29 = .ok (.getfield 30, 3) := by decide +kernel
theorem dX9_read_32 : decode cX9_read 32 = .ok (.iload_n 1, 1) := by decide +kernel
theorem dX9_read_33 : decode cX9_read 33 = .ok (.aaload, 1) := by decide +kernel
theorem dX9_read_34 : decode cX9_read 34 = .ok (.astore 5, 2) := by decide +kernel
theorem dX9_read_36 : decode cX9_read 36 = .ok (.iconst 0, 1) := by decide +kernel
theorem dX9_read_37 : decode cX9_read 37 = .ok (.istore 6, 2) := by decide +kernel
theorem dX9_read_39 : decode cX9_read 39 = .ok (.iconst 0, 1) := by decide +kernel
theorem dX9_read_40 : decode cX9_read 40 = .ok (.istore 7, 2) := by decide +kernel
theorem dX9_read_42 : decode cX9_read 42 = .ok (.iconst 0, 1) := by decide +kernel
theorem dX9_read_43 : decode cX9_read 43 = .ok (.istore 8, 2) := by decide +kernel
theorem dX9_read_45 : decode cX9_read 45 = .ok (.iload 8, 2) := by decide +kernel
theorem dX9_read_47 : decode cX9_read 47 = .ok (.iload 4, 2) := by decide +kernel
theorem dX9_read_49 : decode cX9_read 49 = .ok (.if_icmp .ge 72, 3) := by decide +kernel
theorem dX9_read_52 : decode cX9_read 52 = .ok (.iload 6, 2) := by decide +kernel
theorem dX9_read_54 : decode cX9_read 54 = .ok (.ifCond .ne 67, 3) := by decide +kernel
theorem dX9_read_57 : decode cX9_read 57 = .ok (.aload 5, 2) := by decide +kernel
theorem dX9_read_59 : decode cX9_read 59 = .ok (.iload_n 2, 1) := by decide +kernel
theorem dX9_read_60 : decode cX9_read 60 = .ok (.iload_n 3, 1) := by decide +kernel
theorem dX9_read_61 : decode cX9_read 61 = .ok (.iload 8, 2) := by decide +kernel
theorem dX9_read_63 : decode cX9_read 63 = .ok (.invokevirtual 283, 3) := by decide +kernel
theorem dX9_read_66 : decode cX9_read 66 = .ok (.istore 6, 2) := by decide +kernel
theorem dX9_read_68 : decode cX9_read 68 = .ok (.iload 6, 2) := by decide +kernel
theorem dX9_read_70 : decode cX9_read 70 = .ok (.ifCond .ne 45, 3) := by decide +kernel
theorem dX9_read_73 : decode cX9_read 73 = .ok (.aload_n 0, 1) := by decide +kernel
theorem dX9_read_74 : decode cX9_read 74 = .ok (.aload 5, 2) := by decide +kernel
theorem dX9_read_76 : decode cX9_read 76 = .ok (.getfield 287, 3) := by decide +kernel
theorem dX9_read_79 : decode cX9_read 79 = .ok (.iload_n 3, 1) := by decide +kernel
theorem dX9_read_80 : decode cX9_read 80 = .ok (.iconst 2, 1) := by decide +kernel
theorem dX9_read_81 : decode cX9_read 81 = .ok (.iload 8, 2) := by decide +kernel
theorem dX9_read_83 : decode cX9_read 83 = .ok (.imul, 1) := by decide +kernel
theorem dX9_read_84 : decode cX9_read 84 = .ok (.iadd, 1) := by decide +kernel
theorem dX9_read_85 : decode cX9_read 85 = .ok (.iaload, 1) := by decide +kernel
theorem dX9_read_86 : decode cX9_read 86 = .ok (.aload 5, 2) := by decide +kernel
theorem dX9_read_88 : decode cX9_read 88 = .ok (.getfield 287, 3) := by decide +kernel
theorem dX9_read_91 : decode cX9_read 91 = .ok (.iload_n 3, 1) := by decide +kernel
theorem dX9_read_92 : decode cX9_read 92 = .ok (.iconst 2, 1) := by decide +kernel
theorem dX9_read_93 : decode cX9_read 93 = .ok (.iload 8, 2) := by decide +kernel
theorem dX9_read_95 : decode cX9_read 95 = .ok (.imul, 1) := by decide +kernel
theorem dX9_read_96 : decode cX9_read 96 = .ok (.iadd, 1) := by decide +kernel
theorem dX9_read_97 : decode cX9_read 97 = .ok (.iconst 1, 1) := by decide +kernel
theorem dX9_read_98 : decode cX9_read 98 = .ok (.iadd, 1) := by decide +kernel
theorem dX9_read_99 : decode cX9_read 99 = .ok (.iaload, 1) := by decide +kernel
theorem dX9_read_100 : decode cX9_read 100 = .ok (.invokevirtual 160, 3) := by decide +kernel
theorem dX9_read_103 : decode cX9_read 103 = .ok (.ifCond .ne 9, 3) := by decide +kernel
theorem dX9_read_106 : decode cX9_read 106 = .ok (.bipush (-20), 2) := by decide +kernel
theorem dX9_read_108 : decode cX9_read 108 = .ok (.iload 8, 2) := by decide +kernel
theorem dX9_read_110 : decode cX9_read 110 = .ok (.isub, 1) := by decide +kernel
theorem dX9_read_111 : decode cX9_read 111 = .ok (.ireturn, 1) := by decide +kernel
theorem dX9_read_112 : decode cX9_read 112 = .ok (.iinc 7 1, 3) := by decide +kernel
theorem dX9_read_115 : decode cX9_read 115 = .ok (.iinc 8 1, 3) := by decide +kernel
theorem dX9_read_118 : decode cX9_read 118 = .ok (.goto (-73), 3) := by decide +kernel
theorem dX9_read_121 : decode cX9_read 121 = .ok (.iconst 0, 1) := by decide +kernel
theorem dX9_read_122 : decode cX9_read 122 = .ok (.istore 8, 2) := by decide +kernel
theorem dX9_read_124 : decode cX9_read 124 = .ok (.iload 8, 2) := by decide +kernel
theorem dX9_read_126 : decode cX9_read 126 = .ok (.iload 7, 2) := by decide +kernel
theorem dX9_read_128 : decode cX9_read 128 = .ok (.if_icmp .ge 43, 3) := by decide +kernel
theorem dX9_read_131 : decode cX9_read 131 = .ok (.aload_n 0, 1) := by decide +kernel
theorem dX9_read_132 : decode cX9_read 132 = .ok (.getfield 19, 3) := by decide +kernel
theorem dX9_read_135 : decode cX9_read 135 = .ok (.getfield 157, 3) := by decide +kernel
theorem dX9_read_138 : decode cX9_read 138 = .ok (.aload 5, 2) := by decide +kernel
theorem dX9_read_140 : decode cX9_read 140 = .ok (.getfield 287, 3) := by decide +kernel
theorem dX9_read_143 : decode cX9_read 143 = .ok (.iload_n 3, 1) := by decide +kernel
theorem dX9_read_144 : decode cX9_read 144 = .ok (.iconst 2, 1) := by decide +kernel
theorem dX9_read_145 : decode cX9_read 145 = .ok (.iload 8, 2) := by decide +kernel
theorem dX9_read_147 : decode cX9_read 147 = .ok (.imul, 1) := by decide +kernel
theorem dX9_read_148 : decode cX9_read 148 = .ok (.iadd, 1) := by decide +kernel
theorem dX9_read_149 : decode cX9_read 149 = .ok (.iaload, 1) := by decide +kernel
theorem dX9_read_150 : decode cX9_read 150 = .ok (.aload 5, 2) := by decide +kernel
theorem dX9_read_152 : decode cX9_read 152 = .ok (.getfield 287, 3) := by decide +kernel
theorem dX9_read_155 : decode cX9_read 155 = .ok (.iload_n 3, 1) := by decide +kernel
theorem dX9_read_156 : decode cX9_read 156 = .ok (.iconst 2, 1) := by decide +kernel
theorem dX9_read_157 : decode cX9_read 157 = .ok (.iload 8, 2) := by decide +kernel
theorem dX9_read_159 : decode cX9_read 159 = .ok (.imul, 1) := by decide +kernel
theorem dX9_read_160 : decode cX9_read 160 = .ok (.iadd, 1) := by decide +kernel
theorem dX9_read_161 : decode cX9_read 161 = .ok (.iconst 1, 1) := by decide +kernel
theorem dX9_read_162 : decode cX9_read 162 = .ok (.iadd, 1) := by decide +kernel
theorem dX9_read_163 : decode cX9_read 163 = .ok (.iaload, 1) := by decide +kernel
theorem dX9_read_164 : decode cX9_read 164 = .ok (.iastore, 1) := by decide +kernel
theorem dX9_read_165 : decode cX9_read 165 = .ok (.iinc 8 1, 3) := by decide +kernel
theorem dX9_read_168 : decode cX9_read 168 = .ok (.goto (-44), 3) := by decide +kernel
theorem dX9_read_171 : decode cX9_read 171 = .ok (.aload_n 0, 1) := by decide +kernel
theorem dX9_read_172 : decode cX9_read 172 = .ok (.iload 6, 2) := by decide +kernel
theorem dX9_read_174 : decode cX9_read 174 = .ok (.putfield 290, 3) := by decide +kernel
theorem dX9_read_177 : decode cX9_read 177 = .ok (.iload 7, 2) := by decide +kernel
theorem dX9_read_179 : decode cX9_read 179 = .ok (.ireturn, 1) := by decide +kernel
theorem dX9_torn_0 : decode cX9_torn 0 = .ok (.aload_n 0, 1) := by decide +kernel
theorem dX9_torn_1 : decode cX9_torn 1 = .ok (.getfield 290, 3) := by decide +kernel
theorem dX9_torn_4 : decode cX9_torn 4 = .ok (.ireturn, 1) := by decide +kernel
theorem dX9_count_0 : decode cX9_count 0 = .ok (.iload_n 1, 1) := by decide +kernel
theorem dX9_count_1 : decode cX9_count 1 = .ok (.tableswitch 106 0 5 #[39, 47, 55, 63, 90, 98], 39) := by decide +kernel
theorem dX9_count_40 : decode cX9_count 40 = .ok (.aload_n 0, 1) := by decide +kernel
theorem dX9_count_41 : decode cX9_count 41 = .ok (.getfield 19, 3) := by decide +kernel
theorem dX9_count_44 : decode cX9_count 44 = .ok (.getfield 252, 3) := by decide +kernel
theorem dX9_count_47 : decode cX9_count 47 = .ok (.ireturn, 1) := by decide +kernel
theorem dX9_count_48 : decode cX9_count 48 = .ok (.aload_n 0, 1) := by decide +kernel
theorem dX9_count_49 : decode cX9_count 49 = .ok (.getfield 104, 3) := by decide +kernel
theorem dX9_count_52 : decode cX9_count 52 = .ok (.invokestatic 191, 3) := by decide +kernel
theorem dX9_count_55 : decode cX9_count 55 = .ok (.ireturn, 1) := by decide +kernel
theorem dX9_count_56 : decode cX9_count 56 = .ok (.aload_n 0, 1) := by decide +kernel
theorem dX9_count_57 : decode cX9_count 57 = .ok (.getfield 37, 3) := by decide +kernel
theorem dX9_count_60 : decode cX9_count 60 = .ok (.getfield 84, 3) := by decide +kernel
theorem dX9_count_63 : decode cX9_count 63 = .ok (.ireturn, 1) := by decide +kernel
theorem dX9_count_64 : decode cX9_count 64 = .ok (.aload_n 0, 1) := by decide +kernel
theorem dX9_count_65 : decode cX9_count 65 = .ok (.getfield 30, 3) := by decide +kernel
theorem dX9_count_68 : decode cX9_count 68 = .ok (.iconst 0, 1) := by decide +kernel
theorem dX9_count_69 : decode cX9_count 69 = .ok (.aaload, 1) := by decide +kernel
theorem dX9_count_70 : decode cX9_count 70 = .ok (.invokevirtual 293, 3) := by decide +kernel
theorem dX9_count_73 : decode cX9_count 73 = .ok (.ifCond .eq 8, 3) := by decide +kernel
theorem dX9_count_76 : decode cX9_count 76 = .ok (.bipush (-4), 2) := by decide +kernel
theorem dX9_count_78 : decode cX9_count 78 = .ok (.goto 12, 3) := by decide +kernel
theorem dX9_count_81 : decode cX9_count 81 = .ok (.aload_n 0, 1) := by decide +kernel
theorem dX9_count_82 : decode cX9_count 82 = .ok (.getfield 30, 3) := by decide +kernel
theorem dX9_count_85 : decode cX9_count 85 = .ok (.iconst 0, 1) := by decide +kernel
theorem dX9_count_86 : decode cX9_count 86 = .ok (.aaload, 1) := by decide +kernel
theorem dX9_count_87 : decode cX9_count 87 = .ok (.getfield 296, 3) := by decide +kernel
theorem dX9_count_90 : decode cX9_count 90 = .ok (.ireturn, 1) := by decide +kernel
theorem dX9_count_91 : decode cX9_count 91 = .ok (.aload_n 0, 1) := by decide +kernel
theorem dX9_count_92 : decode cX9_count 92 = .ok (.getfield 19, 3) := by decide +kernel
theorem dX9_count_95 : decode cX9_count 95 = .ok (.invokevirtual 299, 3) := by decide +kernel
theorem dX9_count_98 : decode cX9_count 98 = .ok (.ireturn, 1) := by decide +kernel
theorem dX9_count_99 : decode cX9_count 99 = .ok (.aload_n 0, 1) := by decide +kernel
theorem dX9_count_100 : decode cX9_count 100 = .ok (.getfield 10, 3) := by decide +kernel
theorem dX9_count_103 : decode cX9_count 103 = .ok (.invokevirtual 181, 3) := by decide +kernel
theorem dX9_count_106 : decode cX9_count 106 = .ok (.ireturn, 1) := by decide +kernel
theorem dX9_count_107 : decode cX9_count 107 = .ok (.iconst (-1), 1) := by decide +kernel
theorem dX9_count_108 : decode cX9_count 108 = .ok (.ireturn, 1) := by decide +kernel
theorem dX9_isEither_0 : decode cX9_isEither 0 = .ok (.iload_n 0, 1) := by decide +kernel
theorem dX9_isEither_1 : decode cX9_isEither 1 = .ok (.ifCond .eq 8, 3) := by decide +kernel
theorem dX9_isEither_4 : decode cX9_isEither 4 = .ok (.iload_n 0, 1) := by decide +kernel
theorem dX9_isEither_5 : decode cX9_isEither 5 = .ok (.iconst 1, 1) := by decide +kernel
theorem dX9_isEither_6 : decode cX9_isEither 6 = .ok (.if_icmp .ne 7, 3) := by decide +kernel
theorem dX9_isEither_9 : decode cX9_isEither 9 = .ok (.iconst 1, 1) := by decide +kernel
theorem dX9_isEither_10 : decode cX9_isEither 10 = .ok (.goto 4, 3) := by decide +kernel
theorem dX9_isEither_13 : decode cX9_isEither 13 = .ok (.iconst 0, 1) := by decide +kernel
theorem dX9_isEither_14 : decode cX9_isEither 14 = .ok (.ireturn, 1) := by decide +kernel
theorem dX9_isSide_0 : decode cX9_isSide 0 = .ok (.iload_n 0, 1) := by decide +kernel
theorem dX9_isSide_1 : decode cX9_isSide 1 = .ok (.ifCond .lt 12, 3) := by decide +kernel
theorem dX9_isSide_4 : decode cX9_isSide 4 = .ok (.iload_n 0, 1) := by decide +kernel
theorem dX9_isSide_5 : decode cX9_isSide 5 = .ok (.iconst 4, 1) := by decide +kernel
theorem dX9_isSide_6 : decode cX9_isSide 6 = .ok (.if_icmp .ge 7, 3) := by decide +kernel
theorem dX9_isSide_9 : decode cX9_isSide 9 = .ok (.iconst 1, 1) := by decide +kernel
theorem dX9_isSide_10 : decode cX9_isSide 10 = .ok (.goto 4, 3) := by decide +kernel
theorem dX9_isSide_13 : decode cX9_isSide 13 = .ok (.iconst 0, 1) := by decide +kernel
theorem dX9_isSide_14 : decode cX9_isSide 14 = .ok (.ireturn, 1) := by decide +kernel
theorem dX9_isImage_0 : decode cX9_isImage 0 = .ok (.iload_n 0, 1) := by decide +kernel
theorem dX9_isImage_1 : decode cX9_isImage 1 = .ok (.ifCond .lt 12, 3) := by decide +kernel
theorem dX9_isImage_4 : decode cX9_isImage 4 = .ok (.iload_n 0, 1) := by decide +kernel
theorem dX9_isImage_5 : decode cX9_isImage 5 = .ok (.iconst 2, 1) := by decide +kernel
theorem dX9_isImage_6 : decode cX9_isImage 6 = .ok (.if_icmp .ge 7, 3) := by decide +kernel
theorem dX9_isImage_9 : decode cX9_isImage 9 = .ok (.iconst 1, 1) := by decide +kernel
theorem dX9_isImage_10 : decode cX9_isImage 10 = .ok (.goto 4, 3) := by decide +kernel
theorem dX9_isImage_13 : decode cX9_isImage 13 = .ok (.iconst 0, 1) := by decide +kernel
theorem dX9_isImage_14 : decode cX9_isImage 14 = .ok (.ireturn, 1) := by decide +kernel
theorem dX9_isSheet_0 : decode cX9_isSheet 0 = .ok (.iload_n 0, 1) := by decide +kernel
theorem dX9_isSheet_1 : decode cX9_isSheet 1 = .ok (.ifCond .lt 12, 3) := by decide +kernel
theorem dX9_isSheet_4 : decode cX9_isSheet 4 = .ok (.iload_n 0, 1) := by decide +kernel
theorem dX9_isSheet_5 : decode cX9_isSheet 5 = .ok (.iconst 4, 1) := by decide +kernel
theorem dX9_isSheet_6 : decode cX9_isSheet 6 = .ok (.if_icmp .ge 7, 3) := by decide +kernel
theorem dX9_isSheet_9 : decode cX9_isSheet 9 = .ok (.iconst 1, 1) := by decide +kernel
theorem dX9_isSheet_10 : decode cX9_isSheet 10 = .ok (.goto 4, 3) := by decide +kernel
theorem dX9_isSheet_13 : decode cX9_isSheet 13 = .ok (.iconst 0, 1) := by decide +kernel
theorem dX9_isSheet_14 : decode cX9_isSheet 14 = .ok (.ireturn, 1) := by decide +kernel
theorem dX9_isLane_0 : decode cX9_isLane 0 = .ok (.iload_n 0, 1) := by decide +kernel
theorem dX9_isLane_1 : decode cX9_isLane 1 = .ok (.ifCond .lt 12, 3) := by decide +kernel
theorem dX9_isLane_4 : decode cX9_isLane 4 = .ok (.iload_n 0, 1) := by decide +kernel
theorem dX9_isLane_5 : decode cX9_isLane 5 = .ok (.iconst 3, 1) := by decide +kernel
theorem dX9_isLane_6 : decode cX9_isLane 6 = .ok (.if_icmp .ge 7, 3) := by decide +kernel
theorem dX9_isLane_9 : decode cX9_isLane 9 = .ok (.iconst 1, 1) := by decide +kernel
theorem dX9_isLane_10 : decode cX9_isLane 10 = .ok (.goto 4, 3) := by decide +kernel
theorem dX9_isLane_13 : decode cX9_isLane 13 = .ok (.iconst 0, 1) := by decide +kernel
theorem dX9_isLane_14 : decode cX9_isLane 14 = .ok (.ireturn, 1) := by decide +kernel
theorem dX9_canTell_0 : decode cX9_canTell 0 = .ok (.aload_n 0, 1) := by decide +kernel
theorem dX9_canTell_1 : decode cX9_canTell 1 = .ok (.getfield 10, 3) := by decide +kernel
theorem dX9_canTell_4 : decode cX9_canTell 4 = .ok (.iload_n 1, 1) := by decide +kernel
theorem dX9_canTell_5 : decode cX9_canTell 5 = .ok (.invokevirtual 148, 3) := by decide +kernel
theorem dX9_canTell_8 : decode cX9_canTell 8 = .ok (.ifCond .eq 18, 3) := by decide +kernel
theorem dX9_canTell_11 : decode cX9_canTell 11 = .ok (.aload_n 0, 1) := by decide +kernel
theorem dX9_canTell_12 : decode cX9_canTell 12 = .ok (.getfield 10, 3) := by decide +kernel
theorem dX9_canTell_15 : decode cX9_canTell 15 = .ok (.iload_n 2, 1) := by decide +kernel
theorem dX9_canTell_16 : decode cX9_canTell 16 = .ok (.invokevirtual 167, 3) := by decide +kernel
theorem dX9_canTell_19 : decode cX9_canTell 19 = .ok (.ifCond .eq 7, 3) := by decide +kernel
theorem dX9_canTell_22 : decode cX9_canTell 22 = .ok (.iconst 1, 1) := by decide +kernel
theorem dX9_canTell_23 : decode cX9_canTell 23 = .ok (.goto 4, 3) := by decide +kernel
theorem dX9_canTell_26 : decode cX9_canTell 26 = .ok (.iconst 0, 1) := by decide +kernel
theorem dX9_canTell_27 : decode cX9_canTell 27 = .ok (.ireturn, 1) := by decide +kernel
theorem dX9_look_0 : decode cX9_look 0 = .ok (.aload_n 0, 1) := by decide +kernel
theorem dX9_look_1 : decode cX9_look 1 = .ok (.getfield 44, 3) := by decide +kernel
theorem dX9_look_4 : decode cX9_look 4 = .ok (.aload_n 0, 1) := by decide +kernel
theorem dX9_look_5 : decode cX9_look 5 = .ok (.getfield 10, 3) := by decide +kernel
theorem dX9_look_8 : decode cX9_look 8 = .ok (.aload_n 0, 1) := by decide +kernel
theorem dX9_look_9 : decode cX9_look 9 = .ok (.getfield 19, 3) := by decide +kernel
theorem dX9_look_12 : decode cX9_look 12 = .ok (.getfield 129, 3) := by decide +kernel
theorem dX9_look_15 : decode cX9_look 15 = .ok (.aload_n 0, 1) := by decide +kernel
theorem dX9_look_16 : decode cX9_look 16 = .ok (.getfield 10, 3) := by decide +kernel
theorem dX9_look_19 : decode cX9_look 19 = .ok (.invokevirtual 226, 3) := by decide +kernel
theorem dX9_look_22 : decode cX9_look 22 = .ok (.invokevirtual 229, 3) := by decide +kernel
theorem dX9_look_25 : decode cX9_look 25 = .ok (.aload_n 0, 1) := by decide +kernel
theorem dX9_look_26 : decode cX9_look 26 = .ok (.getfield 44, 3) := by decide +kernel
theorem dX9_look_29 : decode cX9_look 29 = .ok (.areturn, 1) := by decide +kernel
theorem dX9_isLawful_0 : decode cX9_isLawful 0 = .ok (.aload_n 0, 1) := by decide +kernel
theorem dX9_isLawful_1 : decode cX9_isLawful 1 = .ok (.getfield 44, 3) := by decide +kernel
theorem dX9_isLawful_4 : decode cX9_isLawful 4 = .ok (.aload_n 0, 1) := by decide +kernel
theorem dX9_isLawful_5 : decode cX9_isLawful 5 = .ok (.getfield 19, 3) := by decide +kernel
theorem dX9_isLawful_8 : decode cX9_isLawful 8 = .ok (.getfield 151, 3) := by decide +kernel
theorem dX9_isLawful_11 : decode cX9_isLawful 11 = .ok (.aload_n 0, 1) := by decide +kernel
theorem dX9_isLawful_12 : decode cX9_isLawful 12 = .ok (.getfield 19, 3) := by decide +kernel
theorem dX9_isLawful_15 : decode cX9_isLawful 15 = .ok (.getfield 154, 3) := by decide +kernel
theorem dX9_isLawful_18 : decode cX9_isLawful 18 = .ok (.iload_n 1, 1) := by decide +kernel
theorem dX9_isLawful_19 : decode cX9_isLawful 19 = .ok (.iaload, 1) := by decide +kernel
theorem dX9_isLawful_20 : decode cX9_isLawful 20 = .ok (.aload_n 0, 1) := by decide +kernel
theorem dX9_isLawful_21 : decode cX9_isLawful 21 = .ok (.getfield 44, 3) := by decide +kernel
theorem dX9_isLawful_24 : decode cX9_isLawful 24 = .ok (.iload_n 2, 1) := by decide +kernel
theorem dX9_isLawful_25 : decode cX9_isLawful 25 = .ok (.invokevirtual 170, 3) := by decide +kernel
theorem dX9_isLawful_28 : decode cX9_isLawful 28 = .ok (.invokevirtual 302, 3) := by decide +kernel
theorem dX9_isLawful_31 : decode cX9_isLawful 31 = .ok (.ifCond .ne 7, 3) := by decide +kernel
theorem dX9_isLawful_34 : decode cX9_isLawful 34 = .ok (.iconst 1, 1) := by decide +kernel
theorem dX9_isLawful_35 : decode cX9_isLawful 35 = .ok (.goto 4, 3) := by decide +kernel
theorem dX9_isLawful_38 : decode cX9_isLawful 38 = .ok (.iconst 0, 1) := by decide +kernel
theorem dX9_isLawful_39 : decode cX9_isLawful 39 = .ok (.ireturn, 1) := by decide +kernel
theorem dX9_missedIn_0 : decode cX9_missedIn 0 = .ok (.aload_n 0, 1) := by decide +kernel
theorem dX9_missedIn_1 : decode cX9_missedIn 1 = .ok (.getfield 51, 3) := by decide +kernel
theorem dX9_missedIn_4 : decode cX9_missedIn 4 = .ok (.aload_n 0, 1) := by decide +kernel
theorem dX9_missedIn_5 : decode cX9_missedIn 5 = .ok (.getfield 10, 3) := by decide +kernel
theorem dX9_missedIn_8 : decode cX9_missedIn 8 = .ok (.aload_n 0, 1) := by decide +kernel
theorem dX9_missedIn_9 : decode cX9_missedIn 9 = .ok (.getfield 19, 3) := by decide +kernel
theorem dX9_missedIn_12 : decode cX9_missedIn 12 = .ok (.aload_n 0, 1) := by decide +kernel
theorem dX9_missedIn_13 : decode cX9_missedIn 13 = .ok (.invokevirtual 135, 3) := by decide +kernel
theorem dX9_missedIn_16 : decode cX9_missedIn 16 = .ok (.iload_n 1, 1) := by decide +kernel
theorem dX9_missedIn_17 : decode cX9_missedIn 17 = .ok (.invokevirtual 196, 3) := by decide +kernel
theorem dX9_missedIn_20 : decode cX9_missedIn 20 = .ok (.aload_n 0, 1) := by decide +kernel
theorem dX9_missedIn_21 : decode cX9_missedIn 21 = .ok (.getfield 44, 3) := by decide +kernel
theorem dX9_missedIn_24 : decode cX9_missedIn 24 = .ok (.aload_n 0, 1) := by decide +kernel
theorem dX9_missedIn_25 : decode cX9_missedIn 25 = .ok (.getfield 19, 3) := by decide +kernel
theorem dX9_missedIn_28 : decode cX9_missedIn 28 = .ok (.getfield 151, 3) := by decide +kernel
theorem dX9_missedIn_31 : decode cX9_missedIn 31 = .ok (.aload_n 0, 1) := by decide +kernel
theorem dX9_missedIn_32 : decode cX9_missedIn 32 = .ok (.getfield 19, 3) := by decide +kernel
theorem dX9_missedIn_35 : decode cX9_missedIn 35 = .ok (.getfield 154, 3) := by decide +kernel
theorem dX9_missedIn_38 : decode cX9_missedIn 38 = .ok (.iload_n 1, 1) := by decide +kernel
theorem dX9_missedIn_39 : decode cX9_missedIn 39 = .ok (.iaload, 1) := by decide +kernel
theorem dX9_missedIn_40 : decode cX9_missedIn 40 = .ok (.aload_n 0, 1) := by decide +kernel
theorem dX9_missedIn_41 : decode cX9_missedIn 41 = .ok (.getfield 51, 3) := by decide +kernel
theorem dX9_missedIn_44 : decode cX9_missedIn 44 = .ok (.getfield 204, 3) := by decide +kernel
theorem dX9_missedIn_47 : decode cX9_missedIn 47 = .ok (.invokevirtual 302, 3) := by decide +kernel
theorem dX9_missedIn_50 : decode cX9_missedIn 50 = .ok (.ireturn, 1) := by decide +kernel
theorem dX9_weighSleep_0 : decode cX9_weighSleep 0 = .ok (.aload_n 0, 1) := by decide +kernel
theorem dX9_weighSleep_1 : decode cX9_weighSleep 1 = .ok (.getfield 51, 3) := by decide +kernel
theorem dX9_weighSleep_4 : decode cX9_weighSleep 4 = .ok (.aload_n 0, 1) := by decide +kernel
theorem dX9_weighSleep_5 : decode cX9_weighSleep 5 = .ok (.getfield 10, 3) := by decide +kernel
theorem dX9_weighSleep_8 : decode cX9_weighSleep 8 = .ok (.aload_n 0, 1) := by decide +kernel
theorem dX9_weighSleep_9 : decode cX9_weighSleep 9 = .ok (.getfield 19, 3) := by decide +kernel
theorem dX9_weighSleep_12 : decode cX9_weighSleep 12 = .ok (.aload_n 0, 1) := by decide +kernel
theorem dX9_weighSleep_13 : decode cX9_weighSleep 13 = .ok (.invokevirtual 135, 3) := by decide +kernel
theorem dX9_weighSleep_16 : decode cX9_weighSleep 16 = .ok (.iload_n 1, 1) := by decide +kernel
theorem dX9_weighSleep_17 : decode cX9_weighSleep 17 = .ok (.invokevirtual 196, 3) := by decide +kernel
theorem dX9_weighSleep_20 : decode cX9_weighSleep 20 = .ok (.aload_n 0, 1) := by decide +kernel
theorem dX9_weighSleep_21 : decode cX9_weighSleep 21 = .ok (.getfield 72, 3) := by decide +kernel
theorem dX9_weighSleep_24 : decode cX9_weighSleep 24 = .ok (.aload_n 0, 1) := by decide +kernel
theorem dX9_weighSleep_25 : decode cX9_weighSleep 25 = .ok (.getfield 51, 3) := by decide +kernel
theorem dX9_weighSleep_28 : decode cX9_weighSleep 28 = .ok (.aload_n 0, 1) := by decide +kernel
theorem dX9_weighSleep_29 : decode cX9_weighSleep 29 = .ok (.getfield 44, 3) := by decide +kernel
theorem dX9_weighSleep_32 : decode cX9_weighSleep 32 = .ok (.aload_n 0, 1) := by decide +kernel
theorem dX9_weighSleep_33 : decode cX9_weighSleep 33 = .ok (.getfield 19, 3) := by decide +kernel
theorem dX9_weighSleep_36 : decode cX9_weighSleep 36 = .ok (.getfield 151, 3) := by decide +kernel
theorem dX9_weighSleep_39 : decode cX9_weighSleep 39 = .ok (.aload_n 0, 1) := by decide +kernel
theorem dX9_weighSleep_40 : decode cX9_weighSleep 40 = .ok (.getfield 19, 3) := by decide +kernel
theorem dX9_weighSleep_43 : decode cX9_weighSleep 43 = .ok (.getfield 154, 3) := by decide +kernel
theorem dX9_weighSleep_46 : decode cX9_weighSleep 46 = .ok (.iload_n 1, 1) := by decide +kernel
theorem dX9_weighSleep_47 : decode cX9_weighSleep 47 = .ok (.iaload, 1) := by decide +kernel
theorem dX9_weighSleep_48 : decode cX9_weighSleep 48 = .ok (.invokevirtual 306, 3) := by decide +kernel
theorem dX9_weighSleep_51 : decode cX9_weighSleep 51 = .ok (.return_, 1) := by decide +kernel
theorem dX9_layBeds_0 : decode cX9_layBeds 0 = .ok (.iconst 0, 1) := by decide +kernel
theorem dX9_layBeds_1 : decode cX9_layBeds 1 = .ok (.istore_n 2, 1) := by decide +kernel
theorem dX9_layBeds_2 : decode cX9_layBeds 2 = .ok (.iload_n 2, 1) := by decide +kernel
theorem dX9_layBeds_3 : decode cX9_layBeds 3 = .ok (.aload_n 0, 1) := by decide +kernel
theorem dX9_layBeds_4 : decode cX9_layBeds 4 = .ok (.getfield 10, 3) := by decide +kernel
theorem dX9_layBeds_7 : decode cX9_layBeds 7 = .ok (.getfield 113, 3) := by decide +kernel
theorem dX9_layBeds_10 : decode cX9_layBeds 10 = .ok (.if_icmp .ge 32, 3) := by decide +kernel
theorem dX9_layBeds_13 : decode cX9_layBeds 13 = .ok (.aload_n 0, 1) := by decide +kernel
theorem dX9_layBeds_14 : decode cX9_layBeds 14 = .ok (.getfield 76, 3) := by decide +kernel
theorem dX9_layBeds_17 : decode cX9_layBeds 17 = .ok (.iload_n 2, 1) := by decide +kernel
theorem dX9_layBeds_18 : decode cX9_layBeds 18 = .ok (.iload_n 1, 1) := by decide +kernel
theorem dX9_layBeds_19 : decode cX9_layBeds 19 = .ok (.iconst 2, 1) := by decide +kernel
theorem dX9_layBeds_20 : decode cX9_layBeds 20 = .ok (.aload_n 0, 1) := by decide +kernel
theorem dX9_layBeds_21 : decode cX9_layBeds 21 = .ok (.getfield 10, 3) := by decide +kernel
theorem dX9_layBeds_24 : decode cX9_layBeds 24 = .ok (.getfield 113, 3) := by decide +kernel
theorem dX9_layBeds_27 : decode cX9_layBeds 27 = .ok (.iconst 1, 1) := by decide +kernel
theorem dX9_layBeds_28 : decode cX9_layBeds 28 = .ok (.isub, 1) := by decide +kernel
theorem dX9_layBeds_29 : decode cX9_layBeds 29 = .ok (.iload_n 2, 1) := by decide +kernel
theorem dX9_layBeds_30 : decode cX9_layBeds 30 = .ok (.isub, 1) := by decide +kernel
theorem dX9_layBeds_31 : decode cX9_layBeds 31 = .ok (.imul, 1) := by decide +kernel
theorem dX9_layBeds_32 : decode cX9_layBeds 32 = .ok (.ishr, 1) := by decide +kernel
theorem dX9_layBeds_33 : decode cX9_layBeds 33 = .ok (.iconst 3, 1) := by decide +kernel
theorem dX9_layBeds_34 : decode cX9_layBeds 34 = .ok (.iand, 1) := by decide +kernel
theorem dX9_layBeds_35 : decode cX9_layBeds 35 = .ok (.iastore, 1) := by decide +kernel
theorem dX9_layBeds_36 : decode cX9_layBeds 36 = .ok (.iinc 2 1, 3) := by decide +kernel
theorem dX9_layBeds_39 : decode cX9_layBeds 39 = .ok (.goto (-37), 3) := by decide +kernel
theorem dX9_layBeds_42 : decode cX9_layBeds 42 = .ok (.return_, 1) := by decide +kernel
theorem dX9_opened_0 : decode cX9_opened 0 = .ok (.iload_n 0, 1) := by decide +kernel
theorem dX9_opened_1 : decode cX9_opened 1 = .ok (.istore_n 2, 1) := by decide +kernel
theorem dX9_opened_2 : decode cX9_opened 2 = .ok (.iconst 0, 1) := by decide +kernel
theorem dX9_opened_3 : decode cX9_opened 3 = .ok (.istore_n 3, 1) := by decide +kernel
theorem dX9_opened_4 : decode cX9_opened 4 = .ok (.iload_n 3, 1) := by decide +kernel
theorem dX9_opened_5 : decode cX9_opened 5 = .ok (.iconst 3, 1) := by decide +kernel
theorem dX9_opened_6 : decode cX9_opened 6 = .ok (.if_icmp .ge 49, 3) := by decide +kernel
theorem dX9_opened_9 : decode cX9_opened 9 = .ok (.iload_n 1, 1) := by decide +kernel
theorem dX9_opened_10 : decode cX9_opened 10 = .ok (.iload_n 3, 1) := by decide +kernel
theorem dX9_opened_11 : decode cX9_opened 11 = .ok (.ishr, 1) := by decide +kernel
theorem dX9_opened_12 : decode cX9_opened 12 = .ok (.iconst 1, 1) := by decide +kernel
theorem dX9_opened_13 : decode cX9_opened 13 = .ok (.iand, 1) := by decide +kernel
theorem dX9_opened_14 : decode cX9_opened 14 = .ok (.iconst 1, 1) := by decide +kernel
theorem dX9_opened_15 : decode cX9_opened 15 = .ok (.if_icmp .ne 34, 3) := by decide +kernel
theorem dX9_opened_18 : decode cX9_opened 18 = .ok (.getstatic 185, 3) := by decide +kernel
theorem dX9_opened_21 : decode cX9_opened 21 = .ok (.iload_n 0, 1) := by decide +kernel
theorem dX9_opened_22 : decode cX9_opened 22 = .ok (.iaload, 1) := by decide +kernel
theorem dX9_opened_23 : decode cX9_opened 23 = .ok (.iconst 2, 1) := by decide +kernel
theorem dX9_opened_24 : decode cX9_opened 24 = .ok (.iload_n 3, 1) := by decide +kernel
theorem dX9_opened_25 : decode cX9_opened 25 = .ok (.imul, 1) := by decide +kernel
theorem dX9_opened_26 : decode cX9_opened 26 = .ok (.ishr, 1) := by decide +kernel
theorem dX9_opened_27 : decode cX9_opened 27 = .ok (.iconst 3, 1) := by decide +kernel
theorem dX9_opened_28 : decode cX9_opened 28 = .ok (.iand, 1) := by decide +kernel
theorem dX9_opened_29 : decode cX9_opened 29 = .ok (.istore 4, 2) := by decide +kernel
theorem dX9_opened_31 : decode cX9_opened 31 = .ok (.iload 4, 2) := by decide +kernel
theorem dX9_opened_33 : decode cX9_opened 33 = .ok (.ifCond .ne 5, 3) := by decide +kernel
theorem dX9_opened_36 : decode cX9_opened 36 = .ok (.iconst (-1), 1) := by decide +kernel
theorem dX9_opened_37 : decode cX9_opened 37 = .ok (.ireturn, 1) := by decide +kernel
theorem dX9_opened_38 : decode cX9_opened 38 = .ok (.iload_n 2, 1) := by decide +kernel
theorem dX9_opened_39 : decode cX9_opened 39 = .ok (.iload 4, 2) := by decide +kernel
theorem dX9_opened_41 : decode cX9_opened 41 = .ok (.getstatic 310, 3) := by decide +kernel
theorem dX9_opened_44 : decode cX9_opened 44 = .ok (.iload_n 3, 1) := by decide +kernel
theorem dX9_opened_45 : decode cX9_opened 45 = .ok (.iaload, 1) := by decide +kernel
theorem dX9_opened_46 : decode cX9_opened 46 = .ok (.imul, 1) := by decide +kernel
theorem dX9_opened_47 : decode cX9_opened 47 = .ok (.isub, 1) := by decide +kernel
theorem dX9_opened_48 : decode cX9_opened 48 = .ok (.istore_n 2, 1) := by decide +kernel
theorem dX9_opened_49 : decode cX9_opened 49 = .ok (.iinc 3 1, 3) := by decide +kernel
theorem dX9_opened_52 : decode cX9_opened 52 = .ok (.goto (-48), 3) := by decide +kernel
theorem dX9_opened_55 : decode cX9_opened 55 = .ok (.iload_n 2, 1) := by decide +kernel
theorem dX9_opened_56 : decode cX9_opened 56 = .ok (.ireturn, 1) := by decide +kernel
theorem dX9_isAsHeard_0 : decode cX9_isAsHeard 0 = .ok (.aload_n 0, 1) := by decide +kernel
theorem dX9_isAsHeard_1 : decode cX9_isAsHeard 1 = .ok (.getfield 44, 3) := by decide +kernel
theorem dX9_isAsHeard_4 : decode cX9_isAsHeard 4 = .ok (.iload_n 2, 1) := by decide +kernel
theorem dX9_isAsHeard_5 : decode cX9_isAsHeard 5 = .ok (.invokevirtual 170, 3) := by decide +kernel
theorem dX9_isAsHeard_8 : decode cX9_isAsHeard 8 = .ok (.istore_n 3, 1) := by decide +kernel
theorem dX9_isAsHeard_9 : decode cX9_isAsHeard 9 = .ok (.iconst 0, 1) := by decide +kernel
theorem dX9_isAsHeard_10 : decode cX9_isAsHeard 10 = .ok (.istore 4, 2) := by decide +kernel
theorem dX9_isAsHeard_12 : decode cX9_isAsHeard 12 = .ok (.iload 4, 2) := by decide +kernel
theorem dX9_isAsHeard_14 : decode cX9_isAsHeard 14 = .ok (.aload_n 0, 1) := by decide +kernel
theorem dX9_isAsHeard_15 : decode cX9_isAsHeard 15 = .ok (.getfield 19, 3) := by decide +kernel
theorem dX9_isAsHeard_18 : decode cX9_isAsHeard 18 = .ok (.getfield 252, 3) := by decide +kernel
theorem dX9_isAsHeard_21 : decode cX9_isAsHeard 21 = .ok (.if_icmp .ge 81, 3) := by decide +kernel
theorem dX9_isAsHeard_24 : decode cX9_isAsHeard 24 = .ok (.aload_n 0, 1) := by decide +kernel
theorem dX9_isAsHeard_25 : decode cX9_isAsHeard 25 = .ok (.getfield 19, 3) := by decide +kernel
theorem dX9_isAsHeard_28 : decode cX9_isAsHeard 28 = .ok (.getfield 255, 3) := by decide +kernel
theorem dX9_isAsHeard_31 : decode cX9_isAsHeard 31 = .ok (.iload 4, 2) := by decide +kernel
theorem dX9_isAsHeard_33 : decode cX9_isAsHeard 33 = .ok (.iaload, 1) := by decide +kernel
theorem dX9_isAsHeard_34 : decode cX9_isAsHeard 34 = .ok (.iconst 1, 1) := by decide +kernel
theorem dX9_isAsHeard_35 : decode cX9_isAsHeard 35 = .ok (.ishr, 1) := by decide +kernel
theorem dX9_isAsHeard_36 : decode cX9_isAsHeard 36 = .ok (.istore 5, 2) := by decide +kernel
theorem dX9_isAsHeard_38 : decode cX9_isAsHeard 38 = .ok (.aload_n 0, 1) := by decide +kernel
theorem dX9_isAsHeard_39 : decode cX9_isAsHeard 39 = .ok (.getfield 19, 3) := by decide +kernel
theorem dX9_isAsHeard_42 : decode cX9_isAsHeard 42 = .ok (.getfield 255, 3) := by decide +kernel
theorem dX9_isAsHeard_45 : decode cX9_isAsHeard 45 = .ok (.iload 4, 2) := by decide +kernel
theorem dX9_isAsHeard_47 : decode cX9_isAsHeard 47 = .ok (.iaload, 1) := by decide +kernel
theorem dX9_isAsHeard_48 : decode cX9_isAsHeard 48 = .ok (.iconst 1, 1) := by decide +kernel
theorem dX9_isAsHeard_49 : decode cX9_isAsHeard 49 = .ok (.iand, 1) := by decide +kernel
theorem dX9_isAsHeard_50 : decode cX9_isAsHeard 50 = .ok (.iconst 1, 1) := by decide +kernel
theorem dX9_isAsHeard_51 : decode cX9_isAsHeard 51 = .ok (.if_icmp .ne 7, 3) := by decide +kernel
theorem dX9_isAsHeard_54 : decode cX9_isAsHeard 54 = .ok (.iconst 1, 1) := by decide +kernel
theorem dX9_isAsHeard_55 : decode cX9_isAsHeard 55 = .ok (.goto 4, 3) := by decide +kernel
theorem dX9_isAsHeard_58 : decode cX9_isAsHeard 58 = .ok (.iconst 0, 1) := by decide +kernel
theorem dX9_isAsHeard_59 : decode cX9_isAsHeard 59 = .ok (.istore 6, 2) := by decide +kernel
theorem dX9_isAsHeard_61 : decode cX9_isAsHeard 61 = .ok (.iload 5, 2) := by decide +kernel
theorem dX9_isAsHeard_63 : decode cX9_isAsHeard 63 = .ok (.iconst 4, 1) := by decide +kernel
theorem dX9_isAsHeard_64 : decode cX9_isAsHeard 64 = .ok (.idiv, 1) := by decide +kernel
theorem dX9_isAsHeard_65 : decode cX9_isAsHeard 65 = .ok (.iload_n 1, 1) := by decide +kernel
theorem dX9_isAsHeard_66 : decode cX9_isAsHeard 66 = .ok (.if_icmp .ne 30, 3) := by decide +kernel
theorem dX9_isAsHeard_69 : decode cX9_isAsHeard 69 = .ok (.aload_n 0, 1) := by decide +kernel
theorem dX9_isAsHeard_70 : decode cX9_isAsHeard 70 = .ok (.getfield 44, 3) := by decide +kernel
theorem dX9_isAsHeard_73 : decode cX9_isAsHeard 73 = .ok (.iload 5, 2) := by decide +kernel
theorem dX9_isAsHeard_75 : decode cX9_isAsHeard 75 = .ok (.iconst 4, 1) := by decide +kernel
theorem dX9_isAsHeard_76 : decode cX9_isAsHeard 76 = .ok (.irem, 1) := by decide +kernel
theorem dX9_isAsHeard_77 : decode cX9_isAsHeard 77 = .ok (.iload_n 3, 1) := by decide +kernel
theorem dX9_isAsHeard_78 : decode cX9_isAsHeard 78 = .ok (.invokevirtual 174, 3) := by decide +kernel
theorem dX9_isAsHeard_81 : decode cX9_isAsHeard 81 = .ok (.ifCond .le 7, 3) := by decide +kernel
theorem dX9_isAsHeard_84 : decode cX9_isAsHeard 84 = .ok (.iconst 1, 1) := by decide +kernel
theorem dX9_isAsHeard_85 : decode cX9_isAsHeard 85 = .ok (.goto 4, 3) := by decide +kernel
theorem dX9_isAsHeard_88 : decode cX9_isAsHeard 88 = .ok (.iconst 0, 1) := by decide +kernel
theorem dX9_isAsHeard_89 : decode cX9_isAsHeard 89 = .ok (.iload 6, 2) := by decide +kernel
theorem dX9_isAsHeard_91 : decode cX9_isAsHeard 91 = .ok (.if_icmp .eq 5, 3) := by decide +kernel
theorem dX9_isAsHeard_94 : decode cX9_isAsHeard 94 = .ok (.iconst 0, 1) := by decide +kernel
theorem dX9_isAsHeard_95 : decode cX9_isAsHeard 95 = .ok (.ireturn, 1) := by decide +kernel
theorem dX9_isAsHeard_96 : decode cX9_isAsHeard 96 = .ok (.iinc 4 1, 3) := by decide +kernel
theorem dX9_isAsHeard_99 : decode cX9_isAsHeard 99 = .ok (.goto (-87), 3) := by decide +kernel
theorem dX9_isAsHeard_102 : decode cX9_isAsHeard 102 = .ok (.iconst 1, 1) := by decide +kernel
theorem dX9_isAsHeard_103 : decode cX9_isAsHeard 103 = .ok (.ireturn, 1) := by decide +kernel
theorem dX10_init_0 : decode cX10_init 0 = .ok (.aload_n 0, 1) := by decide +kernel
theorem dX10_init_1 : decode cX10_init 1 = .ok (.invokespecial 1, 3) := by decide +kernel
theorem dX10_init_4 : decode cX10_init 4 = .ok (.aload_n 0, 1) := by decide +kernel
theorem dX10_init_5 : decode cX10_init 5 = .ok (.sipush 162, 3) := by decide +kernel
theorem dX10_init_8 : decode cX10_init 8 = .ok (.newarray .int, 2) := by decide +kernel
theorem dX10_init_10 : decode cX10_init 10 = .ok (.putfield 7, 3) := by decide +kernel
theorem dX10_init_13 : decode cX10_init 13 = .ok (.aload_n 0, 1) := by decide +kernel
theorem dX10_init_14 : decode cX10_init 14 = .ok (.iconst 2, 1) := by decide +kernel
theorem dX10_init_15 : decode cX10_init 15 = .ok (.newarray .boolean, 2) := by decide +kernel
theorem dX10_init_17 : decode cX10_init 17 = .ok (.putfield 13, 3) := by decide +kernel
theorem dX10_init_20 : decode cX10_init 20 = .ok (.aload_n 0, 1) := by decide +kernel
theorem dX10_init_21 : decode cX10_init 21 = .ok (.iconst 3, 1) := by decide +kernel
theorem dX10_init_22 : decode cX10_init 22 = .ok (.newarray .int, 2) := by decide +kernel
theorem dX10_init_24 : decode cX10_init 24 = .ok (.putfield 17, 3) := by decide +kernel
theorem dX10_init_27 : decode cX10_init 27 = .ok (.aload_n 0, 1) := by decide +kernel
theorem dX10_init_28 : decode cX10_init 28 = .ok (.bipush 6, 2) := by decide +kernel
theorem dX10_init_30 : decode cX10_init 30 = .ok (.newarray .int, 2) := by decide +kernel
theorem dX10_init_32 : decode cX10_init 32 = .ok (.putfield 20, 3) := by decide +kernel
theorem dX10_init_35 : decode cX10_init 35 = .ok (.aload_n 0, 1) := by decide +kernel
theorem dX10_init_36 : decode cX10_init 36 = .ok (.bipush 54, 2) := by decide +kernel
theorem dX10_init_38 : decode cX10_init 38 = .ok (.newarray .int, 2) := by decide +kernel
theorem dX10_init_40 : decode cX10_init 40 = .ok (.putfield 23, 3) := by decide +kernel
theorem dX10_init_43 : decode cX10_init 43 = .ok (.aload_n 0, 1) := by decide +kernel
theorem dX10_init_44 : decode cX10_init 44 = .ok (.iconst 3, 1) := by decide +kernel
theorem dX10_init_45 : decode cX10_init 45 = .ok (.newarray .int, 2) := by decide +kernel
theorem dX10_init_47 : decode cX10_init 47 = .ok (.putfield 26, 3) := by decide +kernel
theorem dX10_init_50 : decode cX10_init 50 = .ok (.aload_n 0, 1) := by decide +kernel
theorem dX10_init_51 : decode cX10_init 51 = .ok (.bipush 6, 2) := by decide +kernel
theorem dX10_init_53 : decode cX10_init 53 = .ok (.newarray .int, 2) := by decide +kernel
theorem dX10_init_55 : decode cX10_init 55 = .ok (.putfield 29, 3) := by decide +kernel
theorem dX10_init_58 : decode cX10_init 58 = .ok (.aload_n 0, 1) := by decide +kernel
theorem dX10_init_59 : decode cX10_init 59 = .ok (.sipush 320, 3) := by decide +kernel
theorem dX10_init_62 : decode cX10_init 62 = .ok (.newarray .int, 2) := by decide +kernel
theorem dX10_init_64 : decode cX10_init 64 = .ok (.putfield 32, 3) := by decide +kernel
theorem dX10_init_67 : decode cX10_init 67 = .ok (.aload_n 0, 1) := by decide +kernel
theorem dX10_init_68 : decode cX10_init 68 = .ok (.bipush 6, 2) := by decide +kernel
theorem dX10_init_70 : decode cX10_init 70 = .ok (.newarray .int, 2) := by decide +kernel
theorem dX10_init_72 : decode cX10_init 72 = .ok (.putfield 35, 3) := by decide +kernel
theorem dX10_init_75 : decode cX10_init 75 = .ok (.aload_n 0, 1) := by decide +kernel
theorem dX10_init_76 : decode cX10_init 76 = .ok (.bipush 6, 2) := by decide +kernel
theorem dX10_init_78 : decode cX10_init 78 = .ok (.newarray .int, 2) := by decide +kernel
theorem dX10_init_80 : decode cX10_init 80 = .ok (.putfield 38, 3) := by decide +kernel
theorem dX10_init_83 : decode cX10_init 83 = .ok (.aload_n 0, 1) := by decide +kernel
theorem dX10_init_84 : decode cX10_init 84 = .ok (.sipush 162, 3) := by decide +kernel
theorem dX10_init_87 : decode cX10_init 87 = .ok (.newarray .boolean, 2) := by decide +kernel
theorem dX10_init_89 : decode cX10_init 89 = .ok (.putfield 41, 3) := by decide +kernel
theorem dX10_init_92 : decode cX10_init 92 = .ok (.aload_n 0, 1) := by decide +kernel
theorem dX10_init_93 : decode cX10_init 93 = .ok (.sipush 28672, 3) := by decide +kernel
theorem dX10_init_96 : decode cX10_init 96 = .ok (.newarray .boolean, 2) := by decide +kernel
theorem dX10_init_98 : decode cX10_init 98 = .ok (.putfield 44, 3) := by decide +kernel
theorem dX10_init_101 : decode cX10_init 101 = .ok (.aload_n 0, 1) := by decide +kernel
theorem dX10_init_102 : decode cX10_init 102 = .ok (.iconst 3, 1) := by decide +kernel
theorem dX10_init_103 : decode cX10_init 103 = .ok (.newarray .int, 2) := by decide +kernel
theorem dX10_init_105 : decode cX10_init 105 = .ok (.putfield 47, 3) := by decide +kernel
theorem dX10_init_108 : decode cX10_init 108 = .ok (.aload_n 0, 1) := by decide +kernel
theorem dX10_init_109 : decode cX10_init 109 = .ok (.iconst 4, 1) := by decide +kernel
theorem dX10_init_110 : decode cX10_init 110 = .ok (.newarray .int, 2) := by decide +kernel
theorem dX10_init_112 : decode cX10_init 112 = .ok (.putfield 50, 3) := by decide +kernel
theorem dX10_init_115 : decode cX10_init 115 = .ok (.aload_n 0, 1) := by decide +kernel
theorem dX10_init_116 : decode cX10_init 116 = .ok (.iconst 4, 1) := by decide +kernel
theorem dX10_init_117 : decode cX10_init 117 = .ok (.newarray .int, 2) := by decide +kernel
theorem dX10_init_119 : decode cX10_init 119 = .ok (.putfield 53, 3) := by decide +kernel
theorem dX10_init_122 : decode cX10_init 122 = .ok (.aload_n 0, 1) := by decide +kernel
theorem dX10_init_123 : decode cX10_init 123 = .ok (.sipush 160, 3) := by decide +kernel
theorem dX10_init_126 : decode cX10_init 126 = .ok (.newarray .int, 2) := by decide +kernel
theorem dX10_init_128 : decode cX10_init 128 = .ok (.putfield 56, 3) := by decide +kernel
theorem dX10_init_131 : decode cX10_init 131 = .ok (.aload_n 0, 1) := by decide +kernel
theorem dX10_init_132 : decode cX10_init 132 = .ok (.bipush 8, 2) := by decide +kernel
theorem dX10_init_134 : decode cX10_init 134 = .ok (.newarray .int, 2) := by decide +kernel
theorem dX10_init_136 : decode cX10_init 136 = .ok (.putfield 59, 3) := by decide +kernel
theorem dX10_init_139 : decode cX10_init 139 = .ok (.iconst 0, 1) := by decide +kernel
theorem dX10_init_140 : decode cX10_init 140 = .ok (.istore_n 1, 1) := by decide +kernel
theorem dX10_init_141 : decode cX10_init 141 = .ok (.iload_n 1, 1) := by decide +kernel
theorem dX10_init_142 : decode cX10_init 142 = .ok (.iconst 4, 1) := by decide +kernel
theorem dX10_init_143 : decode cX10_init 143 = .ok (.if_icmp .ge 17, 3) := by decide +kernel
theorem dX10_init_146 : decode cX10_init 146 = .ok (.aload_n 0, 1) := by decide +kernel
theorem dX10_init_147 : decode cX10_init 147 = .ok (.getfield 50, 3) := by decide +kernel
theorem dX10_init_150 : decode cX10_init 150 = .ok (.iload_n 1, 1) := by decide +kernel
theorem dX10_init_151 : decode cX10_init 151 = .ok (.bipush (-4), 2) := by decide +kernel
theorem dX10_init_153 : decode cX10_init 153 = .ok (.iastore, 1) := by decide +kernel
theorem dX10_init_154 : decode cX10_init 154 = .ok (.iinc 1 1, 3) := by decide +kernel
theorem dX10_init_157 : decode cX10_init 157 = .ok (.goto (-16), 3) := by decide +kernel
theorem dX10_init_160 : decode cX10_init 160 = .ok (.aload_n 0, 1) := by decide +kernel
theorem dX10_init_161 : decode cX10_init 161 = .ok (.invokevirtual 62, 3) := by decide +kernel
theorem dX10_init_164 : decode cX10_init 164 = .ok (.aload_n 0, 1) := by decide +kernel
theorem dX10_init_165 : decode cX10_init 165 = .ok (.invokevirtual 65, 3) := by decide +kernel
theorem dX10_init_168 : decode cX10_init 168 = .ok (.return_, 1) := by decide +kernel
theorem dX10_in_0 : decode cX10_in 0 = .ok (.lload_n 0, 1) := by decide +kernel
theorem dX10_in_1 : decode cX10_in 1 = .ok (.lload_n 2, 1) := by decide +kernel
theorem dX10_in_2 : decode cX10_in 2 = .ok (.lcmp, 1) := by decide +kernel
theorem dX10_in_3 : decode cX10_in 3 = .ok (.ifCond .lt 14, 3) := by decide +kernel
theorem dX10_in_6 : decode cX10_in 6 = .ok (.lload_n 0, 1) := by decide +kernel
theorem dX10_in_7 : decode cX10_in 7 = .ok (.lload 4, 2) := by decide +kernel
theorem dX10_in_9 : decode cX10_in 9 = .ok (.lcmp, 1) := by decide +kernel
theorem dX10_in_10 : decode cX10_in 10 = .ok (.ifCond .gt 7, 3) := by decide +kernel
theorem dX10_in_13 : decode cX10_in 13 = .ok (.iconst 1, 1) := by decide +kernel
theorem dX10_in_14 : decode cX10_in 14 = .ok (.goto 4, 3) := by decide +kernel
theorem dX10_in_17 : decode cX10_in 17 = .ok (.iconst 0, 1) := by decide +kernel
theorem dX10_in_18 : decode cX10_in 18 = .ok (.ireturn, 1) := by decide +kernel
theorem dX10_flag_0 : decode cX10_flag 0 = .ok (.iload_n 0, 1) := by decide +kernel
theorem dX10_flag_1 : decode cX10_flag 1 = .ok (.ifCond .eq 7, 3) := by decide +kernel
theorem dX10_flag_4 : decode cX10_flag 4 = .ok (.iconst 1, 1) := by decide +kernel
theorem dX10_flag_5 : decode cX10_flag 5 = .ok (.goto 4, 3) := by decide +kernel
theorem dX10_flag_8 : decode cX10_flag 8 = .ok (.iconst 0, 1) := by decide +kernel
theorem dX10_flag_9 : decode cX10_flag 9 = .ok (.ireturn, 1) := by decide +kernel
theorem dX10_firstDraft_0 : decode cX10_firstDraft 0 = .ok (.iconst 0, 1) := by decide +kernel
theorem dX10_firstDraft_1 : decode cX10_firstDraft 1 = .ok (.istore_n 1, 1) := by decide +kernel
theorem dX10_firstDraft_2 : decode cX10_firstDraft 2 = .ok (.iload_n 1, 1) := by decide +kernel
theorem dX10_firstDraft_3 : decode cX10_firstDraft 3 = .ok (.bipush 54, 2) := by decide +kernel
theorem dX10_firstDraft_5 : decode cX10_firstDraft 5 = .ok (.if_icmp .ge 16, 3) := by decide +kernel
theorem dX10_firstDraft_8 : decode cX10_firstDraft 8 = .ok (.aload_n 0, 1) := by decide +kernel
theorem dX10_firstDraft_9 : decode cX10_firstDraft 9 = .ok (.getfield 23, 3) := by decide +kernel
theorem dX10_firstDraft_12 : decode cX10_firstDraft 12 = .ok (.iload_n 1, 1) := by decide +kernel
theorem dX10_firstDraft_13 : decode cX10_firstDraft 13 = .ok (.iconst 0, 1) := by decide +kernel
theorem dX10_firstDraft_14 : decode cX10_firstDraft 14 = .ok (.iastore, 1) := by decide +kernel
theorem dX10_firstDraft_15 : decode cX10_firstDraft 15 = .ok (.iinc 1 1, 3) := by decide +kernel
theorem dX10_firstDraft_18 : decode cX10_firstDraft 18 = .ok (.goto (-16), 3) := by decide +kernel
theorem dX10_firstDraft_21 : decode cX10_firstDraft 21 = .ok (.aload_n 0, 1) := by decide +kernel
theorem dX10_firstDraft_22 : decode cX10_firstDraft 22 = .ok (.iconst 0, 1) := by decide +kernel
theorem dX10_firstDraft_23 : decode cX10_firstDraft 23 = .ok (.putfield 68, 3) := by decide +kernel
theorem dX10_firstDraft_26 : decode cX10_firstDraft 26 = .ok (.aload_n 0, 1) := by decide +kernel
theorem dX10_firstDraft_27 : decode cX10_firstDraft 27 = .ok (.iconst 4, 1) := by decide +kernel
theorem dX10_firstDraft_28 : decode cX10_firstDraft 28 = .ok (.putfield 72, 3) := by decide +kernel
theorem dX10_firstDraft_31 : decode cX10_firstDraft 31 = .ok (.aload_n 0, 1) := by decide +kernel
theorem dX10_firstDraft_32 : decode cX10_firstDraft 32 = .ok (.iconst 0, 1) := by decide +kernel
theorem dX10_firstDraft_33 : decode cX10_firstDraft 33 = .ok (.putfield 75, 3) := by decide +kernel
theorem dX10_firstDraft_36 : decode cX10_firstDraft 36 = .ok (.aload_n 0, 1) := by decide +kernel
theorem dX10_firstDraft_37 : decode cX10_firstDraft 37 = .ok (.iconst 0, 1) := by decide +kernel
theorem dX10_firstDraft_38 : decode cX10_firstDraft 38 = .ok (.putfield 79, 3) := by decide +kernel
theorem dX10_firstDraft_41 : decode cX10_firstDraft 41 = .ok (.aload_n 0, 1) := by decide +kernel
theorem dX10_firstDraft_42 : decode cX10_firstDraft 42 = .ok (.iconst 0, 1) := by decide +kernel
theorem dX10_firstDraft_43 : decode cX10_firstDraft 43 = .ok (.putfield 82, 3) := by decide +kernel
theorem dX10_firstDraft_46 : decode cX10_firstDraft 46 = .ok (.aload_n 0, 1) := by decide +kernel
theorem dX10_firstDraft_47 : decode cX10_firstDraft 47 = .ok (.iconst 0, 1) := by decide +kernel
theorem dX10_firstDraft_48 : decode cX10_firstDraft 48 = .ok (.putfield 85, 3) := by decide +kernel
theorem dX10_firstDraft_51 : decode cX10_firstDraft 51 = .ok (.aload_n 0, 1) := by decide +kernel
theorem dX10_firstDraft_52 : decode cX10_firstDraft 52 = .ok (.bipush (-4), 2) := by decide +kernel
theorem dX10_firstDraft_54 : decode cX10_firstDraft 54 = .ok (.putfield 88, 3) := by decide +kernel
theorem dX10_firstDraft_57 : decode cX10_firstDraft 57 = .ok (.aload_n 0, 1) := by decide +kernel
theorem dX10_firstDraft_58 : decode cX10_firstDraft 58 = .ok (.bipush (-4), 2) := by decide +kernel
theorem dX10_firstDraft_60 : decode cX10_firstDraft 60 = .ok (.putfield 91, 3) := by decide +kernel
theorem dX10_firstDraft_63 : decode cX10_firstDraft 63 = .ok (.return_, 1) := by decide +kernel
theorem dX10_power_0 : decode cX10_power 0 = .ok (.iconst 1, 1) := by decide +kernel
theorem dX10_power_1 : decode cX10_power 1 = .ok (.istore_n 2, 1) := by decide +kernel
theorem dX10_power_2 : decode cX10_power 2 = .ok (.iconst 0, 1) := by decide +kernel
theorem dX10_power_3 : decode cX10_power 3 = .ok (.istore_n 3, 1) := by decide +kernel
theorem dX10_power_4 : decode cX10_power 4 = .ok (.iload_n 3, 1) := by decide +kernel
theorem dX10_power_5 : decode cX10_power 5 = .ok (.iload_n 1, 1) := by decide +kernel
theorem dX10_power_6 : decode cX10_power 6 = .ok (.if_icmp .ge 13, 3) := by decide +kernel
theorem dX10_power_9 : decode cX10_power 9 = .ok (.iload_n 2, 1) := by decide +kernel
theorem dX10_power_10 : decode cX10_power 10 = .ok (.iload_n 0, 1) := by decide +kernel
theorem dX10_power_11 : decode cX10_power 11 = .ok (.imul, 1) := by decide +kernel
theorem dX10_power_12 : decode cX10_power 12 = .ok (.istore_n 2, 1) := by decide +kernel
theorem dX10_power_13 : decode cX10_power 13 = .ok (.iinc 3 1, 3) := by decide +kernel
theorem dX10_power_16 : decode cX10_power 16 = .ok (.goto (-12), 3) := by decide +kernel
theorem dX10_power_19 : decode cX10_power 19 = .ok (.iload_n 2, 1) := by decide +kernel
theorem dX10_power_20 : decode cX10_power 20 = .ok (.ireturn, 1) := by decide +kernel
theorem dX10_keepDraft_0 : decode cX10_keepDraft 0 = .ok (.iconst 0, 1) := by decide +kernel
theorem dX10_keepDraft_1 : decode cX10_keepDraft 1 = .ok (.istore_n 1, 1) := by decide +kernel
theorem dX10_keepDraft_2 : decode cX10_keepDraft 2 = .ok (.iload_n 1, 1) := by decide +kernel
theorem dX10_keepDraft_3 : decode cX10_keepDraft 3 = .ok (.bipush 54, 2) := by decide +kernel
theorem dX10_keepDraft_5 : decode cX10_keepDraft 5 = .ok (.if_icmp .ge 21, 3) := by decide +kernel
theorem dX10_keepDraft_8 : decode cX10_keepDraft 8 = .ok (.aload_n 0, 1) := by decide +kernel
theorem dX10_keepDraft_9 : decode cX10_keepDraft 9 = .ok (.getfield 7, 3) := by decide +kernel
theorem dX10_keepDraft_12 : decode cX10_keepDraft 12 = .ok (.iload_n 1, 1) := by decide +kernel
theorem dX10_keepDraft_13 : decode cX10_keepDraft 13 = .ok (.aload_n 0, 1) := by decide +kernel
theorem dX10_keepDraft_14 : decode cX10_keepDraft 14 = .ok (.getfield 23, 3) := by decide +kernel
theorem dX10_keepDraft_17 : decode cX10_keepDraft 17 = .ok (.iload_n 1, 1) := by decide +kernel
theorem dX10_keepDraft_18 : decode cX10_keepDraft 18 = .ok (.iaload, 1) := by decide +kernel
theorem dX10_keepDraft_19 : decode cX10_keepDraft 19 = .ok (.iastore, 1) := by decide +kernel
theorem dX10_keepDraft_20 : decode cX10_keepDraft 20 = .ok (.iinc 1 1, 3) := by decide +kernel
theorem dX10_keepDraft_23 : decode cX10_keepDraft 23 = .ok (.goto (-21), 3) := by decide +kernel
theorem dX10_keepDraft_26 : decode cX10_keepDraft 26 = .ok (.aload_n 0, 1) := by decide +kernel
theorem dX10_keepDraft_27 : decode cX10_keepDraft 27 = .ok (.aload_n 0, 1) := by decide +kernel
theorem dX10_keepDraft_28 : decode cX10_keepDraft 28 = .ok (.getfield 68, 3) := by decide +kernel
theorem dX10_keepDraft_31 : decode cX10_keepDraft 31 = .ok (.putfield 94, 3) := by decide +kernel
theorem dX10_keepDraft_34 : decode cX10_keepDraft 34 = .ok (.aload_n 0, 1) := by decide +kernel
theorem dX10_keepDraft_35 : decode cX10_keepDraft 35 = .ok (.aload_n 0, 1) := by decide +kernel
theorem dX10_keepDraft_36 : decode cX10_keepDraft 36 = .ok (.getfield 72, 3) := by decide +kernel
theorem dX10_keepDraft_39 : decode cX10_keepDraft 39 = .ok (.putfield 97, 3) := by decide +kernel
theorem dX10_keepDraft_42 : decode cX10_keepDraft 42 = .ok (.aload_n 0, 1) := by decide +kernel
theorem dX10_keepDraft_43 : decode cX10_keepDraft 43 = .ok (.iconst 3, 1) := by decide +kernel
theorem dX10_keepDraft_44 : decode cX10_keepDraft 44 = .ok (.aload_n 0, 1) := by decide +kernel
theorem dX10_keepDraft_45 : decode cX10_keepDraft 45 = .ok (.getfield 94, 3) := by decide +kernel
theorem dX10_keepDraft_48 : decode cX10_keepDraft 48 = .ok (.invokestatic 100, 3) := by decide +kernel
theorem dX10_keepDraft_51 : decode cX10_keepDraft 51 = .ok (.putfield 104, 3) := by decide +kernel
theorem dX10_keepDraft_54 : decode cX10_keepDraft 54 = .ok (.iconst 0, 1) := by decide +kernel
theorem dX10_keepDraft_55 : decode cX10_keepDraft 55 = .ok (.istore_n 1, 1) := by decide +kernel
theorem dX10_keepDraft_56 : decode cX10_keepDraft 56 = .ok (.iload_n 1, 1) := by decide +kernel
theorem dX10_keepDraft_57 : decode cX10_keepDraft 57 = .ok (.aload_n 0, 1) := by decide +kernel
theorem dX10_keepDraft_58 : decode cX10_keepDraft 58 = .ok (.getfield 94, 3) := by decide +kernel
theorem dX10_keepDraft_61 : decode cX10_keepDraft 61 = .ok (.if_icmp .ge 114, 3) := by decide +kernel
theorem dX10_keepDraft_64 : decode cX10_keepDraft 64 = .ok (.aload_n 0, 1) := by decide +kernel
theorem dX10_keepDraft_65 : decode cX10_keepDraft 65 = .ok (.getfield 17, 3) := by decide +kernel
theorem dX10_keepDraft_68 : decode cX10_keepDraft 68 = .ok (.iload_n 1, 1) := by decide +kernel
theorem dX10_keepDraft_69 : decode cX10_keepDraft 69 = .ok (.aload_n 0, 1) := by decide +kernel
theorem dX10_keepDraft_70 : decode cX10_keepDraft 70 = .ok (.getfield 26, 3) := by decide +kernel
theorem dX10_keepDraft_73 : decode cX10_keepDraft 73 = .ok (.iload_n 1, 1) := by decide +kernel
theorem dX10_keepDraft_74 : decode cX10_keepDraft 74 = .ok (.iaload, 1) := by decide +kernel
theorem dX10_keepDraft_75 : decode cX10_keepDraft 75 = .ok (.iastore, 1) := by decide +kernel
theorem dX10_keepDraft_76 : decode cX10_keepDraft 76 = .ok (.iconst 0, 1) := by decide +kernel
theorem dX10_keepDraft_77 : decode cX10_keepDraft 77 = .ok (.istore_n 2, 1) := by decide +kernel
theorem dX10_keepDraft_78 : decode cX10_keepDraft 78 = .ok (.iload_n 2, 1) := by decide +kernel
theorem dX10_keepDraft_79 : decode cX10_keepDraft 79 = .ok (.iconst 2, 1) := by decide +kernel
theorem dX10_keepDraft_80 : decode cX10_keepDraft 80 = .ok (.if_icmp .ge 89, 3) := by decide +kernel
theorem dX10_keepDraft_83 : decode cX10_keepDraft 83 = .ok (.iload_n 2, 1) := by decide +kernel
theorem dX10_keepDraft_84 : decode cX10_keepDraft 84 = .ok (.ifCond .ne 17, 3) := by decide +kernel
theorem dX10_keepDraft_87 : decode cX10_keepDraft 87 = .ok (.aload_n 0, 1) := by decide +kernel
theorem dX10_keepDraft_88 : decode cX10_keepDraft 88 = .ok (.getfield 17, 3) := by decide +kernel
theorem dX10_keepDraft_91 : decode cX10_keepDraft 91 = .ok (.iload_n 1, 1) := by decide +kernel
theorem dX10_keepDraft_92 : decode cX10_keepDraft 92 = .ok (.iaload, 1) := by decide +kernel
theorem dX10_keepDraft_93 : decode cX10_keepDraft 93 = .ok (.iconst 1, 1) := by decide +kernel
theorem dX10_keepDraft_94 : decode cX10_keepDraft 94 = .ok (.if_icmp .ne 7, 3) := by decide +kernel
theorem dX10_keepDraft_97 : decode cX10_keepDraft 97 = .ok (.iconst 1, 1) := by decide +kernel
theorem dX10_keepDraft_98 : decode cX10_keepDraft 98 = .ok (.goto 4, 3) := by decide +kernel
theorem dX10_keepDraft_101 : decode cX10_keepDraft 101 = .ok (.iconst 0, 1) := by decide +kernel
theorem dX10_keepDraft_102 : decode cX10_keepDraft 102 = .ok (.istore_n 3, 1) := by decide +kernel
theorem dX10_keepDraft_103 : decode cX10_keepDraft 103 = .ok (.aload_n 0, 1) := by decide +kernel
theorem dX10_keepDraft_104 : decode cX10_keepDraft 104 = .ok (.getfield 20, 3) := by decide +kernel
theorem dX10_keepDraft_107 : decode cX10_keepDraft 107 = .ok (.iconst 2, 1) := by decide +kernel
theorem dX10_keepDraft_108 : decode cX10_keepDraft 108 = .ok (.iload_n 1, 1) := by decide +kernel
theorem dX10_keepDraft_109 : decode cX10_keepDraft 109 = .ok (.imul, 1) := by decide +kernel
theorem dX10_keepDraft_110 : decode cX10_keepDraft 110 = .ok (.iload_n 2, 1) := by decide +kernel
theorem dX10_keepDraft_111 : decode cX10_keepDraft 111 = .ok (.iadd, 1) := by decide +kernel
theorem dX10_keepDraft_112 : decode cX10_keepDraft 112 = .ok (.iload_n 3, 1) := by decide +kernel
theorem dX10_keepDraft_113 : decode cX10_keepDraft 113 = .ok (.ifCond .eq 7, 3) := by decide +kernel
theorem dX10_keepDraft_116 : decode cX10_keepDraft 116 = .ok (.iconst 0, 1) := by decide +kernel
theorem dX10_keepDraft_117 : decode cX10_keepDraft 117 = .ok (.goto 13, 3) := by decide +kernel
theorem dX10_keepDraft_120 : decode cX10_keepDraft 120 = .ok (.aload_n 0, 1) := by decide +kernel
theorem dX10_keepDraft_121 : decode cX10_keepDraft 121 = .ok (.getfield 29, 3) := by decide +kernel
theorem dX10_keepDraft_124 : decode cX10_keepDraft 124 = .ok (.iconst 2, 1) := by decide +kernel
theorem dX10_keepDraft_125 : decode cX10_keepDraft 125 = .ok (.iload_n 1, 1) := by decide +kernel
theorem dX10_keepDraft_126 : decode cX10_keepDraft 126 = .ok (.imul, 1) := by decide +kernel
theorem dX10_keepDraft_127 : decode cX10_keepDraft 127 = .ok (.iload_n 2, 1) := by decide +kernel
theorem dX10_keepDraft_128 : decode cX10_keepDraft 128 = .ok (.iadd, 1) := by decide +kernel
theorem dX10_keepDraft_129 : decode cX10_keepDraft 129 = .ok (.iaload, 1) := by decide +kernel
theorem dX10_keepDraft_130 : decode cX10_keepDraft 130 = .ok (.iastore, 1) := by decide +kernel
theorem dX10_keepDraft_131 : decode cX10_keepDraft 131 = .ok (.aload_n 0, 1) := by decide +kernel
theorem dX10_keepDraft_132 : decode cX10_keepDraft 132 = .ok (.getfield 7, 3) := by decide +kernel
theorem dX10_keepDraft_135 : decode cX10_keepDraft 135 = .ok (.iconst 3, 1) := by decide +kernel
theorem dX10_keepDraft_136 : decode cX10_keepDraft 136 = .ok (.iconst 2, 1) := by decide +kernel
theorem dX10_keepDraft_137 : decode cX10_keepDraft 137 = .ok (.iload_n 1, 1) := by decide +kernel
theorem dX10_keepDraft_138 : decode cX10_keepDraft 138 = .ok (.imul, 1) := by decide +kernel
theorem dX10_keepDraft_139 : decode cX10_keepDraft 139 = .ok (.iadd, 1) := by decide +kernel
theorem dX10_keepDraft_140 : decode cX10_keepDraft 140 = .ok (.iload_n 2, 1) := by decide +kernel
theorem dX10_keepDraft_141 : decode cX10_keepDraft 141 = .ok (.iadd, 1) := by decide +kernel
theorem dX10_keepDraft_142 : decode cX10_keepDraft 142 = .ok (.iload_n 3, 1) := by decide +kernel
theorem dX10_keepDraft_143 : decode cX10_keepDraft 143 = .ok (.ifCond .eq 7, 3) := by decide +kernel
theorem dX10_keepDraft_146 : decode cX10_keepDraft 146 = .ok (.iconst 0, 1) := by decide +kernel
theorem dX10_keepDraft_147 : decode cX10_keepDraft 147 = .ok (.goto 15, 3) := by decide +kernel
theorem dX10_keepDraft_150 : decode cX10_keepDraft 150 = .ok (.aload_n 0, 1) := by decide +kernel
theorem dX10_keepDraft_151 : decode cX10_keepDraft 151 = .ok (.getfield 7, 3) := by decide +kernel
theorem dX10_keepDraft_154 : decode cX10_keepDraft 154 = .ok (.iconst 3, 1) := by decide +kernel
theorem dX10_keepDraft_155 : decode cX10_keepDraft 155 = .ok (.iconst 2, 1) := by decide +kernel
theorem dX10_keepDraft_156 : decode cX10_keepDraft 156 = .ok (.iload_n 1, 1) := by decide +kernel
theorem dX10_keepDraft_157 : decode cX10_keepDraft 157 = .ok (.imul, 1) := by decide +kernel
theorem dX10_keepDraft_158 : decode cX10_keepDraft 158 = .ok (.iadd, 1) := by decide +kernel
theorem dX10_keepDraft_159 : decode cX10_keepDraft 159 = .ok (.iload_n 2, 1) := by decide +kernel
theorem dX10_keepDraft_160 : decode cX10_keepDraft 160 = .ok (.iadd, 1) := by decide +kernel
theorem dX10_keepDraft_161 : decode cX10_keepDraft 161 = .ok (.iaload, 1) := by decide +kernel
theorem dX10_keepDraft_162 : decode cX10_keepDraft 162 = .ok (.iastore, 1) := by decide +kernel
theorem dX10_keepDraft_163 : decode cX10_keepDraft 163 = .ok (.iinc 2 1, 3) := by decide +kernel
theorem dX10_keepDraft_166 : decode cX10_keepDraft 166 = .ok (.goto (-88), 3) := by decide +kernel
theorem dX10_keepDraft_169 : decode cX10_keepDraft 169 = .ok (.iinc 1 1, 3) := by decide +kernel
theorem dX10_keepDraft_172 : decode cX10_keepDraft 172 = .ok (.goto (-116), 3) := by decide +kernel
theorem dX10_keepDraft_175 : decode cX10_keepDraft 175 = .ok (.aload_n 0, 1) := by decide +kernel
theorem dX10_keepDraft_176 : decode cX10_keepDraft 176 = .ok (.getfield 13, 3) := by decide +kernel
theorem dX10_keepDraft_179 : decode cX10_keepDraft 179 = .ok (.iconst 0, 1) := by decide +kernel
theorem dX10_keepDraft_180 : decode cX10_keepDraft 180 = .ok (.iconst 0, 1) := by decide +kernel
theorem dX10_keepDraft_181 : decode cX10_keepDraft 181 = .ok (.bastore, 1) := by decide +kernel
theorem dX10_keepDraft_182 : decode cX10_keepDraft 182 = .ok (.aload_n 0, 1) := by decide +kernel
theorem dX10_keepDraft_183 : decode cX10_keepDraft 183 = .ok (.getfield 13, 3) := by decide +kernel
theorem dX10_keepDraft_186 : decode cX10_keepDraft 186 = .ok (.iconst 1, 1) := by decide +kernel
theorem dX10_keepDraft_187 : decode cX10_keepDraft 187 = .ok (.iconst 0, 1) := by decide +kernel
theorem dX10_keepDraft_188 : decode cX10_keepDraft 188 = .ok (.bastore, 1) := by decide +kernel
theorem dX10_keepDraft_189 : decode cX10_keepDraft 189 = .ok (.return_, 1) := by decide +kernel
theorem dX10_feed_0 : decode cX10_feed 0 = .ok (.aload_n 0, 1) := by decide +kernel
theorem dX10_feed_1 : decode cX10_feed 1 = .ok (.getfield 107, 3) := by decide +kernel
theorem dX10_feed_4 : decode cX10_feed 4 = .ok (.bipush 8, 2) := by decide +kernel
theorem dX10_feed_6 : decode cX10_feed 6 = .ok (.iadd, 1) := by decide +kernel
theorem dX10_feed_7 : decode cX10_feed 7 = .ok (.sipush 320, 3) := by decide +kernel
theorem dX10_feed_10 : decode cX10_feed 10 = .ok (.if_icmp .le 6, 3) := by decide +kernel
theorem dX10_feed_13 : decode cX10_feed 13 = .ok (.bipush (-3), 2) := by decide +kernel
theorem dX10_feed_15 : decode cX10_feed 15 = .ok (.ireturn, 1) := by decide +kernel
theorem dX10_feed_16 : decode cX10_feed 16 = .ok (.bipush 56, 2) := by decide +kernel
theorem dX10_feed_18 : decode cX10_feed 18 = .ok (.istore_n 3, 1) := by decide +kernel
theorem dX10_feed_19 : decode cX10_feed 19 = .ok (.iload_n 3, 1) := by decide +kernel
theorem dX10_feed_20 : decode cX10_feed 20 = .ok (.ifCond .lt 36, 3) := by decide +kernel
theorem dX10_feed_23 : decode cX10_feed 23 = .ok (.aload_n 0, 1) := by decide +kernel
theorem dX10_feed_24 : decode cX10_feed 24 = .ok (.getfield 32, 3) := by decide +kernel
theorem dX10_feed_27 : decode cX10_feed 27 = .ok (.aload_n 0, 1) := by decide +kernel
theorem dX10_feed_28 : decode cX10_feed 28 = .ok (.getfield 107, 3) := by decide +kernel
theorem dX10_feed_31 : decode cX10_feed 31 = .ok (.lload_n 1, 1) := by decide +kernel
theorem dX10_feed_32 : decode cX10_feed 32 = .ok (.iload_n 3, 1) := by decide +kernel
theorem dX10_feed_33 : decode cX10_feed 33 = .ok (.lshr, 1) := by decide +kernel
theorem dX10_feed_34 : decode cX10_feed 34 = .ok (.ldc2_w 110, 3) := by decide +kernel
theorem dX10_feed_37 : decode cX10_feed 37 = .ok (.land, 1) := by decide +kernel
theorem dX10_feed_38 : decode cX10_feed 38 = .ok (.l2i, 1) := by decide +kernel
theorem dX10_feed_39 : decode cX10_feed 39 = .ok (.iastore, 1) := by decide +kernel
theorem dX10_feed_40 : decode cX10_feed 40 = .ok (.aload_n 0, 1) := by decide +kernel
theorem dX10_feed_41 : decode cX10_feed 41 = .ok (.dup, 1) := by decide +kernel
theorem dX10_feed_42 : decode cX10_feed 42 = .ok (.getfield 107, 3) := by decide +kernel
theorem dX10_feed_45 : decode cX10_feed 45 = .ok (.iconst 1, 1) := by decide +kernel
theorem dX10_feed_46 : decode cX10_feed 46 = .ok (.iadd, 1) := by decide +kernel
theorem dX10_feed_47 : decode cX10_feed 47 = .ok (.putfield 107, 3) := by decide +kernel
theorem dX10_feed_50 : decode cX10_feed 50 = .ok (.iinc 3 (-8), 3) := by decide +kernel
theorem dX10_feed_53 : decode cX10_feed 53 = .ok (.goto (-34), 3) := by decide +kernel
theorem dX10_feed_56 : decode cX10_feed 56 = .ok (.aload_n 0, 1) := by decide +kernel
theorem dX10_feed_57 : decode cX10_feed 57 = .ok (.getfield 107, 3) := by decide +kernel
theorem dX10_feed_60 : decode cX10_feed 60 = .ok (.ireturn, 1) := by decide +kernel
theorem dX10_end_0 : decode cX10_end 0 = .ok (.iload_n 1, 1) := by decide +kernel
theorem dX10_end_1 : decode cX10_end 1 = .ok (.i2l, 1) := by decide +kernel
theorem dX10_end_2 : decode cX10_end 2 = .ok (.lconst 0, 1) := by decide +kernel
theorem dX10_end_3 : decode cX10_end 3 = .ok (.aload_n 0, 1) := by decide +kernel
theorem dX10_end_4 : decode cX10_end 4 = .ok (.getfield 107, 3) := by decide +kernel
theorem dX10_end_7 : decode cX10_end 7 = .ok (.i2l, 1) := by decide +kernel
theorem dX10_end_8 : decode cX10_end 8 = .ok (.invokestatic 112, 3) := by decide +kernel
theorem dX10_end_11 : decode cX10_end 11 = .ok (.ifCond .ne 5, 3) := by decide +kernel
theorem dX10_end_14 : decode cX10_end 14 = .ok (.iconst (-1), 1) := by decide +kernel
theorem dX10_end_15 : decode cX10_end 15 = .ok (.ireturn, 1) := by decide +kernel
theorem dX10_end_16 : decode cX10_end 16 = .ok (.aload_n 0, 1) := by decide +kernel
theorem dX10_end_17 : decode cX10_end 17 = .ok (.getfield 107, 3) := by decide +kernel
theorem dX10_end_20 : decode cX10_end 20 = .ok (.istore_n 2, 1) := by decide +kernel
theorem dX10_end_21 : decode cX10_end 21 = .ok (.aload_n 0, 1) := by decide +kernel
theorem dX10_end_22 : decode cX10_end 22 = .ok (.iload_n 1, 1) := by decide +kernel
theorem dX10_end_23 : decode cX10_end 23 = .ok (.putfield 107, 3) := by decide +kernel
theorem dX10_end_26 : decode cX10_end 26 = .ok (.iload_n 2, 1) := by decide +kernel
theorem dX10_end_27 : decode cX10_end 27 = .ok (.ireturn, 1) := by decide +kernel
theorem dX10_needs_0 : decode cX10_needs 0 = .ok (.iload_n 1, 1) := by decide +kernel
theorem dX10_needs_1 : decode cX10_needs 1 = .ok (.ifCond .ne 23, 3) := by decide +kernel
theorem dX10_needs_4 : decode cX10_needs 4 = .ok (.aload_n 0, 1) := by decide +kernel
theorem dX10_needs_5 : decode cX10_needs 5 = .ok (.getfield 116, 3) := by decide +kernel
theorem dX10_needs_8 : decode cX10_needs 8 = .ok (.ifCond .ne 16, 3) := by decide +kernel
theorem dX10_needs_11 : decode cX10_needs 11 = .ok (.aload_n 0, 1) := by decide +kernel
theorem dX10_needs_12 : decode cX10_needs 12 = .ok (.iload_n 2, 1) := by decide +kernel
theorem dX10_needs_13 : decode cX10_needs 13 = .ok (.putfield 116, 3) := by decide +kernel
theorem dX10_needs_16 : decode cX10_needs 16 = .ok (.aload_n 0, 1) := by decide +kernel
theorem dX10_needs_17 : decode cX10_needs 17 = .ok (.aload_n 0, 1) := by decide +kernel
theorem dX10_needs_18 : decode cX10_needs 18 = .ok (.getfield 119, 3) := by decide +kernel
theorem dX10_needs_21 : decode cX10_needs 21 = .ok (.putfield 122, 3) := by decide +kernel
theorem dX10_needs_24 : decode cX10_needs 24 = .ok (.return_, 1) := by decide +kernel
theorem dX10_look_0 : decode cX10_look 0 = .ok (.iload_n 1, 1) := by decide +kernel
theorem dX10_look_1 : decode cX10_look 1 = .ok (.aload_n 0, 1) := by decide +kernel
theorem dX10_look_2 : decode cX10_look 2 = .ok (.getfield 107, 3) := by decide +kernel
theorem dX10_look_5 : decode cX10_look 5 = .ok (.if_icmp .ge 12, 3) := by decide +kernel
theorem dX10_look_8 : decode cX10_look 8 = .ok (.aload_n 0, 1) := by decide +kernel
theorem dX10_look_9 : decode cX10_look 9 = .ok (.getfield 32, 3) := by decide +kernel
theorem dX10_look_12 : decode cX10_look 12 = .ok (.iload_n 1, 1) := by decide +kernel
theorem dX10_look_13 : decode cX10_look 13 = .ok (.iaload, 1) := by decide +kernel
theorem dX10_look_14 : decode cX10_look 14 = .ok (.goto 4, 3) := by decide +kernel
theorem dX10_look_17 : decode cX10_look 17 = .ok (.iconst (-1), 1) := by decide +kernel
theorem dX10_look_18 : decode cX10_look 18 = .ok (.ireturn, 1) := by decide +kernel
theorem dX10_is_0 : decode cX10_is 0 = .ok (.aload_n 0, 1) := by decide +kernel
theorem dX10_is_1 : decode cX10_is 1 = .ok (.getfield 125, 3) := by decide +kernel
theorem dX10_is_4 : decode cX10_is 4 = .ok (.aload_n 0, 1) := by decide +kernel
theorem dX10_is_5 : decode cX10_is 5 = .ok (.getfield 119, 3) := by decide +kernel
theorem dX10_is_8 : decode cX10_is 8 = .ok (.isub, 1) := by decide +kernel
theorem dX10_is_9 : decode cX10_is 9 = .ok (.iload_n 1, 1) := by decide +kernel
theorem dX10_is_10 : decode cX10_is 10 = .ok (.if_icmp .ne 48, 3) := by decide +kernel
theorem dX10_is_13 : decode cX10_is 13 = .ok (.aload_n 0, 1) := by decide +kernel
theorem dX10_is_14 : decode cX10_is 14 = .ok (.aload_n 0, 1) := by decide +kernel
theorem dX10_is_15 : decode cX10_is 15 = .ok (.getfield 119, 3) := by decide +kernel
theorem dX10_is_18 : decode cX10_is 18 = .ok (.invokevirtual 128, 3) := by decide +kernel
theorem dX10_is_21 : decode cX10_is 21 = .ok (.iload_n 2, 1) := by decide +kernel
theorem dX10_is_22 : decode cX10_is 22 = .ok (.if_icmp .ne 36, 3) := by decide +kernel
theorem dX10_is_25 : decode cX10_is 25 = .ok (.aload_n 0, 1) := by decide +kernel
theorem dX10_is_26 : decode cX10_is 26 = .ok (.aload_n 0, 1) := by decide +kernel
theorem dX10_is_27 : decode cX10_is 27 = .ok (.getfield 119, 3) := by decide +kernel
theorem dX10_is_30 : decode cX10_is 30 = .ok (.iconst 1, 1) := by decide +kernel
theorem dX10_is_31 : decode cX10_is 31 = .ok (.iadd, 1) := by decide +kernel
theorem dX10_is_32 : decode cX10_is 32 = .ok (.invokevirtual 128, 3) := by decide +kernel
theorem dX10_is_35 : decode cX10_is 35 = .ok (.iload_n 3, 1) := by decide +kernel
theorem dX10_is_36 : decode cX10_is 36 = .ok (.if_icmp .ne 22, 3) := by decide +kernel
theorem dX10_is_39 : decode cX10_is 39 = .ok (.aload_n 0, 1) := by decide +kernel
theorem dX10_is_40 : decode cX10_is 40 = .ok (.aload_n 0, 1) := by decide +kernel
theorem dX10_is_41 : decode cX10_is 41 = .ok (.getfield 119, 3) := by decide +kernel
theorem dX10_is_44 : decode cX10_is 44 = .ok (.iconst 2, 1) := by decide +kernel
theorem dX10_is_45 : decode cX10_is 45 = .ok (.iadd, 1) := by decide +kernel
theorem dX10_is_46 : decode cX10_is 46 = .ok (.invokevirtual 128, 3) := by decide +kernel
theorem dX10_is_49 : decode cX10_is 49 = .ok (.iload 4, 2) := by decide +kernel
theorem dX10_is_51 : decode cX10_is 51 = .ok (.if_icmp .ne 7, 3) := by decide +kernel
theorem dX10_is_54 : decode cX10_is 54 = .ok (.iconst 1, 1) := by decide +kernel
theorem dX10_is_55 : decode cX10_is 55 = .ok (.goto 4, 3) := by decide +kernel
theorem dX10_is_58 : decode cX10_is 58 = .ok (.iconst 0, 1) := by decide +kernel
theorem dX10_is_59 : decode cX10_is 59 = .ok (.ireturn, 1) := by decide +kernel
theorem dX10_ends_0 : decode cX10_ends 0 = .ok (.aload_n 0, 1) := by decide +kernel
theorem dX10_ends_1 : decode cX10_ends 1 = .ok (.aload_n 0, 1) := by decide +kernel
theorem dX10_ends_2 : decode cX10_ends 2 = .ok (.getfield 119, 3) := by decide +kernel
theorem dX10_ends_5 : decode cX10_ends 5 = .ok (.iconst 3, 1) := by decide +kernel
theorem dX10_ends_6 : decode cX10_ends 6 = .ok (.iadd, 1) := by decide +kernel
theorem dX10_ends_7 : decode cX10_ends 7 = .ok (.invokevirtual 128, 3) := by decide +kernel
theorem dX10_ends_10 : decode cX10_ends 10 = .ok (.iload_n 1, 1) := by decide +kernel
theorem dX10_ends_11 : decode cX10_ends 11 = .ok (.if_icmp .ne 43, 3) := by decide +kernel
theorem dX10_ends_14 : decode cX10_ends 14 = .ok (.iload_n 2, 1) := by decide +kernel
theorem dX10_ends_15 : decode cX10_ends 15 = .ok (.ifCond .eq 17, 3) := by decide +kernel
theorem dX10_ends_18 : decode cX10_ends 18 = .ok (.aload_n 0, 1) := by decide +kernel
theorem dX10_ends_19 : decode cX10_ends 19 = .ok (.aload_n 0, 1) := by decide +kernel
theorem dX10_ends_20 : decode cX10_ends 20 = .ok (.getfield 119, 3) := by decide +kernel
theorem dX10_ends_23 : decode cX10_ends 23 = .ok (.iconst 4, 1) := by decide +kernel
theorem dX10_ends_24 : decode cX10_ends 24 = .ok (.iadd, 1) := by decide +kernel
theorem dX10_ends_25 : decode cX10_ends 25 = .ok (.invokevirtual 128, 3) := by decide +kernel
theorem dX10_ends_28 : decode cX10_ends 28 = .ok (.iload_n 2, 1) := by decide +kernel
theorem dX10_ends_29 : decode cX10_ends 29 = .ok (.if_icmp .ne 25, 3) := by decide +kernel
theorem dX10_ends_32 : decode cX10_ends 32 = .ok (.iload_n 3, 1) := by decide +kernel
theorem dX10_ends_33 : decode cX10_ends 33 = .ok (.ifCond .eq 17, 3) := by decide +kernel
theorem dX10_ends_36 : decode cX10_ends 36 = .ok (.aload_n 0, 1) := by decide +kernel
theorem dX10_ends_37 : decode cX10_ends 37 = .ok (.aload_n 0, 1) := by decide +kernel
theorem dX10_ends_38 : decode cX10_ends 38 = .ok (.getfield 119, 3) := by decide +kernel
theorem dX10_ends_41 : decode cX10_ends 41 = .ok (.iconst 5, 1) := by decide +kernel
theorem dX10_ends_42 : decode cX10_ends 42 = .ok (.iadd, 1) := by decide +kernel
theorem dX10_ends_43 : decode cX10_ends 43 = .ok (.invokevirtual 128, 3) := by decide +kernel
theorem dX10_ends_46 : decode cX10_ends 46 = .ok (.iload_n 3, 1) := by decide +kernel
theorem dX10_ends_47 : decode cX10_ends 47 = .ok (.if_icmp .ne 7, 3) := by decide +kernel
theorem dX10_ends_50 : decode cX10_ends 50 = .ok (.iconst 1, 1) := by decide +kernel
theorem dX10_ends_51 : decode cX10_ends 51 = .ok (.goto 4, 3) := by decide +kernel
theorem dX10_ends_54 : decode cX10_ends 54 = .ok (.iconst 0, 1) := by decide +kernel
theorem dX10_ends_55 : decode cX10_ends 55 = .ok (.ireturn, 1) := by decide +kernel
theorem dX10_lineNow_0 : decode cX10_lineNow 0 = .ok (.aload_n 0, 1) := by decide +kernel
theorem dX10_lineNow_1 : decode cX10_lineNow 1 = .ok (.bipush 6, 2) := by decide +kernel
theorem dX10_lineNow_3 : decode cX10_lineNow 3 = .ok (.bipush 115, 2) := by decide +kernel
theorem dX10_lineNow_5 : decode cX10_lineNow 5 = .ok (.bipush 105, 2) := by decide +kernel
theorem dX10_lineNow_7 : decode cX10_lineNow 7 = .ok (.bipush 115, 2) := by decide +kernel
theorem dX10_lineNow_9 : decode cX10_lineNow 9 = .ok (.invokevirtual 132, 3) := by decide +kernel
theorem dX10_lineNow_12 : decode cX10_lineNow 12 = .ok (.ifCond .eq 18, 3) := by decide +kernel
theorem dX10_lineNow_15 : decode cX10_lineNow 15 = .ok (.aload_n 0, 1) := by decide +kernel
theorem dX10_lineNow_16 : decode cX10_lineNow 16 = .ok (.bipush 116, 2) := by decide +kernel
theorem dX10_lineNow_18 : decode cX10_lineNow 18 = .ok (.bipush 101, 2) := by decide +kernel
theorem dX10_lineNow_20 : decode cX10_lineNow 20 = .ok (.bipush 114, 2) := by decide +kernel
theorem dX10_lineNow_22 : decode cX10_lineNow 22 = .ok (.invokevirtual 136, 3) := by decide +kernel
theorem dX10_lineNow_25 : decode cX10_lineNow 25 = .ok (.ifCond .eq 5, 3) := by decide +kernel
theorem dX10_lineNow_28 : decode cX10_lineNow 28 = .ok (.iconst 0, 1) := by decide +kernel
theorem dX10_lineNow_29 : decode cX10_lineNow 29 = .ok (.ireturn, 1) := by decide +kernel
theorem dX10_lineNow_30 : decode cX10_lineNow 30 = .ok (.aload_n 0, 1) := by decide +kernel
theorem dX10_lineNow_31 : decode cX10_lineNow 31 = .ok (.bipush 8, 2) := by decide +kernel
theorem dX10_lineNow_33 : decode cX10_lineNow 33 = .ok (.bipush 113, 2) := by decide +kernel
theorem dX10_lineNow_35 : decode cX10_lineNow 35 = .ok (.bipush 117, 2) := by decide +kernel
theorem dX10_lineNow_37 : decode cX10_lineNow 37 = .ok (.bipush 97, 2) := by decide +kernel
theorem dX10_lineNow_39 : decode cX10_lineNow 39 = .ok (.invokevirtual 132, 3) := by decide +kernel
theorem dX10_lineNow_42 : decode cX10_lineNow 42 = .ok (.ifCond .eq 50, 3) := by decide +kernel
theorem dX10_lineNow_45 : decode cX10_lineNow 45 = .ok (.aload_n 0, 1) := by decide +kernel
theorem dX10_lineNow_46 : decode cX10_lineNow 46 = .ok (.bipush 114, 2) := by decide +kernel
theorem dX10_lineNow_48 : decode cX10_lineNow 48 = .ok (.bipush 116, 2) := by decide +kernel
theorem dX10_lineNow_50 : decode cX10_lineNow 50 = .ok (.bipush 101, 2) := by decide +kernel
theorem dX10_lineNow_52 : decode cX10_lineNow 52 = .ok (.invokevirtual 136, 3) := by decide +kernel
theorem dX10_lineNow_55 : decode cX10_lineNow 55 = .ok (.ifCond .eq 37, 3) := by decide +kernel
theorem dX10_lineNow_58 : decode cX10_lineNow 58 = .ok (.aload_n 0, 1) := by decide +kernel
theorem dX10_lineNow_59 : decode cX10_lineNow 59 = .ok (.aload_n 0, 1) := by decide +kernel
theorem dX10_lineNow_60 : decode cX10_lineNow 60 = .ok (.getfield 119, 3) := by decide +kernel
theorem dX10_lineNow_63 : decode cX10_lineNow 63 = .ok (.bipush 6, 2) := by decide +kernel
theorem dX10_lineNow_65 : decode cX10_lineNow 65 = .ok (.iadd, 1) := by decide +kernel
theorem dX10_lineNow_66 : decode cX10_lineNow 66 = .ok (.invokevirtual 128, 3) := by decide +kernel
theorem dX10_lineNow_69 : decode cX10_lineNow 69 = .ok (.bipush 114, 2) := by decide +kernel
theorem dX10_lineNow_71 : decode cX10_lineNow 71 = .ok (.if_icmp .ne 21, 3) := by decide +kernel
theorem dX10_lineNow_74 : decode cX10_lineNow 74 = .ok (.aload_n 0, 1) := by decide +kernel
theorem dX10_lineNow_75 : decode cX10_lineNow 75 = .ok (.aload_n 0, 1) := by decide +kernel
theorem dX10_lineNow_76 : decode cX10_lineNow 76 = .ok (.getfield 119, 3) := by decide +kernel
theorem dX10_lineNow_79 : decode cX10_lineNow 79 = .ok (.bipush 7, 2) := by decide +kernel
theorem dX10_lineNow_81 : decode cX10_lineNow 81 = .ok (.iadd, 1) := by decide +kernel
theorem dX10_lineNow_82 : decode cX10_lineNow 82 = .ok (.invokevirtual 128, 3) := by decide +kernel
theorem dX10_lineNow_85 : decode cX10_lineNow 85 = .ok (.bipush 115, 2) := by decide +kernel
theorem dX10_lineNow_87 : decode cX10_lineNow 87 = .ok (.if_icmp .ne 5, 3) := by decide +kernel
theorem dX10_lineNow_90 : decode cX10_lineNow 90 = .ok (.iconst 1, 1) := by decide +kernel
theorem dX10_lineNow_91 : decode cX10_lineNow 91 = .ok (.ireturn, 1) := by decide +kernel
theorem dX10_lineNow_92 : decode cX10_lineNow 92 = .ok (.aload_n 0, 1) := by decide +kernel
theorem dX10_lineNow_93 : decode cX10_lineNow 93 = .ok (.iconst 4, 1) := by decide +kernel
theorem dX10_lineNow_94 : decode cX10_lineNow 94 = .ok (.bipush 110, 2) := by decide +kernel
theorem dX10_lineNow_96 : decode cX10_lineNow 96 = .ok (.bipush 101, 2) := by decide +kernel
theorem dX10_lineNow_98 : decode cX10_lineNow 98 = .ok (.bipush 101, 2) := by decide +kernel
theorem dX10_lineNow_100 : decode cX10_lineNow 100 = .ok (.invokevirtual 132, 3) := by decide +kernel
