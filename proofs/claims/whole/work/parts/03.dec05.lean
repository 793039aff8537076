theorem dX10_goes_51 : decode cX10_goes 51 = .ok (.imul, 1) := by decide +kernel
theorem dX10_goes_52 : decode cX10_goes 52 = .ok (.if_icmp .ge 37, 3) := by decide +kernel
theorem dX10_goes_55 : decode cX10_goes 55 = .ok (.aload_n 0, 1) := by decide +kernel
theorem dX10_goes_56 : decode cX10_goes 56 = .ok (.getfield 35, 3) := by decide +kernel
theorem dX10_goes_59 : decode cX10_goes 59 = .ok (.iload 4, 2) := by decide +kernel
theorem dX10_goes_61 : decode cX10_goes 61 = .ok (.aload_n 0, 1) := by decide +kernel
theorem dX10_goes_62 : decode cX10_goes 62 = .ok (.iload 4, 2) := by decide +kernel
theorem dX10_goes_64 : decode cX10_goes 64 = .ok (.iload_n 3, 1) := by decide +kernel
theorem dX10_goes_65 : decode cX10_goes 65 = .ok (.iload 4, 2) := by decide +kernel
theorem dX10_goes_67 : decode cX10_goes 67 = .ok (.ishr, 1) := by decide +kernel
theorem dX10_goes_68 : decode cX10_goes 68 = .ok (.iconst 1, 1) := by decide +kernel
theorem dX10_goes_69 : decode cX10_goes 69 = .ok (.iand, 1) := by decide +kernel
theorem dX10_goes_70 : decode cX10_goes 70 = .ok (.iconst 1, 1) := by decide +kernel
theorem dX10_goes_71 : decode cX10_goes 71 = .ok (.if_icmp .ne 7, 3) := by decide +kernel
theorem dX10_goes_74 : decode cX10_goes 74 = .ok (.iconst 1, 1) := by decide +kernel
theorem dX10_goes_75 : decode cX10_goes 75 = .ok (.goto 4, 3) := by decide +kernel
theorem dX10_goes_78 : decode cX10_goes 78 = .ok (.iconst 0, 1) := by decide +kernel
theorem dX10_goes_79 : decode cX10_goes 79 = .ok (.invokevirtual 260, 3) := by decide +kernel
theorem dX10_goes_82 : decode cX10_goes 82 = .ok (.iastore, 1) := by decide +kernel
theorem dX10_goes_83 : decode cX10_goes 83 = .ok (.iinc 4 1, 3) := by decide +kernel
theorem dX10_goes_86 : decode cX10_goes 86 = .ok (.goto (-42), 3) := by decide +kernel
theorem dX10_goes_89 : decode cX10_goes 89 = .ok (.iinc 2 1, 3) := by decide +kernel
theorem dX10_goes_92 : decode cX10_goes 92 = .ok (.goto (-62), 3) := by decide +kernel
theorem dX10_goes_95 : decode cX10_goes 95 = .ok (.return_, 1) := by decide +kernel
theorem dX10_tired_0 : decode cX10_tired 0 = .ok (.aload_n 0, 1) := by decide +kernel
theorem dX10_tired_1 : decode cX10_tired 1 = .ok (.iload_n 1, 1) := by decide +kernel
theorem dX10_tired_2 : decode cX10_tired 2 = .ok (.invokevirtual 200, 3) := by decide +kernel
theorem dX10_tired_5 : decode cX10_tired 5 = .ok (.ifCond .eq 11, 3) := by decide +kernel
theorem dX10_tired_8 : decode cX10_tired 8 = .ok (.aload_n 0, 1) := by decide +kernel
theorem dX10_tired_9 : decode cX10_tired 9 = .ok (.iload_n 2, 1) := by decide +kernel
theorem dX10_tired_10 : decode cX10_tired 10 = .ok (.invokevirtual 209, 3) := by decide +kernel
theorem dX10_tired_13 : decode cX10_tired 13 = .ok (.ifCond .ne 5, 3) := by decide +kernel
theorem dX10_tired_16 : decode cX10_tired 16 = .ok (.iconst (-1), 1) := by decide +kernel
theorem dX10_tired_17 : decode cX10_tired 17 = .ok (.ireturn, 1) := by decide +kernel
theorem dX10_tired_18 : decode cX10_tired 18 = .ok (.aload_n 0, 1) := by decide +kernel
theorem dX10_tired_19 : decode cX10_tired 19 = .ok (.iload_n 2, 1) := by decide +kernel
theorem dX10_tired_20 : decode cX10_tired 20 = .ok (.iconst 1, 1) := by decide +kernel
theorem dX10_tired_21 : decode cX10_tired 21 = .ok (.iadd, 1) := by decide +kernel
theorem dX10_tired_22 : decode cX10_tired 22 = .ok (.invokevirtual 264, 3) := by decide +kernel
theorem dX10_tired_25 : decode cX10_tired 25 = .ok (.aload_n 0, 1) := by decide +kernel
theorem dX10_tired_26 : decode cX10_tired 26 = .ok (.getfield 35, 3) := by decide +kernel
theorem dX10_tired_29 : decode cX10_tired 29 = .ok (.iload_n 1, 1) := by decide +kernel
theorem dX10_tired_30 : decode cX10_tired 30 = .ok (.iaload, 1) := by decide +kernel
theorem dX10_tired_31 : decode cX10_tired 31 = .ok (.ireturn, 1) := by decide +kernel
theorem dX10_openIn_0 : decode cX10_openIn 0 = .ok (.aload_n 0, 1) := by decide +kernel
theorem dX10_openIn_1 : decode cX10_openIn 1 = .ok (.iload_n 1, 1) := by decide +kernel
theorem dX10_openIn_2 : decode cX10_openIn 2 = .ok (.invokevirtual 264, 3) := by decide +kernel
theorem dX10_openIn_5 : decode cX10_openIn 5 = .ok (.iconst 1, 1) := by decide +kernel
theorem dX10_openIn_6 : decode cX10_openIn 6 = .ok (.iconst 2, 1) := by decide +kernel
theorem dX10_openIn_7 : decode cX10_openIn 7 = .ok (.aload_n 0, 1) := by decide +kernel
theorem dX10_openIn_8 : decode cX10_openIn 8 = .ok (.getfield 94, 3) := by decide +kernel
theorem dX10_openIn_11 : decode cX10_openIn 11 = .ok (.imul, 1) := by decide +kernel
theorem dX10_openIn_12 : decode cX10_openIn 12 = .ok (.ishl, 1) := by decide +kernel
theorem dX10_openIn_13 : decode cX10_openIn 13 = .ok (.iconst 1, 1) := by decide +kernel
theorem dX10_openIn_14 : decode cX10_openIn 14 = .ok (.isub, 1) := by decide +kernel
theorem dX10_openIn_15 : decode cX10_openIn 15 = .ok (.aload_n 0, 1) := by decide +kernel
theorem dX10_openIn_16 : decode cX10_openIn 16 = .ok (.iload_n 1, 1) := by decide +kernel
theorem dX10_openIn_17 : decode cX10_openIn 17 = .ok (.invokevirtual 257, 3) := by decide +kernel
theorem dX10_openIn_20 : decode cX10_openIn 20 = .ok (.iconst (-1), 1) := by decide +kernel
theorem dX10_openIn_21 : decode cX10_openIn 21 = .ok (.ixor, 1) := by decide +kernel
theorem dX10_openIn_22 : decode cX10_openIn 22 = .ok (.iand, 1) := by decide +kernel
theorem dX10_openIn_23 : decode cX10_openIn 23 = .ok (.aload_n 0, 1) := by decide +kernel
theorem dX10_openIn_24 : decode cX10_openIn 24 = .ok (.invokevirtual 251, 3) := by decide +kernel
theorem dX10_openIn_27 : decode cX10_openIn 27 = .ok (.iconst (-1), 1) := by decide +kernel
theorem dX10_openIn_28 : decode cX10_openIn 28 = .ok (.ixor, 1) := by decide +kernel
theorem dX10_openIn_29 : decode cX10_openIn 29 = .ok (.iand, 1) := by decide +kernel
theorem dX10_openIn_30 : decode cX10_openIn 30 = .ok (.ireturn, 1) := by decide +kernel
theorem dX10_open_0 : decode cX10_open 0 = .ok (.aload_n 0, 1) := by decide +kernel
theorem dX10_open_1 : decode cX10_open 1 = .ok (.iload_n 1, 1) := by decide +kernel
theorem dX10_open_2 : decode cX10_open 2 = .ok (.invokevirtual 209, 3) := by decide +kernel
theorem dX10_open_5 : decode cX10_open 5 = .ok (.ifCond .eq 11, 3) := by decide +kernel
theorem dX10_open_8 : decode cX10_open 8 = .ok (.aload_n 0, 1) := by decide +kernel
theorem dX10_open_9 : decode cX10_open 9 = .ok (.iload_n 1, 1) := by decide +kernel
theorem dX10_open_10 : decode cX10_open 10 = .ok (.invokevirtual 267, 3) := by decide +kernel
theorem dX10_open_13 : decode cX10_open 13 = .ok (.goto 4, 3) := by decide +kernel
theorem dX10_open_16 : decode cX10_open 16 = .ok (.iconst (-1), 1) := by decide +kernel
theorem dX10_open_17 : decode cX10_open 17 = .ok (.ireturn, 1) := by decide +kernel
theorem dX10_missedIn_0 : decode cX10_missedIn 0 = .ok (.aload_n 0, 1) := by decide +kernel
theorem dX10_missedIn_1 : decode cX10_missedIn 1 = .ok (.iload_n 1, 1) := by decide +kernel
theorem dX10_missedIn_2 : decode cX10_missedIn 2 = .ok (.invokevirtual 264, 3) := by decide +kernel
theorem dX10_missedIn_5 : decode cX10_missedIn 5 = .ok (.aload_n 0, 1) := by decide +kernel
theorem dX10_missedIn_6 : decode cX10_missedIn 6 = .ok (.iload_n 1, 1) := by decide +kernel
theorem dX10_missedIn_7 : decode cX10_missedIn 7 = .ok (.aload_n 0, 1) := by decide +kernel
theorem dX10_missedIn_8 : decode cX10_missedIn 8 = .ok (.iload_n 1, 1) := by decide +kernel
theorem dX10_missedIn_9 : decode cX10_missedIn 9 = .ok (.invokevirtual 257, 3) := by decide +kernel
theorem dX10_missedIn_12 : decode cX10_missedIn 12 = .ok (.invokevirtual 241, 3) := by decide +kernel
theorem dX10_missedIn_15 : decode cX10_missedIn 15 = .ok (.ireturn, 1) := by decide +kernel
theorem dX10_missed_0 : decode cX10_missed 0 = .ok (.aload_n 0, 1) := by decide +kernel
theorem dX10_missed_1 : decode cX10_missed 1 = .ok (.iload_n 1, 1) := by decide +kernel
theorem dX10_missed_2 : decode cX10_missed 2 = .ok (.invokevirtual 209, 3) := by decide +kernel
theorem dX10_missed_5 : decode cX10_missed 5 = .ok (.ifCond .eq 11, 3) := by decide +kernel
theorem dX10_missed_8 : decode cX10_missed 8 = .ok (.aload_n 0, 1) := by decide +kernel
theorem dX10_missed_9 : decode cX10_missed 9 = .ok (.iload_n 1, 1) := by decide +kernel
theorem dX10_missed_10 : decode cX10_missed 10 = .ok (.invokevirtual 270, 3) := by decide +kernel
theorem dX10_missed_13 : decode cX10_missed 13 = .ok (.goto 4, 3) := by decide +kernel
theorem dX10_missed_16 : decode cX10_missed 16 = .ok (.iconst (-1), 1) := by decide +kernel
theorem dX10_missed_17 : decode cX10_missed 17 = .ok (.ireturn, 1) := by decide +kernel
theorem dX10_wreck_0 : decode cX10_wreck 0 = .ok (.iconst 0, 1) := by decide +kernel
theorem dX10_wreck_1 : decode cX10_wreck 1 = .ok (.istore_n 1, 1) := by decide +kernel
theorem dX10_wreck_2 : decode cX10_wreck 2 = .ok (.iload_n 1, 1) := by decide +kernel
theorem dX10_wreck_3 : decode cX10_wreck 3 = .ok (.aload_n 0, 1) := by decide +kernel
theorem dX10_wreck_4 : decode cX10_wreck 4 = .ok (.getfield 97, 3) := by decide +kernel
theorem dX10_wreck_7 : decode cX10_wreck 7 = .ok (.if_icmp .ge 19, 3) := by decide +kernel
theorem dX10_wreck_10 : decode cX10_wreck 10 = .ok (.aload_n 0, 1) := by decide +kernel
theorem dX10_wreck_11 : decode cX10_wreck 11 = .ok (.iload_n 1, 1) := by decide +kernel
theorem dX10_wreck_12 : decode cX10_wreck 12 = .ok (.invokevirtual 270, 3) := by decide +kernel
theorem dX10_wreck_15 : decode cX10_wreck 15 = .ok (.ifCond .eq 5, 3) := by decide +kernel
theorem dX10_wreck_18 : decode cX10_wreck 18 = .ok (.iload_n 1, 1) := by decide +kernel
theorem dX10_wreck_19 : decode cX10_wreck 19 = .ok (.ireturn, 1) := by decide +kernel
theorem dX10_wreck_20 : decode cX10_wreck 20 = .ok (.iinc 1 1, 3) := by decide +kernel
theorem dX10_wreck_23 : decode cX10_wreck 23 = .ok (.goto (-21), 3) := by decide +kernel
theorem dX10_wreck_26 : decode cX10_wreck 26 = .ok (.bipush (-4), 2) := by decide +kernel
theorem dX10_wreck_28 : decode cX10_wreck 28 = .ok (.ireturn, 1) := by decide +kernel
theorem dX10_rest_0 : decode cX10_rest 0 = .ok (.aload_n 0, 1) := by decide +kernel
theorem dX10_rest_1 : decode cX10_rest 1 = .ok (.iload_n 1, 1) := by decide +kernel
theorem dX10_rest_2 : decode cX10_rest 2 = .ok (.invokevirtual 200, 3) := by decide +kernel
theorem dX10_rest_5 : decode cX10_rest 5 = .ok (.ifCond .ne 5, 3) := by decide +kernel
theorem dX10_rest_8 : decode cX10_rest 8 = .ok (.iconst (-1), 1) := by decide +kernel
theorem dX10_rest_9 : decode cX10_rest 9 = .ok (.ireturn, 1) := by decide +kernel
theorem dX10_rest_10 : decode cX10_rest 10 = .ok (.iconst 0, 1) := by decide +kernel
theorem dX10_rest_11 : decode cX10_rest 11 = .ok (.istore_n 2, 1) := by decide +kernel
theorem dX10_rest_12 : decode cX10_rest 12 = .ok (.iconst 0, 1) := by decide +kernel
theorem dX10_rest_13 : decode cX10_rest 13 = .ok (.istore_n 3, 1) := by decide +kernel
theorem dX10_rest_14 : decode cX10_rest 14 = .ok (.iload_n 3, 1) := by decide +kernel
theorem dX10_rest_15 : decode cX10_rest 15 = .ok (.aload_n 0, 1) := by decide +kernel
theorem dX10_rest_16 : decode cX10_rest 16 = .ok (.getfield 97, 3) := by decide +kernel
theorem dX10_rest_19 : decode cX10_rest 19 = .ok (.if_icmp .ge 29, 3) := by decide +kernel
theorem dX10_rest_22 : decode cX10_rest 22 = .ok (.iload_n 2, 1) := by decide +kernel
theorem dX10_rest_23 : decode cX10_rest 23 = .ok (.aload_n 0, 1) := by decide +kernel
theorem dX10_rest_24 : decode cX10_rest 24 = .ok (.aload_n 0, 1) := by decide +kernel
theorem dX10_rest_25 : decode cX10_rest 25 = .ok (.getfield 7, 3) := by decide +kernel
theorem dX10_rest_28 : decode cX10_rest 28 = .ok (.bipush 21, 2) := by decide +kernel
theorem dX10_rest_30 : decode cX10_rest 30 = .ok (.iload_n 3, 1) := by decide +kernel
theorem dX10_rest_31 : decode cX10_rest 31 = .ok (.iadd, 1) := by decide +kernel
theorem dX10_rest_32 : decode cX10_rest 32 = .ok (.iaload, 1) := by decide +kernel
theorem dX10_rest_33 : decode cX10_rest 33 = .ok (.invokevirtual 238, 3) := by decide +kernel
theorem dX10_rest_36 : decode cX10_rest 36 = .ok (.iload_n 1, 1) := by decide +kernel
theorem dX10_rest_37 : decode cX10_rest 37 = .ok (.ishr, 1) := by decide +kernel
theorem dX10_rest_38 : decode cX10_rest 38 = .ok (.iconst 1, 1) := by decide +kernel
theorem dX10_rest_39 : decode cX10_rest 39 = .ok (.iand, 1) := by decide +kernel
theorem dX10_rest_40 : decode cX10_rest 40 = .ok (.iadd, 1) := by decide +kernel
theorem dX10_rest_41 : decode cX10_rest 41 = .ok (.istore_n 2, 1) := by decide +kernel
theorem dX10_rest_42 : decode cX10_rest 42 = .ok (.iinc 3 1, 3) := by decide +kernel
theorem dX10_rest_45 : decode cX10_rest 45 = .ok (.goto (-31), 3) := by decide +kernel
theorem dX10_rest_48 : decode cX10_rest 48 = .ok (.iload_n 2, 1) := by decide +kernel
theorem dX10_rest_49 : decode cX10_rest 49 = .ok (.ireturn, 1) := by decide +kernel
theorem dX10_findEyes_0 : decode cX10_findEyes 0 = .ok (.aload_n 0, 1) := by decide +kernel
theorem dX10_findEyes_1 : decode cX10_findEyes 1 = .ok (.iconst 0, 1) := by decide +kernel
theorem dX10_findEyes_2 : decode cX10_findEyes 2 = .ok (.putfield 273, 3) := by decide +kernel
theorem dX10_findEyes_5 : decode cX10_findEyes 5 = .ok (.iconst 0, 1) := by decide +kernel
theorem dX10_findEyes_6 : decode cX10_findEyes 6 = .ok (.istore_n 1, 1) := by decide +kernel
theorem dX10_findEyes_7 : decode cX10_findEyes 7 = .ok (.iload_n 1, 1) := by decide +kernel
theorem dX10_findEyes_8 : decode cX10_findEyes 8 = .ok (.iconst 2, 1) := by decide +kernel
theorem dX10_findEyes_9 : decode cX10_findEyes 9 = .ok (.aload_n 0, 1) := by decide +kernel
theorem dX10_findEyes_10 : decode cX10_findEyes 10 = .ok (.getfield 94, 3) := by decide +kernel
theorem dX10_findEyes_13 : decode cX10_findEyes 13 = .ok (.imul, 1) := by decide +kernel
theorem dX10_findEyes_14 : decode cX10_findEyes 14 = .ok (.if_icmp .ge 45, 3) := by decide +kernel
theorem dX10_findEyes_17 : decode cX10_findEyes 17 = .ok (.aload_n 0, 1) := by decide +kernel
theorem dX10_findEyes_18 : decode cX10_findEyes 18 = .ok (.iload_n 1, 1) := by decide +kernel
theorem dX10_findEyes_19 : decode cX10_findEyes 19 = .ok (.invokevirtual 222, 3) := by decide +kernel
theorem dX10_findEyes_22 : decode cX10_findEyes 22 = .ok (.ifCond .ne 31, 3) := by decide +kernel
theorem dX10_findEyes_25 : decode cX10_findEyes 25 = .ok (.aload_n 0, 1) := by decide +kernel
theorem dX10_findEyes_26 : decode cX10_findEyes 26 = .ok (.iload_n 1, 1) := by decide +kernel
theorem dX10_findEyes_27 : decode cX10_findEyes 27 = .ok (.invokevirtual 228, 3) := by decide +kernel
theorem dX10_findEyes_30 : decode cX10_findEyes 30 = .ok (.ifCond .eq 23, 3) := by decide +kernel
theorem dX10_findEyes_33 : decode cX10_findEyes 33 = .ok (.aload_n 0, 1) := by decide +kernel
theorem dX10_findEyes_34 : decode cX10_findEyes 34 = .ok (.getfield 38, 3) := by decide +kernel
theorem dX10_findEyes_37 : decode cX10_findEyes 37 = .ok (.aload_n 0, 1) := by decide +kernel
theorem dX10_findEyes_38 : decode cX10_findEyes 38 = .ok (.getfield 273, 3) := by decide +kernel
theorem dX10_findEyes_41 : decode cX10_findEyes 41 = .ok (.iload_n 1, 1) := by decide +kernel
theorem dX10_findEyes_42 : decode cX10_findEyes 42 = .ok (.iastore, 1) := by decide +kernel
theorem dX10_findEyes_43 : decode cX10_findEyes 43 = .ok (.aload_n 0, 1) := by decide +kernel
theorem dX10_findEyes_44 : decode cX10_findEyes 44 = .ok (.dup, 1) := by decide +kernel
theorem dX10_findEyes_45 : decode cX10_findEyes 45 = .ok (.getfield 273, 3) := by decide +kernel
theorem dX10_findEyes_48 : decode cX10_findEyes 48 = .ok (.iconst 1, 1) := by decide +kernel
theorem dX10_findEyes_49 : decode cX10_findEyes 49 = .ok (.iadd, 1) := by decide +kernel
theorem dX10_findEyes_50 : decode cX10_findEyes 50 = .ok (.putfield 273, 3) := by decide +kernel
theorem dX10_findEyes_53 : decode cX10_findEyes 53 = .ok (.iinc 1 1, 3) := by decide +kernel
theorem dX10_findEyes_56 : decode cX10_findEyes 56 = .ok (.goto (-49), 3) := by decide +kernel
theorem dX10_findEyes_59 : decode cX10_findEyes 59 = .ok (.return_, 1) := by decide +kernel
theorem dX10_lacksThen_0 : decode cX10_lacksThen 0 = .ok (.iload_n 1, 1) := by decide +kernel
theorem dX10_lacksThen_1 : decode cX10_lacksThen 1 = .ok (.istore_n 3, 1) := by decide +kernel
theorem dX10_lacksThen_2 : decode cX10_lacksThen 2 = .ok (.iconst 0, 1) := by decide +kernel
theorem dX10_lacksThen_3 : decode cX10_lacksThen 3 = .ok (.istore 4, 2) := by decide +kernel
theorem dX10_lacksThen_5 : decode cX10_lacksThen 5 = .ok (.iconst 1, 1) := by decide +kernel
theorem dX10_lacksThen_6 : decode cX10_lacksThen 6 = .ok (.istore 5, 2) := by decide +kernel
theorem dX10_lacksThen_8 : decode cX10_lacksThen 8 = .ok (.iconst 0, 1) := by decide +kernel
theorem dX10_lacksThen_9 : decode cX10_lacksThen 9 = .ok (.istore 6, 2) := by decide +kernel
theorem dX10_lacksThen_11 : decode cX10_lacksThen 11 = .ok (.iload 6, 2) := by decide +kernel
theorem dX10_lacksThen_13 : decode cX10_lacksThen 13 = .ok (.aload_n 0, 1) := by decide +kernel
theorem dX10_lacksThen_14 : decode cX10_lacksThen 14 = .ok (.getfield 273, 3) := by decide +kernel
theorem dX10_lacksThen_17 : decode cX10_lacksThen 17 = .ok (.if_icmp .ge 68, 3) := by decide +kernel
theorem dX10_lacksThen_20 : decode cX10_lacksThen 20 = .ok (.iload_n 3, 1) := by decide +kernel
theorem dX10_lacksThen_21 : decode cX10_lacksThen 21 = .ok (.aload_n 0, 1) := by decide +kernel
theorem dX10_lacksThen_22 : decode cX10_lacksThen 22 = .ok (.getfield 276, 3) := by decide +kernel
theorem dX10_lacksThen_25 : decode cX10_lacksThen 25 = .ok (.irem, 1) := by decide +kernel
theorem dX10_lacksThen_26 : decode cX10_lacksThen 26 = .ok (.istore 7, 2) := by decide +kernel
theorem dX10_lacksThen_28 : decode cX10_lacksThen 28 = .ok (.iload 7, 2) := by decide +kernel
theorem dX10_lacksThen_30 : decode cX10_lacksThen 30 = .ok (.iload 7, 2) := by decide +kernel
theorem dX10_lacksThen_32 : decode cX10_lacksThen 32 = .ok (.ifCond .le 17, 3) := by decide +kernel
theorem dX10_lacksThen_35 : decode cX10_lacksThen 35 = .ok (.iload_n 2, 1) := by decide +kernel
theorem dX10_lacksThen_36 : decode cX10_lacksThen 36 = .ok (.aload_n 0, 1) := by decide +kernel
theorem dX10_lacksThen_37 : decode cX10_lacksThen 37 = .ok (.getfield 38, 3) := by decide +kernel
theorem dX10_lacksThen_40 : decode cX10_lacksThen 40 = .ok (.iload 6, 2) := by decide +kernel
theorem dX10_lacksThen_42 : decode cX10_lacksThen 42 = .ok (.iaload, 1) := by decide +kernel
theorem dX10_lacksThen_43 : decode cX10_lacksThen 43 = .ok (.ishr, 1) := by decide +kernel
theorem dX10_lacksThen_44 : decode cX10_lacksThen 44 = .ok (.iconst 1, 1) := by decide +kernel
theorem dX10_lacksThen_45 : decode cX10_lacksThen 45 = .ok (.iand, 1) := by decide +kernel
theorem dX10_lacksThen_46 : decode cX10_lacksThen 46 = .ok (.goto 4, 3) := by decide +kernel
theorem dX10_lacksThen_49 : decode cX10_lacksThen 49 = .ok (.iconst 0, 1) := by decide +kernel
theorem dX10_lacksThen_50 : decode cX10_lacksThen 50 = .ok (.isub, 1) := by decide +kernel
theorem dX10_lacksThen_51 : decode cX10_lacksThen 51 = .ok (.istore 7, 2) := by decide +kernel
theorem dX10_lacksThen_53 : decode cX10_lacksThen 53 = .ok (.iload 4, 2) := by decide +kernel
theorem dX10_lacksThen_55 : decode cX10_lacksThen 55 = .ok (.iload 5, 2) := by decide +kernel
theorem dX10_lacksThen_57 : decode cX10_lacksThen 57 = .ok (.iload 7, 2) := by decide +kernel
theorem dX10_lacksThen_59 : decode cX10_lacksThen 59 = .ok (.imul, 1) := by decide +kernel
theorem dX10_lacksThen_60 : decode cX10_lacksThen 60 = .ok (.iadd, 1) := by decide +kernel
theorem dX10_lacksThen_61 : decode cX10_lacksThen 61 = .ok (.istore 4, 2) := by decide +kernel
theorem dX10_lacksThen_63 : decode cX10_lacksThen 63 = .ok (.iload 5, 2) := by decide +kernel
theorem dX10_lacksThen_65 : decode cX10_lacksThen 65 = .ok (.aload_n 0, 1) := by decide +kernel
theorem dX10_lacksThen_66 : decode cX10_lacksThen 66 = .ok (.getfield 276, 3) := by decide +kernel
theorem dX10_lacksThen_69 : decode cX10_lacksThen 69 = .ok (.imul, 1) := by decide +kernel
theorem dX10_lacksThen_70 : decode cX10_lacksThen 70 = .ok (.istore 5, 2) := by decide +kernel
theorem dX10_lacksThen_72 : decode cX10_lacksThen 72 = .ok (.iload_n 3, 1) := by decide +kernel
theorem dX10_lacksThen_73 : decode cX10_lacksThen 73 = .ok (.aload_n 0, 1) := by decide +kernel
theorem dX10_lacksThen_74 : decode cX10_lacksThen 74 = .ok (.getfield 276, 3) := by decide +kernel
theorem dX10_lacksThen_77 : decode cX10_lacksThen 77 = .ok (.idiv, 1) := by decide +kernel
theorem dX10_lacksThen_78 : decode cX10_lacksThen 78 = .ok (.istore_n 3, 1) := by decide +kernel
theorem dX10_lacksThen_79 : decode cX10_lacksThen 79 = .ok (.iinc 6 1, 3) := by decide +kernel
theorem dX10_lacksThen_82 : decode cX10_lacksThen 82 = .ok (.goto (-71), 3) := by decide +kernel
theorem dX10_lacksThen_85 : decode cX10_lacksThen 85 = .ok (.iload 4, 2) := by decide +kernel
theorem dX10_lacksThen_87 : decode cX10_lacksThen 87 = .ok (.ireturn, 1) := by decide +kernel
theorem dX10_allLack_0 : decode cX10_allLack 0 = .ok (.iconst 0, 1) := by decide +kernel
theorem dX10_allLack_1 : decode cX10_allLack 1 = .ok (.istore_n 2, 1) := by decide +kernel
theorem dX10_allLack_2 : decode cX10_allLack 2 = .ok (.iconst 0, 1) := by decide +kernel
theorem dX10_allLack_3 : decode cX10_allLack 3 = .ok (.istore_n 3, 1) := by decide +kernel
theorem dX10_allLack_4 : decode cX10_allLack 4 = .ok (.iload_n 3, 1) := by decide +kernel
theorem dX10_allLack_5 : decode cX10_allLack 5 = .ok (.aload_n 0, 1) := by decide +kernel
theorem dX10_allLack_6 : decode cX10_allLack 6 = .ok (.getfield 273, 3) := by decide +kernel
theorem dX10_allLack_9 : decode cX10_allLack 9 = .ok (.if_icmp .ge 18, 3) := by decide +kernel
theorem dX10_allLack_12 : decode cX10_allLack 12 = .ok (.iload_n 2, 1) := by decide +kernel
theorem dX10_allLack_13 : decode cX10_allLack 13 = .ok (.aload_n 0, 1) := by decide +kernel
theorem dX10_allLack_14 : decode cX10_allLack 14 = .ok (.getfield 276, 3) := by decide +kernel
theorem dX10_allLack_17 : decode cX10_allLack 17 = .ok (.imul, 1) := by decide +kernel
theorem dX10_allLack_18 : decode cX10_allLack 18 = .ok (.iload_n 1, 1) := by decide +kernel
theorem dX10_allLack_19 : decode cX10_allLack 19 = .ok (.iadd, 1) := by decide +kernel
theorem dX10_allLack_20 : decode cX10_allLack 20 = .ok (.istore_n 2, 1) := by decide +kernel
theorem dX10_allLack_21 : decode cX10_allLack 21 = .ok (.iinc 3 1, 3) := by decide +kernel
theorem dX10_allLack_24 : decode cX10_allLack 24 = .ok (.goto (-20), 3) := by decide +kernel
theorem dX10_allLack_27 : decode cX10_allLack 27 = .ok (.iload_n 2, 1) := by decide +kernel
theorem dX10_allLack_28 : decode cX10_allLack 28 = .ok (.ireturn, 1) := by decide +kernel
theorem dX10_canRest_0 : decode cX10_canRest 0 = .ok (.aload_n 0, 1) := by decide +kernel
theorem dX10_canRest_1 : decode cX10_canRest 1 = .ok (.iload_n 2, 1) := by decide +kernel
theorem dX10_canRest_2 : decode cX10_canRest 2 = .ok (.iconst 1, 1) := by decide +kernel
theorem dX10_canRest_3 : decode cX10_canRest 3 = .ok (.iadd, 1) := by decide +kernel
theorem dX10_canRest_4 : decode cX10_canRest 4 = .ok (.putfield 276, 3) := by decide +kernel
theorem dX10_canRest_7 : decode cX10_canRest 7 = .ok (.aload_n 0, 1) := by decide +kernel
theorem dX10_canRest_8 : decode cX10_canRest 8 = .ok (.aload_n 0, 1) := by decide +kernel
theorem dX10_canRest_9 : decode cX10_canRest 9 = .ok (.getfield 276, 3) := by decide +kernel
theorem dX10_canRest_12 : decode cX10_canRest 12 = .ok (.aload_n 0, 1) := by decide +kernel
theorem dX10_canRest_13 : decode cX10_canRest 13 = .ok (.getfield 273, 3) := by decide +kernel
theorem dX10_canRest_16 : decode cX10_canRest 16 = .ok (.invokestatic 100, 3) := by decide +kernel
theorem dX10_canRest_19 : decode cX10_canRest 19 = .ok (.putfield 279, 3) := by decide +kernel
theorem dX10_canRest_22 : decode cX10_canRest 22 = .ok (.iconst 0, 1) := by decide +kernel
theorem dX10_canRest_23 : decode cX10_canRest 23 = .ok (.istore_n 3, 1) := by decide +kernel
theorem dX10_canRest_24 : decode cX10_canRest 24 = .ok (.iload_n 3, 1) := by decide +kernel
theorem dX10_canRest_25 : decode cX10_canRest 25 = .ok (.aload_n 0, 1) := by decide +kernel
theorem dX10_canRest_26 : decode cX10_canRest 26 = .ok (.getfield 279, 3) := by decide +kernel
theorem dX10_canRest_29 : decode cX10_canRest 29 = .ok (.if_icmp .ge 31, 3) := by decide +kernel
theorem dX10_canRest_32 : decode cX10_canRest 32 = .ok (.aload_n 0, 1) := by decide +kernel
theorem dX10_canRest_33 : decode cX10_canRest 33 = .ok (.getfield 44, 3) := by decide +kernel
theorem dX10_canRest_36 : decode cX10_canRest 36 = .ok (.iload_n 1, 1) := by decide +kernel
theorem dX10_canRest_37 : decode cX10_canRest 37 = .ok (.aload_n 0, 1) := by decide +kernel
theorem dX10_canRest_38 : decode cX10_canRest 38 = .ok (.getfield 279, 3) := by decide +kernel
theorem dX10_canRest_41 : decode cX10_canRest 41 = .ok (.imul, 1) := by decide +kernel
theorem dX10_canRest_42 : decode cX10_canRest 42 = .ok (.iload_n 3, 1) := by decide +kernel
theorem dX10_canRest_43 : decode cX10_canRest 43 = .ok (.iadd, 1) := by decide +kernel
theorem dX10_canRest_44 : decode cX10_canRest 44 = .ok (.iload_n 3, 1) := by decide +kernel
theorem dX10_canRest_45 : decode cX10_canRest 45 = .ok (.ifCond .ne 7, 3) := by decide +kernel
theorem dX10_canRest_48 : decode cX10_canRest 48 = .ok (.iconst 1, 1) := by decide +kernel
theorem dX10_canRest_49 : decode cX10_canRest 49 = .ok (.goto 4, 3) := by decide +kernel
theorem dX10_canRest_52 : decode cX10_canRest 52 = .ok (.iconst 0, 1) := by decide +kernel
theorem dX10_canRest_53 : decode cX10_canRest 53 = .ok (.bastore, 1) := by decide +kernel
theorem dX10_canRest_54 : decode cX10_canRest 54 = .ok (.iinc 3 1, 3) := by decide +kernel
theorem dX10_canRest_57 : decode cX10_canRest 57 = .ok (.goto (-33), 3) := by decide +kernel
theorem dX10_canRest_60 : decode cX10_canRest 60 = .ok (.iload_n 1, 1) := by decide +kernel
theorem dX10_canRest_61 : decode cX10_canRest 61 = .ok (.iconst 1, 1) := by decide +kernel
theorem dX10_canRest_62 : decode cX10_canRest 62 = .ok (.isub, 1) := by decide +kernel
theorem dX10_canRest_63 : decode cX10_canRest 63 = .ok (.istore_n 3, 1) := by decide +kernel
theorem dX10_canRest_64 : decode cX10_canRest 64 = .ok (.iload_n 3, 1) := by decide +kernel
theorem dX10_canRest_65 : decode cX10_canRest 65 = .ok (.ifCond .lt 158, 3) := by decide +kernel
theorem dX10_canRest_68 : decode cX10_canRest 68 = .ok (.iconst 0, 1) := by decide +kernel
theorem dX10_canRest_69 : decode cX10_canRest 69 = .ok (.istore 4, 2) := by decide +kernel
theorem dX10_canRest_71 : decode cX10_canRest 71 = .ok (.iload 4, 2) := by decide +kernel
theorem dX10_canRest_73 : decode cX10_canRest 73 = .ok (.aload_n 0, 1) := by decide +kernel
theorem dX10_canRest_74 : decode cX10_canRest 74 = .ok (.getfield 279, 3) := by decide +kernel
theorem dX10_canRest_77 : decode cX10_canRest 77 = .ok (.if_icmp .ge 24, 3) := by decide +kernel
theorem dX10_canRest_80 : decode cX10_canRest 80 = .ok (.aload_n 0, 1) := by decide +kernel
theorem dX10_canRest_81 : decode cX10_canRest 81 = .ok (.getfield 44, 3) := by decide +kernel
theorem dX10_canRest_84 : decode cX10_canRest 84 = .ok (.iload_n 3, 1) := by decide +kernel
theorem dX10_canRest_85 : decode cX10_canRest 85 = .ok (.aload_n 0, 1) := by decide +kernel
theorem dX10_canRest_86 : decode cX10_canRest 86 = .ok (.getfield 279, 3) := by decide +kernel
theorem dX10_canRest_89 : decode cX10_canRest 89 = .ok (.imul, 1) := by decide +kernel
theorem dX10_canRest_90 : decode cX10_canRest 90 = .ok (.iload 4, 2) := by decide +kernel
theorem dX10_canRest_92 : decode cX10_canRest 92 = .ok (.iadd, 1) := by decide +kernel
theorem dX10_canRest_93 : decode cX10_canRest 93 = .ok (.iconst 0, 1) := by decide +kernel
theorem dX10_canRest_94 : decode cX10_canRest 94 = .ok (.bastore, 1) := by decide +kernel
theorem dX10_canRest_95 : decode cX10_canRest 95 = .ok (.iinc 4 1, 3) := by decide +kernel
theorem dX10_canRest_98 : decode cX10_canRest 98 = .ok (.goto (-27), 3) := by decide +kernel
theorem dX10_canRest_101 : decode cX10_canRest 101 = .ok (.iconst 0, 1) := by decide +kernel
theorem dX10_canRest_102 : decode cX10_canRest 102 = .ok (.istore 4, 2) := by decide +kernel
theorem dX10_canRest_104 : decode cX10_canRest 104 = .ok (.iload 4, 2) := by decide +kernel
theorem dX10_canRest_106 : decode cX10_canRest 106 = .ok (.aload_n 0, 1) := by decide +kernel
theorem dX10_canRest_107 : decode cX10_canRest 107 = .ok (.getfield 104, 3) := by decide +kernel
theorem dX10_canRest_110 : decode cX10_canRest 110 = .ok (.if_icmp .ge 107, 3) := by decide +kernel
theorem dX10_canRest_113 : decode cX10_canRest 113 = .ok (.aload_n 0, 1) := by decide +kernel
theorem dX10_canRest_114 : decode cX10_canRest 114 = .ok (.iload 4, 2) := by decide +kernel
theorem dX10_canRest_116 : decode cX10_canRest 116 = .ok (.invokevirtual 238, 3) := by decide +kernel
theorem dX10_canRest_119 : decode cX10_canRest 119 = .ok (.istore 5, 2) := by decide +kernel
theorem dX10_canRest_121 : decode cX10_canRest 121 = .ok (.iconst 0, 1) := by decide +kernel
theorem dX10_canRest_122 : decode cX10_canRest 122 = .ok (.istore 6, 2) := by decide +kernel
theorem dX10_canRest_124 : decode cX10_canRest 124 = .ok (.iload 6, 2) := by decide +kernel
theorem dX10_canRest_126 : decode cX10_canRest 126 = .ok (.aload_n 0, 1) := by decide +kernel
theorem dX10_canRest_127 : decode cX10_canRest 127 = .ok (.getfield 279, 3) := by decide +kernel
theorem dX10_canRest_130 : decode cX10_canRest 130 = .ok (.if_icmp .ge 81, 3) := by decide +kernel
theorem dX10_canRest_133 : decode cX10_canRest 133 = .ok (.aload_n 0, 1) := by decide +kernel
theorem dX10_canRest_134 : decode cX10_canRest 134 = .ok (.getfield 41, 3) := by decide +kernel
theorem dX10_canRest_137 : decode cX10_canRest 137 = .ok (.bipush 27, 2) := by decide +kernel
theorem dX10_canRest_139 : decode cX10_canRest 139 = .ok (.iload_n 3, 1) := by decide +kernel
theorem dX10_canRest_140 : decode cX10_canRest 140 = .ok (.imul, 1) := by decide +kernel
theorem dX10_canRest_141 : decode cX10_canRest 141 = .ok (.iload 4, 2) := by decide +kernel
theorem dX10_canRest_143 : decode cX10_canRest 143 = .ok (.iadd, 1) := by decide +kernel
theorem dX10_canRest_144 : decode cX10_canRest 144 = .ok (.baload, 1) := by decide +kernel
theorem dX10_canRest_145 : decode cX10_canRest 145 = .ok (.ifCond .eq 66, 3) := by decide +kernel
theorem dX10_canRest_148 : decode cX10_canRest 148 = .ok (.aload_n 0, 1) := by decide +kernel
theorem dX10_canRest_149 : decode cX10_canRest 149 = .ok (.getfield 44, 3) := by decide +kernel
theorem dX10_canRest_152 : decode cX10_canRest 152 = .ok (.iload_n 3, 1) := by decide +kernel
theorem dX10_canRest_153 : decode cX10_canRest 153 = .ok (.aload_n 0, 1) := by decide +kernel
theorem dX10_canRest_154 : decode cX10_canRest 154 = .ok (.getfield 279, 3) := by decide +kernel
theorem dX10_canRest_157 : decode cX10_canRest 157 = .ok (.imul, 1) := by decide +kernel
theorem dX10_canRest_158 : decode cX10_canRest 158 = .ok (.iload 6, 2) := by decide +kernel
theorem dX10_canRest_160 : decode cX10_canRest 160 = .ok (.iadd, 1) := by decide +kernel
theorem dX10_canRest_161 : decode cX10_canRest 161 = .ok (.baload, 1) := by decide +kernel
theorem dX10_canRest_162 : decode cX10_canRest 162 = .ok (.ifCond .ne 43, 3) := by decide +kernel
theorem dX10_canRest_165 : decode cX10_canRest 165 = .ok (.aload_n 0, 1) := by decide +kernel
theorem dX10_canRest_166 : decode cX10_canRest 166 = .ok (.getfield 44, 3) := by decide +kernel
theorem dX10_canRest_169 : decode cX10_canRest 169 = .ok (.iload_n 3, 1) := by decide +kernel
theorem dX10_canRest_170 : decode cX10_canRest 170 = .ok (.iconst 1, 1) := by decide +kernel
theorem dX10_canRest_171 : decode cX10_canRest 171 = .ok (.iadd, 1) := by decide +kernel
theorem dX10_canRest_172 : decode cX10_canRest 172 = .ok (.aload_n 0, 1) := by decide +kernel
theorem dX10_canRest_173 : decode cX10_canRest 173 = .ok (.getfield 279, 3) := by decide +kernel
theorem dX10_canRest_176 : decode cX10_canRest 176 = .ok (.imul, 1) := by decide +kernel
theorem dX10_canRest_177 : decode cX10_canRest 177 = .ok (.aload_n 0, 1) := by decide +kernel
theorem dX10_canRest_178 : decode cX10_canRest 178 = .ok (.iload 6, 2) := by decide +kernel
theorem dX10_canRest_180 : decode cX10_canRest 180 = .ok (.iload 5, 2) := by decide +kernel
theorem dX10_canRest_182 : decode cX10_canRest 182 = .ok (.invokevirtual 282, 3) := by decide +kernel
theorem dX10_canRest_185 : decode cX10_canRest 185 = .ok (.iadd, 1) := by decide +kernel
theorem dX10_canRest_186 : decode cX10_canRest 186 = .ok (.baload, 1) := by decide +kernel
theorem dX10_canRest_187 : decode cX10_canRest 187 = .ok (.ifCond .eq 18, 3) := by decide +kernel
theorem dX10_canRest_190 : decode cX10_canRest 190 = .ok (.aload_n 0, 1) := by decide +kernel
theorem dX10_canRest_191 : decode cX10_canRest 191 = .ok (.getfield 44, 3) := by decide +kernel
theorem dX10_canRest_194 : decode cX10_canRest 194 = .ok (.iload_n 3, 1) := by decide +kernel
theorem dX10_canRest_195 : decode cX10_canRest 195 = .ok (.aload_n 0, 1) := by decide +kernel
theorem dX10_canRest_196 : decode cX10_canRest 196 = .ok (.getfield 279, 3) := by decide +kernel
theorem dX10_canRest_199 : decode cX10_canRest 199 = .ok (.imul, 1) := by decide +kernel
theorem dX10_canRest_200 : decode cX10_canRest 200 = .ok (.iload 6, 2) := by decide +kernel
theorem dX10_canRest_202 : decode cX10_canRest 202 = .ok (.iadd, 1) := by decide +kernel
theorem dX10_canRest_203 : decode cX10_canRest 203 = .ok (.iconst 1, 1) := by decide +kernel
theorem dX10_canRest_204 : decode cX10_canRest 204 = .ok (.bastore, 1) := by decide +kernel
theorem dX10_canRest_205 : decode cX10_canRest 205 = .ok (.iinc 6 1, 3) := by decide +kernel
theorem dX10_canRest_208 : decode cX10_canRest 208 = .ok (.goto (-84), 3) := by decide +kernel
theorem dX10_canRest_211 : decode cX10_canRest 211 = .ok (.iinc 4 1, 3) := by decide +kernel
theorem dX10_canRest_214 : decode cX10_canRest 214 = .ok (.goto (-110), 3) := by decide +kernel
theorem dX10_canRest_217 : decode cX10_canRest 217 = .ok (.iinc 3 (-1), 3) := by decide +kernel
theorem dX10_canRest_220 : decode cX10_canRest 220 = .ok (.goto (-156), 3) := by decide +kernel
theorem dX10_canRest_223 : decode cX10_canRest 223 = .ok (.aload_n 0, 1) := by decide +kernel
theorem dX10_canRest_224 : decode cX10_canRest 224 = .ok (.getfield 44, 3) := by decide +kernel
theorem dX10_canRest_227 : decode cX10_canRest 227 = .ok (.aload_n 0, 1) := by decide +kernel
theorem dX10_canRest_228 : decode cX10_canRest 228 = .ok (.iload_n 2, 1) := by decide +kernel
theorem dX10_canRest_229 : decode cX10_canRest 229 = .ok (.invokevirtual 285, 3) := by decide +kernel
theorem dX10_canRest_232 : decode cX10_canRest 232 = .ok (.baload, 1) := by decide +kernel
theorem dX10_canRest_233 : decode cX10_canRest 233 = .ok (.ireturn, 1) := by decide +kernel
theorem dX10_rowAt_0 : decode cX10_rowAt 0 = .ok (.aload_n 0, 1) := by decide +kernel
theorem dX10_rowAt_1 : decode cX10_rowAt 1 = .ok (.iload_n 1, 1) := by decide +kernel
theorem dX10_rowAt_2 : decode cX10_rowAt 2 = .ok (.invokevirtual 285, 3) := by decide +kernel
theorem dX10_rowAt_5 : decode cX10_rowAt 5 = .ok (.istore_n 3, 1) := by decide +kernel
theorem dX10_rowAt_6 : decode cX10_rowAt 6 = .ok (.iconst 0, 1) := by decide +kernel
theorem dX10_rowAt_7 : decode cX10_rowAt 7 = .ok (.istore 4, 2) := by decide +kernel
theorem dX10_rowAt_9 : decode cX10_rowAt 9 = .ok (.iconst 0, 1) := by decide +kernel
theorem dX10_rowAt_10 : decode cX10_rowAt 10 = .ok (.istore 5, 2) := by decide +kernel
theorem dX10_rowAt_12 : decode cX10_rowAt 12 = .ok (.iload 5, 2) := by decide +kernel
theorem dX10_rowAt_14 : decode cX10_rowAt 14 = .ok (.iload_n 2, 1) := by decide +kernel
theorem dX10_rowAt_15 : decode cX10_rowAt 15 = .ok (.if_icmp .gt 75, 3) := by decide +kernel
theorem dX10_rowAt_18 : decode cX10_rowAt 18 = .ok (.iconst 0, 1) := by decide +kernel
theorem dX10_rowAt_19 : decode cX10_rowAt 19 = .ok (.istore 4, 2) := by decide +kernel
theorem dX10_rowAt_21 : decode cX10_rowAt 21 = .ok (.aload_n 0, 1) := by decide +kernel
theorem dX10_rowAt_22 : decode cX10_rowAt 22 = .ok (.getfield 41, 3) := by decide +kernel
theorem dX10_rowAt_25 : decode cX10_rowAt 25 = .ok (.bipush 27, 2) := by decide +kernel
theorem dX10_rowAt_27 : decode cX10_rowAt 27 = .ok (.iload 5, 2) := by decide +kernel
theorem dX10_rowAt_29 : decode cX10_rowAt 29 = .ok (.imul, 1) := by decide +kernel
theorem dX10_rowAt_30 : decode cX10_rowAt 30 = .ok (.iload 4, 2) := by decide +kernel
theorem dX10_rowAt_32 : decode cX10_rowAt 32 = .ok (.iadd, 1) := by decide +kernel
theorem dX10_rowAt_33 : decode cX10_rowAt 33 = .ok (.baload, 1) := by decide +kernel
theorem dX10_rowAt_34 : decode cX10_rowAt 34 = .ok (.ifCond .eq 32, 3) := by decide +kernel
theorem dX10_rowAt_37 : decode cX10_rowAt 37 = .ok (.aload_n 0, 1) := by decide +kernel
theorem dX10_rowAt_38 : decode cX10_rowAt 38 = .ok (.getfield 44, 3) := by decide +kernel
theorem dX10_rowAt_41 : decode cX10_rowAt 41 = .ok (.iload 5, 2) := by decide +kernel
theorem dX10_rowAt_43 : decode cX10_rowAt 43 = .ok (.iconst 1, 1) := by decide +kernel
theorem dX10_rowAt_44 : decode cX10_rowAt 44 = .ok (.iadd, 1) := by decide +kernel
theorem dX10_rowAt_45 : decode cX10_rowAt 45 = .ok (.aload_n 0, 1) := by decide +kernel
theorem dX10_rowAt_46 : decode cX10_rowAt 46 = .ok (.getfield 279, 3) := by decide +kernel
theorem dX10_rowAt_49 : decode cX10_rowAt 49 = .ok (.imul, 1) := by decide +kernel
theorem dX10_rowAt_50 : decode cX10_rowAt 50 = .ok (.aload_n 0, 1) := by decide +kernel
theorem dX10_rowAt_51 : decode cX10_rowAt 51 = .ok (.iload_n 3, 1) := by decide +kernel
theorem dX10_rowAt_52 : decode cX10_rowAt 52 = .ok (.aload_n 0, 1) := by decide +kernel
theorem dX10_rowAt_53 : decode cX10_rowAt 53 = .ok (.iload 4, 2) := by decide +kernel
theorem dX10_rowAt_55 : decode cX10_rowAt 55 = .ok (.invokevirtual 238, 3) := by decide +kernel
theorem dX10_rowAt_58 : decode cX10_rowAt 58 = .ok (.invokevirtual 282, 3) := by decide +kernel
theorem dX10_rowAt_61 : decode cX10_rowAt 61 = .ok (.iadd, 1) := by decide +kernel
theorem dX10_rowAt_62 : decode cX10_rowAt 62 = .ok (.baload, 1) := by decide +kernel
theorem dX10_rowAt_63 : decode cX10_rowAt 63 = .ok (.ifCond .ne 9, 3) := by decide +kernel
theorem dX10_rowAt_66 : decode cX10_rowAt 66 = .ok (.iinc 4 1, 3) := by decide +kernel
theorem dX10_rowAt_69 : decode cX10_rowAt 69 = .ok (.goto (-48), 3) := by decide +kernel
theorem dX10_rowAt_72 : decode cX10_rowAt 72 = .ok (.aload_n 0, 1) := by decide +kernel
theorem dX10_rowAt_73 : decode cX10_rowAt 73 = .ok (.iload_n 3, 1) := by decide +kernel
theorem dX10_rowAt_74 : decode cX10_rowAt 74 = .ok (.aload_n 0, 1) := by decide +kernel
theorem dX10_rowAt_75 : decode cX10_rowAt 75 = .ok (.iload 4, 2) := by decide +kernel
theorem dX10_rowAt_77 : decode cX10_rowAt 77 = .ok (.invokevirtual 238, 3) := by decide +kernel
theorem dX10_rowAt_80 : decode cX10_rowAt 80 = .ok (.invokevirtual 282, 3) := by decide +kernel
theorem dX10_rowAt_83 : decode cX10_rowAt 83 = .ok (.istore_n 3, 1) := by decide +kernel
theorem dX10_rowAt_84 : decode cX10_rowAt 84 = .ok (.iinc 5 1, 3) := by decide +kernel
theorem dX10_rowAt_87 : decode cX10_rowAt 87 = .ok (.goto (-75), 3) := by decide +kernel
theorem dX10_rowAt_90 : decode cX10_rowAt 90 = .ok (.iload 4, 2) := by decide +kernel
theorem dX10_rowAt_92 : decode cX10_rowAt 92 = .ok (.ireturn, 1) := by decide +kernel
theorem dX10_mostTwo_0 : decode cX10_mostTwo 0 = .ok (.iconst 0, 1) := by decide +kernel
theorem dX10_mostTwo_1 : decode cX10_mostTwo 1 = .ok (.istore_n 1, 1) := by decide +kernel
theorem dX10_mostTwo_2 : decode cX10_mostTwo 2 = .ok (.iconst 1, 1) := by decide +kernel
theorem dX10_mostTwo_3 : decode cX10_mostTwo 3 = .ok (.istore_n 2, 1) := by decide +kernel
theorem dX10_mostTwo_4 : decode cX10_mostTwo 4 = .ok (.iload_n 2, 1) := by decide +kernel
theorem dX10_mostTwo_5 : decode cX10_mostTwo 5 = .ok (.aload_n 0, 1) := by decide +kernel
theorem dX10_mostTwo_6 : decode cX10_mostTwo 6 = .ok (.getfield 273, 3) := by decide +kernel
theorem dX10_mostTwo_9 : decode cX10_mostTwo 9 = .ok (.if_icmp .ge 40, 3) := by decide +kernel
theorem dX10_mostTwo_12 : decode cX10_mostTwo 12 = .ok (.iload_n 1, 1) := by decide +kernel
theorem dX10_mostTwo_13 : decode cX10_mostTwo 13 = .ok (.ifCond .ne 24, 3) := by decide +kernel
theorem dX10_mostTwo_16 : decode cX10_mostTwo 16 = .ok (.aload_n 0, 1) := by decide +kernel
theorem dX10_mostTwo_17 : decode cX10_mostTwo 17 = .ok (.getfield 38, 3) := by decide +kernel
theorem dX10_mostTwo_20 : decode cX10_mostTwo 20 = .ok (.iload_n 2, 1) := by decide +kernel
theorem dX10_mostTwo_21 : decode cX10_mostTwo 21 = .ok (.iaload, 1) := by decide +kernel
theorem dX10_mostTwo_22 : decode cX10_mostTwo 22 = .ok (.iconst 2, 1) := by decide +kernel
theorem dX10_mostTwo_23 : decode cX10_mostTwo 23 = .ok (.idiv, 1) := by decide +kernel
theorem dX10_mostTwo_24 : decode cX10_mostTwo 24 = .ok (.aload_n 0, 1) := by decide +kernel
theorem dX10_mostTwo_25 : decode cX10_mostTwo 25 = .ok (.getfield 38, 3) := by decide +kernel
theorem dX10_mostTwo_28 : decode cX10_mostTwo 28 = .ok (.iload_n 2, 1) := by decide +kernel
theorem dX10_mostTwo_29 : decode cX10_mostTwo 29 = .ok (.iconst 1, 1) := by decide +kernel
theorem dX10_mostTwo_30 : decode cX10_mostTwo 30 = .ok (.isub, 1) := by decide +kernel
theorem dX10_mostTwo_31 : decode cX10_mostTwo 31 = .ok (.iaload, 1) := by decide +kernel
theorem dX10_mostTwo_32 : decode cX10_mostTwo 32 = .ok (.iconst 2, 1) := by decide +kernel
theorem dX10_mostTwo_33 : decode cX10_mostTwo 33 = .ok (.idiv, 1) := by decide +kernel
theorem dX10_mostTwo_34 : decode cX10_mostTwo 34 = .ok (.if_icmp .ne 7, 3) := by decide +kernel
theorem dX10_mostTwo_37 : decode cX10_mostTwo 37 = .ok (.iconst 1, 1) := by decide +kernel
theorem dX10_mostTwo_38 : decode cX10_mostTwo 38 = .ok (.goto 4, 3) := by decide +kernel
theorem dX10_mostTwo_41 : decode cX10_mostTwo 41 = .ok (.iconst 0, 1) := by decide +kernel
theorem dX10_mostTwo_42 : decode cX10_mostTwo 42 = .ok (.istore_n 1, 1) := by decide +kernel
theorem dX10_mostTwo_43 : decode cX10_mostTwo 43 = .ok (.iinc 2 1, 3) := by decide +kernel
theorem dX10_mostTwo_46 : decode cX10_mostTwo 46 = .ok (.goto (-42), 3) := by decide +kernel
theorem dX10_mostTwo_49 : decode cX10_mostTwo 49 = .ok (.iload_n 1, 1) := by decide +kernel
theorem dX10_mostTwo_50 : decode cX10_mostTwo 50 = .ok (.ifCond .eq 12, 3) := by decide +kernel
theorem dX10_mostTwo_53 : decode cX10_mostTwo 53 = .ok (.aload_n 0, 1) := by decide +kernel
theorem dX10_mostTwo_54 : decode cX10_mostTwo 54 = .ok (.getfield 97, 3) := by decide +kernel
theorem dX10_mostTwo_57 : decode cX10_mostTwo 57 = .ok (.iconst 2, 1) := by decide +kernel
theorem dX10_mostTwo_58 : decode cX10_mostTwo 58 = .ok (.idiv, 1) := by decide +kernel
theorem dX10_mostTwo_59 : decode cX10_mostTwo 59 = .ok (.goto 7, 3) := by decide +kernel
theorem dX10_mostTwo_62 : decode cX10_mostTwo 62 = .ok (.aload_n 0, 1) := by decide +kernel
theorem dX10_mostTwo_63 : decode cX10_mostTwo 63 = .ok (.getfield 97, 3) := by decide +kernel
theorem dX10_mostTwo_66 : decode cX10_mostTwo 66 = .ok (.ireturn, 1) := by decide +kernel
theorem dX10_isCalm_0 : decode cX10_isCalm 0 = .ok (.iconst 1, 1) := by decide +kernel
theorem dX10_isCalm_1 : decode cX10_isCalm 1 = .ok (.istore_n 2, 1) := by decide +kernel
theorem dX10_isCalm_2 : decode cX10_isCalm 2 = .ok (.iconst 0, 1) := by decide +kernel
theorem dX10_isCalm_3 : decode cX10_isCalm 3 = .ok (.istore_n 3, 1) := by decide +kernel
theorem dX10_isCalm_4 : decode cX10_isCalm 4 = .ok (.iload_n 3, 1) := by decide +kernel
theorem dX10_isCalm_5 : decode cX10_isCalm 5 = .ok (.iconst 4, 1) := by decide +kernel
theorem dX10_isCalm_6 : decode cX10_isCalm 6 = .ok (.if_icmp .ge 43, 3) := by decide +kernel
theorem dX10_isCalm_9 : decode cX10_isCalm 9 = .ok (.iload_n 2, 1) := by decide +kernel
theorem dX10_isCalm_10 : decode cX10_isCalm 10 = .ok (.ifCond .eq 31, 3) := by decide +kernel
theorem dX10_isCalm_13 : decode cX10_isCalm 13 = .ok (.aload_n 0, 1) := by decide +kernel
theorem dX10_isCalm_14 : decode cX10_isCalm 14 = .ok (.iload_n 3, 1) := by decide +kernel
theorem dX10_isCalm_15 : decode cX10_isCalm 15 = .ok (.aload_n 0, 1) := by decide +kernel
theorem dX10_isCalm_16 : decode cX10_isCalm 16 = .ok (.iload_n 1, 1) := by decide +kernel
theorem dX10_isCalm_17 : decode cX10_isCalm 17 = .ok (.invokevirtual 238, 3) := by decide +kernel
theorem dX10_isCalm_20 : decode cX10_isCalm 20 = .ok (.invokevirtual 235, 3) := by decide +kernel
theorem dX10_isCalm_23 : decode cX10_isCalm 23 = .ok (.iconst 2, 1) := by decide +kernel
theorem dX10_isCalm_24 : decode cX10_isCalm 24 = .ok (.aload_n 0, 1) := by decide +kernel
theorem dX10_isCalm_25 : decode cX10_isCalm 25 = .ok (.getfield 7, 3) := by decide +kernel
theorem dX10_isCalm_28 : decode cX10_isCalm 28 = .ok (.bipush 9, 2) := by decide +kernel
theorem dX10_isCalm_30 : decode cX10_isCalm 30 = .ok (.iload_n 3, 1) := by decide +kernel
theorem dX10_isCalm_31 : decode cX10_isCalm 31 = .ok (.iadd, 1) := by decide +kernel
theorem dX10_isCalm_32 : decode cX10_isCalm 32 = .ok (.iaload, 1) := by decide +kernel
theorem dX10_isCalm_33 : decode cX10_isCalm 33 = .ok (.imul, 1) := by decide +kernel
theorem dX10_isCalm_34 : decode cX10_isCalm 34 = .ok (.if_icmp .lt 7, 3) := by decide +kernel
theorem dX10_isCalm_37 : decode cX10_isCalm 37 = .ok (.iconst 1, 1) := by decide +kernel
theorem dX10_isCalm_38 : decode cX10_isCalm 38 = .ok (.goto 4, 3) := by decide +kernel
theorem dX10_isCalm_41 : decode cX10_isCalm 41 = .ok (.iconst 0, 1) := by decide +kernel
theorem dX10_isCalm_42 : decode cX10_isCalm 42 = .ok (.istore_n 2, 1) := by decide +kernel
theorem dX10_isCalm_43 : decode cX10_isCalm 43 = .ok (.iinc 3 1, 3) := by decide +kernel
theorem dX10_isCalm_46 : decode cX10_isCalm 46 = .ok (.goto (-42), 3) := by decide +kernel
theorem dX10_isCalm_49 : decode cX10_isCalm 49 = .ok (.iload_n 2, 1) := by decide +kernel
theorem dX10_isCalm_50 : decode cX10_isCalm 50 = .ok (.ireturn, 1) := by decide +kernel
theorem dX10_round_0 : decode cX10_round 0 = .ok (.iload_n 1, 1) := by decide +kernel
theorem dX10_round_1 : decode cX10_round 1 = .ok (.ifCond .eq 19, 3) := by decide +kernel
theorem dX10_round_4 : decode cX10_round 4 = .ok (.iload_n 1, 1) := by decide +kernel
theorem dX10_round_5 : decode cX10_round 5 = .ok (.i2l, 1) := by decide +kernel
theorem dX10_round_6 : decode cX10_round 6 = .ok (.ldc2_w 288, 3) := by decide +kernel
theorem dX10_round_9 : decode cX10_round 9 = .ok (.ldc2_w 290, 3) := by decide +kernel
theorem dX10_round_12 : decode cX10_round 12 = .ok (.invokestatic 112, 3) := by decide +kernel
theorem dX10_round_15 : decode cX10_round 15 = .ok (.ifCond .ne 5, 3) := by decide +kernel
theorem dX10_round_18 : decode cX10_round 18 = .ok (.iconst (-1), 1) := by decide +kernel
theorem dX10_round_19 : decode cX10_round 19 = .ok (.ireturn, 1) := by decide +kernel
theorem dX10_round_20 : decode cX10_round 20 = .ok (.aload_n 0, 1) := by decide +kernel
theorem dX10_round_21 : decode cX10_round 21 = .ok (.getfield 94, 3) := by decide +kernel
theorem dX10_round_24 : decode cX10_round 24 = .ok (.ifCond .ne 6, 3) := by decide +kernel
theorem dX10_round_27 : decode cX10_round 27 = .ok (.bipush (-2), 2) := by decide +kernel
theorem dX10_round_29 : decode cX10_round 29 = .ok (.ireturn, 1) := by decide +kernel
theorem dX10_round_30 : decode cX10_round 30 = .ok (.aload_n 0, 1) := by decide +kernel
theorem dX10_round_31 : decode cX10_round 31 = .ok (.invokevirtual 292, 3) := by decide +kernel
theorem dX10_round_34 : decode cX10_round 34 = .ok (.iconst 1, 1) := by decide +kernel
theorem dX10_round_35 : decode cX10_round 35 = .ok (.istore_n 2, 1) := by decide +kernel
theorem dX10_round_36 : decode cX10_round 36 = .ok (.iload_n 2, 1) := by decide +kernel
theorem dX10_round_37 : decode cX10_round 37 = .ok (.iconst 3, 1) := by decide +kernel
theorem dX10_round_38 : decode cX10_round 38 = .ok (.if_icmp .gt 98, 3) := by decide +kernel
theorem dX10_round_41 : decode cX10_round 41 = .ok (.iconst 0, 1) := by decide +kernel
theorem dX10_round_42 : decode cX10_round 42 = .ok (.istore_n 3, 1) := by decide +kernel
theorem dX10_round_43 : decode cX10_round 43 = .ok (.iload_n 3, 1) := by decide +kernel
theorem dX10_round_44 : decode cX10_round 44 = .ok (.iload_n 2, 1) := by decide +kernel
theorem dX10_round_45 : decode cX10_round 45 = .ok (.if_icmp .ge 45, 3) := by decide +kernel
theorem dX10_round_48 : decode cX10_round 48 = .ok (.iconst 0, 1) := by decide +kernel
theorem dX10_round_49 : decode cX10_round 49 = .ok (.istore 4, 2) := by decide +kernel
theorem dX10_round_51 : decode cX10_round 51 = .ok (.iload 4, 2) := by decide +kernel
theorem dX10_round_53 : decode cX10_round 53 = .ok (.aload_n 0, 1) := by decide +kernel
theorem dX10_round_54 : decode cX10_round 54 = .ok (.getfield 104, 3) := by decide +kernel
theorem dX10_round_57 : decode cX10_round 57 = .ok (.if_icmp .ge 27, 3) := by decide +kernel
theorem dX10_round_60 : decode cX10_round 60 = .ok (.aload_n 0, 1) := by decide +kernel
theorem dX10_round_61 : decode cX10_round 61 = .ok (.getfield 41, 3) := by decide +kernel
theorem dX10_round_64 : decode cX10_round 64 = .ok (.bipush 27, 2) := by decide +kernel
theorem dX10_round_66 : decode cX10_round 66 = .ok (.iload_n 3, 1) := by decide +kernel
theorem dX10_round_67 : decode cX10_round 67 = .ok (.imul, 1) := by decide +kernel
theorem dX10_round_68 : decode cX10_round 68 = .ok (.iload 4, 2) := by decide +kernel
theorem dX10_round_70 : decode cX10_round 70 = .ok (.iadd, 1) := by decide +kernel
theorem dX10_round_71 : decode cX10_round 71 = .ok (.aload_n 0, 1) := by decide +kernel
theorem dX10_round_72 : decode cX10_round 72 = .ok (.iload 4, 2) := by decide +kernel
theorem dX10_round_74 : decode cX10_round 74 = .ok (.invokevirtual 295, 3) := by decide +kernel
theorem dX10_round_77 : decode cX10_round 77 = .ok (.bastore, 1) := by decide +kernel
theorem dX10_round_78 : decode cX10_round 78 = .ok (.iinc 4 1, 3) := by decide +kernel
theorem dX10_round_81 : decode cX10_round 81 = .ok (.goto (-30), 3) := by decide +kernel
theorem dX10_round_84 : decode cX10_round 84 = .ok (.iinc 3 1, 3) := by decide +kernel
theorem dX10_round_87 : decode cX10_round 87 = .ok (.goto (-44), 3) := by decide +kernel
theorem dX10_round_90 : decode cX10_round 90 = .ok (.aload_n 0, 1) := by decide +kernel
theorem dX10_round_91 : decode cX10_round 91 = .ok (.iload_n 2, 1) := by decide +kernel
theorem dX10_round_92 : decode cX10_round 92 = .ok (.iconst 1, 1) := by decide +kernel
theorem dX10_round_93 : decode cX10_round 93 = .ok (.invokevirtual 298, 3) := by decide +kernel
theorem dX10_round_96 : decode cX10_round 96 = .ok (.ifCond .eq 34, 3) := by decide +kernel
theorem dX10_round_99 : decode cX10_round 99 = .ok (.iload_n 1, 1) := by decide +kernel
theorem dX10_round_100 : decode cX10_round 100 = .ok (.ifCond .ne 7, 3) := by decide +kernel
theorem dX10_round_103 : decode cX10_round 103 = .ok (.iload_n 2, 1) := by decide +kernel
theorem dX10_round_104 : decode cX10_round 104 = .ok (.goto 25, 3) := by decide +kernel
theorem dX10_round_107 : decode cX10_round 107 = .ok (.iload_n 1, 1) := by decide +kernel
theorem dX10_round_108 : decode cX10_round 108 = .ok (.bipush 10, 2) := by decide +kernel
theorem dX10_round_110 : decode cX10_round 110 = .ok (.isub, 1) := by decide +kernel
theorem dX10_round_111 : decode cX10_round 111 = .ok (.iload_n 2, 1) := by decide +kernel
theorem dX10_round_112 : decode cX10_round 112 = .ok (.if_icmp .ge 15, 3) := by decide +kernel
theorem dX10_round_115 : decode cX10_round 115 = .ok (.aload_n 0, 1) := by decide +kernel
theorem dX10_round_116 : decode cX10_round 116 = .ok (.iconst 1, 1) := by decide +kernel
theorem dX10_round_117 : decode cX10_round 117 = .ok (.iload_n 1, 1) := by decide +kernel
theorem dX10_round_118 : decode cX10_round 118 = .ok (.bipush 10, 2) := by decide +kernel
theorem dX10_round_120 : decode cX10_round 120 = .ok (.isub, 1) := by decide +kernel
theorem dX10_round_121 : decode cX10_round 121 = .ok (.invokevirtual 301, 3) := by decide +kernel
theorem dX10_round_124 : decode cX10_round 124 = .ok (.goto 5, 3) := by decide +kernel
theorem dX10_round_127 : decode cX10_round 127 = .ok (.bipush (-4), 2) := by decide +kernel
theorem dX10_round_129 : decode cX10_round 129 = .ok (.ireturn, 1) := by decide +kernel
theorem dX10_round_130 : decode cX10_round 130 = .ok (.iinc 2 1, 3) := by decide +kernel
theorem dX10_round_133 : decode cX10_round 133 = .ok (.goto (-97), 3) := by decide +kernel
theorem dX10_round_136 : decode cX10_round 136 = .ok (.bipush (-4), 2) := by decide +kernel
theorem dX10_round_138 : decode cX10_round 138 = .ok (.ireturn, 1) := by decide +kernel
theorem dX10_bestRest_0 : decode cX10_bestRest 0 = .ok (.aload_n 0, 1) := by decide +kernel
theorem dX10_bestRest_1 : decode cX10_bestRest 1 = .ok (.invokevirtual 292, 3) := by decide +kernel
theorem dX10_bestRest_4 : decode cX10_bestRest 4 = .ok (.iconst 0, 1) := by decide +kernel
theorem dX10_bestRest_5 : decode cX10_bestRest 5 = .ok (.istore_n 1, 1) := by decide +kernel
theorem dX10_bestRest_6 : decode cX10_bestRest 6 = .ok (.iload_n 1, 1) := by decide +kernel
theorem dX10_bestRest_7 : decode cX10_bestRest 7 = .ok (.aload_n 0, 1) := by decide +kernel
theorem dX10_bestRest_8 : decode cX10_bestRest 8 = .ok (.getfield 97, 3) := by decide +kernel
theorem dX10_bestRest_11 : decode cX10_bestRest 11 = .ok (.if_icmp .ge 90, 3) := by decide +kernel
theorem dX10_bestRest_14 : decode cX10_bestRest 14 = .ok (.iconst 0, 1) := by decide +kernel
theorem dX10_bestRest_15 : decode cX10_bestRest 15 = .ok (.istore_n 2, 1) := by decide +kernel
theorem dX10_bestRest_16 : decode cX10_bestRest 16 = .ok (.iload_n 2, 1) := by decide +kernel
theorem dX10_bestRest_17 : decode cX10_bestRest 17 = .ok (.aload_n 0, 1) := by decide +kernel
theorem dX10_bestRest_18 : decode cX10_bestRest 18 = .ok (.getfield 104, 3) := by decide +kernel
theorem dX10_bestRest_21 : decode cX10_bestRest 21 = .ok (.if_icmp .ge 74, 3) := by decide +kernel
theorem dX10_bestRest_24 : decode cX10_bestRest 24 = .ok (.aload_n 0, 1) := by decide +kernel
theorem dX10_bestRest_25 : decode cX10_bestRest 25 = .ok (.iload_n 2, 1) := by decide +kernel
theorem dX10_bestRest_26 : decode cX10_bestRest 26 = .ok (.invokevirtual 238, 3) := by decide +kernel
theorem dX10_bestRest_29 : decode cX10_bestRest 29 = .ok (.istore_n 3, 1) := by decide +kernel
theorem dX10_bestRest_30 : decode cX10_bestRest 30 = .ok (.aload_n 0, 1) := by decide +kernel
theorem dX10_bestRest_31 : decode cX10_bestRest 31 = .ok (.getfield 225, 3) := by decide +kernel
theorem dX10_bestRest_34 : decode cX10_bestRest 34 = .ok (.ifCond .le 22, 3) := by decide +kernel
theorem dX10_bestRest_37 : decode cX10_bestRest 37 = .ok (.iload_n 3, 1) := by decide +kernel
theorem dX10_bestRest_38 : decode cX10_bestRest 38 = .ok (.iconst 2, 1) := by decide +kernel
theorem dX10_bestRest_39 : decode cX10_bestRest 39 = .ok (.aload_n 0, 1) := by decide +kernel
theorem dX10_bestRest_40 : decode cX10_bestRest 40 = .ok (.getfield 225, 3) := by decide +kernel
theorem dX10_bestRest_43 : decode cX10_bestRest 43 = .ok (.iconst 1, 1) := by decide +kernel
theorem dX10_bestRest_44 : decode cX10_bestRest 44 = .ok (.isub, 1) := by decide +kernel
theorem dX10_bestRest_45 : decode cX10_bestRest 45 = .ok (.imul, 1) := by decide +kernel
theorem dX10_bestRest_46 : decode cX10_bestRest 46 = .ok (.ishr, 1) := by decide +kernel
theorem dX10_bestRest_47 : decode cX10_bestRest 47 = .ok (.iconst 3, 1) := by decide +kernel
theorem dX10_bestRest_48 : decode cX10_bestRest 48 = .ok (.iand, 1) := by decide +kernel
theorem dX10_bestRest_49 : decode cX10_bestRest 49 = .ok (.ifCond .eq 7, 3) := by decide +kernel
theorem dX10_bestRest_52 : decode cX10_bestRest 52 = .ok (.iconst 1, 1) := by decide +kernel
theorem dX10_bestRest_53 : decode cX10_bestRest 53 = .ok (.goto 4, 3) := by decide +kernel
theorem dX10_bestRest_56 : decode cX10_bestRest 56 = .ok (.iconst 0, 1) := by decide +kernel
theorem dX10_bestRest_57 : decode cX10_bestRest 57 = .ok (.istore 4, 2) := by decide +kernel
theorem dX10_bestRest_59 : decode cX10_bestRest 59 = .ok (.aload_n 0, 1) := by decide +kernel
theorem dX10_bestRest_60 : decode cX10_bestRest 60 = .ok (.getfield 41, 3) := by decide +kernel
theorem dX10_bestRest_63 : decode cX10_bestRest 63 = .ok (.bipush 27, 2) := by decide +kernel
theorem dX10_bestRest_65 : decode cX10_bestRest 65 = .ok (.iload_n 1, 1) := by decide +kernel
theorem dX10_bestRest_66 : decode cX10_bestRest 66 = .ok (.imul, 1) := by decide +kernel
theorem dX10_bestRest_67 : decode cX10_bestRest 67 = .ok (.iload_n 2, 1) := by decide +kernel
theorem dX10_bestRest_68 : decode cX10_bestRest 68 = .ok (.iadd, 1) := by decide +kernel
theorem dX10_bestRest_69 : decode cX10_bestRest 69 = .ok (.iload 4, 2) := by decide +kernel
theorem dX10_bestRest_71 : decode cX10_bestRest 71 = .ok (.ifCond .ne 16, 3) := by decide +kernel
theorem dX10_bestRest_74 : decode cX10_bestRest 74 = .ok (.aload_n 0, 1) := by decide +kernel
theorem dX10_bestRest_75 : decode cX10_bestRest 75 = .ok (.iload_n 1, 1) := by decide +kernel
theorem dX10_bestRest_76 : decode cX10_bestRest 76 = .ok (.iload_n 2, 1) := by decide +kernel
theorem dX10_bestRest_77 : decode cX10_bestRest 77 = .ok (.invokevirtual 244, 3) := by decide +kernel
theorem dX10_bestRest_80 : decode cX10_bestRest 80 = .ok (.ifCond .eq 7, 3) := by decide +kernel
theorem dX10_bestRest_83 : decode cX10_bestRest 83 = .ok (.iconst 1, 1) := by decide +kernel
theorem dX10_bestRest_84 : decode cX10_bestRest 84 = .ok (.goto 4, 3) := by decide +kernel
theorem dX10_bestRest_87 : decode cX10_bestRest 87 = .ok (.iconst 0, 1) := by decide +kernel
theorem dX10_bestRest_88 : decode cX10_bestRest 88 = .ok (.bastore, 1) := by decide +kernel
theorem dX10_bestRest_89 : decode cX10_bestRest 89 = .ok (.iinc 2 1, 3) := by decide +kernel
theorem dX10_bestRest_92 : decode cX10_bestRest 92 = .ok (.goto (-76), 3) := by decide +kernel
theorem dX10_bestRest_95 : decode cX10_bestRest 95 = .ok (.iinc 1 1, 3) := by decide +kernel
theorem dX10_bestRest_98 : decode cX10_bestRest 98 = .ok (.goto (-92), 3) := by decide +kernel
theorem dX10_bestRest_101 : decode cX10_bestRest 101 = .ok (.aload_n 0, 1) := by decide +kernel
theorem dX10_bestRest_102 : decode cX10_bestRest 102 = .ok (.getfield 273, 3) := by decide +kernel
theorem dX10_bestRest_105 : decode cX10_bestRest 105 = .ok (.ifCond .ne 25, 3) := by decide +kernel
theorem dX10_bestRest_108 : decode cX10_bestRest 108 = .ok (.aload_n 0, 1) := by decide +kernel
theorem dX10_bestRest_109 : decode cX10_bestRest 109 = .ok (.aload_n 0, 1) := by decide +kernel
theorem dX10_bestRest_110 : decode cX10_bestRest 110 = .ok (.getfield 97, 3) := by decide +kernel
theorem dX10_bestRest_113 : decode cX10_bestRest 113 = .ok (.iconst 0, 1) := by decide +kernel
theorem dX10_bestRest_114 : decode cX10_bestRest 114 = .ok (.invokevirtual 298, 3) := by decide +kernel
theorem dX10_bestRest_117 : decode cX10_bestRest 117 = .ok (.ifCond .eq 10, 3) := by decide +kernel
theorem dX10_bestRest_120 : decode cX10_bestRest 120 = .ok (.aload_n 0, 1) := by decide +kernel
theorem dX10_bestRest_121 : decode cX10_bestRest 121 = .ok (.getfield 97, 3) := by decide +kernel
theorem dX10_bestRest_124 : decode cX10_bestRest 124 = .ok (.goto 5, 3) := by decide +kernel
theorem dX10_bestRest_127 : decode cX10_bestRest 127 = .ok (.bipush (-4), 2) := by decide +kernel
theorem dX10_bestRest_129 : decode cX10_bestRest 129 = .ok (.ireturn, 1) := by decide +kernel
theorem dX10_bestRest_130 : decode cX10_bestRest 130 = .ok (.aload_n 0, 1) := by decide +kernel
theorem dX10_bestRest_131 : decode cX10_bestRest 131 = .ok (.invokevirtual 304, 3) := by decide +kernel
theorem dX10_bestRest_134 : decode cX10_bestRest 134 = .ok (.istore_n 1, 1) := by decide +kernel
theorem dX10_bestRest_135 : decode cX10_bestRest 135 = .ok (.iload_n 1, 1) := by decide +kernel
theorem dX10_bestRest_136 : decode cX10_bestRest 136 = .ok (.ifCond .lt 21, 3) := by decide +kernel
theorem dX10_bestRest_139 : decode cX10_bestRest 139 = .ok (.aload_n 0, 1) := by decide +kernel
theorem dX10_bestRest_140 : decode cX10_bestRest 140 = .ok (.aload_n 0, 1) := by decide +kernel
theorem dX10_bestRest_141 : decode cX10_bestRest 141 = .ok (.getfield 97, 3) := by decide +kernel
theorem dX10_bestRest_144 : decode cX10_bestRest 144 = .ok (.iload_n 1, 1) := by decide +kernel
theorem dX10_bestRest_145 : decode cX10_bestRest 145 = .ok (.invokevirtual 298, 3) := by decide +kernel
theorem dX10_bestRest_148 : decode cX10_bestRest 148 = .ok (.ifCond .ne 9, 3) := by decide +kernel
theorem dX10_bestRest_151 : decode cX10_bestRest 151 = .ok (.iinc 1 (-1), 3) := by decide +kernel
theorem dX10_bestRest_154 : decode cX10_bestRest 154 = .ok (.goto (-19), 3) := by decide +kernel
theorem dX10_bestRest_157 : decode cX10_bestRest 157 = .ok (.iload_n 1, 1) := by decide +kernel
theorem dX10_bestRest_158 : decode cX10_bestRest 158 = .ok (.ifCond .ge 8, 3) := by decide +kernel
theorem dX10_bestRest_161 : decode cX10_bestRest 161 = .ok (.bipush (-4), 2) := by decide +kernel
theorem dX10_bestRest_163 : decode cX10_bestRest 163 = .ok (.goto 4, 3) := by decide +kernel
theorem dX10_bestRest_166 : decode cX10_bestRest 166 = .ok (.iload_n 1, 1) := by decide +kernel
theorem dX10_bestRest_167 : decode cX10_bestRest 167 = .ok (.ireturn, 1) := by decide +kernel
theorem dX10_best_0 : decode cX10_best 0 = .ok (.iload_n 1, 1) := by decide +kernel
theorem dX10_best_1 : decode cX10_best 1 = .ok (.ifCond .eq 16, 3) := by decide +kernel
theorem dX10_best_4 : decode cX10_best 4 = .ok (.aload_n 0, 1) := by decide +kernel
theorem dX10_best_5 : decode cX10_best 5 = .ok (.iload_n 1, 1) := by decide +kernel
theorem dX10_best_6 : decode cX10_best 6 = .ok (.bipush 10, 2) := by decide +kernel
theorem dX10_best_8 : decode cX10_best 8 = .ok (.isub, 1) := by decide +kernel
theorem dX10_best_9 : decode cX10_best 9 = .ok (.invokevirtual 209, 3) := by decide +kernel
theorem dX10_best_12 : decode cX10_best 12 = .ok (.ifCond .ne 5, 3) := by decide +kernel
theorem dX10_best_15 : decode cX10_best 15 = .ok (.iconst (-1), 1) := by decide +kernel
theorem dX10_best_16 : decode cX10_best 16 = .ok (.ireturn, 1) := by decide +kernel
theorem dX10_best_17 : decode cX10_best 17 = .ok (.aload_n 0, 1) := by decide +kernel
theorem dX10_best_18 : decode cX10_best 18 = .ok (.invokevirtual 307, 3) := by decide +kernel
theorem dX10_best_21 : decode cX10_best 21 = .ok (.istore_n 2, 1) := by decide +kernel
theorem dX10_best_22 : decode cX10_best 22 = .ok (.iload_n 2, 1) := by decide +kernel
theorem dX10_best_23 : decode cX10_best 23 = .ok (.bipush (-4), 2) := by decide +kernel
theorem dX10_best_25 : decode cX10_best 25 = .ok (.if_icmp .eq 7, 3) := by decide +kernel
theorem dX10_best_28 : decode cX10_best 28 = .ok (.iload_n 1, 1) := by decide +kernel
theorem dX10_best_29 : decode cX10_best 29 = .ok (.ifCond .ne 7, 3) := by decide +kernel
theorem dX10_best_32 : decode cX10_best 32 = .ok (.iload_n 2, 1) := by decide +kernel
theorem dX10_best_33 : decode cX10_best 33 = .ok (.goto 23, 3) := by decide +kernel
theorem dX10_best_36 : decode cX10_best 36 = .ok (.aload_n 0, 1) := by decide +kernel
theorem dX10_best_37 : decode cX10_best 37 = .ok (.aload_n 0, 1) := by decide +kernel
theorem dX10_best_38 : decode cX10_best 38 = .ok (.getfield 273, 3) := by decide +kernel
theorem dX10_best_41 : decode cX10_best 41 = .ok (.ifCond .ne 7, 3) := by decide +kernel
theorem dX10_best_44 : decode cX10_best 44 = .ok (.iconst 0, 1) := by decide +kernel
theorem dX10_best_45 : decode cX10_best 45 = .ok (.goto 4, 3) := by decide +kernel
theorem dX10_best_48 : decode cX10_best 48 = .ok (.iload_n 2, 1) := by decide +kernel
theorem dX10_best_49 : decode cX10_best 49 = .ok (.iload_n 1, 1) := by decide +kernel
theorem dX10_best_50 : decode cX10_best 50 = .ok (.bipush 10, 2) := by decide +kernel
theorem dX10_best_52 : decode cX10_best 52 = .ok (.isub, 1) := by decide +kernel
theorem dX10_best_53 : decode cX10_best 53 = .ok (.invokevirtual 301, 3) := by decide +kernel
theorem dX10_best_56 : decode cX10_best 56 = .ok (.ireturn, 1) := by decide +kernel
theorem dX10_without_0 : decode cX10_without 0 = .ok (.aload_n 0, 1) := by decide +kernel
theorem dX10_without_1 : decode cX10_without 1 = .ok (.iload_n 1, 1) := by decide +kernel
theorem dX10_without_2 : decode cX10_without 2 = .ok (.invokevirtual 196, 3) := by decide +kernel
theorem dX10_without_5 : decode cX10_without 5 = .ok (.ifCond .ne 5, 3) := by decide +kernel
theorem dX10_without_8 : decode cX10_without 8 = .ok (.iconst (-1), 1) := by decide +kernel
theorem dX10_without_9 : decode cX10_without 9 = .ok (.ireturn, 1) := by decide +kernel
theorem dX10_without_10 : decode cX10_without 10 = .ok (.aload_n 0, 1) := by decide +kernel
theorem dX10_without_11 : decode cX10_without 11 = .ok (.iload_n 1, 1) := by decide +kernel
theorem dX10_without_12 : decode cX10_without 12 = .ok (.iconst 1, 1) := by decide +kernel
theorem dX10_without_13 : decode cX10_without 13 = .ok (.iadd, 1) := by decide +kernel
theorem dX10_without_14 : decode cX10_without 14 = .ok (.putfield 225, 3) := by decide +kernel
theorem dX10_without_17 : decode cX10_without 17 = .ok (.aload_n 0, 1) := by decide +kernel
theorem dX10_without_18 : decode cX10_without 18 = .ok (.invokevirtual 307, 3) := by decide +kernel
theorem dX10_without_21 : decode cX10_without 21 = .ok (.istore_n 2, 1) := by decide +kernel
theorem dX10_without_22 : decode cX10_without 22 = .ok (.aload_n 0, 1) := by decide +kernel
theorem dX10_without_23 : decode cX10_without 23 = .ok (.iconst 0, 1) := by decide +kernel
theorem dX10_without_24 : decode cX10_without 24 = .ok (.putfield 225, 3) := by decide +kernel
theorem dX10_without_27 : decode cX10_without 27 = .ok (.iload_n 2, 1) := by decide +kernel
theorem dX10_without_28 : decode cX10_without 28 = .ok (.ireturn, 1) := by decide +kernel
theorem dX10_beds_0 : decode cX10_beds 0 = .ok (.iload_n 1, 1) := by decide +kernel
theorem dX10_beds_1 : decode cX10_beds 1 = .ok (.ifCond .eq 16, 3) := by decide +kernel
theorem dX10_beds_4 : decode cX10_beds 4 = .ok (.aload_n 0, 1) := by decide +kernel
theorem dX10_beds_5 : decode cX10_beds 5 = .ok (.iload_n 1, 1) := by decide +kernel
theorem dX10_beds_6 : decode cX10_beds 6 = .ok (.bipush 10, 2) := by decide +kernel
theorem dX10_beds_8 : decode cX10_beds 8 = .ok (.isub, 1) := by decide +kernel
theorem dX10_beds_9 : decode cX10_beds 9 = .ok (.invokevirtual 196, 3) := by decide +kernel
theorem dX10_beds_12 : decode cX10_beds 12 = .ok (.ifCond .ne 5, 3) := by decide +kernel
theorem dX10_beds_15 : decode cX10_beds 15 = .ok (.iconst (-1), 1) := by decide +kernel
theorem dX10_beds_16 : decode cX10_beds 16 = .ok (.ireturn, 1) := by decide +kernel
theorem dX10_beds_17 : decode cX10_beds 17 = .ok (.iconst 0, 1) := by decide +kernel
theorem dX10_beds_18 : decode cX10_beds 18 = .ok (.istore_n 2, 1) := by decide +kernel
theorem dX10_beds_19 : decode cX10_beds 19 = .ok (.iload_n 2, 1) := by decide +kernel
theorem dX10_beds_20 : decode cX10_beds 20 = .ok (.iconst 3, 1) := by decide +kernel
theorem dX10_beds_21 : decode cX10_beds 21 = .ok (.if_icmp .ge 23, 3) := by decide +kernel
theorem dX10_beds_24 : decode cX10_beds 24 = .ok (.aload_n 0, 1) := by decide +kernel
theorem dX10_beds_25 : decode cX10_beds 25 = .ok (.getfield 47, 3) := by decide +kernel
theorem dX10_beds_28 : decode cX10_beds 28 = .ok (.iload_n 2, 1) := by decide +kernel
theorem dX10_beds_29 : decode cX10_beds 29 = .ok (.aload_n 0, 1) := by decide +kernel
theorem dX10_beds_30 : decode cX10_beds 30 = .ok (.getfield 7, 3) := by decide +kernel
theorem dX10_beds_33 : decode cX10_beds 33 = .ok (.iconst 0, 1) := by decide +kernel
theorem dX10_beds_34 : decode cX10_beds 34 = .ok (.iload_n 2, 1) := by decide +kernel
theorem dX10_beds_35 : decode cX10_beds 35 = .ok (.iadd, 1) := by decide +kernel
theorem dX10_beds_36 : decode cX10_beds 36 = .ok (.iaload, 1) := by decide +kernel
theorem dX10_beds_37 : decode cX10_beds 37 = .ok (.iastore, 1) := by decide +kernel
theorem dX10_beds_38 : decode cX10_beds 38 = .ok (.iinc 2 1, 3) := by decide +kernel
theorem dX10_beds_41 : decode cX10_beds 41 = .ok (.goto (-22), 3) := by decide +kernel
theorem dX10_beds_44 : decode cX10_beds 44 = .ok (.bipush (-4), 2) := by decide +kernel
theorem dX10_beds_46 : decode cX10_beds 46 = .ok (.istore_n 2, 1) := by decide +kernel
theorem dX10_beds_47 : decode cX10_beds 47 = .ok (.iconst 0, 1) := by decide +kernel
theorem dX10_beds_48 : decode cX10_beds 48 = .ok (.istore_n 3, 1) := by decide +kernel
theorem dX10_beds_49 : decode cX10_beds 49 = .ok (.iconst 0, 1) := by decide +kernel
theorem dX10_beds_50 : decode cX10_beds 50 = .ok (.istore 4, 2) := by decide +kernel
theorem dX10_beds_52 : decode cX10_beds 52 = .ok (.iload 4, 2) := by decide +kernel
theorem dX10_beds_54 : decode cX10_beds 54 = .ok (.iconst 4, 1) := by decide +kernel
theorem dX10_beds_55 : decode cX10_beds 55 = .ok (.aload_n 0, 1) := by decide +kernel
theorem dX10_beds_56 : decode cX10_beds 56 = .ok (.getfield 94, 3) := by decide +kernel
theorem dX10_beds_59 : decode cX10_beds 59 = .ok (.invokestatic 100, 3) := by decide +kernel
theorem dX10_beds_62 : decode cX10_beds 62 = .ok (.if_icmp .ge 84, 3) := by decide +kernel
theorem dX10_beds_65 : decode cX10_beds 65 = .ok (.iconst 0, 1) := by decide +kernel
theorem dX10_beds_66 : decode cX10_beds 66 = .ok (.istore 5, 2) := by decide +kernel
theorem dX10_beds_68 : decode cX10_beds 68 = .ok (.iload 5, 2) := by decide +kernel
theorem dX10_beds_70 : decode cX10_beds 70 = .ok (.aload_n 0, 1) := by decide +kernel
theorem dX10_beds_71 : decode cX10_beds 71 = .ok (.getfield 94, 3) := by decide +kernel
theorem dX10_beds_74 : decode cX10_beds 74 = .ok (.if_icmp .ge 34, 3) := by decide +kernel
theorem dX10_beds_77 : decode cX10_beds 77 = .ok (.aload_n 0, 1) := by decide +kernel
theorem dX10_beds_78 : decode cX10_beds 78 = .ok (.getfield 7, 3) := by decide +kernel
theorem dX10_beds_81 : decode cX10_beds 81 = .ok (.iconst 0, 1) := by decide +kernel
theorem dX10_beds_82 : decode cX10_beds 82 = .ok (.iload 5, 2) := by decide +kernel
theorem dX10_beds_84 : decode cX10_beds 84 = .ok (.iadd, 1) := by decide +kernel
theorem dX10_beds_85 : decode cX10_beds 85 = .ok (.iload 4, 2) := by decide +kernel
theorem dX10_beds_87 : decode cX10_beds 87 = .ok (.iconst 2, 1) := by decide +kernel
theorem dX10_beds_88 : decode cX10_beds 88 = .ok (.aload_n 0, 1) := by decide +kernel
theorem dX10_beds_89 : decode cX10_beds 89 = .ok (.getfield 94, 3) := by decide +kernel
theorem dX10_beds_92 : decode cX10_beds 92 = .ok (.iconst 1, 1) := by decide +kernel
theorem dX10_beds_93 : decode cX10_beds 93 = .ok (.isub, 1) := by decide +kernel
theorem dX10_beds_94 : decode cX10_beds 94 = .ok (.iload 5, 2) := by decide +kernel
theorem dX10_beds_96 : decode cX10_beds 96 = .ok (.isub, 1) := by decide +kernel
theorem dX10_beds_97 : decode cX10_beds 97 = .ok (.imul, 1) := by decide +kernel
theorem dX10_beds_98 : decode cX10_beds 98 = .ok (.ishr, 1) := by decide +kernel
theorem dX10_beds_99 : decode cX10_beds 99 = .ok (.iconst 3, 1) := by decide +kernel
theorem dX10_beds_100 : decode cX10_beds 100 = .ok (.iand, 1) := by decide +kernel
theorem dX10_beds_101 : decode cX10_beds 101 = .ok (.iastore, 1) := by decide +kernel
theorem dX10_beds_102 : decode cX10_beds 102 = .ok (.iinc 5 1, 3) := by decide +kernel
theorem dX10_beds_105 : decode cX10_beds 105 = .ok (.goto (-37), 3) := by decide +kernel
theorem dX10_beds_108 : decode cX10_beds 108 = .ok (.aload_n 0, 1) := by decide +kernel
theorem dX10_beds_109 : decode cX10_beds 109 = .ok (.invokevirtual 307, 3) := by decide +kernel
theorem dX10_beds_112 : decode cX10_beds 112 = .ok (.istore 5, 2) := by decide +kernel
theorem dX10_beds_114 : decode cX10_beds 114 = .ok (.iload 5, 2) := by decide +kernel
theorem dX10_beds_116 : decode cX10_beds 116 = .ok (.iload_n 2, 1) := by decide +kernel
theorem dX10_beds_117 : decode cX10_beds 117 = .ok (.if_icmp .le 8, 3) := by decide +kernel
theorem dX10_beds_120 : decode cX10_beds 120 = .ok (.iload 4, 2) := by decide +kernel
theorem dX10_beds_122 : decode cX10_beds 122 = .ok (.goto 4, 3) := by decide +kernel
theorem dX10_beds_125 : decode cX10_beds 125 = .ok (.iload_n 3, 1) := by decide +kernel
theorem dX10_beds_126 : decode cX10_beds 126 = .ok (.istore_n 3, 1) := by decide +kernel
theorem dX10_beds_127 : decode cX10_beds 127 = .ok (.iload 5, 2) := by decide +kernel
theorem dX10_beds_129 : decode cX10_beds 129 = .ok (.iload_n 2, 1) := by decide +kernel
theorem dX10_beds_130 : decode cX10_beds 130 = .ok (.if_icmp .le 8, 3) := by decide +kernel
theorem dX10_beds_133 : decode cX10_beds 133 = .ok (.iload 5, 2) := by decide +kernel
theorem dX10_beds_135 : decode cX10_beds 135 = .ok (.goto 4, 3) := by decide +kernel
theorem dX10_beds_138 : decode cX10_beds 138 = .ok (.iload_n 2, 1) := by decide +kernel
theorem dX10_beds_139 : decode cX10_beds 139 = .ok (.istore_n 2, 1) := by decide +kernel
theorem dX10_beds_140 : decode cX10_beds 140 = .ok (.iinc 4 1, 3) := by decide +kernel
theorem dX10_beds_143 : decode cX10_beds 143 = .ok (.goto (-91), 3) := by decide +kernel
theorem dX10_beds_146 : decode cX10_beds 146 = .ok (.iconst 0, 1) := by decide +kernel
theorem dX10_beds_147 : decode cX10_beds 147 = .ok (.istore 4, 2) := by decide +kernel
theorem dX10_beds_149 : decode cX10_beds 149 = .ok (.iload 4, 2) := by decide +kernel
theorem dX10_beds_151 : decode cX10_beds 151 = .ok (.iconst 3, 1) := by decide +kernel
theorem dX10_beds_152 : decode cX10_beds 152 = .ok (.if_icmp .ge 25, 3) := by decide +kernel
theorem dX10_beds_155 : decode cX10_beds 155 = .ok (.aload_n 0, 1) := by decide +kernel
theorem dX10_beds_156 : decode cX10_beds 156 = .ok (.getfield 7, 3) := by decide +kernel
theorem dX10_beds_159 : decode cX10_beds 159 = .ok (.iconst 0, 1) := by decide +kernel
theorem dX10_beds_160 : decode cX10_beds 160 = .ok (.iload 4, 2) := by decide +kernel
theorem dX10_beds_162 : decode cX10_beds 162 = .ok (.iadd, 1) := by decide +kernel
theorem dX10_beds_163 : decode cX10_beds 163 = .ok (.aload_n 0, 1) := by decide +kernel
theorem dX10_beds_164 : decode cX10_beds 164 = .ok (.getfield 47, 3) := by decide +kernel
theorem dX10_beds_167 : decode cX10_beds 167 = .ok (.iload 4, 2) := by decide +kernel
theorem dX10_beds_169 : decode cX10_beds 169 = .ok (.iaload, 1) := by decide +kernel
theorem dX10_beds_170 : decode cX10_beds 170 = .ok (.iastore, 1) := by decide +kernel
theorem dX10_beds_171 : decode cX10_beds 171 = .ok (.iinc 4 1, 3) := by decide +kernel
theorem dX10_beds_174 : decode cX10_beds 174 = .ok (.goto (-25), 3) := by decide +kernel
theorem dX10_beds_177 : decode cX10_beds 177 = .ok (.iload_n 2, 1) := by decide +kernel
theorem dX10_beds_178 : decode cX10_beds 178 = .ok (.bipush (-4), 2) := by decide +kernel
theorem dX10_beds_180 : decode cX10_beds 180 = .ok (.if_icmp .eq 7, 3) := by decide +kernel
theorem dX10_beds_183 : decode cX10_beds 183 = .ok (.iload_n 1, 1) := by decide +kernel
theorem dX10_beds_184 : decode cX10_beds 184 = .ok (.ifCond .ne 7, 3) := by decide +kernel
theorem dX10_beds_187 : decode cX10_beds 187 = .ok (.iload_n 2, 1) := by decide +kernel
theorem dX10_beds_188 : decode cX10_beds 188 = .ok (.goto 20, 3) := by decide +kernel
theorem dX10_beds_191 : decode cX10_beds 191 = .ok (.iload_n 3, 1) := by decide +kernel
theorem dX10_beds_192 : decode cX10_beds 192 = .ok (.iconst 2, 1) := by decide +kernel
theorem dX10_beds_193 : decode cX10_beds 193 = .ok (.aload_n 0, 1) := by decide +kernel
theorem dX10_beds_194 : decode cX10_beds 194 = .ok (.getfield 94, 3) := by decide +kernel
theorem dX10_beds_197 : decode cX10_beds 197 = .ok (.iconst 1, 1) := by decide +kernel
theorem dX10_beds_198 : decode cX10_beds 198 = .ok (.isub, 1) := by decide +kernel
theorem dX10_beds_199 : decode cX10_beds 199 = .ok (.iload_n 1, 1) := by decide +kernel
theorem dX10_beds_200 : decode cX10_beds 200 = .ok (.bipush 10, 2) := by decide +kernel
theorem dX10_beds_202 : decode cX10_beds 202 = .ok (.isub, 1) := by decide +kernel
theorem dX10_beds_203 : decode cX10_beds 203 = .ok (.isub, 1) := by decide +kernel
theorem dX10_beds_204 : decode cX10_beds 204 = .ok (.imul, 1) := by decide +kernel
theorem dX10_beds_205 : decode cX10_beds 205 = .ok (.ishr, 1) := by decide +kernel
theorem dX10_beds_206 : decode cX10_beds 206 = .ok (.iconst 3, 1) := by decide +kernel
theorem dX10_beds_207 : decode cX10_beds 207 = .ok (.iand, 1) := by decide +kernel
theorem dX10_beds_208 : decode cX10_beds 208 = .ok (.ireturn, 1) := by decide +kernel
theorem dX10_isOpened_0 : decode cX10_isOpened 0 = .ok (.aload_n 0, 1) := by decide +kernel
theorem dX10_isOpened_1 : decode cX10_isOpened 1 = .ok (.iload_n 1, 1) := by decide +kernel
theorem dX10_isOpened_2 : decode cX10_isOpened 2 = .ok (.invokevirtual 238, 3) := by decide +kernel
theorem dX10_isOpened_5 : decode cX10_isOpened 5 = .ok (.aload_n 0, 1) := by decide +kernel
theorem dX10_isOpened_6 : decode cX10_isOpened 6 = .ok (.iload_n 2, 1) := by decide +kernel
theorem dX10_isOpened_7 : decode cX10_isOpened 7 = .ok (.invokevirtual 238, 3) := by decide +kernel
theorem dX10_isOpened_10 : decode cX10_isOpened 10 = .ok (.iconst (-1), 1) := by decide +kernel
theorem dX10_isOpened_11 : decode cX10_isOpened 11 = .ok (.ixor, 1) := by decide +kernel
theorem dX10_isOpened_12 : decode cX10_isOpened 12 = .ok (.iand, 1) := by decide +kernel
theorem dX10_isOpened_13 : decode cX10_isOpened 13 = .ok (.ifCond .ne 7, 3) := by decide +kernel
theorem dX10_isOpened_16 : decode cX10_isOpened 16 = .ok (.iconst 1, 1) := by decide +kernel
theorem dX10_isOpened_17 : decode cX10_isOpened 17 = .ok (.goto 4, 3) := by decide +kernel
theorem dX10_isOpened_20 : decode cX10_isOpened 20 = .ok (.iconst 0, 1) := by decide +kernel
theorem dX10_isOpened_21 : decode cX10_isOpened 21 = .ok (.ireturn, 1) := by decide +kernel
theorem dX10_late_0 : decode cX10_late 0 = .ok (.aload_n 0, 1) := by decide +kernel
theorem dX10_late_1 : decode cX10_late 1 = .ok (.iload_n 1, 1) := by decide +kernel
theorem dX10_late_2 : decode cX10_late 2 = .ok (.invokevirtual 209, 3) := by decide +kernel
theorem dX10_late_5 : decode cX10_late 5 = .ok (.ifCond .eq 18, 3) := by decide +kernel
theorem dX10_late_8 : decode cX10_late 8 = .ok (.aload_n 0, 1) := by decide +kernel
theorem dX10_late_9 : decode cX10_late 9 = .ok (.iload_n 2, 1) := by decide +kernel
theorem dX10_late_10 : decode cX10_late 10 = .ok (.invokevirtual 215, 3) := by decide +kernel
theorem dX10_late_13 : decode cX10_late 13 = .ok (.ifCond .eq 10, 3) := by decide +kernel
theorem dX10_late_16 : decode cX10_late 16 = .ok (.iload_n 3, 1) := by decide +kernel
theorem dX10_late_17 : decode cX10_late 17 = .ok (.invokestatic 248, 3) := by decide +kernel
theorem dX10_late_20 : decode cX10_late 20 = .ok (.ifCond .ne 5, 3) := by decide +kernel
theorem dX10_late_23 : decode cX10_late 23 = .ok (.iconst (-1), 1) := by decide +kernel
theorem dX10_late_24 : decode cX10_late 24 = .ok (.ireturn, 1) := by decide +kernel
theorem dX10_late_25 : decode cX10_late 25 = .ok (.bipush (-4), 2) := by decide +kernel
theorem dX10_late_27 : decode cX10_late 27 = .ok (.istore 4, 2) := by decide +kernel
theorem dX10_late_29 : decode cX10_late 29 = .ok (.bipush (-4), 2) := by decide +kernel
theorem dX10_late_31 : decode cX10_late 31 = .ok (.istore 5, 2) := by decide +kernel
theorem dX10_late_33 : decode cX10_late 33 = .ok (.iconst 0, 1) := by decide +kernel
theorem dX10_late_34 : decode cX10_late 34 = .ok (.istore 6, 2) := by decide +kernel
theorem dX10_late_36 : decode cX10_late 36 = .ok (.iload 6, 2) := by decide +kernel
theorem dX10_late_38 : decode cX10_late 38 = .ok (.aload_n 0, 1) := by decide +kernel
theorem dX10_late_39 : decode cX10_late 39 = .ok (.getfield 104, 3) := by decide +kernel
theorem dX10_late_42 : decode cX10_late 42 = .ok (.if_icmp .ge 98, 3) := by decide +kernel
theorem dX10_late_45 : decode cX10_late 45 = .ok (.aload_n 0, 1) := by decide +kernel
theorem dX10_late_46 : decode cX10_late 46 = .ok (.iload 6, 2) := by decide +kernel
theorem dX10_late_48 : decode cX10_late 48 = .ok (.iload_n 2, 1) := by decide +kernel
theorem dX10_late_49 : decode cX10_late 49 = .ok (.invokevirtual 310, 3) := by decide +kernel
theorem dX10_late_52 : decode cX10_late 52 = .ok (.ifCond .eq 82, 3) := by decide +kernel
theorem dX10_late_55 : decode cX10_late 55 = .ok (.aload_n 0, 1) := by decide +kernel
theorem dX10_late_56 : decode cX10_late 56 = .ok (.iload_n 1, 1) := by decide +kernel
theorem dX10_late_57 : decode cX10_late 57 = .ok (.iload 6, 2) := by decide +kernel
theorem dX10_late_59 : decode cX10_late 59 = .ok (.invokevirtual 244, 3) := by decide +kernel
theorem dX10_late_62 : decode cX10_late 62 = .ok (.ifCond .eq 72, 3) := by decide +kernel
theorem dX10_late_65 : decode cX10_late 65 = .ok (.aload_n 0, 1) := by decide +kernel
theorem dX10_late_66 : decode cX10_late 66 = .ok (.iload_n 2, 1) := by decide +kernel
theorem dX10_late_67 : decode cX10_late 67 = .ok (.invokevirtual 238, 3) := by decide +kernel
theorem dX10_late_70 : decode cX10_late 70 = .ok (.invokestatic 254, 3) := by decide +kernel
theorem dX10_late_73 : decode cX10_late 73 = .ok (.aload_n 0, 1) := by decide +kernel
theorem dX10_late_74 : decode cX10_late 74 = .ok (.iload 6, 2) := by decide +kernel
theorem dX10_late_76 : decode cX10_late 76 = .ok (.invokevirtual 238, 3) := by decide +kernel
theorem dX10_late_79 : decode cX10_late 79 = .ok (.invokestatic 254, 3) := by decide +kernel
theorem dX10_late_82 : decode cX10_late 82 = .ok (.isub, 1) := by decide +kernel
theorem dX10_late_83 : decode cX10_late 83 = .ok (.istore 7, 2) := by decide +kernel
theorem dX10_late_85 : decode cX10_late 85 = .ok (.iload 4, 2) := by decide +kernel
theorem dX10_late_87 : decode cX10_late 87 = .ok (.bipush (-4), 2) := by decide +kernel
theorem dX10_late_89 : decode cX10_late 89 = .ok (.if_icmp .eq 10, 3) := by decide +kernel
theorem dX10_late_92 : decode cX10_late 92 = .ok (.iload 7, 2) := by decide +kernel
theorem dX10_late_94 : decode cX10_late 94 = .ok (.iload 4, 2) := by decide +kernel
theorem dX10_late_96 : decode cX10_late 96 = .ok (.if_icmp .ge 7, 3) := by decide +kernel
theorem dX10_late_99 : decode cX10_late 99 = .ok (.iconst 1, 1) := by decide +kernel
theorem dX10_late_100 : decode cX10_late 100 = .ok (.goto 4, 3) := by decide +kernel
theorem dX10_late_103 : decode cX10_late 103 = .ok (.iconst 0, 1) := by decide +kernel
theorem dX10_late_104 : decode cX10_late 104 = .ok (.istore 8, 2) := by decide +kernel
theorem dX10_late_106 : decode cX10_late 106 = .ok (.iload 8, 2) := by decide +kernel
theorem dX10_late_108 : decode cX10_late 108 = .ok (.ifCond .eq 8, 3) := by decide +kernel
theorem dX10_late_111 : decode cX10_late 111 = .ok (.iload 6, 2) := by decide +kernel
theorem dX10_late_113 : decode cX10_late 113 = .ok (.goto 5, 3) := by decide +kernel
theorem dX10_late_116 : decode cX10_late 116 = .ok (.iload 5, 2) := by decide +kernel
theorem dX10_late_118 : decode cX10_late 118 = .ok (.istore 5, 2) := by decide +kernel
theorem dX10_late_120 : decode cX10_late 120 = .ok (.iload 8, 2) := by decide +kernel
theorem dX10_late_122 : decode cX10_late 122 = .ok (.ifCond .eq 8, 3) := by decide +kernel
theorem dX10_late_125 : decode cX10_late 125 = .ok (.iload 7, 2) := by decide +kernel
theorem dX10_late_127 : decode cX10_late 127 = .ok (.goto 5, 3) := by decide +kernel
theorem dX10_late_130 : decode cX10_late 130 = .ok (.iload 4, 2) := by decide +kernel
theorem dX10_late_132 : decode cX10_late 132 = .ok (.istore 4, 2) := by decide +kernel
theorem dX10_late_134 : decode cX10_late 134 = .ok (.iinc 6 1, 3) := by decide +kernel
theorem dX10_late_137 : decode cX10_late 137 = .ok (.goto (-101), 3) := by decide +kernel
theorem dX10_late_140 : decode cX10_late 140 = .ok (.iload_n 3, 1) := by decide +kernel
theorem dX10_late_141 : decode cX10_late 141 = .ok (.ifCond .ne 8, 3) := by decide +kernel
theorem dX10_late_144 : decode cX10_late 144 = .ok (.iload 4, 2) := by decide +kernel
theorem dX10_late_146 : decode cX10_late 146 = .ok (.goto 5, 3) := by decide +kernel
theorem dX10_late_149 : decode cX10_late 149 = .ok (.iload 5, 2) := by decide +kernel
theorem dX10_late_151 : decode cX10_late 151 = .ok (.ireturn, 1) := by decide +kernel
theorem dX10_common_0 : decode cX10_common 0 = .ok (.lload_n 0, 1) := by decide +kernel
theorem dX10_common_1 : decode cX10_common 1 = .ok (.lstore 4, 2) := by decide +kernel
theorem dX10_common_3 : decode cX10_common 3 = .ok (.lload_n 2, 1) := by decide +kernel
theorem dX10_common_4 : decode cX10_common 4 = .ok (.lstore 6, 2) := by decide +kernel
theorem dX10_common_6 : decode cX10_common 6 = .ok (.lload 6, 2) := by decide +kernel
theorem dX10_common_8 : decode cX10_common 8 = .ok (.lconst 0, 1) := by decide +kernel
theorem dX10_common_9 : decode cX10_common 9 = .ok (.lcmp, 1) := by decide +kernel
theorem dX10_common_10 : decode cX10_common 10 = .ok (.ifCond .eq 21, 3) := by decide +kernel
theorem dX10_common_13 : decode cX10_common 13 = .ok (.lload 4, 2) := by decide +kernel
theorem dX10_common_15 : decode cX10_common 15 = .ok (.lload 6, 2) := by decide +kernel
theorem dX10_common_17 : decode cX10_common 17 = .ok (.lrem, 1) := by decide +kernel
theorem dX10_common_18 : decode cX10_common 18 = .ok (.lstore 8, 2) := by decide +kernel
theorem dX10_common_20 : decode cX10_common 20 = .ok (.lload 6, 2) := by decide +kernel
theorem dX10_common_22 : decode cX10_common 22 = .ok (.lstore 4, 2) := by decide +kernel
theorem dX10_common_24 : decode cX10_common 24 = .ok (.lload 8, 2) := by decide +kernel
theorem dX10_common_26 : decode cX10_common 26 = .ok (.lstore 6, 2) := by decide +kernel
theorem dX10_common_28 : decode cX10_common 28 = .ok (.goto (-22), 3) := by decide +kernel
theorem dX10_common_31 : decode cX10_common 31 = .ok (.lload 4, 2) := by decide +kernel
theorem dX10_common_33 : decode cX10_common 33 = .ok (.lreturn, 1) := by decide +kernel
theorem dX10_lowest_0 : decode cX10_lowest 0 = .ok (.ldc2_w 313, 3) := by decide +kernel
theorem dX10_lowest_3 : decode cX10_lowest 3 = .ok (.lload_n 0, 1) := by decide +kernel
theorem dX10_lowest_4 : decode cX10_lowest 4 = .ok (.invokestatic 315, 3) := by decide +kernel
theorem dX10_lowest_7 : decode cX10_lowest 7 = .ok (.lstore_n 3, 1) := by decide +kernel
theorem dX10_lowest_8 : decode cX10_lowest 8 = .ok (.iload_n 2, 1) := by decide +kernel
theorem dX10_lowest_9 : decode cX10_lowest 9 = .ok (.ifCond .ne 9, 3) := by decide +kernel
theorem dX10_lowest_12 : decode cX10_lowest 12 = .ok (.lload_n 0, 1) := by decide +kernel
theorem dX10_lowest_13 : decode cX10_lowest 13 = .ok (.lload_n 3, 1) := by decide +kernel
theorem dX10_lowest_14 : decode cX10_lowest 14 = .ok (.ldiv, 1) := by decide +kernel
theorem dX10_lowest_15 : decode cX10_lowest 15 = .ok (.goto 8, 3) := by decide +kernel
theorem dX10_lowest_18 : decode cX10_lowest 18 = .ok (.ldc2_w 313, 3) := by decide +kernel
theorem dX10_lowest_21 : decode cX10_lowest 21 = .ok (.lload_n 3, 1) := by decide +kernel
theorem dX10_lowest_22 : decode cX10_lowest 22 = .ok (.ldiv, 1) := by decide +kernel
theorem dX10_lowest_23 : decode cX10_lowest 23 = .ok (.lreturn, 1) := by decide +kernel
theorem dX10_missedOver_0 : decode cX10_missedOver 0 = .ok (.aload_n 0, 1) := by decide +kernel
theorem dX10_missedOver_1 : decode cX10_missedOver 1 = .ok (.iload_n 2, 1) := by decide +kernel
theorem dX10_missedOver_2 : decode cX10_missedOver 2 = .ok (.invokevirtual 264, 3) := by decide +kernel
theorem dX10_missedOver_5 : decode cX10_missedOver 5 = .ok (.aload_n 0, 1) := by decide +kernel
theorem dX10_missedOver_6 : decode cX10_missedOver 6 = .ok (.iload_n 2, 1) := by decide +kernel
theorem dX10_missedOver_7 : decode cX10_missedOver 7 = .ok (.invokevirtual 257, 3) := by decide +kernel
theorem dX10_missedOver_10 : decode cX10_missedOver 10 = .ok (.istore_n 3, 1) := by decide +kernel
theorem dX10_missedOver_11 : decode cX10_missedOver 11 = .ok (.lconst 0, 1) := by decide +kernel
theorem dX10_missedOver_12 : decode cX10_missedOver 12 = .ok (.lstore 4, 2) := by decide +kernel
theorem dX10_missedOver_14 : decode cX10_missedOver 14 = .ok (.iconst 0, 1) := by decide +kernel
theorem dX10_missedOver_15 : decode cX10_missedOver 15 = .ok (.istore 6, 2) := by decide +kernel
theorem dX10_missedOver_17 : decode cX10_missedOver 17 = .ok (.iload 6, 2) := by decide +kernel
theorem dX10_missedOver_19 : decode cX10_missedOver 19 = .ok (.bipush 64, 2) := by decide +kernel
theorem dX10_missedOver_21 : decode cX10_missedOver 21 = .ok (.if_icmp .ge 163, 3) := by decide +kernel
theorem dX10_missedOver_24 : decode cX10_missedOver 24 = .ok (.lconst 1, 1) := by decide +kernel
theorem dX10_missedOver_25 : decode cX10_missedOver 25 = .ok (.lstore 7, 2) := by decide +kernel
theorem dX10_missedOver_27 : decode cX10_missedOver 27 = .ok (.iconst 0, 1) := by decide +kernel
theorem dX10_missedOver_28 : decode cX10_missedOver 28 = .ok (.istore 9, 2) := by decide +kernel
theorem dX10_missedOver_30 : decode cX10_missedOver 30 = .ok (.iload 9, 2) := by decide +kernel
theorem dX10_missedOver_32 : decode cX10_missedOver 32 = .ok (.bipush 6, 2) := by decide +kernel
theorem dX10_missedOver_34 : decode cX10_missedOver 34 = .ok (.if_icmp .ge 106, 3) := by decide +kernel
theorem dX10_missedOver_37 : decode cX10_missedOver 37 = .ok (.iload 9, 2) := by decide +kernel
theorem dX10_missedOver_39 : decode cX10_missedOver 39 = .ok (.iconst 2, 1) := by decide +kernel
theorem dX10_missedOver_40 : decode cX10_missedOver 40 = .ok (.aload_n 0, 1) := by decide +kernel
theorem dX10_missedOver_41 : decode cX10_missedOver 41 = .ok (.getfield 94, 3) := by decide +kernel
theorem dX10_missedOver_44 : decode cX10_missedOver 44 = .ok (.imul, 1) := by decide +kernel
theorem dX10_missedOver_45 : decode cX10_missedOver 45 = .ok (.if_icmp .ge 16, 3) := by decide +kernel
theorem dX10_missedOver_48 : decode cX10_missedOver 48 = .ok (.iload_n 3, 1) := by decide +kernel
theorem dX10_missedOver_49 : decode cX10_missedOver 49 = .ok (.iload 9, 2) := by decide +kernel
theorem dX10_missedOver_51 : decode cX10_missedOver 51 = .ok (.ishr, 1) := by decide +kernel
theorem dX10_missedOver_52 : decode cX10_missedOver 52 = .ok (.iconst 1, 1) := by decide +kernel
theorem dX10_missedOver_53 : decode cX10_missedOver 53 = .ok (.iand, 1) := by decide +kernel
theorem dX10_missedOver_54 : decode cX10_missedOver 54 = .ok (.ifCond .ne 7, 3) := by decide +kernel
theorem dX10_missedOver_57 : decode cX10_missedOver 57 = .ok (.iconst 1, 1) := by decide +kernel
theorem dX10_missedOver_58 : decode cX10_missedOver 58 = .ok (.goto 4, 3) := by decide +kernel
theorem dX10_missedOver_61 : decode cX10_missedOver 61 = .ok (.iconst 0, 1) := by decide +kernel
theorem dX10_missedOver_62 : decode cX10_missedOver 62 = .ok (.istore 10, 2) := by decide +kernel
theorem dX10_missedOver_64 : decode cX10_missedOver 64 = .ok (.iload 6, 2) := by decide +kernel
theorem dX10_missedOver_66 : decode cX10_missedOver 66 = .ok (.iload 9, 2) := by decide +kernel
theorem dX10_missedOver_68 : decode cX10_missedOver 68 = .ok (.ishr, 1) := by decide +kernel
theorem dX10_missedOver_69 : decode cX10_missedOver 69 = .ok (.iconst 1, 1) := by decide +kernel
theorem dX10_missedOver_70 : decode cX10_missedOver 70 = .ok (.iand, 1) := by decide +kernel
theorem dX10_missedOver_71 : decode cX10_missedOver 71 = .ok (.iconst 1, 1) := by decide +kernel
theorem dX10_missedOver_72 : decode cX10_missedOver 72 = .ok (.if_icmp .ne 7, 3) := by decide +kernel
theorem dX10_missedOver_75 : decode cX10_missedOver 75 = .ok (.iconst 1, 1) := by decide +kernel
theorem dX10_missedOver_76 : decode cX10_missedOver 76 = .ok (.goto 4, 3) := by decide +kernel
theorem dX10_missedOver_79 : decode cX10_missedOver 79 = .ok (.iconst 0, 1) := by decide +kernel
theorem dX10_missedOver_80 : decode cX10_missedOver 80 = .ok (.istore 11, 2) := by decide +kernel
theorem dX10_missedOver_82 : decode cX10_missedOver 82 = .ok (.lload 7, 2) := by decide +kernel
theorem dX10_missedOver_84 : decode cX10_missedOver 84 = .ok (.iload 10, 2) := by decide +kernel
theorem dX10_missedOver_86 : decode cX10_missedOver 86 = .ok (.ifCond .eq 33, 3) := by decide +kernel
theorem dX10_missedOver_89 : decode cX10_missedOver 89 = .ok (.iload 11, 2) := by decide +kernel
theorem dX10_missedOver_91 : decode cX10_missedOver 91 = .ok (.ifCond .eq 14, 3) := by decide +kernel
theorem dX10_missedOver_94 : decode cX10_missedOver 94 = .ok (.aload_n 0, 1) := by decide +kernel
theorem dX10_missedOver_95 : decode cX10_missedOver 95 = .ok (.getfield 35, 3) := by decide +kernel
theorem dX10_missedOver_98 : decode cX10_missedOver 98 = .ok (.iload 9, 2) := by decide +kernel
theorem dX10_missedOver_100 : decode cX10_missedOver 100 = .ok (.iaload, 1) := by decide +kernel
theorem dX10_missedOver_101 : decode cX10_missedOver 101 = .ok (.i2l, 1) := by decide +kernel
theorem dX10_missedOver_102 : decode cX10_missedOver 102 = .ok (.goto 29, 3) := by decide +kernel
theorem dX10_missedOver_105 : decode cX10_missedOver 105 = .ok (.bipush 10, 2) := by decide +kernel
theorem dX10_missedOver_107 : decode cX10_missedOver 107 = .ok (.aload_n 0, 1) := by decide +kernel
theorem dX10_missedOver_108 : decode cX10_missedOver 108 = .ok (.getfield 35, 3) := by decide +kernel
theorem dX10_missedOver_111 : decode cX10_missedOver 111 = .ok (.iload 9, 2) := by decide +kernel
theorem dX10_missedOver_113 : decode cX10_missedOver 113 = .ok (.iaload, 1) := by decide +kernel
theorem dX10_missedOver_114 : decode cX10_missedOver 114 = .ok (.isub, 1) := by decide +kernel
theorem dX10_missedOver_115 : decode cX10_missedOver 115 = .ok (.i2l, 1) := by decide +kernel
theorem dX10_missedOver_116 : decode cX10_missedOver 116 = .ok (.goto 15, 3) := by decide +kernel
theorem dX10_missedOver_119 : decode cX10_missedOver 119 = .ok (.iload 11, 2) := by decide +kernel
theorem dX10_missedOver_121 : decode cX10_missedOver 121 = .ok (.ifCond .eq 7, 3) := by decide +kernel
theorem dX10_missedOver_124 : decode cX10_missedOver 124 = .ok (.lconst 0, 1) := by decide +kernel
theorem dX10_missedOver_125 : decode cX10_missedOver 125 = .ok (.goto 6, 3) := by decide +kernel
theorem dX10_missedOver_128 : decode cX10_missedOver 128 = .ok (.ldc2_w 288, 3) := by decide +kernel
theorem dX10_missedOver_131 : decode cX10_missedOver 131 = .ok (.lmul, 1) := by decide +kernel
theorem dX10_missedOver_132 : decode cX10_missedOver 132 = .ok (.lstore 7, 2) := by decide +kernel
theorem dX10_missedOver_134 : decode cX10_missedOver 134 = .ok (.iinc 9 1, 3) := by decide +kernel
theorem dX10_missedOver_137 : decode cX10_missedOver 137 = .ok (.goto (-107), 3) := by decide +kernel
theorem dX10_missedOver_140 : decode cX10_missedOver 140 = .ok (.lload 4, 2) := by decide +kernel
theorem dX10_missedOver_142 : decode cX10_missedOver 142 = .ok (.lload 7, 2) := by decide +kernel
theorem dX10_missedOver_144 : decode cX10_missedOver 144 = .ok (.lconst 0, 1) := by decide +kernel
theorem dX10_missedOver_145 : decode cX10_missedOver 145 = .ok (.lcmp, 1) := by decide +kernel
theorem dX10_missedOver_146 : decode cX10_missedOver 146 = .ok (.ifCond .le 28, 3) := by decide +kernel
theorem dX10_missedOver_149 : decode cX10_missedOver 149 = .ok (.aload_n 0, 1) := by decide +kernel
theorem dX10_missedOver_150 : decode cX10_missedOver 150 = .ok (.iload_n 1, 1) := by decide +kernel
theorem dX10_missedOver_151 : decode cX10_missedOver 151 = .ok (.iload_n 3, 1) := by decide +kernel
theorem dX10_missedOver_152 : decode cX10_missedOver 152 = .ok (.iload 6, 2) := by decide +kernel
theorem dX10_missedOver_154 : decode cX10_missedOver 154 = .ok (.ior, 1) := by decide +kernel
theorem dX10_missedOver_155 : decode cX10_missedOver 155 = .ok (.invokevirtual 235, 3) := by decide +kernel
theorem dX10_missedOver_158 : decode cX10_missedOver 158 = .ok (.iconst 2, 1) := by decide +kernel
theorem dX10_missedOver_159 : decode cX10_missedOver 159 = .ok (.aload_n 0, 1) := by decide +kernel
theorem dX10_missedOver_160 : decode cX10_missedOver 160 = .ok (.iload_n 1, 1) := by decide +kernel
theorem dX10_missedOver_161 : decode cX10_missedOver 161 = .ok (.iload_n 2, 1) := by decide +kernel
theorem dX10_missedOver_162 : decode cX10_missedOver 162 = .ok (.invokevirtual 212, 3) := by decide +kernel
theorem dX10_missedOver_165 : decode cX10_missedOver 165 = .ok (.imul, 1) := by decide +kernel
theorem dX10_missedOver_166 : decode cX10_missedOver 166 = .ok (.if_icmp .ge 8, 3) := by decide +kernel
theorem dX10_missedOver_169 : decode cX10_missedOver 169 = .ok (.lload 7, 2) := by decide +kernel
theorem dX10_missedOver_171 : decode cX10_missedOver 171 = .ok (.goto 4, 3) := by decide +kernel
theorem dX10_missedOver_174 : decode cX10_missedOver 174 = .ok (.lconst 0, 1) := by decide +kernel
theorem dX10_missedOver_175 : decode cX10_missedOver 175 = .ok (.ladd, 1) := by decide +kernel
theorem dX10_missedOver_176 : decode cX10_missedOver 176 = .ok (.lstore 4, 2) := by decide +kernel
theorem dX10_missedOver_178 : decode cX10_missedOver 178 = .ok (.iinc 6 1, 3) := by decide +kernel
theorem dX10_missedOver_181 : decode cX10_missedOver 181 = .ok (.goto (-164), 3) := by decide +kernel
theorem dX10_missedOver_184 : decode cX10_missedOver 184 = .ok (.lload 4, 2) := by decide +kernel
theorem dX10_missedOver_186 : decode cX10_missedOver 186 = .ok (.lreturn, 1) := by decide +kernel
theorem dX10_odds_0 : decode cX10_odds 0 = .ok (.iload_n 1, 1) := by decide +kernel
theorem dX10_odds_1 : decode cX10_odds 1 = .ok (.invokestatic 206, 3) := by decide +kernel
theorem dX10_odds_4 : decode cX10_odds 4 = .ok (.ifCond .eq 31, 3) := by decide +kernel
theorem dX10_odds_7 : decode cX10_odds 7 = .ok (.aload_n 0, 1) := by decide +kernel
theorem dX10_odds_8 : decode cX10_odds 8 = .ok (.iload_n 2, 1) := by decide +kernel
theorem dX10_odds_9 : decode cX10_odds 9 = .ok (.invokevirtual 209, 3) := by decide +kernel
theorem dX10_odds_12 : decode cX10_odds 12 = .ok (.ifCond .eq 23, 3) := by decide +kernel
theorem dX10_odds_15 : decode cX10_odds 15 = .ok (.iload_n 3, 1) := by decide +kernel
theorem dX10_odds_16 : decode cX10_odds 16 = .ok (.invokestatic 248, 3) := by decide +kernel
theorem dX10_odds_19 : decode cX10_odds 19 = .ok (.ifCond .eq 16, 3) := by decide +kernel
theorem dX10_odds_22 : decode cX10_odds 22 = .ok (.aload_n 0, 1) := by decide +kernel
theorem dX10_odds_23 : decode cX10_odds 23 = .ok (.iload_n 1, 1) := by decide +kernel
theorem dX10_odds_24 : decode cX10_odds 24 = .ok (.iload_n 2, 1) := by decide +kernel
theorem dX10_odds_25 : decode cX10_odds 25 = .ok (.invokevirtual 319, 3) := by decide +kernel
theorem dX10_odds_28 : decode cX10_odds 28 = .ok (.iload_n 3, 1) := by decide +kernel
theorem dX10_odds_29 : decode cX10_odds 29 = .ok (.invokestatic 323, 3) := by decide +kernel
theorem dX10_odds_32 : decode cX10_odds 32 = .ok (.goto 6, 3) := by decide +kernel
theorem dX10_odds_35 : decode cX10_odds 35 = .ok (.ldc2_w 327, 3) := by decide +kernel
theorem dX10_odds_38 : decode cX10_odds 38 = .ok (.lreturn, 1) := by decide +kernel
theorem dX10_mean_0 : decode cX10_mean 0 = .ok (.aload_n 0, 1) := by decide +kernel
theorem dX10_mean_1 : decode cX10_mean 1 = .ok (.iload_n 1, 1) := by decide +kernel
theorem dX10_mean_2 : decode cX10_mean 2 = .ok (.invokevirtual 209, 3) := by decide +kernel
theorem dX10_mean_5 : decode cX10_mean 5 = .ok (.ifCond .eq 10, 3) := by decide +kernel
theorem dX10_mean_8 : decode cX10_mean 8 = .ok (.iload_n 2, 1) := by decide +kernel
theorem dX10_mean_9 : decode cX10_mean 9 = .ok (.invokestatic 248, 3) := by decide +kernel
theorem dX10_mean_12 : decode cX10_mean 12 = .ok (.ifCond .ne 7, 3) := by decide +kernel
theorem dX10_mean_15 : decode cX10_mean 15 = .ok (.ldc2_w 327, 3) := by decide +kernel
theorem dX10_mean_18 : decode cX10_mean 18 = .ok (.lreturn, 1) := by decide +kernel
theorem dX10_mean_19 : decode cX10_mean 19 = .ok (.lconst 0, 1) := by decide +kernel
theorem dX10_mean_20 : decode cX10_mean 20 = .ok (.lstore_n 3, 1) := by decide +kernel
theorem dX10_mean_21 : decode cX10_mean 21 = .ok (.iconst 0, 1) := by decide +kernel
theorem dX10_mean_22 : decode cX10_mean 22 = .ok (.istore 5, 2) := by decide +kernel
theorem dX10_mean_24 : decode cX10_mean 24 = .ok (.iload 5, 2) := by decide +kernel
theorem dX10_mean_26 : decode cX10_mean 26 = .ok (.iconst 4, 1) := by decide +kernel
theorem dX10_mean_27 : decode cX10_mean 27 = .ok (.if_icmp .ge 19, 3) := by decide +kernel
theorem dX10_mean_30 : decode cX10_mean 30 = .ok (.lload_n 3, 1) := by decide +kernel
theorem dX10_mean_31 : decode cX10_mean 31 = .ok (.aload_n 0, 1) := by decide +kernel
theorem dX10_mean_32 : decode cX10_mean 32 = .ok (.iload 5, 2) := by decide +kernel
theorem dX10_mean_34 : decode cX10_mean 34 = .ok (.iload_n 1, 1) := by decide +kernel
theorem dX10_mean_35 : decode cX10_mean 35 = .ok (.invokevirtual 319, 3) := by decide +kernel
theorem dX10_mean_38 : decode cX10_mean 38 = .ok (.ladd, 1) := by decide +kernel
theorem dX10_mean_39 : decode cX10_mean 39 = .ok (.lstore_n 3, 1) := by decide +kernel
theorem dX10_mean_40 : decode cX10_mean 40 = .ok (.iinc 5 1, 3) := by decide +kernel
theorem dX10_mean_43 : decode cX10_mean 43 = .ok (.goto (-19), 3) := by decide +kernel
theorem dX10_mean_46 : decode cX10_mean 46 = .ok (.lload_n 3, 1) := by decide +kernel
theorem dX10_mean_47 : decode cX10_mean 47 = .ok (.iload_n 2, 1) := by decide +kernel
theorem dX10_mean_48 : decode cX10_mean 48 = .ok (.invokestatic 323, 3) := by decide +kernel
theorem dX10_mean_51 : decode cX10_mean 51 = .ok (.lreturn, 1) := by decide +kernel
theorem dX10_hear_0 : decode cX10_hear 0 = .ok (.aload_n 0, 1) := by decide +kernel
theorem dX10_hear_1 : decode cX10_hear 1 = .ok (.iload_n 1, 1) := by decide +kernel
theorem dX10_hear_2 : decode cX10_hear 2 = .ok (.invokevirtual 209, 3) := by decide +kernel
theorem dX10_hear_5 : decode cX10_hear 5 = .ok (.ifCond .eq 10, 3) := by decide +kernel
theorem dX10_hear_8 : decode cX10_hear 8 = .ok (.iload_n 2, 1) := by decide +kernel
theorem dX10_hear_9 : decode cX10_hear 9 = .ok (.invokestatic 206, 3) := by decide +kernel
theorem dX10_hear_12 : decode cX10_hear 12 = .ok (.ifCond .ne 5, 3) := by decide +kernel
theorem dX10_hear_15 : decode cX10_hear 15 = .ok (.iconst (-1), 1) := by decide +kernel
theorem dX10_hear_16 : decode cX10_hear 16 = .ok (.ireturn, 1) := by decide +kernel
theorem dX10_hear_17 : decode cX10_hear 17 = .ok (.aload_n 0, 1) := by decide +kernel
theorem dX10_hear_18 : decode cX10_hear 18 = .ok (.getfield 7, 3) := by decide +kernel
theorem dX10_hear_21 : decode cX10_hear 21 = .ok (.bipush 29, 2) := by decide +kernel
theorem dX10_hear_23 : decode cX10_hear 23 = .ok (.iaload, 1) := by decide +kernel
theorem dX10_hear_24 : decode cX10_hear 24 = .ok (.bipush 8, 2) := by decide +kernel
theorem dX10_hear_26 : decode cX10_hear 26 = .ok (.if_icmp .ne 6, 3) := by decide +kernel
theorem dX10_hear_29 : decode cX10_hear 29 = .ok (.bipush (-3), 2) := by decide +kernel
theorem dX10_hear_31 : decode cX10_hear 31 = .ok (.ireturn, 1) := by decide +kernel
theorem dX10_hear_32 : decode cX10_hear 32 = .ok (.bipush 30, 2) := by decide +kernel
theorem dX10_hear_34 : decode cX10_hear 34 = .ok (.iconst 3, 1) := by decide +kernel
theorem dX10_hear_35 : decode cX10_hear 35 = .ok (.aload_n 0, 1) := by decide +kernel
theorem dX10_hear_36 : decode cX10_hear 36 = .ok (.getfield 7, 3) := by decide +kernel
theorem dX10_hear_39 : decode cX10_hear 39 = .ok (.bipush 29, 2) := by decide +kernel
theorem dX10_hear_41 : decode cX10_hear 41 = .ok (.iaload, 1) := by decide +kernel
theorem dX10_hear_42 : decode cX10_hear 42 = .ok (.imul, 1) := by decide +kernel
theorem dX10_hear_43 : decode cX10_hear 43 = .ok (.iadd, 1) := by decide +kernel
theorem dX10_hear_44 : decode cX10_hear 44 = .ok (.istore 4, 2) := by decide +kernel
theorem dX10_hear_46 : decode cX10_hear 46 = .ok (.aload_n 0, 1) := by decide +kernel
theorem dX10_hear_47 : decode cX10_hear 47 = .ok (.getfield 7, 3) := by decide +kernel
theorem dX10_hear_50 : decode cX10_hear 50 = .ok (.iload 4, 2) := by decide +kernel
theorem dX10_hear_52 : decode cX10_hear 52 = .ok (.iload_n 1, 1) := by decide +kernel
theorem dX10_hear_53 : decode cX10_hear 53 = .ok (.iastore, 1) := by decide +kernel
theorem dX10_hear_54 : decode cX10_hear 54 = .ok (.aload_n 0, 1) := by decide +kernel
theorem dX10_hear_55 : decode cX10_hear 55 = .ok (.getfield 7, 3) := by decide +kernel
theorem dX10_hear_58 : decode cX10_hear 58 = .ok (.iload 4, 2) := by decide +kernel
theorem dX10_hear_60 : decode cX10_hear 60 = .ok (.iconst 1, 1) := by decide +kernel
theorem dX10_hear_61 : decode cX10_hear 61 = .ok (.iadd, 1) := by decide +kernel
theorem dX10_hear_62 : decode cX10_hear 62 = .ok (.iload_n 2, 1) := by decide +kernel
theorem dX10_hear_63 : decode cX10_hear 63 = .ok (.iastore, 1) := by decide +kernel
theorem dX10_hear_64 : decode cX10_hear 64 = .ok (.aload_n 0, 1) := by decide +kernel
theorem dX10_hear_65 : decode cX10_hear 65 = .ok (.getfield 7, 3) := by decide +kernel
theorem dX10_hear_68 : decode cX10_hear 68 = .ok (.iload 4, 2) := by decide +kernel
theorem dX10_hear_70 : decode cX10_hear 70 = .ok (.iconst 2, 1) := by decide +kernel
theorem dX10_hear_71 : decode cX10_hear 71 = .ok (.iadd, 1) := by decide +kernel
theorem dX10_hear_72 : decode cX10_hear 72 = .ok (.iload_n 3, 1) := by decide +kernel
theorem dX10_hear_73 : decode cX10_hear 73 = .ok (.invokestatic 231, 3) := by decide +kernel
theorem dX10_hear_76 : decode cX10_hear 76 = .ok (.iastore, 1) := by decide +kernel
theorem dX10_hear_77 : decode cX10_hear 77 = .ok (.aload_n 0, 1) := by decide +kernel
theorem dX10_hear_78 : decode cX10_hear 78 = .ok (.getfield 7, 3) := by decide +kernel
theorem dX10_hear_81 : decode cX10_hear 81 = .ok (.bipush 29, 2) := by decide +kernel
theorem dX10_hear_83 : decode cX10_hear 83 = .ok (.dup2, 1) := by decide +kernel
theorem dX10_hear_84 : decode cX10_hear 84 = .ok (.iaload, 1) := by decide +kernel
theorem dX10_hear_85 : decode cX10_hear 85 = .ok (.iconst 1, 1) := by decide +kernel
theorem dX10_hear_86 : decode cX10_hear 86 = .ok (.iadd, 1) := by decide +kernel
theorem dX10_hear_87 : decode cX10_hear 87 = .ok (.iastore, 1) := by decide +kernel
theorem dX10_hear_88 : decode cX10_hear 88 = .ok (.aload_n 0, 1) := by decide +kernel
theorem dX10_hear_89 : decode cX10_hear 89 = .ok (.getfield 7, 3) := by decide +kernel
theorem dX10_hear_92 : decode cX10_hear 92 = .ok (.bipush 29, 2) := by decide +kernel
theorem dX10_hear_94 : decode cX10_hear 94 = .ok (.iaload, 1) := by decide +kernel
theorem dX10_hear_95 : decode cX10_hear 95 = .ok (.ireturn, 1) := by decide +kernel
theorem dX10_forget_0 : decode cX10_forget 0 = .ok (.iload_n 1, 1) := by decide +kernel
theorem dX10_forget_1 : decode cX10_forget 1 = .ok (.i2l, 1) := by decide +kernel
theorem dX10_forget_2 : decode cX10_forget 2 = .ok (.lconst 0, 1) := by decide +kernel
theorem dX10_forget_3 : decode cX10_forget 3 = .ok (.aload_n 0, 1) := by decide +kernel
theorem dX10_forget_4 : decode cX10_forget 4 = .ok (.getfield 7, 3) := by decide +kernel
theorem dX10_forget_7 : decode cX10_forget 7 = .ok (.bipush 29, 2) := by decide +kernel
theorem dX10_forget_9 : decode cX10_forget 9 = .ok (.iaload, 1) := by decide +kernel
theorem dX10_forget_10 : decode cX10_forget 10 = .ok (.i2l, 1) := by decide +kernel
theorem dX10_forget_11 : decode cX10_forget 11 = .ok (.invokestatic 112, 3) := by decide +kernel
theorem dX10_forget_14 : decode cX10_forget 14 = .ok (.ifCond .ne 5, 3) := by decide +kernel
theorem dX10_forget_17 : decode cX10_forget 17 = .ok (.iconst (-1), 1) := by decide +kernel
theorem dX10_forget_18 : decode cX10_forget 18 = .ok (.ireturn, 1) := by decide +kernel
theorem dX10_forget_19 : decode cX10_forget 19 = .ok (.aload_n 0, 1) := by decide +kernel
theorem dX10_forget_20 : decode cX10_forget 20 = .ok (.getfield 7, 3) := by decide +kernel
theorem dX10_forget_23 : decode cX10_forget 23 = .ok (.bipush 29, 2) := by decide +kernel
theorem dX10_forget_25 : decode cX10_forget 25 = .ok (.iaload, 1) := by decide +kernel
theorem dX10_forget_26 : decode cX10_forget 26 = .ok (.istore_n 2, 1) := by decide +kernel
theorem dX10_forget_27 : decode cX10_forget 27 = .ok (.aload_n 0, 1) := by decide +kernel
theorem dX10_forget_28 : decode cX10_forget 28 = .ok (.getfield 7, 3) := by decide +kernel
theorem dX10_forget_31 : decode cX10_forget 31 = .ok (.bipush 29, 2) := by decide +kernel
theorem dX10_forget_33 : decode cX10_forget 33 = .ok (.iload_n 1, 1) := by decide +kernel
theorem dX10_forget_34 : decode cX10_forget 34 = .ok (.iastore, 1) := by decide +kernel
theorem dX10_forget_35 : decode cX10_forget 35 = .ok (.iload_n 2, 1) := by decide +kernel
theorem dX10_forget_36 : decode cX10_forget 36 = .ok (.ireturn, 1) := by decide +kernel
theorem dX10_isFit_0 : decode cX10_isFit 0 = .ok (.iconst 1, 1) := by decide +kernel
theorem dX10_isFit_1 : decode cX10_isFit 1 = .ok (.istore_n 3, 1) := by decide +kernel
theorem dX10_isFit_2 : decode cX10_isFit 2 = .ok (.iconst 0, 1) := by decide +kernel
theorem dX10_isFit_3 : decode cX10_isFit 3 = .ok (.istore 4, 2) := by decide +kernel
theorem dX10_isFit_5 : decode cX10_isFit 5 = .ok (.iload 4, 2) := by decide +kernel
theorem dX10_isFit_7 : decode cX10_isFit 7 = .ok (.aload_n 0, 1) := by decide +kernel
theorem dX10_isFit_8 : decode cX10_isFit 8 = .ok (.getfield 7, 3) := by decide +kernel
theorem dX10_isFit_11 : decode cX10_isFit 11 = .ok (.bipush 29, 2) := by decide +kernel
theorem dX10_isFit_13 : decode cX10_isFit 13 = .ok (.iaload, 1) := by decide +kernel
theorem dX10_isFit_14 : decode cX10_isFit 14 = .ok (.if_icmp .ge 86, 3) := by decide +kernel
theorem dX10_isFit_17 : decode cX10_isFit 17 = .ok (.bipush 30, 2) := by decide +kernel
theorem dX10_isFit_19 : decode cX10_isFit 19 = .ok (.iconst 3, 1) := by decide +kernel
theorem dX10_isFit_20 : decode cX10_isFit 20 = .ok (.iload 4, 2) := by decide +kernel
theorem dX10_isFit_22 : decode cX10_isFit 22 = .ok (.imul, 1) := by decide +kernel
theorem dX10_isFit_23 : decode cX10_isFit 23 = .ok (.iadd, 1) := by decide +kernel
theorem dX10_isFit_24 : decode cX10_isFit 24 = .ok (.istore 5, 2) := by decide +kernel
theorem dX10_isFit_26 : decode cX10_isFit 26 = .ok (.iload_n 3, 1) := by decide +kernel
theorem dX10_isFit_27 : decode cX10_isFit 27 = .ok (.ifCond .eq 65, 3) := by decide +kernel
theorem dX10_isFit_30 : decode cX10_isFit 30 = .ok (.aload_n 0, 1) := by decide +kernel
theorem dX10_isFit_31 : decode cX10_isFit 31 = .ok (.getfield 7, 3) := by decide +kernel
theorem dX10_isFit_34 : decode cX10_isFit 34 = .ok (.iload 5, 2) := by decide +kernel
theorem dX10_isFit_36 : decode cX10_isFit 36 = .ok (.iaload, 1) := by decide +kernel
theorem dX10_isFit_37 : decode cX10_isFit 37 = .ok (.iload_n 1, 1) := by decide +kernel
theorem dX10_isFit_38 : decode cX10_isFit 38 = .ok (.if_icmp .ne 50, 3) := by decide +kernel
theorem dX10_isFit_41 : decode cX10_isFit 41 = .ok (.aload_n 0, 1) := by decide +kernel
theorem dX10_isFit_42 : decode cX10_isFit 42 = .ok (.aload_n 0, 1) := by decide +kernel
theorem dX10_isFit_43 : decode cX10_isFit 43 = .ok (.getfield 7, 3) := by decide +kernel
theorem dX10_isFit_46 : decode cX10_isFit 46 = .ok (.iload 5, 2) := by decide +kernel
theorem dX10_isFit_48 : decode cX10_isFit 48 = .ok (.iconst 1, 1) := by decide +kernel
theorem dX10_isFit_49 : decode cX10_isFit 49 = .ok (.iadd, 1) := by decide +kernel
theorem dX10_isFit_50 : decode cX10_isFit 50 = .ok (.iaload, 1) := by decide +kernel
theorem dX10_isFit_51 : decode cX10_isFit 51 = .ok (.aload_n 0, 1) := by decide +kernel
theorem dX10_isFit_52 : decode cX10_isFit 52 = .ok (.iload_n 2, 1) := by decide +kernel
theorem dX10_isFit_53 : decode cX10_isFit 53 = .ok (.invokevirtual 238, 3) := by decide +kernel
theorem dX10_isFit_56 : decode cX10_isFit 56 = .ok (.invokevirtual 235, 3) := by decide +kernel
theorem dX10_isFit_59 : decode cX10_isFit 59 = .ok (.ifCond .le 7, 3) := by decide +kernel
theorem dX10_isFit_62 : decode cX10_isFit 62 = .ok (.iconst 1, 1) := by decide +kernel
theorem dX10_isFit_63 : decode cX10_isFit 63 = .ok (.goto 4, 3) := by decide +kernel
theorem dX10_isFit_66 : decode cX10_isFit 66 = .ok (.iconst 0, 1) := by decide +kernel
theorem dX10_isFit_67 : decode cX10_isFit 67 = .ok (.aload_n 0, 1) := by decide +kernel
theorem dX10_isFit_68 : decode cX10_isFit 68 = .ok (.getfield 7, 3) := by decide +kernel
theorem dX10_isFit_71 : decode cX10_isFit 71 = .ok (.iload 5, 2) := by decide +kernel
theorem dX10_isFit_73 : decode cX10_isFit 73 = .ok (.iconst 2, 1) := by decide +kernel
theorem dX10_isFit_74 : decode cX10_isFit 74 = .ok (.iadd, 1) := by decide +kernel
theorem dX10_isFit_75 : decode cX10_isFit 75 = .ok (.iaload, 1) := by decide +kernel
theorem dX10_isFit_76 : decode cX10_isFit 76 = .ok (.iconst 1, 1) := by decide +kernel
theorem dX10_isFit_77 : decode cX10_isFit 77 = .ok (.if_icmp .ne 7, 3) := by decide +kernel
theorem dX10_isFit_80 : decode cX10_isFit 80 = .ok (.iconst 1, 1) := by decide +kernel
theorem dX10_isFit_81 : decode cX10_isFit 81 = .ok (.goto 4, 3) := by decide +kernel
theorem dX10_isFit_84 : decode cX10_isFit 84 = .ok (.iconst 0, 1) := by decide +kernel
theorem dX10_isFit_85 : decode cX10_isFit 85 = .ok (.if_icmp .ne 7, 3) := by decide +kernel
theorem dX10_isFit_88 : decode cX10_isFit 88 = .ok (.iconst 1, 1) := by decide +kernel
theorem dX10_isFit_89 : decode cX10_isFit 89 = .ok (.goto 4, 3) := by decide +kernel
theorem dX10_isFit_92 : decode cX10_isFit 92 = .ok (.iconst 0, 1) := by decide +kernel
theorem dX10_isFit_93 : decode cX10_isFit 93 = .ok (.istore_n 3, 1) := by decide +kernel
theorem dX10_isFit_94 : decode cX10_isFit 94 = .ok (.iinc 4 1, 3) := by decide +kernel
theorem dX10_isFit_97 : decode cX10_isFit 97 = .ok (.goto (-92), 3) := by decide +kernel
theorem dX10_isFit_100 : decode cX10_isFit 100 = .ok (.iload_n 3, 1) := by decide +kernel
theorem dX10_isFit_101 : decode cX10_isFit 101 = .ok (.ireturn, 1) := by decide +kernel
theorem dX10_fits_0 : decode cX10_fits 0 = .ok (.aload_n 0, 1) := by decide +kernel
theorem dX10_fits_1 : decode cX10_fits 1 = .ok (.iload_n 1, 1) := by decide +kernel
theorem dX10_fits_2 : decode cX10_fits 2 = .ok (.invokevirtual 209, 3) := by decide +kernel
theorem dX10_fits_5 : decode cX10_fits 5 = .ok (.ifCond .eq 15, 3) := by decide +kernel
theorem dX10_fits_8 : decode cX10_fits 8 = .ok (.iload_n 2, 1) := by decide +kernel
theorem dX10_fits_9 : decode cX10_fits 9 = .ok (.i2l, 1) := by decide +kernel
theorem dX10_fits_10 : decode cX10_fits 10 = .ok (.lconst 0, 1) := by decide +kernel
theorem dX10_fits_11 : decode cX10_fits 11 = .ok (.ldc2_w 194, 3) := by decide +kernel
theorem dX10_fits_14 : decode cX10_fits 14 = .ok (.invokestatic 112, 3) := by decide +kernel
theorem dX10_fits_17 : decode cX10_fits 17 = .ok (.ifCond .ne 5, 3) := by decide +kernel
theorem dX10_fits_20 : decode cX10_fits 20 = .ok (.iconst (-1), 1) := by decide +kernel
theorem dX10_fits_21 : decode cX10_fits 21 = .ok (.ireturn, 1) := by decide +kernel
theorem dX10_fits_22 : decode cX10_fits 22 = .ok (.iconst 0, 1) := by decide +kernel
theorem dX10_fits_23 : decode cX10_fits 23 = .ok (.istore_n 3, 1) := by decide +kernel
theorem dX10_fits_24 : decode cX10_fits 24 = .ok (.bipush (-4), 2) := by decide +kernel
theorem dX10_fits_26 : decode cX10_fits 26 = .ok (.istore 4, 2) := by decide +kernel
theorem dX10_fits_28 : decode cX10_fits 28 = .ok (.iconst 1, 1) := by decide +kernel
theorem dX10_fits_29 : decode cX10_fits 29 = .ok (.iconst 2, 1) := by decide +kernel
theorem dX10_fits_30 : decode cX10_fits 30 = .ok (.aload_n 0, 1) := by decide +kernel
theorem dX10_fits_31 : decode cX10_fits 31 = .ok (.getfield 94, 3) := by decide +kernel
theorem dX10_fits_34 : decode cX10_fits 34 = .ok (.imul, 1) := by decide +kernel
theorem dX10_fits_35 : decode cX10_fits 35 = .ok (.ishl, 1) := by decide +kernel
theorem dX10_fits_36 : decode cX10_fits 36 = .ok (.iconst 1, 1) := by decide +kernel
theorem dX10_fits_37 : decode cX10_fits 37 = .ok (.isub, 1) := by decide +kernel
theorem dX10_fits_38 : decode cX10_fits 38 = .ok (.istore 5, 2) := by decide +kernel
theorem dX10_fits_40 : decode cX10_fits 40 = .ok (.iconst 0, 1) := by decide +kernel
theorem dX10_fits_41 : decode cX10_fits 41 = .ok (.istore 6, 2) := by decide +kernel
theorem dX10_fits_43 : decode cX10_fits 43 = .ok (.iconst 0, 1) := by decide +kernel
theorem dX10_fits_44 : decode cX10_fits 44 = .ok (.istore 7, 2) := by decide +kernel
theorem dX10_fits_46 : decode cX10_fits 46 = .ok (.iload 7, 2) := by decide +kernel
theorem dX10_fits_48 : decode cX10_fits 48 = .ok (.aload_n 0, 1) := by decide +kernel
theorem dX10_fits_49 : decode cX10_fits 49 = .ok (.getfield 104, 3) := by decide +kernel
theorem dX10_fits_52 : decode cX10_fits 52 = .ok (.if_icmp .ge 57, 3) := by decide +kernel
theorem dX10_fits_55 : decode cX10_fits 55 = .ok (.aload_n 0, 1) := by decide +kernel
theorem dX10_fits_56 : decode cX10_fits 56 = .ok (.iload_n 1, 1) := by decide +kernel
theorem dX10_fits_57 : decode cX10_fits 57 = .ok (.iload 7, 2) := by decide +kernel
theorem dX10_fits_59 : decode cX10_fits 59 = .ok (.invokevirtual 329, 3) := by decide +kernel
theorem dX10_fits_62 : decode cX10_fits 62 = .ok (.ifCond .eq 41, 3) := by decide +kernel
theorem dX10_fits_65 : decode cX10_fits 65 = .ok (.iload_n 3, 1) := by decide +kernel
theorem dX10_fits_66 : decode cX10_fits 66 = .ok (.ifCond .ne 8, 3) := by decide +kernel
theorem dX10_fits_69 : decode cX10_fits 69 = .ok (.iload 7, 2) := by decide +kernel
theorem dX10_fits_71 : decode cX10_fits 71 = .ok (.goto 5, 3) := by decide +kernel
theorem dX10_fits_74 : decode cX10_fits 74 = .ok (.iload 4, 2) := by decide +kernel
theorem dX10_fits_76 : decode cX10_fits 76 = .ok (.istore 4, 2) := by decide +kernel
theorem dX10_fits_78 : decode cX10_fits 78 = .ok (.iload 5, 2) := by decide +kernel
theorem dX10_fits_80 : decode cX10_fits 80 = .ok (.aload_n 0, 1) := by decide +kernel
theorem dX10_fits_81 : decode cX10_fits 81 = .ok (.iload 7, 2) := by decide +kernel
theorem dX10_fits_83 : decode cX10_fits 83 = .ok (.invokevirtual 238, 3) := by decide +kernel
theorem dX10_fits_86 : decode cX10_fits 86 = .ok (.iand, 1) := by decide +kernel
theorem dX10_fits_87 : decode cX10_fits 87 = .ok (.istore 5, 2) := by decide +kernel
theorem dX10_fits_89 : decode cX10_fits 89 = .ok (.iload 6, 2) := by decide +kernel
theorem dX10_fits_91 : decode cX10_fits 91 = .ok (.aload_n 0, 1) := by decide +kernel
theorem dX10_fits_92 : decode cX10_fits 92 = .ok (.iload 7, 2) := by decide +kernel
theorem dX10_fits_94 : decode cX10_fits 94 = .ok (.invokevirtual 238, 3) := by decide +kernel
theorem dX10_fits_97 : decode cX10_fits 97 = .ok (.ior, 1) := by decide +kernel
theorem dX10_fits_98 : decode cX10_fits 98 = .ok (.istore 6, 2) := by decide +kernel
theorem dX10_fits_100 : decode cX10_fits 100 = .ok (.iinc 3 1, 3) := by decide +kernel
theorem dX10_fits_103 : decode cX10_fits 103 = .ok (.iinc 7 1, 3) := by decide +kernel
theorem dX10_fits_106 : decode cX10_fits 106 = .ok (.goto (-60), 3) := by decide +kernel
theorem dX10_fits_109 : decode cX10_fits 109 = .ok (.iload_n 2, 1) := by decide +kernel
theorem dX10_fits_110 : decode cX10_fits 110 = .ok (.ifCond .eq 7, 3) := by decide +kernel
theorem dX10_fits_113 : decode cX10_fits 113 = .ok (.iload_n 3, 1) := by decide +kernel
theorem dX10_fits_114 : decode cX10_fits 114 = .ok (.ifCond .ne 14, 3) := by decide +kernel
theorem dX10_fits_117 : decode cX10_fits 117 = .ok (.iload_n 2, 1) := by decide +kernel
theorem dX10_fits_118 : decode cX10_fits 118 = .ok (.ifCond .ne 7, 3) := by decide +kernel
theorem dX10_fits_121 : decode cX10_fits 121 = .ok (.iload_n 3, 1) := by decide +kernel
theorem dX10_fits_122 : decode cX10_fits 122 = .ok (.goto 5, 3) := by decide +kernel
theorem dX10_fits_125 : decode cX10_fits 125 = .ok (.bipush (-4), 2) := by decide +kernel
theorem dX10_fits_127 : decode cX10_fits 127 = .ok (.ireturn, 1) := by decide +kernel
theorem dX10_fits_128 : decode cX10_fits 128 = .ok (.iload_n 2, 1) := by decide +kernel
theorem dX10_fits_129 : decode cX10_fits 129 = .ok (.iconst 1, 1) := by decide +kernel
theorem dX10_fits_130 : decode cX10_fits 130 = .ok (.if_icmp .ne 8, 3) := by decide +kernel
theorem dX10_fits_133 : decode cX10_fits 133 = .ok (.iload 4, 2) := by decide +kernel
theorem dX10_fits_135 : decode cX10_fits 135 = .ok (.goto 28, 3) := by decide +kernel
theorem dX10_fits_138 : decode cX10_fits 138 = .ok (.iload_n 2, 1) := by decide +kernel
theorem dX10_fits_139 : decode cX10_fits 139 = .ok (.iconst 2, 1) := by decide +kernel
theorem dX10_fits_140 : decode cX10_fits 140 = .ok (.if_icmp .ne 8, 3) := by decide +kernel
theorem dX10_fits_143 : decode cX10_fits 143 = .ok (.iload 5, 2) := by decide +kernel
theorem dX10_fits_145 : decode cX10_fits 145 = .ok (.goto 18, 3) := by decide +kernel
theorem dX10_fits_148 : decode cX10_fits 148 = .ok (.iconst 1, 1) := by decide +kernel
theorem dX10_fits_149 : decode cX10_fits 149 = .ok (.iconst 2, 1) := by decide +kernel
theorem dX10_fits_150 : decode cX10_fits 150 = .ok (.aload_n 0, 1) := by decide +kernel
theorem dX10_fits_151 : decode cX10_fits 151 = .ok (.getfield 94, 3) := by decide +kernel
theorem dX10_fits_154 : decode cX10_fits 154 = .ok (.imul, 1) := by decide +kernel
theorem dX10_fits_155 : decode cX10_fits 155 = .ok (.ishl, 1) := by decide +kernel
theorem dX10_fits_156 : decode cX10_fits 156 = .ok (.iconst 1, 1) := by decide +kernel
theorem dX10_fits_157 : decode cX10_fits 157 = .ok (.isub, 1) := by decide +kernel
theorem dX10_fits_158 : decode cX10_fits 158 = .ok (.iload 6, 2) := by decide +kernel
theorem dX10_fits_160 : decode cX10_fits 160 = .ok (.iconst (-1), 1) := by decide +kernel
theorem dX10_fits_161 : decode cX10_fits 161 = .ok (.ixor, 1) := by decide +kernel
theorem dX10_fits_162 : decode cX10_fits 162 = .ok (.iand, 1) := by decide +kernel
theorem dX10_fits_163 : decode cX10_fits 163 = .ok (.ireturn, 1) := by decide +kernel
theorem dX10_copies_0 : decode cX10_copies 0 = .ok (.iconst 0, 1) := by decide +kernel
theorem dX10_copies_1 : decode cX10_copies 1 = .ok (.istore_n 3, 1) := by decide +kernel
theorem dX10_copies_2 : decode cX10_copies 2 = .ok (.iload_n 3, 1) := by decide +kernel
theorem dX10_copies_3 : decode cX10_copies 3 = .ok (.bipush 54, 2) := by decide +kernel
theorem dX10_copies_5 : decode cX10_copies 5 = .ok (.if_icmp .ge 25, 3) := by decide +kernel
theorem dX10_copies_8 : decode cX10_copies 8 = .ok (.aload_n 0, 1) := by decide +kernel
theorem dX10_copies_9 : decode cX10_copies 9 = .ok (.getfield 7, 3) := by decide +kernel
theorem dX10_copies_12 : decode cX10_copies 12 = .ok (.iload_n 1, 1) := by decide +kernel
theorem dX10_copies_13 : decode cX10_copies 13 = .ok (.iload_n 3, 1) := by decide +kernel
theorem dX10_copies_14 : decode cX10_copies 14 = .ok (.iadd, 1) := by decide +kernel
theorem dX10_copies_15 : decode cX10_copies 15 = .ok (.aload_n 0, 1) := by decide +kernel
theorem dX10_copies_16 : decode cX10_copies 16 = .ok (.getfield 7, 3) := by decide +kernel
theorem dX10_copies_19 : decode cX10_copies 19 = .ok (.iload_n 2, 1) := by decide +kernel
theorem dX10_copies_20 : decode cX10_copies 20 = .ok (.iload_n 3, 1) := by decide +kernel
theorem dX10_copies_21 : decode cX10_copies 21 = .ok (.iadd, 1) := by decide +kernel
theorem dX10_copies_22 : decode cX10_copies 22 = .ok (.iaload, 1) := by decide +kernel
theorem dX10_copies_23 : decode cX10_copies 23 = .ok (.iastore, 1) := by decide +kernel
theorem dX10_copies_24 : decode cX10_copies 24 = .ok (.iinc 3 1, 3) := by decide +kernel
theorem dX10_copies_27 : decode cX10_copies 27 = .ok (.goto (-25), 3) := by decide +kernel
theorem dX10_copies_30 : decode cX10_copies 30 = .ok (.return_, 1) := by decide +kernel
theorem dX10_keep_0 : decode cX10_keep 0 = .ok (.iload_n 1, 1) := by decide +kernel
theorem dX10_keep_1 : decode cX10_keep 1 = .ok (.i2l, 1) := by decide +kernel
theorem dX10_keep_2 : decode cX10_keep 2 = .ok (.lconst 0, 1) := by decide +kernel
theorem dX10_keep_3 : decode cX10_keep 3 = .ok (.lconst 1, 1) := by decide +kernel
theorem dX10_keep_4 : decode cX10_keep 4 = .ok (.invokestatic 112, 3) := by decide +kernel
theorem dX10_keep_7 : decode cX10_keep 7 = .ok (.ifCond .ne 5, 3) := by decide +kernel
theorem dX10_keep_10 : decode cX10_keep 10 = .ok (.iconst (-1), 1) := by decide +kernel
theorem dX10_keep_11 : decode cX10_keep 11 = .ok (.ireturn, 1) := by decide +kernel
theorem dX10_keep_12 : decode cX10_keep 12 = .ok (.aload_n 0, 1) := by decide +kernel
theorem dX10_keep_13 : decode cX10_keep 13 = .ok (.getfield 13, 3) := by decide +kernel
theorem dX10_keep_16 : decode cX10_keep 16 = .ok (.iload_n 1, 1) := by decide +kernel
theorem dX10_keep_17 : decode cX10_keep 17 = .ok (.baload, 1) := by decide +kernel
theorem dX10_keep_18 : decode cX10_keep 18 = .ok (.invokestatic 231, 3) := by decide +kernel
theorem dX10_keep_21 : decode cX10_keep 21 = .ok (.istore_n 2, 1) := by decide +kernel
theorem dX10_keep_22 : decode cX10_keep 22 = .ok (.aload_n 0, 1) := by decide +kernel
theorem dX10_keep_23 : decode cX10_keep 23 = .ok (.getfield 13, 3) := by decide +kernel
theorem dX10_keep_26 : decode cX10_keep 26 = .ok (.iload_n 1, 1) := by decide +kernel
theorem dX10_keep_27 : decode cX10_keep 27 = .ok (.iconst 1, 1) := by decide +kernel
theorem dX10_keep_28 : decode cX10_keep 28 = .ok (.bastore, 1) := by decide +kernel
theorem dX10_keep_29 : decode cX10_keep 29 = .ok (.aload_n 0, 1) := by decide +kernel
theorem dX10_keep_30 : decode cX10_keep 30 = .ok (.bipush 54, 2) := by decide +kernel
theorem dX10_keep_32 : decode cX10_keep 32 = .ok (.iload_n 1, 1) := by decide +kernel
theorem dX10_keep_33 : decode cX10_keep 33 = .ok (.iconst 1, 1) := by decide +kernel
theorem dX10_keep_34 : decode cX10_keep 34 = .ok (.iadd, 1) := by decide +kernel
theorem dX10_keep_35 : decode cX10_keep 35 = .ok (.imul, 1) := by decide +kernel
theorem dX10_keep_36 : decode cX10_keep 36 = .ok (.iconst 0, 1) := by decide +kernel
theorem dX10_keep_37 : decode cX10_keep 37 = .ok (.invokevirtual 332, 3) := by decide +kernel
theorem dX10_keep_40 : decode cX10_keep 40 = .ok (.iload_n 2, 1) := by decide +kernel
theorem dX10_keep_41 : decode cX10_keep 41 = .ok (.ireturn, 1) := by decide +kernel
theorem dX10_back_0 : decode cX10_back 0 = .ok (.iload_n 1, 1) := by decide +kernel
theorem dX10_back_1 : decode cX10_back 1 = .ok (.i2l, 1) := by decide +kernel
theorem dX10_back_2 : decode cX10_back 2 = .ok (.lconst 0, 1) := by decide +kernel
theorem dX10_back_3 : decode cX10_back 3 = .ok (.lconst 1, 1) := by decide +kernel
theorem dX10_back_4 : decode cX10_back 4 = .ok (.invokestatic 112, 3) := by decide +kernel
theorem dX10_back_7 : decode cX10_back 7 = .ok (.ifCond .ne 5, 3) := by decide +kernel
theorem dX10_back_10 : decode cX10_back 10 = .ok (.iconst (-1), 1) := by decide +kernel
theorem dX10_back_11 : decode cX10_back 11 = .ok (.ireturn, 1) := by decide +kernel
theorem dX10_back_12 : decode cX10_back 12 = .ok (.aload_n 0, 1) := by decide +kernel
theorem dX10_back_13 : decode cX10_back 13 = .ok (.getfield 13, 3) := by decide +kernel
theorem dX10_back_16 : decode cX10_back 16 = .ok (.iload_n 1, 1) := by decide +kernel
theorem dX10_back_17 : decode cX10_back 17 = .ok (.baload, 1) := by decide +kernel
theorem dX10_back_18 : decode cX10_back 18 = .ok (.ifCond .ne 6, 3) := by decide +kernel
theorem dX10_back_21 : decode cX10_back 21 = .ok (.bipush (-2), 2) := by decide +kernel
theorem dX10_back_23 : decode cX10_back 23 = .ok (.ireturn, 1) := by decide +kernel
theorem dX10_back_24 : decode cX10_back 24 = .ok (.aload_n 0, 1) := by decide +kernel
theorem dX10_back_25 : decode cX10_back 25 = .ok (.iconst 0, 1) := by decide +kernel
theorem dX10_back_26 : decode cX10_back 26 = .ok (.bipush 54, 2) := by decide +kernel
theorem dX10_back_28 : decode cX10_back 28 = .ok (.iload_n 1, 1) := by decide +kernel
theorem dX10_back_29 : decode cX10_back 29 = .ok (.iconst 1, 1) := by decide +kernel
theorem dX10_back_30 : decode cX10_back 30 = .ok (.iadd, 1) := by decide +kernel
theorem dX10_back_31 : decode cX10_back 31 = .ok (.imul, 1) := by decide +kernel
theorem dX10_back_32 : decode cX10_back 32 = .ok (.invokevirtual 332, 3) := by decide +kernel
theorem dX10_back_35 : decode cX10_back 35 = .ok (.aload_n 0, 1) := by decide +kernel
theorem dX10_back_36 : decode cX10_back 36 = .ok (.getfield 94, 3) := by decide +kernel
theorem dX10_back_39 : decode cX10_back 39 = .ok (.ireturn, 1) := by decide +kernel
theorem dX10_isSheet_0 : decode cX10_isSheet 0 = .ok (.iload_n 0, 1) := by decide +kernel
theorem dX10_isSheet_1 : decode cX10_isSheet 1 = .ok (.i2l, 1) := by decide +kernel
theorem dX10_isSheet_2 : decode cX10_isSheet 2 = .ok (.lconst 0, 1) := by decide +kernel
theorem dX10_isSheet_3 : decode cX10_isSheet 3 = .ok (.ldc2_w 194, 3) := by decide +kernel
theorem dX10_isSheet_6 : decode cX10_isSheet 6 = .ok (.invokestatic 112, 3) := by decide +kernel
theorem dX10_isSheet_9 : decode cX10_isSheet 9 = .ok (.ifCond .eq 19, 3) := by decide +kernel
theorem dX10_isSheet_12 : decode cX10_isSheet 12 = .ok (.iload_n 1, 1) := by decide +kernel
theorem dX10_isSheet_13 : decode cX10_isSheet 13 = .ok (.i2l, 1) := by decide +kernel
theorem dX10_isSheet_14 : decode cX10_isSheet 14 = .ok (.lconst 0, 1) := by decide +kernel
theorem dX10_isSheet_15 : decode cX10_isSheet 15 = .ok (.ldc2_w 336, 3) := by decide +kernel
theorem dX10_isSheet_18 : decode cX10_isSheet 18 = .ok (.invokestatic 112, 3) := by decide +kernel
theorem dX10_isSheet_21 : decode cX10_isSheet 21 = .ok (.ifCond .eq 7, 3) := by decide +kernel
theorem dX10_isSheet_24 : decode cX10_isSheet 24 = .ok (.iconst 1, 1) := by decide +kernel
theorem dX10_isSheet_25 : decode cX10_isSheet 25 = .ok (.goto 4, 3) := by decide +kernel
theorem dX10_isSheet_28 : decode cX10_isSheet 28 = .ok (.iconst 0, 1) := by decide +kernel
theorem dX10_isSheet_29 : decode cX10_isSheet 29 = .ok (.ireturn, 1) := by decide +kernel
theorem dX10_sheet_0 : decode cX10_sheet 0 = .ok (.iload_n 1, 1) := by decide +kernel
theorem dX10_sheet_1 : decode cX10_sheet 1 = .ok (.iload_n 2, 1) := by decide +kernel
theorem dX10_sheet_2 : decode cX10_sheet 2 = .ok (.invokestatic 338, 3) := by decide +kernel
theorem dX10_sheet_5 : decode cX10_sheet 5 = .ok (.ifCond .eq 9, 3) := by decide +kernel
theorem dX10_sheet_8 : decode cX10_sheet 8 = .ok (.iload_n 3, 1) := by decide +kernel
theorem dX10_sheet_9 : decode cX10_sheet 9 = .ok (.bipush 40, 2) := by decide +kernel
theorem dX10_sheet_11 : decode cX10_sheet 11 = .ok (.if_icmp .le 5, 3) := by decide +kernel
theorem dX10_sheet_14 : decode cX10_sheet 14 = .ok (.iconst (-1), 1) := by decide +kernel
theorem dX10_sheet_15 : decode cX10_sheet 15 = .ok (.ireturn, 1) := by decide +kernel
theorem dX10_sheet_16 : decode cX10_sheet 16 = .ok (.iload_n 3, 1) := by decide +kernel
theorem dX10_sheet_17 : decode cX10_sheet 17 = .ok (.ifCond .ge 6, 3) := by decide +kernel
theorem dX10_sheet_20 : decode cX10_sheet 20 = .ok (.bipush (-14), 2) := by decide +kernel
theorem dX10_sheet_22 : decode cX10_sheet 22 = .ok (.ireturn, 1) := by decide +kernel
theorem dX10_sheet_23 : decode cX10_sheet 23 = .ok (.aload_n 0, 1) := by decide +kernel
theorem dX10_sheet_24 : decode cX10_sheet 24 = .ok (.getfield 50, 3) := by decide +kernel
theorem dX10_sheet_27 : decode cX10_sheet 27 = .ok (.iload_n 1, 1) := by decide +kernel
theorem dX10_sheet_28 : decode cX10_sheet 28 = .ok (.iload_n 2, 1) := by decide +kernel
theorem dX10_sheet_29 : decode cX10_sheet 29 = .ok (.iastore, 1) := by decide +kernel
theorem dX10_sheet_30 : decode cX10_sheet 30 = .ok (.aload_n 0, 1) := by decide +kernel
theorem dX10_sheet_31 : decode cX10_sheet 31 = .ok (.getfield 53, 3) := by decide +kernel
theorem dX10_sheet_34 : decode cX10_sheet 34 = .ok (.iload_n 1, 1) := by decide +kernel
theorem dX10_sheet_35 : decode cX10_sheet 35 = .ok (.iload_n 3, 1) := by decide +kernel
theorem dX10_sheet_36 : decode cX10_sheet 36 = .ok (.iastore, 1) := by decide +kernel
theorem dX10_sheet_37 : decode cX10_sheet 37 = .ok (.iconst 0, 1) := by decide +kernel
theorem dX10_sheet_38 : decode cX10_sheet 38 = .ok (.istore 4, 2) := by decide +kernel
theorem dX10_sheet_40 : decode cX10_sheet 40 = .ok (.iload 4, 2) := by decide +kernel
theorem dX10_sheet_42 : decode cX10_sheet 42 = .ok (.bipush 40, 2) := by decide +kernel
theorem dX10_sheet_44 : decode cX10_sheet 44 = .ok (.if_icmp .ge 22, 3) := by decide +kernel
theorem dX10_sheet_47 : decode cX10_sheet 47 = .ok (.aload_n 0, 1) := by decide +kernel
theorem dX10_sheet_48 : decode cX10_sheet 48 = .ok (.getfield 56, 3) := by decide +kernel
theorem dX10_sheet_51 : decode cX10_sheet 51 = .ok (.bipush 40, 2) := by decide +kernel
theorem dX10_sheet_53 : decode cX10_sheet 53 = .ok (.iload_n 1, 1) := by decide +kernel
theorem dX10_sheet_54 : decode cX10_sheet 54 = .ok (.imul, 1) := by decide +kernel
theorem dX10_sheet_55 : decode cX10_sheet 55 = .ok (.iload 4, 2) := by decide +kernel
theorem dX10_sheet_57 : decode cX10_sheet 57 = .ok (.iadd, 1) := by decide +kernel
theorem dX10_sheet_58 : decode cX10_sheet 58 = .ok (.iconst 0, 1) := by decide +kernel
theorem dX10_sheet_59 : decode cX10_sheet 59 = .ok (.iastore, 1) := by decide +kernel
theorem dX10_sheet_60 : decode cX10_sheet 60 = .ok (.iinc 4 1, 3) := by decide +kernel
theorem dX10_sheet_63 : decode cX10_sheet 63 = .ok (.goto (-23), 3) := by decide +kernel
theorem dX10_sheet_66 : decode cX10_sheet 66 = .ok (.iconst 1, 1) := by decide +kernel
theorem dX10_sheet_67 : decode cX10_sheet 67 = .ok (.ireturn, 1) := by decide +kernel
theorem dX10_lay_0 : decode cX10_lay 0 = .ok (.iload_n 1, 1) := by decide +kernel
theorem dX10_lay_1 : decode cX10_lay 1 = .ok (.iconst 0, 1) := by decide +kernel
theorem dX10_lay_2 : decode cX10_lay 2 = .ok (.invokestatic 338, 3) := by decide +kernel
theorem dX10_lay_5 : decode cX10_lay 5 = .ok (.ifCond .ne 5, 3) := by decide +kernel
theorem dX10_lay_8 : decode cX10_lay 8 = .ok (.iconst (-1), 1) := by decide +kernel
theorem dX10_lay_9 : decode cX10_lay 9 = .ok (.ireturn, 1) := by decide +kernel
theorem dX10_lay_10 : decode cX10_lay 10 = .ok (.aload_n 0, 1) := by decide +kernel
theorem dX10_lay_11 : decode cX10_lay 11 = .ok (.getfield 50, 3) := by decide +kernel
theorem dX10_lay_14 : decode cX10_lay 14 = .ok (.iload_n 1, 1) := by decide +kernel
theorem dX10_lay_15 : decode cX10_lay 15 = .ok (.iaload, 1) := by decide +kernel
theorem dX10_lay_16 : decode cX10_lay 16 = .ok (.bipush (-4), 2) := by decide +kernel
theorem dX10_lay_18 : decode cX10_lay 18 = .ok (.if_icmp .ne 6, 3) := by decide +kernel
theorem dX10_lay_21 : decode cX10_lay 21 = .ok (.bipush (-11), 2) := by decide +kernel
theorem dX10_lay_23 : decode cX10_lay 23 = .ok (.ireturn, 1) := by decide +kernel
theorem dX10_lay_24 : decode cX10_lay 24 = .ok (.iload_n 2, 1) := by decide +kernel
theorem dX10_lay_25 : decode cX10_lay 25 = .ok (.i2l, 1) := by decide +kernel
