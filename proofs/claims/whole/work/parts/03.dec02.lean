theorem dX5_bedLine_56 : decode cX5_bedLine 56 = .ok (.ishl, 1) := by decide +kernel
theorem dX5_bedLine_57 : decode cX5_bedLine 57 = .ok (.ior, 1) := by decide +kernel
theorem dX5_bedLine_58 : decode cX5_bedLine 58 = .ok (.putfield 64, 3) := by decide +kernel
theorem dX5_bedLine_61 : decode cX5_bedLine 61 = .ok (.aload_n 0, 1) := by decide +kernel
theorem dX5_bedLine_62 : decode cX5_bedLine 62 = .ok (.getfield 38, 3) := by decide +kernel
theorem dX5_bedLine_65 : decode cX5_bedLine 65 = .ok (.getfield 156, 3) := by decide +kernel
theorem dX5_bedLine_68 : decode cX5_bedLine 68 = .ok (.iload_n 1, 1) := by decide +kernel
theorem dX5_bedLine_69 : decode cX5_bedLine 69 = .ok (.aload_n 0, 1) := by decide +kernel
theorem dX5_bedLine_70 : decode cX5_bedLine 70 = .ok (.getfield 48, 3) := by decide +kernel
theorem dX5_bedLine_73 : decode cX5_bedLine 73 = .ok (.iastore, 1) := by decide +kernel
theorem dX5_bedLine_74 : decode cX5_bedLine 74 = .ok (.iconst 1, 1) := by decide +kernel
theorem dX5_bedLine_75 : decode cX5_bedLine 75 = .ok (.ireturn, 1) := by decide +kernel
theorem dX5_agrees_0 : decode cX5_agrees 0 = .ok (.iconst 0, 1) := by decide +kernel
theorem dX5_agrees_1 : decode cX5_agrees 1 = .ok (.istore_n 1, 1) := by decide +kernel
theorem dX5_agrees_2 : decode cX5_agrees 2 = .ok (.iconst 0, 1) := by decide +kernel
theorem dX5_agrees_3 : decode cX5_agrees 3 = .ok (.istore_n 2, 1) := by decide +kernel
theorem dX5_agrees_4 : decode cX5_agrees 4 = .ok (.iload_n 2, 1) := by decide +kernel
theorem dX5_agrees_5 : decode cX5_agrees 5 = .ok (.bipush 6, 2) := by decide +kernel
theorem dX5_agrees_7 : decode cX5_agrees 7 = .ok (.if_icmp .ge 31, 3) := by decide +kernel
theorem dX5_agrees_10 : decode cX5_agrees 10 = .ok (.iload_n 1, 1) := by decide +kernel
theorem dX5_agrees_11 : decode cX5_agrees 11 = .ok (.aload_n 0, 1) := by decide +kernel
theorem dX5_agrees_12 : decode cX5_agrees 12 = .ok (.getfield 38, 3) := by decide +kernel
theorem dX5_agrees_15 : decode cX5_agrees 15 = .ok (.getfield 152, 3) := by decide +kernel
theorem dX5_agrees_18 : decode cX5_agrees 18 = .ok (.iload_n 2, 1) := by decide +kernel
theorem dX5_agrees_19 : decode cX5_agrees 19 = .ok (.iaload, 1) := by decide +kernel
theorem dX5_agrees_20 : decode cX5_agrees 20 = .ok (.ifCond .eq 9, 3) := by decide +kernel
theorem dX5_agrees_23 : decode cX5_agrees 23 = .ok (.iconst 1, 1) := by decide +kernel
theorem dX5_agrees_24 : decode cX5_agrees 24 = .ok (.iload_n 2, 1) := by decide +kernel
theorem dX5_agrees_25 : decode cX5_agrees 25 = .ok (.ishl, 1) := by decide +kernel
theorem dX5_agrees_26 : decode cX5_agrees 26 = .ok (.goto 4, 3) := by decide +kernel
theorem dX5_agrees_29 : decode cX5_agrees 29 = .ok (.iconst 0, 1) := by decide +kernel
theorem dX5_agrees_30 : decode cX5_agrees 30 = .ok (.ior, 1) := by decide +kernel
theorem dX5_agrees_31 : decode cX5_agrees 31 = .ok (.istore_n 1, 1) := by decide +kernel
theorem dX5_agrees_32 : decode cX5_agrees 32 = .ok (.iinc 2 1, 3) := by decide +kernel
theorem dX5_agrees_35 : decode cX5_agrees 35 = .ok (.goto (-31), 3) := by decide +kernel
theorem dX5_agrees_38 : decode cX5_agrees 38 = .ok (.aload_n 0, 1) := by decide +kernel
theorem dX5_agrees_39 : decode cX5_agrees 39 = .ok (.getfield 64, 3) := by decide +kernel
theorem dX5_agrees_42 : decode cX5_agrees 42 = .ok (.aload_n 0, 1) := by decide +kernel
theorem dX5_agrees_43 : decode cX5_agrees 43 = .ok (.getfield 31, 3) := by decide +kernel
theorem dX5_agrees_46 : decode cX5_agrees 46 = .ok (.getfield 125, 3) := by decide +kernel
theorem dX5_agrees_49 : decode cX5_agrees 49 = .ok (.ishr, 1) := by decide +kernel
theorem dX5_agrees_50 : decode cX5_agrees 50 = .ok (.ifCond .ne 20, 3) := by decide +kernel
theorem dX5_agrees_53 : decode cX5_agrees 53 = .ok (.iload_n 1, 1) := by decide +kernel
theorem dX5_agrees_54 : decode cX5_agrees 54 = .ok (.aload_n 0, 1) := by decide +kernel
theorem dX5_agrees_55 : decode cX5_agrees 55 = .ok (.getfield 61, 3) := by decide +kernel
theorem dX5_agrees_58 : decode cX5_agrees 58 = .ok (.ior, 1) := by decide +kernel
theorem dX5_agrees_59 : decode cX5_agrees 59 = .ok (.aload_n 0, 1) := by decide +kernel
theorem dX5_agrees_60 : decode cX5_agrees 60 = .ok (.getfield 31, 3) := by decide +kernel
theorem dX5_agrees_63 : decode cX5_agrees 63 = .ok (.getfield 148, 3) := by decide +kernel
theorem dX5_agrees_66 : decode cX5_agrees 66 = .ok (.ishr, 1) := by decide +kernel
theorem dX5_agrees_67 : decode cX5_agrees 67 = .ok (.ifCond .eq 14, 3) := by decide +kernel
theorem dX5_agrees_70 : decode cX5_agrees 70 = .ok (.aload_n 0, 1) := by decide +kernel
theorem dX5_agrees_71 : decode cX5_agrees 71 = .ok (.bipush 6, 2) := by decide +kernel
theorem dX5_agrees_73 : decode cX5_agrees 73 = .ok (.aload_n 0, 1) := by decide +kernel
theorem dX5_agrees_74 : decode cX5_agrees 74 = .ok (.getfield 15, 3) := by decide +kernel
theorem dX5_agrees_77 : decode cX5_agrees 77 = .ok (.invokevirtual 84, 3) := by decide +kernel
theorem dX5_agrees_80 : decode cX5_agrees 80 = .ok (.ireturn, 1) := by decide +kernel
theorem dX5_agrees_81 : decode cX5_agrees 81 = .ok (.iconst 0, 1) := by decide +kernel
theorem dX5_agrees_82 : decode cX5_agrees 82 = .ok (.istore_n 2, 1) := by decide +kernel
theorem dX5_agrees_83 : decode cX5_agrees 83 = .ok (.iload_n 2, 1) := by decide +kernel
theorem dX5_agrees_84 : decode cX5_agrees 84 = .ok (.bipush 6, 2) := by decide +kernel
theorem dX5_agrees_86 : decode cX5_agrees 86 = .ok (.if_icmp .ge 39, 3) := by decide +kernel
theorem dX5_agrees_89 : decode cX5_agrees 89 = .ok (.aload_n 0, 1) := by decide +kernel
theorem dX5_agrees_90 : decode cX5_agrees 90 = .ok (.getfield 31, 3) := by decide +kernel
theorem dX5_agrees_93 : decode cX5_agrees 93 = .ok (.aload_n 0, 1) := by decide +kernel
theorem dX5_agrees_94 : decode cX5_agrees 94 = .ok (.getfield 38, 3) := by decide +kernel
theorem dX5_agrees_97 : decode cX5_agrees 97 = .ok (.getfield 154, 3) := by decide +kernel
theorem dX5_agrees_100 : decode cX5_agrees 100 = .ok (.iload_n 2, 1) := by decide +kernel
theorem dX5_agrees_101 : decode cX5_agrees 101 = .ok (.iaload, 1) := by decide +kernel
theorem dX5_agrees_102 : decode cX5_agrees 102 = .ok (.invokevirtual 159, 3) := by decide +kernel
theorem dX5_agrees_105 : decode cX5_agrees 105 = .ok (.ifCond .ne 14, 3) := by decide +kernel
theorem dX5_agrees_108 : decode cX5_agrees 108 = .ok (.aload_n 0, 1) := by decide +kernel
theorem dX5_agrees_109 : decode cX5_agrees 109 = .ok (.bipush 7, 2) := by decide +kernel
theorem dX5_agrees_111 : decode cX5_agrees 111 = .ok (.aload_n 0, 1) := by decide +kernel
theorem dX5_agrees_112 : decode cX5_agrees 112 = .ok (.getfield 15, 3) := by decide +kernel
theorem dX5_agrees_115 : decode cX5_agrees 115 = .ok (.invokevirtual 84, 3) := by decide +kernel
theorem dX5_agrees_118 : decode cX5_agrees 118 = .ok (.ireturn, 1) := by decide +kernel
theorem dX5_agrees_119 : decode cX5_agrees 119 = .ok (.iinc 2 1, 3) := by decide +kernel
theorem dX5_agrees_122 : decode cX5_agrees 122 = .ok (.goto (-39), 3) := by decide +kernel
theorem dX5_agrees_125 : decode cX5_agrees 125 = .ok (.iconst 1, 1) := by decide +kernel
theorem dX5_agrees_126 : decode cX5_agrees 126 = .ok (.ireturn, 1) := by decide +kernel
theorem dX5_kindName_0 : decode cX5_kindName 0 = .ok (.aload_n 0, 1) := by decide +kernel
theorem dX5_kindName_1 : decode cX5_kindName 1 = .ok (.invokevirtual 70, 3) := by decide +kernel
theorem dX5_kindName_4 : decode cX5_kindName 4 = .ok (.ifCond .ne 5, 3) := by decide +kernel
theorem dX5_kindName_7 : decode cX5_kindName 7 = .ok (.iconst 0, 1) := by decide +kernel
theorem dX5_kindName_8 : decode cX5_kindName 8 = .ok (.ireturn, 1) := by decide +kernel
theorem dX5_kindName_9 : decode cX5_kindName 9 = .ok (.aload_n 0, 1) := by decide +kernel
theorem dX5_kindName_10 : decode cX5_kindName 10 = .ok (.getfield 42, 3) := by decide +kernel
theorem dX5_kindName_13 : decode cX5_kindName 13 = .ok (.iconst 1, 1) := by decide +kernel
theorem dX5_kindName_14 : decode cX5_kindName 14 = .ok (.if_icmp .eq 13, 3) := by decide +kernel
theorem dX5_kindName_17 : decode cX5_kindName 17 = .ok (.aload_n 0, 1) := by decide +kernel
theorem dX5_kindName_18 : decode cX5_kindName 18 = .ok (.iconst 2, 1) := by decide +kernel
theorem dX5_kindName_19 : decode cX5_kindName 19 = .ok (.aload_n 0, 1) := by decide +kernel
theorem dX5_kindName_20 : decode cX5_kindName 20 = .ok (.getfield 45, 3) := by decide +kernel
theorem dX5_kindName_23 : decode cX5_kindName 23 = .ok (.invokevirtual 84, 3) := by decide +kernel
theorem dX5_kindName_26 : decode cX5_kindName 26 = .ok (.ireturn, 1) := by decide +kernel
theorem dX5_kindName_27 : decode cX5_kindName 27 = .ok (.aload_n 0, 1) := by decide +kernel
theorem dX5_kindName_28 : decode cX5_kindName 28 = .ok (.ldc 162, 2) := by decide +kernel
theorem dX5_kindName_30 : decode cX5_kindName 30 = .ok (.invokevirtual 90, 3) := by decide +kernel
theorem dX5_kindName_33 : decode cX5_kindName 33 = .ok (.ifCond .eq 11, 3) := by decide +kernel
theorem dX5_kindName_36 : decode cX5_kindName 36 = .ok (.aload_n 0, 1) := by decide +kernel
theorem dX5_kindName_37 : decode cX5_kindName 37 = .ok (.iconst 0, 1) := by decide +kernel
theorem dX5_kindName_38 : decode cX5_kindName 38 = .ok (.putfield 48, 3) := by decide +kernel
theorem dX5_kindName_41 : decode cX5_kindName 41 = .ok (.goto 64, 3) := by decide +kernel
theorem dX5_kindName_44 : decode cX5_kindName 44 = .ok (.aload_n 0, 1) := by decide +kernel
theorem dX5_kindName_45 : decode cX5_kindName 45 = .ok (.ldc 164, 2) := by decide +kernel
theorem dX5_kindName_47 : decode cX5_kindName 47 = .ok (.invokevirtual 90, 3) := by decide +kernel
theorem dX5_kindName_50 : decode cX5_kindName 50 = .ok (.ifCond .eq 11, 3) := by decide +kernel
theorem dX5_kindName_53 : decode cX5_kindName 53 = .ok (.aload_n 0, 1) := by decide +kernel
theorem dX5_kindName_54 : decode cX5_kindName 54 = .ok (.iconst 1, 1) := by decide +kernel
theorem dX5_kindName_55 : decode cX5_kindName 55 = .ok (.putfield 48, 3) := by decide +kernel
theorem dX5_kindName_58 : decode cX5_kindName 58 = .ok (.goto 47, 3) := by decide +kernel
theorem dX5_kindName_61 : decode cX5_kindName 61 = .ok (.aload_n 0, 1) := by decide +kernel
theorem dX5_kindName_62 : decode cX5_kindName 62 = .ok (.ldc 166, 2) := by decide +kernel
theorem dX5_kindName_64 : decode cX5_kindName 64 = .ok (.invokevirtual 90, 3) := by decide +kernel
theorem dX5_kindName_67 : decode cX5_kindName 67 = .ok (.ifCond .eq 11, 3) := by decide +kernel
theorem dX5_kindName_70 : decode cX5_kindName 70 = .ok (.aload_n 0, 1) := by decide +kernel
theorem dX5_kindName_71 : decode cX5_kindName 71 = .ok (.iconst 2, 1) := by decide +kernel
theorem dX5_kindName_72 : decode cX5_kindName 72 = .ok (.putfield 48, 3) := by decide +kernel
theorem dX5_kindName_75 : decode cX5_kindName 75 = .ok (.goto 30, 3) := by decide +kernel
theorem dX5_kindName_78 : decode cX5_kindName 78 = .ok (.aload_n 0, 1) := by decide +kernel
theorem dX5_kindName_79 : decode cX5_kindName 79 = .ok (.ldc 168, 2) := by decide +kernel
theorem dX5_kindName_81 : decode cX5_kindName 81 = .ok (.invokevirtual 90, 3) := by decide +kernel
theorem dX5_kindName_84 : decode cX5_kindName 84 = .ok (.ifCond .eq 11, 3) := by decide +kernel
theorem dX5_kindName_87 : decode cX5_kindName 87 = .ok (.aload_n 0, 1) := by decide +kernel
theorem dX5_kindName_88 : decode cX5_kindName 88 = .ok (.iconst 3, 1) := by decide +kernel
theorem dX5_kindName_89 : decode cX5_kindName 89 = .ok (.putfield 48, 3) := by decide +kernel
theorem dX5_kindName_92 : decode cX5_kindName 92 = .ok (.goto 13, 3) := by decide +kernel
theorem dX5_kindName_95 : decode cX5_kindName 95 = .ok (.aload_n 0, 1) := by decide +kernel
theorem dX5_kindName_96 : decode cX5_kindName 96 = .ok (.iconst 2, 1) := by decide +kernel
theorem dX5_kindName_97 : decode cX5_kindName 97 = .ok (.aload_n 0, 1) := by decide +kernel
theorem dX5_kindName_98 : decode cX5_kindName 98 = .ok (.getfield 45, 3) := by decide +kernel
theorem dX5_kindName_101 : decode cX5_kindName 101 = .ok (.invokevirtual 84, 3) := by decide +kernel
theorem dX5_kindName_104 : decode cX5_kindName 104 = .ok (.ireturn, 1) := by decide +kernel
theorem dX5_kindName_105 : decode cX5_kindName 105 = .ok (.iconst 1, 1) := by decide +kernel
theorem dX5_kindName_106 : decode cX5_kindName 106 = .ok (.ireturn, 1) := by decide +kernel
theorem dX5_number_0 : decode cX5_number 0 = .ok (.aload_n 0, 1) := by decide +kernel
theorem dX5_number_1 : decode cX5_number 1 = .ok (.invokevirtual 70, 3) := by decide +kernel
theorem dX5_number_4 : decode cX5_number 4 = .ok (.ifCond .ne 5, 3) := by decide +kernel
theorem dX5_number_7 : decode cX5_number 7 = .ok (.iconst 0, 1) := by decide +kernel
theorem dX5_number_8 : decode cX5_number 8 = .ok (.ireturn, 1) := by decide +kernel
theorem dX5_number_9 : decode cX5_number 9 = .ok (.aload_n 0, 1) := by decide +kernel
theorem dX5_number_10 : decode cX5_number 10 = .ok (.getfield 42, 3) := by decide +kernel
theorem dX5_number_13 : decode cX5_number 13 = .ok (.iconst 2, 1) := by decide +kernel
theorem dX5_number_14 : decode cX5_number 14 = .ok (.if_icmp .eq 13, 3) := by decide +kernel
theorem dX5_number_17 : decode cX5_number 17 = .ok (.aload_n 0, 1) := by decide +kernel
theorem dX5_number_18 : decode cX5_number 18 = .ok (.iconst 2, 1) := by decide +kernel
theorem dX5_number_19 : decode cX5_number 19 = .ok (.aload_n 0, 1) := by decide +kernel
theorem dX5_number_20 : decode cX5_number 20 = .ok (.getfield 45, 3) := by decide +kernel
theorem dX5_number_23 : decode cX5_number 23 = .ok (.invokevirtual 84, 3) := by decide +kernel
theorem dX5_number_26 : decode cX5_number 26 = .ok (.ireturn, 1) := by decide +kernel
theorem dX5_number_27 : decode cX5_number 27 = .ok (.aload_n 0, 1) := by decide +kernel
theorem dX5_number_28 : decode cX5_number 28 = .ok (.getfield 48, 3) := by decide +kernel
theorem dX5_number_31 : decode cX5_number 31 = .ok (.iload_n 1, 1) := by decide +kernel
theorem dX5_number_32 : decode cX5_number 32 = .ok (.if_icmp .lt 11, 3) := by decide +kernel
theorem dX5_number_35 : decode cX5_number 35 = .ok (.aload_n 0, 1) := by decide +kernel
theorem dX5_number_36 : decode cX5_number 36 = .ok (.getfield 48, 3) := by decide +kernel
theorem dX5_number_39 : decode cX5_number 39 = .ok (.iload_n 2, 1) := by decide +kernel
theorem dX5_number_40 : decode cX5_number 40 = .ok (.if_icmp .le 13, 3) := by decide +kernel
theorem dX5_number_43 : decode cX5_number 43 = .ok (.aload_n 0, 1) := by decide +kernel
theorem dX5_number_44 : decode cX5_number 44 = .ok (.iconst 3, 1) := by decide +kernel
theorem dX5_number_45 : decode cX5_number 45 = .ok (.aload_n 0, 1) := by decide +kernel
theorem dX5_number_46 : decode cX5_number 46 = .ok (.getfield 45, 3) := by decide +kernel
theorem dX5_number_49 : decode cX5_number 49 = .ok (.invokevirtual 84, 3) := by decide +kernel
theorem dX5_number_52 : decode cX5_number 52 = .ok (.ireturn, 1) := by decide +kernel
theorem dX5_number_53 : decode cX5_number 53 = .ok (.iconst 1, 1) := by decide +kernel
theorem dX5_number_54 : decode cX5_number 54 = .ok (.ireturn, 1) := by decide +kernel
theorem dX5_sign_0 : decode cX5_sign 0 = .ok (.aload_n 0, 1) := by decide +kernel
theorem dX5_sign_1 : decode cX5_sign 1 = .ok (.invokevirtual 70, 3) := by decide +kernel
theorem dX5_sign_4 : decode cX5_sign 4 = .ok (.ifCond .ne 5, 3) := by decide +kernel
theorem dX5_sign_7 : decode cX5_sign 7 = .ok (.iconst 0, 1) := by decide +kernel
theorem dX5_sign_8 : decode cX5_sign 8 = .ok (.ireturn, 1) := by decide +kernel
theorem dX5_sign_9 : decode cX5_sign 9 = .ok (.aload_n 0, 1) := by decide +kernel
theorem dX5_sign_10 : decode cX5_sign 10 = .ok (.getfield 42, 3) := by decide +kernel
theorem dX5_sign_13 : decode cX5_sign 13 = .ok (.iconst 3, 1) := by decide +kernel
theorem dX5_sign_14 : decode cX5_sign 14 = .ok (.if_icmp .eq 13, 3) := by decide +kernel
theorem dX5_sign_17 : decode cX5_sign 17 = .ok (.aload_n 0, 1) := by decide +kernel
theorem dX5_sign_18 : decode cX5_sign 18 = .ok (.iconst 2, 1) := by decide +kernel
theorem dX5_sign_19 : decode cX5_sign 19 = .ok (.aload_n 0, 1) := by decide +kernel
theorem dX5_sign_20 : decode cX5_sign 20 = .ok (.getfield 45, 3) := by decide +kernel
theorem dX5_sign_23 : decode cX5_sign 23 = .ok (.invokevirtual 84, 3) := by decide +kernel
theorem dX5_sign_26 : decode cX5_sign 26 = .ok (.ireturn, 1) := by decide +kernel
theorem dX5_sign_27 : decode cX5_sign 27 = .ok (.iconst 1, 1) := by decide +kernel
theorem dX5_sign_28 : decode cX5_sign 28 = .ok (.ireturn, 1) := by decide +kernel
theorem dX5_next_0 : decode cX5_next 0 = .ok (.aload_n 0, 1) := by decide +kernel
theorem dX5_next_1 : decode cX5_next 1 = .ok (.getfield 51, 3) := by decide +kernel
theorem dX5_next_4 : decode cX5_next 4 = .ok (.aload_n 0, 1) := by decide +kernel
theorem dX5_next_5 : decode cX5_next 5 = .ok (.getfield 15, 3) := by decide +kernel
theorem dX5_next_8 : decode cX5_next 8 = .ok (.if_icmp .ge 30, 3) := by decide +kernel
theorem dX5_next_11 : decode cX5_next 11 = .ok (.aload_n 0, 1) := by decide +kernel
theorem dX5_next_12 : decode cX5_next 12 = .ok (.getfield 11, 3) := by decide +kernel
theorem dX5_next_15 : decode cX5_next 15 = .ok (.aload_n 0, 1) := by decide +kernel
theorem dX5_next_16 : decode cX5_next 16 = .ok (.getfield 51, 3) := by decide +kernel
theorem dX5_next_19 : decode cX5_next 19 = .ok (.baload, 1) := by decide +kernel
theorem dX5_next_20 : decode cX5_next 20 = .ok (.bipush 32, 2) := by decide +kernel
theorem dX5_next_22 : decode cX5_next 22 = .ok (.if_icmp .ne 16, 3) := by decide +kernel
theorem dX5_next_25 : decode cX5_next 25 = .ok (.aload_n 0, 1) := by decide +kernel
theorem dX5_next_26 : decode cX5_next 26 = .ok (.dup, 1) := by decide +kernel
theorem dX5_next_27 : decode cX5_next 27 = .ok (.getfield 51, 3) := by decide +kernel
theorem dX5_next_30 : decode cX5_next 30 = .ok (.iconst 1, 1) := by decide +kernel
theorem dX5_next_31 : decode cX5_next 31 = .ok (.iadd, 1) := by decide +kernel
theorem dX5_next_32 : decode cX5_next 32 = .ok (.putfield 51, 3) := by decide +kernel
theorem dX5_next_35 : decode cX5_next 35 = .ok (.goto (-35), 3) := by decide +kernel
theorem dX5_next_38 : decode cX5_next 38 = .ok (.aload_n 0, 1) := by decide +kernel
theorem dX5_next_39 : decode cX5_next 39 = .ok (.aload_n 0, 1) := by decide +kernel
theorem dX5_next_40 : decode cX5_next 40 = .ok (.getfield 51, 3) := by decide +kernel
theorem dX5_next_43 : decode cX5_next 43 = .ok (.putfield 45, 3) := by decide +kernel
theorem dX5_next_46 : decode cX5_next 46 = .ok (.aload_n 0, 1) := by decide +kernel
theorem dX5_next_47 : decode cX5_next 47 = .ok (.getfield 51, 3) := by decide +kernel
theorem dX5_next_50 : decode cX5_next 50 = .ok (.aload_n 0, 1) := by decide +kernel
theorem dX5_next_51 : decode cX5_next 51 = .ok (.getfield 15, 3) := by decide +kernel
theorem dX5_next_54 : decode cX5_next 54 = .ok (.if_icmp .lt 10, 3) := by decide +kernel
theorem dX5_next_57 : decode cX5_next 57 = .ok (.aload_n 0, 1) := by decide +kernel
theorem dX5_next_58 : decode cX5_next 58 = .ok (.iconst 0, 1) := by decide +kernel
theorem dX5_next_59 : decode cX5_next 59 = .ok (.putfield 42, 3) := by decide +kernel
theorem dX5_next_62 : decode cX5_next 62 = .ok (.iconst 1, 1) := by decide +kernel
theorem dX5_next_63 : decode cX5_next 63 = .ok (.ireturn, 1) := by decide +kernel
theorem dX5_next_64 : decode cX5_next 64 = .ok (.aload_n 0, 1) := by decide +kernel
theorem dX5_next_65 : decode cX5_next 65 = .ok (.getfield 11, 3) := by decide +kernel
theorem dX5_next_68 : decode cX5_next 68 = .ok (.aload_n 0, 1) := by decide +kernel
theorem dX5_next_69 : decode cX5_next 69 = .ok (.getfield 51, 3) := by decide +kernel
theorem dX5_next_72 : decode cX5_next 72 = .ok (.baload, 1) := by decide +kernel
theorem dX5_next_73 : decode cX5_next 73 = .ok (.invokestatic 170, 3) := by decide +kernel
theorem dX5_next_76 : decode cX5_next 76 = .ok (.ifCond .eq 9, 3) := by decide +kernel
theorem dX5_next_79 : decode cX5_next 79 = .ok (.aload_n 0, 1) := by decide +kernel
theorem dX5_next_80 : decode cX5_next 80 = .ok (.invokevirtual 174, 3) := by decide +kernel
theorem dX5_next_83 : decode cX5_next 83 = .ok (.iconst 1, 1) := by decide +kernel
theorem dX5_next_84 : decode cX5_next 84 = .ok (.ireturn, 1) := by decide +kernel
theorem dX5_next_85 : decode cX5_next 85 = .ok (.aload_n 0, 1) := by decide +kernel
theorem dX5_next_86 : decode cX5_next 86 = .ok (.getfield 11, 3) := by decide +kernel
theorem dX5_next_89 : decode cX5_next 89 = .ok (.aload_n 0, 1) := by decide +kernel
theorem dX5_next_90 : decode cX5_next 90 = .ok (.getfield 51, 3) := by decide +kernel
theorem dX5_next_93 : decode cX5_next 93 = .ok (.baload, 1) := by decide +kernel
theorem dX5_next_94 : decode cX5_next 94 = .ok (.invokestatic 177, 3) := by decide +kernel
theorem dX5_next_97 : decode cX5_next 97 = .ok (.ifCond .eq 8, 3) := by decide +kernel
theorem dX5_next_100 : decode cX5_next 100 = .ok (.aload_n 0, 1) := by decide +kernel
theorem dX5_next_101 : decode cX5_next 101 = .ok (.invokevirtual 180, 3) := by decide +kernel
theorem dX5_next_104 : decode cX5_next 104 = .ok (.ireturn, 1) := by decide +kernel
theorem dX5_next_105 : decode cX5_next 105 = .ok (.aload_n 0, 1) := by decide +kernel
theorem dX5_next_106 : decode cX5_next 106 = .ok (.getfield 11, 3) := by decide +kernel
theorem dX5_next_109 : decode cX5_next 109 = .ok (.aload_n 0, 1) := by decide +kernel
theorem dX5_next_110 : decode cX5_next 110 = .ok (.getfield 51, 3) := by decide +kernel
theorem dX5_next_113 : decode cX5_next 113 = .ok (.baload, 1) := by decide +kernel
theorem dX5_next_114 : decode cX5_next 114 = .ok (.bipush 59, 2) := by decide +kernel
theorem dX5_next_116 : decode cX5_next 116 = .ok (.if_icmp .eq 13, 3) := by decide +kernel
theorem dX5_next_119 : decode cX5_next 119 = .ok (.aload_n 0, 1) := by decide +kernel
theorem dX5_next_120 : decode cX5_next 120 = .ok (.iconst 1, 1) := by decide +kernel
theorem dX5_next_121 : decode cX5_next 121 = .ok (.aload_n 0, 1) := by decide +kernel
theorem dX5_next_122 : decode cX5_next 122 = .ok (.getfield 45, 3) := by decide +kernel
theorem dX5_next_125 : decode cX5_next 125 = .ok (.invokevirtual 84, 3) := by decide +kernel
theorem dX5_next_128 : decode cX5_next 128 = .ok (.ireturn, 1) := by decide +kernel
theorem dX5_next_129 : decode cX5_next 129 = .ok (.aload_n 0, 1) := by decide +kernel
theorem dX5_next_130 : decode cX5_next 130 = .ok (.iconst 3, 1) := by decide +kernel
theorem dX5_next_131 : decode cX5_next 131 = .ok (.putfield 42, 3) := by decide +kernel
theorem dX5_next_134 : decode cX5_next 134 = .ok (.aload_n 0, 1) := by decide +kernel
theorem dX5_next_135 : decode cX5_next 135 = .ok (.dup, 1) := by decide +kernel
theorem dX5_next_136 : decode cX5_next 136 = .ok (.getfield 51, 3) := by decide +kernel
theorem dX5_next_139 : decode cX5_next 139 = .ok (.iconst 1, 1) := by decide +kernel
theorem dX5_next_140 : decode cX5_next 140 = .ok (.iadd, 1) := by decide +kernel
theorem dX5_next_141 : decode cX5_next 141 = .ok (.putfield 51, 3) := by decide +kernel
theorem dX5_next_144 : decode cX5_next 144 = .ok (.iconst 1, 1) := by decide +kernel
theorem dX5_next_145 : decode cX5_next 145 = .ok (.ireturn, 1) := by decide +kernel
theorem dX5_letters_0 : decode cX5_letters 0 = .ok (.aload_n 0, 1) := by decide +kernel
theorem dX5_letters_1 : decode cX5_letters 1 = .ok (.iconst 1, 1) := by decide +kernel
theorem dX5_letters_2 : decode cX5_letters 2 = .ok (.putfield 42, 3) := by decide +kernel
theorem dX5_letters_5 : decode cX5_letters 5 = .ok (.aload_n 0, 1) := by decide +kernel
theorem dX5_letters_6 : decode cX5_letters 6 = .ok (.getfield 51, 3) := by decide +kernel
theorem dX5_letters_9 : decode cX5_letters 9 = .ok (.aload_n 0, 1) := by decide +kernel
theorem dX5_letters_10 : decode cX5_letters 10 = .ok (.getfield 15, 3) := by decide +kernel
theorem dX5_letters_13 : decode cX5_letters 13 = .ok (.if_icmp .ge 31, 3) := by decide +kernel
theorem dX5_letters_16 : decode cX5_letters 16 = .ok (.aload_n 0, 1) := by decide +kernel
theorem dX5_letters_17 : decode cX5_letters 17 = .ok (.getfield 11, 3) := by decide +kernel
theorem dX5_letters_20 : decode cX5_letters 20 = .ok (.aload_n 0, 1) := by decide +kernel
theorem dX5_letters_21 : decode cX5_letters 21 = .ok (.getfield 51, 3) := by decide +kernel
theorem dX5_letters_24 : decode cX5_letters 24 = .ok (.baload, 1) := by decide +kernel
theorem dX5_letters_25 : decode cX5_letters 25 = .ok (.invokestatic 170, 3) := by decide +kernel
theorem dX5_letters_28 : decode cX5_letters 28 = .ok (.ifCond .eq 16, 3) := by decide +kernel
theorem dX5_letters_31 : decode cX5_letters 31 = .ok (.aload_n 0, 1) := by decide +kernel
theorem dX5_letters_32 : decode cX5_letters 32 = .ok (.dup, 1) := by decide +kernel
theorem dX5_letters_33 : decode cX5_letters 33 = .ok (.getfield 51, 3) := by decide +kernel
theorem dX5_letters_36 : decode cX5_letters 36 = .ok (.iconst 1, 1) := by decide +kernel
theorem dX5_letters_37 : decode cX5_letters 37 = .ok (.iadd, 1) := by decide +kernel
theorem dX5_letters_38 : decode cX5_letters 38 = .ok (.putfield 51, 3) := by decide +kernel
theorem dX5_letters_41 : decode cX5_letters 41 = .ok (.goto (-36), 3) := by decide +kernel
theorem dX5_letters_44 : decode cX5_letters 44 = .ok (.return_, 1) := by decide +kernel
theorem dX5_figures_0 : decode cX5_figures 0 = .ok (.aload_n 0, 1) := by decide +kernel
theorem dX5_figures_1 : decode cX5_figures 1 = .ok (.iconst 2, 1) := by decide +kernel
theorem dX5_figures_2 : decode cX5_figures 2 = .ok (.putfield 42, 3) := by decide +kernel
theorem dX5_figures_5 : decode cX5_figures 5 = .ok (.aload_n 0, 1) := by decide +kernel
theorem dX5_figures_6 : decode cX5_figures 6 = .ok (.iconst 0, 1) := by decide +kernel
theorem dX5_figures_7 : decode cX5_figures 7 = .ok (.putfield 48, 3) := by decide +kernel
theorem dX5_figures_10 : decode cX5_figures 10 = .ok (.aload_n 0, 1) := by decide +kernel
theorem dX5_figures_11 : decode cX5_figures 11 = .ok (.getfield 51, 3) := by decide +kernel
theorem dX5_figures_14 : decode cX5_figures 14 = .ok (.aload_n 0, 1) := by decide +kernel
theorem dX5_figures_15 : decode cX5_figures 15 = .ok (.getfield 15, 3) := by decide +kernel
theorem dX5_figures_18 : decode cX5_figures 18 = .ok (.if_icmp .ge 55, 3) := by decide +kernel
theorem dX5_figures_21 : decode cX5_figures 21 = .ok (.aload_n 0, 1) := by decide +kernel
theorem dX5_figures_22 : decode cX5_figures 22 = .ok (.getfield 11, 3) := by decide +kernel
theorem dX5_figures_25 : decode cX5_figures 25 = .ok (.aload_n 0, 1) := by decide +kernel
theorem dX5_figures_26 : decode cX5_figures 26 = .ok (.getfield 51, 3) := by decide +kernel
theorem dX5_figures_29 : decode cX5_figures 29 = .ok (.baload, 1) := by decide +kernel
theorem dX5_figures_30 : decode cX5_figures 30 = .ok (.invokestatic 177, 3) := by decide +kernel
theorem dX5_figures_33 : decode cX5_figures 33 = .ok (.ifCond .eq 40, 3) := by decide +kernel
theorem dX5_figures_36 : decode cX5_figures 36 = .ok (.aload_n 0, 1) := by decide +kernel
theorem dX5_figures_37 : decode cX5_figures 37 = .ok (.aload_n 0, 1) := by decide +kernel
theorem dX5_figures_38 : decode cX5_figures 38 = .ok (.getfield 48, 3) := by decide +kernel
theorem dX5_figures_41 : decode cX5_figures 41 = .ok (.bipush 10, 2) := by decide +kernel
theorem dX5_figures_43 : decode cX5_figures 43 = .ok (.imul, 1) := by decide +kernel
theorem dX5_figures_44 : decode cX5_figures 44 = .ok (.aload_n 0, 1) := by decide +kernel
theorem dX5_figures_45 : decode cX5_figures 45 = .ok (.getfield 11, 3) := by decide +kernel
theorem dX5_figures_48 : decode cX5_figures 48 = .ok (.aload_n 0, 1) := by decide +kernel
theorem dX5_figures_49 : decode cX5_figures 49 = .ok (.getfield 51, 3) := by decide +kernel
theorem dX5_figures_52 : decode cX5_figures 52 = .ok (.baload, 1) := by decide +kernel
theorem dX5_figures_53 : decode cX5_figures 53 = .ok (.iadd, 1) := by decide +kernel
theorem dX5_figures_54 : decode cX5_figures 54 = .ok (.bipush 48, 2) := by decide +kernel
theorem dX5_figures_56 : decode cX5_figures 56 = .ok (.isub, 1) := by decide +kernel
theorem dX5_figures_57 : decode cX5_figures 57 = .ok (.putfield 48, 3) := by decide +kernel
theorem dX5_figures_60 : decode cX5_figures 60 = .ok (.aload_n 0, 1) := by decide +kernel
theorem dX5_figures_61 : decode cX5_figures 61 = .ok (.dup, 1) := by decide +kernel
theorem dX5_figures_62 : decode cX5_figures 62 = .ok (.getfield 51, 3) := by decide +kernel
theorem dX5_figures_65 : decode cX5_figures 65 = .ok (.iconst 1, 1) := by decide +kernel
theorem dX5_figures_66 : decode cX5_figures 66 = .ok (.iadd, 1) := by decide +kernel
theorem dX5_figures_67 : decode cX5_figures 67 = .ok (.putfield 51, 3) := by decide +kernel
theorem dX5_figures_70 : decode cX5_figures 70 = .ok (.goto (-60), 3) := by decide +kernel
theorem dX5_figures_73 : decode cX5_figures 73 = .ok (.aload_n 0, 1) := by decide +kernel
theorem dX5_figures_74 : decode cX5_figures 74 = .ok (.getfield 51, 3) := by decide +kernel
theorem dX5_figures_77 : decode cX5_figures 77 = .ok (.aload_n 0, 1) := by decide +kernel
theorem dX5_figures_78 : decode cX5_figures 78 = .ok (.getfield 45, 3) := by decide +kernel
theorem dX5_figures_81 : decode cX5_figures 81 = .ok (.isub, 1) := by decide +kernel
theorem dX5_figures_82 : decode cX5_figures 82 = .ok (.iconst 2, 1) := by decide +kernel
theorem dX5_figures_83 : decode cX5_figures 83 = .ok (.if_icmp .le 13, 3) := by decide +kernel
theorem dX5_figures_86 : decode cX5_figures 86 = .ok (.aload_n 0, 1) := by decide +kernel
theorem dX5_figures_87 : decode cX5_figures 87 = .ok (.iconst 1, 1) := by decide +kernel
theorem dX5_figures_88 : decode cX5_figures 88 = .ok (.aload_n 0, 1) := by decide +kernel
theorem dX5_figures_89 : decode cX5_figures 89 = .ok (.getfield 45, 3) := by decide +kernel
theorem dX5_figures_92 : decode cX5_figures 92 = .ok (.invokevirtual 84, 3) := by decide +kernel
theorem dX5_figures_95 : decode cX5_figures 95 = .ok (.ireturn, 1) := by decide +kernel
theorem dX5_figures_96 : decode cX5_figures 96 = .ok (.iconst 1, 1) := by decide +kernel
theorem dX5_figures_97 : decode cX5_figures 97 = .ok (.ireturn, 1) := by decide +kernel
theorem dX5_isLetter_0 : decode cX5_isLetter 0 = .ok (.iload_n 0, 1) := by decide +kernel
theorem dX5_isLetter_1 : decode cX5_isLetter 1 = .ok (.bipush 97, 2) := by decide +kernel
theorem dX5_isLetter_3 : decode cX5_isLetter 3 = .ok (.if_icmp .lt 13, 3) := by decide +kernel
theorem dX5_isLetter_6 : decode cX5_isLetter 6 = .ok (.iload_n 0, 1) := by decide +kernel
theorem dX5_isLetter_7 : decode cX5_isLetter 7 = .ok (.bipush 122, 2) := by decide +kernel
theorem dX5_isLetter_9 : decode cX5_isLetter 9 = .ok (.if_icmp .gt 7, 3) := by decide +kernel
theorem dX5_isLetter_12 : decode cX5_isLetter 12 = .ok (.iconst 1, 1) := by decide +kernel
theorem dX5_isLetter_13 : decode cX5_isLetter 13 = .ok (.goto 4, 3) := by decide +kernel
theorem dX5_isLetter_16 : decode cX5_isLetter 16 = .ok (.iconst 0, 1) := by decide +kernel
theorem dX5_isLetter_17 : decode cX5_isLetter 17 = .ok (.ireturn, 1) := by decide +kernel
theorem dX5_isFigure_0 : decode cX5_isFigure 0 = .ok (.iload_n 0, 1) := by decide +kernel
theorem dX5_isFigure_1 : decode cX5_isFigure 1 = .ok (.bipush 48, 2) := by decide +kernel
theorem dX5_isFigure_3 : decode cX5_isFigure 3 = .ok (.if_icmp .lt 13, 3) := by decide +kernel
theorem dX5_isFigure_6 : decode cX5_isFigure 6 = .ok (.iload_n 0, 1) := by decide +kernel
theorem dX5_isFigure_7 : decode cX5_isFigure 7 = .ok (.bipush 57, 2) := by decide +kernel
theorem dX5_isFigure_9 : decode cX5_isFigure 9 = .ok (.if_icmp .gt 7, 3) := by decide +kernel
theorem dX5_isFigure_12 : decode cX5_isFigure 12 = .ok (.iconst 1, 1) := by decide +kernel
theorem dX5_isFigure_13 : decode cX5_isFigure 13 = .ok (.goto 4, 3) := by decide +kernel
theorem dX5_isFigure_16 : decode cX5_isFigure 16 = .ok (.iconst 0, 1) := by decide +kernel
theorem dX5_isFigure_17 : decode cX5_isFigure 17 = .ok (.ireturn, 1) := by decide +kernel
theorem dX5_isName_0 : decode cX5_isName 0 = .ok (.aload_n 0, 1) := by decide +kernel
theorem dX5_isName_1 : decode cX5_isName 1 = .ok (.getfield 51, 3) := by decide +kernel
theorem dX5_isName_4 : decode cX5_isName 4 = .ok (.aload_n 0, 1) := by decide +kernel
theorem dX5_isName_5 : decode cX5_isName 5 = .ok (.getfield 45, 3) := by decide +kernel
theorem dX5_isName_8 : decode cX5_isName 8 = .ok (.isub, 1) := by decide +kernel
theorem dX5_isName_9 : decode cX5_isName 9 = .ok (.aload_n 1, 1) := by decide +kernel
theorem dX5_isName_10 : decode cX5_isName 10 = .ok (.invokevirtual 183, 3) := by decide +kernel
theorem dX5_isName_13 : decode cX5_isName 13 = .ok (.if_icmp .eq 5, 3) := by decide +kernel
theorem dX5_isName_16 : decode cX5_isName 16 = .ok (.iconst 0, 1) := by decide +kernel
theorem dX5_isName_17 : decode cX5_isName 17 = .ok (.ireturn, 1) := by decide +kernel
theorem dX5_isName_18 : decode cX5_isName 18 = .ok (.iconst 0, 1) := by decide +kernel
theorem dX5_isName_19 : decode cX5_isName 19 = .ok (.istore_n 2, 1) := by decide +kernel
theorem dX5_isName_20 : decode cX5_isName 20 = .ok (.iload_n 2, 1) := by decide +kernel
theorem dX5_isName_21 : decode cX5_isName 21 = .ok (.aload_n 1, 1) := by decide +kernel
theorem dX5_isName_22 : decode cX5_isName 22 = .ok (.invokevirtual 183, 3) := by decide +kernel
theorem dX5_isName_25 : decode cX5_isName 25 = .ok (.if_icmp .ge 30, 3) := by decide +kernel
theorem dX5_isName_28 : decode cX5_isName 28 = .ok (.aload_n 0, 1) := by decide +kernel
theorem dX5_isName_29 : decode cX5_isName 29 = .ok (.getfield 11, 3) := by decide +kernel
theorem dX5_isName_32 : decode cX5_isName 32 = .ok (.aload_n 0, 1) := by decide +kernel
theorem dX5_isName_33 : decode cX5_isName 33 = .ok (.getfield 45, 3) := by decide +kernel
theorem dX5_isName_36 : decode cX5_isName 36 = .ok (.iload_n 2, 1) := by decide +kernel
theorem dX5_isName_37 : decode cX5_isName 37 = .ok (.iadd, 1) := by decide +kernel
theorem dX5_isName_38 : decode cX5_isName 38 = .ok (.baload, 1) := by decide +kernel
theorem dX5_isName_39 : decode cX5_isName 39 = .ok (.aload_n 1, 1) := by decide +kernel
theorem dX5_isName_40 : decode cX5_isName 40 = .ok (.iload_n 2, 1) := by decide +kernel
theorem dX5_isName_41 : decode cX5_isName 41 = .ok (.invokevirtual 188, 3) := by decide +kernel
theorem dX5_isName_44 : decode cX5_isName 44 = .ok (.if_icmp .eq 5, 3) := by decide +kernel
theorem dX5_isName_47 : decode cX5_isName 47 = .ok (.iconst 0, 1) := by decide +kernel
theorem dX5_isName_48 : decode cX5_isName 48 = .ok (.ireturn, 1) := by decide +kernel
theorem dX5_isName_49 : decode cX5_isName 49 = .ok (.iinc 2 1, 3) := by decide +kernel
theorem dX5_isName_52 : decode cX5_isName 52 = .ok (.goto (-32), 3) := by decide +kernel
theorem dX5_isName_55 : decode cX5_isName 55 = .ok (.iconst 1, 1) := by decide +kernel
theorem dX5_isName_56 : decode cX5_isName 56 = .ok (.ireturn, 1) := by decide +kernel
theorem dX6_init_0 : decode cX6_init 0 = .ok (.aload_n 0, 1) := by decide +kernel
theorem dX6_init_1 : decode cX6_init 1 = .ok (.invokespecial 3, 3) := by decide +kernel
theorem dX6_init_4 : decode cX6_init 4 = .ok (.aload_n 0, 1) := by decide +kernel
theorem dX6_init_5 : decode cX6_init 5 = .ok (.iconst 0, 1) := by decide +kernel
theorem dX6_init_6 : decode cX6_init 6 = .ok (.putfield 9, 3) := by decide +kernel
theorem dX6_init_9 : decode cX6_init 9 = .ok (.aload_n 0, 1) := by decide +kernel
theorem dX6_init_10 : decode cX6_init 10 = .ok (.iconst (-1), 1) := by decide +kernel
theorem dX6_init_11 : decode cX6_init 11 = .ok (.putfield 15, 3) := by decide +kernel
theorem dX6_init_14 : decode cX6_init 14 = .ok (.aload_n 0, 1) := by decide +kernel
theorem dX6_init_15 : decode cX6_init 15 = .ok (.bipush 40, 2) := by decide +kernel
theorem dX6_init_17 : decode cX6_init 17 = .ok (.newarray .int, 2) := by decide +kernel
theorem dX6_init_19 : decode cX6_init 19 = .ok (.putfield 18, 3) := by decide +kernel
theorem dX6_init_22 : decode cX6_init 22 = .ok (.return_, 1) := by decide +kernel
theorem dX6_isNothing_0 : decode cX6_isNothing 0 = .ok (.aload_n 0, 1) := by decide +kernel
theorem dX6_isNothing_1 : decode cX6_isNothing 1 = .ok (.getfield 15, 3) := by decide +kernel
theorem dX6_isNothing_4 : decode cX6_isNothing 4 = .ok (.ifCond .ge 7, 3) := by decide +kernel
theorem dX6_isNothing_7 : decode cX6_isNothing 7 = .ok (.iconst 1, 1) := by decide +kernel
theorem dX6_isNothing_8 : decode cX6_isNothing 8 = .ok (.goto 4, 3) := by decide +kernel
theorem dX6_isNothing_11 : decode cX6_isNothing 11 = .ok (.iconst 0, 1) := by decide +kernel
theorem dX6_isNothing_12 : decode cX6_isNothing 12 = .ok (.ireturn, 1) := by decide +kernel
theorem dX6_begin_0 : decode cX6_begin 0 = .ok (.aload_n 0, 1) := by decide +kernel
theorem dX6_begin_1 : decode cX6_begin 1 = .ok (.iload_n 1, 1) := by decide +kernel
theorem dX6_begin_2 : decode cX6_begin 2 = .ok (.putfield 9, 3) := by decide +kernel
theorem dX6_begin_5 : decode cX6_begin 5 = .ok (.aload_n 0, 1) := by decide +kernel
theorem dX6_begin_6 : decode cX6_begin 6 = .ok (.iload_n 2, 1) := by decide +kernel
theorem dX6_begin_7 : decode cX6_begin 7 = .ok (.putfield 15, 3) := by decide +kernel
theorem dX6_begin_10 : decode cX6_begin 10 = .ok (.aload_n 0, 1) := by decide +kernel
theorem dX6_begin_11 : decode cX6_begin 11 = .ok (.getfield 18, 3) := by decide +kernel
theorem dX6_begin_14 : decode cX6_begin 14 = .ok (.iconst 0, 1) := by decide +kernel
theorem dX6_begin_15 : decode cX6_begin 15 = .ok (.invokestatic 22, 3) := by decide +kernel
theorem dX6_begin_18 : decode cX6_begin 18 = .ok (.return_, 1) := by decide +kernel
theorem dX6_faultAt_0 : decode cX6_faultAt 0 = .ok (.aload_n 0, 1) := by decide +kernel
theorem dX6_faultAt_1 : decode cX6_faultAt 1 = .ok (.invokevirtual 28, 3) := by decide +kernel
theorem dX6_faultAt_4 : decode cX6_faultAt 4 = .ok (.ifCond .eq 5, 3) := by decide +kernel
theorem dX6_faultAt_7 : decode cX6_faultAt 7 = .ok (.iconst 1, 1) := by decide +kernel
theorem dX6_faultAt_8 : decode cX6_faultAt 8 = .ok (.ireturn, 1) := by decide +kernel
theorem dX6_faultAt_9 : decode cX6_faultAt 9 = .ok (.iload_n 1, 1) := by decide +kernel
theorem dX6_faultAt_10 : decode cX6_faultAt 10 = .ok (.ifCond .lt 11, 3) := by decide +kernel
theorem dX6_faultAt_13 : decode cX6_faultAt 13 = .ok (.iload_n 1, 1) := by decide +kernel
theorem dX6_faultAt_14 : decode cX6_faultAt 14 = .ok (.aload_n 0, 1) := by decide +kernel
theorem dX6_faultAt_15 : decode cX6_faultAt 15 = .ok (.getfield 15, 3) := by decide +kernel
theorem dX6_faultAt_18 : decode cX6_faultAt 18 = .ok (.if_icmp .lt 7, 3) := by decide +kernel
theorem dX6_faultAt_21 : decode cX6_faultAt 21 = .ok (.iconst 2, 1) := by decide +kernel
theorem dX6_faultAt_22 : decode cX6_faultAt 22 = .ok (.goto 4, 3) := by decide +kernel
theorem dX6_faultAt_25 : decode cX6_faultAt 25 = .ok (.iconst 0, 1) := by decide +kernel
theorem dX6_faultAt_26 : decode cX6_faultAt 26 = .ok (.ireturn, 1) := by decide +kernel
theorem dX6_faultOfPair_0 : decode cX6_faultOfPair 0 = .ok (.aload_n 0, 1) := by decide +kernel
theorem dX6_faultOfPair_1 : decode cX6_faultOfPair 1 = .ok (.invokevirtual 28, 3) := by decide +kernel
theorem dX6_faultOfPair_4 : decode cX6_faultOfPair 4 = .ok (.ifCond .eq 5, 3) := by decide +kernel
theorem dX6_faultOfPair_7 : decode cX6_faultOfPair 7 = .ok (.iconst 1, 1) := by decide +kernel
theorem dX6_faultOfPair_8 : decode cX6_faultOfPair 8 = .ok (.ireturn, 1) := by decide +kernel
theorem dX6_faultOfPair_9 : decode cX6_faultOfPair 9 = .ok (.iload_n 1, 1) := by decide +kernel
theorem dX6_faultOfPair_10 : decode cX6_faultOfPair 10 = .ok (.aload_n 0, 1) := by decide +kernel
theorem dX6_faultOfPair_11 : decode cX6_faultOfPair 11 = .ok (.getfield 9, 3) := by decide +kernel
theorem dX6_faultOfPair_14 : decode cX6_faultOfPair 14 = .ok (.if_icmp .eq 5, 3) := by decide +kernel
theorem dX6_faultOfPair_17 : decode cX6_faultOfPair 17 = .ok (.iconst 3, 1) := by decide +kernel
theorem dX6_faultOfPair_18 : decode cX6_faultOfPair 18 = .ok (.ireturn, 1) := by decide +kernel
theorem dX6_faultOfPair_19 : decode cX6_faultOfPair 19 = .ok (.iload_n 2, 1) := by decide +kernel
theorem dX6_faultOfPair_20 : decode cX6_faultOfPair 20 = .ok (.ifCond .lt 11, 3) := by decide +kernel
theorem dX6_faultOfPair_23 : decode cX6_faultOfPair 23 = .ok (.iload_n 2, 1) := by decide +kernel
theorem dX6_faultOfPair_24 : decode cX6_faultOfPair 24 = .ok (.aload_n 0, 1) := by decide +kernel
theorem dX6_faultOfPair_25 : decode cX6_faultOfPair 25 = .ok (.getfield 15, 3) := by decide +kernel
theorem dX6_faultOfPair_28 : decode cX6_faultOfPair 28 = .ok (.if_icmp .lt 5, 3) := by decide +kernel
theorem dX6_faultOfPair_31 : decode cX6_faultOfPair 31 = .ok (.iconst 2, 1) := by decide +kernel
theorem dX6_faultOfPair_32 : decode cX6_faultOfPair 32 = .ok (.ireturn, 1) := by decide +kernel
theorem dX6_faultOfPair_33 : decode cX6_faultOfPair 33 = .ok (.aload_n 0, 1) := by decide +kernel
theorem dX6_faultOfPair_34 : decode cX6_faultOfPair 34 = .ok (.iload_n 2, 1) := by decide +kernel
theorem dX6_faultOfPair_35 : decode cX6_faultOfPair 35 = .ok (.iconst 2, 1) := by decide +kernel
theorem dX6_faultOfPair_36 : decode cX6_faultOfPair 36 = .ok (.iload_n 3, 1) := by decide +kernel
theorem dX6_faultOfPair_37 : decode cX6_faultOfPair 37 = .ok (.imul, 1) := by decide +kernel
theorem dX6_faultOfPair_38 : decode cX6_faultOfPair 38 = .ok (.iadd, 1) := by decide +kernel
theorem dX6_faultOfPair_39 : decode cX6_faultOfPair 39 = .ok (.iconst 1, 1) := by decide +kernel
theorem dX6_faultOfPair_40 : decode cX6_faultOfPair 40 = .ok (.iadd, 1) := by decide +kernel
theorem dX6_faultOfPair_41 : decode cX6_faultOfPair 41 = .ok (.invokevirtual 32, 3) := by decide +kernel
theorem dX6_faultOfPair_44 : decode cX6_faultOfPair 44 = .ok (.ireturn, 1) := by decide +kernel
theorem dX6_put_0 : decode cX6_put 0 = .ok (.aload_n 0, 1) := by decide +kernel
theorem dX6_put_1 : decode cX6_put 1 = .ok (.getfield 9, 3) := by decide +kernel
theorem dX6_put_4 : decode cX6_put 4 = .ok (.ifCond .ne 14, 3) := by decide +kernel
theorem dX6_put_7 : decode cX6_put 7 = .ok (.aload_n 0, 1) := by decide +kernel
theorem dX6_put_8 : decode cX6_put 8 = .ok (.getfield 18, 3) := by decide +kernel
theorem dX6_put_11 : decode cX6_put 11 = .ok (.iload_n 1, 1) := by decide +kernel
theorem dX6_put_12 : decode cX6_put 12 = .ok (.iload_n 2, 1) := by decide +kernel
theorem dX6_put_13 : decode cX6_put 13 = .ok (.i2b, 1) := by decide +kernel
theorem dX6_put_14 : decode cX6_put 14 = .ok (.iastore, 1) := by decide +kernel
theorem dX6_put_15 : decode cX6_put 15 = .ok (.goto 23, 3) := by decide +kernel
theorem dX6_put_18 : decode cX6_put 18 = .ok (.aload_n 0, 1) := by decide +kernel
theorem dX6_put_19 : decode cX6_put 19 = .ok (.getfield 18, 3) := by decide +kernel
theorem dX6_put_22 : decode cX6_put 22 = .ok (.iload_n 1, 1) := by decide +kernel
theorem dX6_put_23 : decode cX6_put 23 = .ok (.aload_n 0, 1) := by decide +kernel
theorem dX6_put_24 : decode cX6_put 24 = .ok (.getfield 9, 3) := by decide +kernel
theorem dX6_put_27 : decode cX6_put 27 = .ok (.iconst 1, 1) := by decide +kernel
theorem dX6_put_28 : decode cX6_put 28 = .ok (.if_icmp .ne 8, 3) := by decide +kernel
theorem dX6_put_31 : decode cX6_put 31 = .ok (.iload_n 2, 1) := by decide +kernel
theorem dX6_put_32 : decode cX6_put 32 = .ok (.i2s, 1) := by decide +kernel
theorem dX6_put_33 : decode cX6_put 33 = .ok (.goto 4, 3) := by decide +kernel
theorem dX6_put_36 : decode cX6_put 36 = .ok (.iload_n 2, 1) := by decide +kernel
theorem dX6_put_37 : decode cX6_put 37 = .ok (.iastore, 1) := by decide +kernel
theorem dX6_put_38 : decode cX6_put 38 = .ok (.return_, 1) := by decide +kernel
theorem dX7_init_0 : decode cX7_init 0 = .ok (.aload_n 0, 1) := by decide +kernel
theorem dX7_init_1 : decode cX7_init 1 = .ok (.invokespecial 3, 3) := by decide +kernel
theorem dX7_init_4 : decode cX7_init 4 = .ok (.aload_n 0, 1) := by decide +kernel
theorem dX7_init_5 : decode cX7_init 5 = .ok (.bipush 6, 2) := by decide +kernel
theorem dX7_init_7 : decode cX7_init 7 = .ok (.newarray .int, 2) := by decide +kernel
theorem dX7_init_9 : decode cX7_init 9 = .ok (.putfield 9, 3) := by decide +kernel
theorem dX7_init_12 : decode cX7_init 12 = .ok (.aload_n 0, 1) := by decide +kernel
theorem dX7_init_13 : decode cX7_init 13 = .ok (.iconst 0, 1) := by decide +kernel
theorem dX7_init_14 : decode cX7_init 14 = .ok (.putfield 15, 3) := by decide +kernel
theorem dX7_init_17 : decode cX7_init 17 = .ok (.aload_n 0, 1) := by decide +kernel
theorem dX7_init_18 : decode cX7_init 18 = .ok (.iconst 0, 1) := by decide +kernel
theorem dX7_init_19 : decode cX7_init 19 = .ok (.putfield 19, 3) := by decide +kernel
theorem dX7_init_22 : decode cX7_init 22 = .ok (.aload_n 0, 1) := by decide +kernel
theorem dX7_init_23 : decode cX7_init 23 = .ok (.iconst 0, 1) := by decide +kernel
theorem dX7_init_24 : decode cX7_init 24 = .ok (.putfield 22, 3) := by decide +kernel
theorem dX7_init_27 : decode cX7_init 27 = .ok (.return_, 1) := by decide +kernel
theorem dX7_look_0 : decode cX7_look 0 = .ok (.aload_n 0, 1) := by decide +kernel
theorem dX7_look_1 : decode cX7_look 1 = .ok (.iconst 0, 1) := by decide +kernel
theorem dX7_look_2 : decode cX7_look 2 = .ok (.putfield 15, 3) := by decide +kernel
theorem dX7_look_5 : decode cX7_look 5 = .ok (.aload_n 0, 1) := by decide +kernel
theorem dX7_look_6 : decode cX7_look 6 = .ok (.iconst 0, 1) := by decide +kernel
theorem dX7_look_7 : decode cX7_look 7 = .ok (.putfield 19, 3) := by decide +kernel
theorem dX7_look_10 : decode cX7_look 10 = .ok (.aload_n 0, 1) := by decide +kernel
theorem dX7_look_11 : decode cX7_look 11 = .ok (.iconst 0, 1) := by decide +kernel
theorem dX7_look_12 : decode cX7_look 12 = .ok (.putfield 22, 3) := by decide +kernel
theorem dX7_look_15 : decode cX7_look 15 = .ok (.iconst 0, 1) := by decide +kernel
theorem dX7_look_16 : decode cX7_look 16 = .ok (.istore 4, 2) := by decide +kernel
theorem dX7_look_18 : decode cX7_look 18 = .ok (.iload 4, 2) := by decide +kernel
theorem dX7_look_20 : decode cX7_look 20 = .ok (.iconst 3, 1) := by decide +kernel
theorem dX7_look_21 : decode cX7_look 21 = .ok (.if_icmp .ge 184, 3) := by decide +kernel
theorem dX7_look_24 : decode cX7_look 24 = .ok (.iconst 3, 1) := by decide +kernel
theorem dX7_look_25 : decode cX7_look 25 = .ok (.iconst 2, 1) := by decide +kernel
theorem dX7_look_26 : decode cX7_look 26 = .ok (.iload 4, 2) := by decide +kernel
theorem dX7_look_28 : decode cX7_look 28 = .ok (.imul, 1) := by decide +kernel
theorem dX7_look_29 : decode cX7_look 29 = .ok (.ishl, 1) := by decide +kernel
theorem dX7_look_30 : decode cX7_look 30 = .ok (.istore 5, 2) := by decide +kernel
theorem dX7_look_32 : decode cX7_look 32 = .ok (.iload_n 3, 1) := by decide +kernel
theorem dX7_look_33 : decode cX7_look 33 = .ok (.iload 4, 2) := by decide +kernel
theorem dX7_look_35 : decode cX7_look 35 = .ok (.ishr, 1) := by decide +kernel
theorem dX7_look_36 : decode cX7_look 36 = .ok (.iconst 1, 1) := by decide +kernel
theorem dX7_look_37 : decode cX7_look 37 = .ok (.iand, 1) := by decide +kernel
theorem dX7_look_38 : decode cX7_look 38 = .ok (.iconst 1, 1) := by decide +kernel
theorem dX7_look_39 : decode cX7_look 39 = .ok (.if_icmp .ne 7, 3) := by decide +kernel
theorem dX7_look_42 : decode cX7_look 42 = .ok (.iconst 1, 1) := by decide +kernel
theorem dX7_look_43 : decode cX7_look 43 = .ok (.goto 4, 3) := by decide +kernel
theorem dX7_look_46 : decode cX7_look 46 = .ok (.iconst 0, 1) := by decide +kernel
theorem dX7_look_47 : decode cX7_look 47 = .ok (.istore 6, 2) := by decide +kernel
theorem dX7_look_49 : decode cX7_look 49 = .ok (.aload_n 0, 1) := by decide +kernel
theorem dX7_look_50 : decode cX7_look 50 = .ok (.getfield 9, 3) := by decide +kernel
theorem dX7_look_53 : decode cX7_look 53 = .ok (.iconst 2, 1) := by decide +kernel
theorem dX7_look_54 : decode cX7_look 54 = .ok (.iload 4, 2) := by decide +kernel
theorem dX7_look_56 : decode cX7_look 56 = .ok (.imul, 1) := by decide +kernel
theorem dX7_look_57 : decode cX7_look 57 = .ok (.iload 6, 2) := by decide +kernel
theorem dX7_look_59 : decode cX7_look 59 = .ok (.ifCond .eq 22, 3) := by decide +kernel
theorem dX7_look_62 : decode cX7_look 62 = .ok (.aload_n 1, 1) := by decide +kernel
theorem dX7_look_63 : decode cX7_look 63 = .ok (.getfield 25, 3) := by decide +kernel
theorem dX7_look_66 : decode cX7_look 66 = .ok (.iconst 2, 1) := by decide +kernel
theorem dX7_look_67 : decode cX7_look 67 = .ok (.iload 4, 2) := by decide +kernel
theorem dX7_look_69 : decode cX7_look 69 = .ok (.imul, 1) := by decide +kernel
theorem dX7_look_70 : decode cX7_look 70 = .ok (.iaload, 1) := by decide +kernel
theorem dX7_look_71 : decode cX7_look 71 = .ok (.aload_n 2, 1) := by decide +kernel
theorem dX7_look_72 : decode cX7_look 72 = .ok (.iload 4, 2) := by decide +kernel
theorem dX7_look_74 : decode cX7_look 74 = .ok (.iaload, 1) := by decide +kernel
theorem dX7_look_75 : decode cX7_look 75 = .ok (.invokestatic 30, 3) := by decide +kernel
theorem dX7_look_78 : decode cX7_look 78 = .ok (.goto 4, 3) := by decide +kernel
theorem dX7_look_81 : decode cX7_look 81 = .ok (.iconst 0, 1) := by decide +kernel
theorem dX7_look_82 : decode cX7_look 82 = .ok (.iastore, 1) := by decide +kernel
theorem dX7_look_83 : decode cX7_look 83 = .ok (.aload_n 0, 1) := by decide +kernel
theorem dX7_look_84 : decode cX7_look 84 = .ok (.getfield 9, 3) := by decide +kernel
theorem dX7_look_87 : decode cX7_look 87 = .ok (.iconst 2, 1) := by decide +kernel
theorem dX7_look_88 : decode cX7_look 88 = .ok (.iload 4, 2) := by decide +kernel
theorem dX7_look_90 : decode cX7_look 90 = .ok (.imul, 1) := by decide +kernel
theorem dX7_look_91 : decode cX7_look 91 = .ok (.iconst 1, 1) := by decide +kernel
theorem dX7_look_92 : decode cX7_look 92 = .ok (.iadd, 1) := by decide +kernel
theorem dX7_look_93 : decode cX7_look 93 = .ok (.iload 6, 2) := by decide +kernel
theorem dX7_look_95 : decode cX7_look 95 = .ok (.ifCond .eq 24, 3) := by decide +kernel
theorem dX7_look_98 : decode cX7_look 98 = .ok (.aload_n 1, 1) := by decide +kernel
theorem dX7_look_99 : decode cX7_look 99 = .ok (.getfield 25, 3) := by decide +kernel
theorem dX7_look_102 : decode cX7_look 102 = .ok (.iconst 2, 1) := by decide +kernel
theorem dX7_look_103 : decode cX7_look 103 = .ok (.iload 4, 2) := by decide +kernel
theorem dX7_look_105 : decode cX7_look 105 = .ok (.imul, 1) := by decide +kernel
theorem dX7_look_106 : decode cX7_look 106 = .ok (.iconst 1, 1) := by decide +kernel
theorem dX7_look_107 : decode cX7_look 107 = .ok (.iadd, 1) := by decide +kernel
theorem dX7_look_108 : decode cX7_look 108 = .ok (.iaload, 1) := by decide +kernel
theorem dX7_look_109 : decode cX7_look 109 = .ok (.aload_n 2, 1) := by decide +kernel
theorem dX7_look_110 : decode cX7_look 110 = .ok (.iload 4, 2) := by decide +kernel
theorem dX7_look_112 : decode cX7_look 112 = .ok (.iaload, 1) := by decide +kernel
theorem dX7_look_113 : decode cX7_look 113 = .ok (.invokestatic 30, 3) := by decide +kernel
theorem dX7_look_116 : decode cX7_look 116 = .ok (.goto 4, 3) := by decide +kernel
theorem dX7_look_119 : decode cX7_look 119 = .ok (.iconst 0, 1) := by decide +kernel
theorem dX7_look_120 : decode cX7_look 120 = .ok (.iastore, 1) := by decide +kernel
theorem dX7_look_121 : decode cX7_look 121 = .ok (.iload 6, 2) := by decide +kernel
theorem dX7_look_123 : decode cX7_look 123 = .ok (.ifCond .eq 76, 3) := by decide +kernel
theorem dX7_look_126 : decode cX7_look 126 = .ok (.aload_n 0, 1) := by decide +kernel
theorem dX7_look_127 : decode cX7_look 127 = .ok (.dup, 1) := by decide +kernel
theorem dX7_look_128 : decode cX7_look 128 = .ok (.getfield 15, 3) := by decide +kernel
theorem dX7_look_131 : decode cX7_look 131 = .ok (.iload 5, 2) := by decide +kernel
theorem dX7_look_133 : decode cX7_look 133 = .ok (.ior, 1) := by decide +kernel
theorem dX7_look_134 : decode cX7_look 134 = .ok (.putfield 15, 3) := by decide +kernel
theorem dX7_look_137 : decode cX7_look 137 = .ok (.aload_n 1, 1) := by decide +kernel
theorem dX7_look_138 : decode cX7_look 138 = .ok (.getfield 34, 3) := by decide +kernel
theorem dX7_look_141 : decode cX7_look 141 = .ok (.iload 4, 2) := by decide +kernel
theorem dX7_look_143 : decode cX7_look 143 = .ok (.iaload, 1) := by decide +kernel
theorem dX7_look_144 : decode cX7_look 144 = .ok (.iconst 1, 1) := by decide +kernel
theorem dX7_look_145 : decode cX7_look 145 = .ok (.if_icmp .ne 28, 3) := by decide +kernel
theorem dX7_look_148 : decode cX7_look 148 = .ok (.aload_n 0, 1) := by decide +kernel
theorem dX7_look_149 : decode cX7_look 149 = .ok (.dup, 1) := by decide +kernel
theorem dX7_look_150 : decode cX7_look 150 = .ok (.getfield 19, 3) := by decide +kernel
theorem dX7_look_153 : decode cX7_look 153 = .ok (.iconst 1, 1) := by decide +kernel
theorem dX7_look_154 : decode cX7_look 154 = .ok (.iconst 2, 1) := by decide +kernel
theorem dX7_look_155 : decode cX7_look 155 = .ok (.iload 4, 2) := by decide +kernel
theorem dX7_look_157 : decode cX7_look 157 = .ok (.imul, 1) := by decide +kernel
theorem dX7_look_158 : decode cX7_look 158 = .ok (.ishl, 1) := by decide +kernel
theorem dX7_look_159 : decode cX7_look 159 = .ok (.ior, 1) := by decide +kernel
theorem dX7_look_160 : decode cX7_look 160 = .ok (.putfield 19, 3) := by decide +kernel
theorem dX7_look_163 : decode cX7_look 163 = .ok (.aload_n 0, 1) := by decide +kernel
theorem dX7_look_164 : decode cX7_look 164 = .ok (.getfield 9, 3) := by decide +kernel
theorem dX7_look_167 : decode cX7_look 167 = .ok (.iconst 2, 1) := by decide +kernel
theorem dX7_look_168 : decode cX7_look 168 = .ok (.iload 4, 2) := by decide +kernel
theorem dX7_look_170 : decode cX7_look 170 = .ok (.imul, 1) := by decide +kernel
theorem dX7_look_171 : decode cX7_look 171 = .ok (.iconst 0, 1) := by decide +kernel
theorem dX7_look_172 : decode cX7_look 172 = .ok (.iastore, 1) := by decide +kernel
theorem dX7_look_173 : decode cX7_look 173 = .ok (.aload_n 0, 1) := by decide +kernel
theorem dX7_look_174 : decode cX7_look 174 = .ok (.dup, 1) := by decide +kernel
theorem dX7_look_175 : decode cX7_look 175 = .ok (.getfield 22, 3) := by decide +kernel
theorem dX7_look_178 : decode cX7_look 178 = .ok (.aload_n 1, 1) := by decide +kernel
theorem dX7_look_179 : decode cX7_look 179 = .ok (.getfield 34, 3) := by decide +kernel
theorem dX7_look_182 : decode cX7_look 182 = .ok (.iload 4, 2) := by decide +kernel
theorem dX7_look_184 : decode cX7_look 184 = .ok (.iaload, 1) := by decide +kernel
theorem dX7_look_185 : decode cX7_look 185 = .ok (.iconst 3, 1) := by decide +kernel
theorem dX7_look_186 : decode cX7_look 186 = .ok (.if_icmp .ne 8, 3) := by decide +kernel
theorem dX7_look_189 : decode cX7_look 189 = .ok (.iload 5, 2) := by decide +kernel
theorem dX7_look_191 : decode cX7_look 191 = .ok (.goto 4, 3) := by decide +kernel
theorem dX7_look_194 : decode cX7_look 194 = .ok (.iconst 0, 1) := by decide +kernel
theorem dX7_look_195 : decode cX7_look 195 = .ok (.ior, 1) := by decide +kernel
theorem dX7_look_196 : decode cX7_look 196 = .ok (.putfield 22, 3) := by decide +kernel
theorem dX7_look_199 : decode cX7_look 199 = .ok (.iinc 4 1, 3) := by decide +kernel
theorem dX7_look_202 : decode cX7_look 202 = .ok (.goto (-184), 3) := by decide +kernel
theorem dX7_look_205 : decode cX7_look 205 = .ok (.return_, 1) := by decide +kernel
theorem dX7_turned_0 : decode cX7_turned 0 = .ok (.iload_n 0, 1) := by decide +kernel
theorem dX7_turned_1 : decode cX7_turned 1 = .ok (.iload_n 1, 1) := by decide +kernel
theorem dX7_turned_2 : decode cX7_turned 2 = .ok (.ishl, 1) := by decide +kernel
theorem dX7_turned_3 : decode cX7_turned 3 = .ok (.iload_n 0, 1) := by decide +kernel
theorem dX7_turned_4 : decode cX7_turned 4 = .ok (.iconst 4, 1) := by decide +kernel
theorem dX7_turned_5 : decode cX7_turned 5 = .ok (.iload_n 1, 1) := by decide +kernel
theorem dX7_turned_6 : decode cX7_turned 6 = .ok (.isub, 1) := by decide +kernel
theorem dX7_turned_7 : decode cX7_turned 7 = .ok (.ishr, 1) := by decide +kernel
theorem dX7_turned_8 : decode cX7_turned 8 = .ok (.ior, 1) := by decide +kernel
theorem dX7_turned_9 : decode cX7_turned 9 = .ok (.bipush 15, 2) := by decide +kernel
theorem dX7_turned_11 : decode cX7_turned 11 = .ok (.iand, 1) := by decide +kernel
theorem dX7_turned_12 : decode cX7_turned 12 = .ok (.ireturn, 1) := by decide +kernel
theorem dX7_openBy_0 : decode cX7_openBy 0 = .ok (.aload_n 0, 1) := by decide +kernel
theorem dX7_openBy_1 : decode cX7_openBy 1 = .ok (.getfield 15, 3) := by decide +kernel
theorem dX7_openBy_4 : decode cX7_openBy 4 = .ok (.aload_n 0, 1) := by decide +kernel
theorem dX7_openBy_5 : decode cX7_openBy 5 = .ok (.getfield 19, 3) := by decide +kernel
theorem dX7_openBy_8 : decode cX7_openBy 8 = .ok (.iconst (-1), 1) := by decide +kernel
theorem dX7_openBy_9 : decode cX7_openBy 9 = .ok (.ixor, 1) := by decide +kernel
theorem dX7_openBy_10 : decode cX7_openBy 10 = .ok (.iand, 1) := by decide +kernel
theorem dX7_openBy_11 : decode cX7_openBy 11 = .ok (.getstatic 37, 3) := by decide +kernel
theorem dX7_openBy_14 : decode cX7_openBy 14 = .ok (.iload_n 1, 1) := by decide +kernel
theorem dX7_openBy_15 : decode cX7_openBy 15 = .ok (.iaload, 1) := by decide +kernel
theorem dX7_openBy_16 : decode cX7_openBy 16 = .ok (.iconst (-1), 1) := by decide +kernel
theorem dX7_openBy_17 : decode cX7_openBy 17 = .ok (.ixor, 1) := by decide +kernel
theorem dX7_openBy_18 : decode cX7_openBy 18 = .ok (.iand, 1) := by decide +kernel
theorem dX7_openBy_19 : decode cX7_openBy 19 = .ok (.ireturn, 1) := by decide +kernel
theorem dX7_countOf_0 : decode cX7_countOf 0 = .ok (.iconst 0, 1) := by decide +kernel
theorem dX7_countOf_1 : decode cX7_countOf 1 = .ok (.istore_n 3, 1) := by decide +kernel
theorem dX7_countOf_2 : decode cX7_countOf 2 = .ok (.iconst 0, 1) := by decide +kernel
theorem dX7_countOf_3 : decode cX7_countOf 3 = .ok (.istore 4, 2) := by decide +kernel
theorem dX7_countOf_5 : decode cX7_countOf 5 = .ok (.iload 4, 2) := by decide +kernel
theorem dX7_countOf_7 : decode cX7_countOf 7 = .ok (.bipush 6, 2) := by decide +kernel
theorem dX7_countOf_9 : decode cX7_countOf 9 = .ok (.if_icmp .ge 50, 3) := by decide +kernel
theorem dX7_countOf_12 : decode cX7_countOf 12 = .ok (.aload_n 0, 1) := by decide +kernel
theorem dX7_countOf_13 : decode cX7_countOf 13 = .ok (.getfield 9, 3) := by decide +kernel
theorem dX7_countOf_16 : decode cX7_countOf 16 = .ok (.iload 4, 2) := by decide +kernel
theorem dX7_countOf_18 : decode cX7_countOf 18 = .ok (.iaload, 1) := by decide +kernel
theorem dX7_countOf_19 : decode cX7_countOf 19 = .ok (.iload_n 1, 1) := by decide +kernel
theorem dX7_countOf_20 : decode cX7_countOf 20 = .ok (.ishr, 1) := by decide +kernel
theorem dX7_countOf_21 : decode cX7_countOf 21 = .ok (.iconst 1, 1) := by decide +kernel
theorem dX7_countOf_22 : decode cX7_countOf 22 = .ok (.iand, 1) := by decide +kernel
theorem dX7_countOf_23 : decode cX7_countOf 23 = .ok (.iconst 1, 1) := by decide +kernel
theorem dX7_countOf_24 : decode cX7_countOf 24 = .ok (.if_icmp .ne 29, 3) := by decide +kernel
theorem dX7_countOf_27 : decode cX7_countOf 27 = .ok (.iload_n 3, 1) := by decide +kernel
theorem dX7_countOf_28 : decode cX7_countOf 28 = .ok (.iload_n 2, 1) := by decide +kernel
theorem dX7_countOf_29 : decode cX7_countOf 29 = .ok (.iload 4, 2) := by decide +kernel
theorem dX7_countOf_31 : decode cX7_countOf 31 = .ok (.ishr, 1) := by decide +kernel
theorem dX7_countOf_32 : decode cX7_countOf 32 = .ok (.iconst 1, 1) := by decide +kernel
theorem dX7_countOf_33 : decode cX7_countOf 33 = .ok (.iand, 1) := by decide +kernel
theorem dX7_countOf_34 : decode cX7_countOf 34 = .ok (.iconst 1, 1) := by decide +kernel
theorem dX7_countOf_35 : decode cX7_countOf 35 = .ok (.if_icmp .ne 7, 3) := by decide +kernel
theorem dX7_countOf_38 : decode cX7_countOf 38 = .ok (.iconst 2, 1) := by decide +kernel
theorem dX7_countOf_39 : decode cX7_countOf 39 = .ok (.goto 12, 3) := by decide +kernel
theorem dX7_countOf_42 : decode cX7_countOf 42 = .ok (.aload_n 0, 1) := by decide +kernel
theorem dX7_countOf_43 : decode cX7_countOf 43 = .ok (.getfield 22, 3) := by decide +kernel
theorem dX7_countOf_46 : decode cX7_countOf 46 = .ok (.iload 4, 2) := by decide +kernel
theorem dX7_countOf_48 : decode cX7_countOf 48 = .ok (.ishr, 1) := by decide +kernel
theorem dX7_countOf_49 : decode cX7_countOf 49 = .ok (.iconst 1, 1) := by decide +kernel
theorem dX7_countOf_50 : decode cX7_countOf 50 = .ok (.iand, 1) := by decide +kernel
theorem dX7_countOf_51 : decode cX7_countOf 51 = .ok (.iadd, 1) := by decide +kernel
theorem dX7_countOf_52 : decode cX7_countOf 52 = .ok (.istore_n 3, 1) := by decide +kernel
theorem dX7_countOf_53 : decode cX7_countOf 53 = .ok (.iinc 4 1, 3) := by decide +kernel
theorem dX7_countOf_56 : decode cX7_countOf 56 = .ok (.goto (-51), 3) := by decide +kernel
theorem dX7_countOf_59 : decode cX7_countOf 59 = .ok (.iload_n 3, 1) := by decide +kernel
theorem dX7_countOf_60 : decode cX7_countOf 60 = .ok (.ireturn, 1) := by decide +kernel
theorem dX7_lacking_0 : decode cX7_lacking 0 = .ok (.iconst 0, 1) := by decide +kernel
theorem dX7_lacking_1 : decode cX7_lacking 1 = .ok (.istore 4, 2) := by decide +kernel
theorem dX7_lacking_3 : decode cX7_lacking 3 = .ok (.iconst 0, 1) := by decide +kernel
theorem dX7_lacking_4 : decode cX7_lacking 4 = .ok (.istore 5, 2) := by decide +kernel
theorem dX7_lacking_6 : decode cX7_lacking 6 = .ok (.iload 5, 2) := by decide +kernel
theorem dX7_lacking_8 : decode cX7_lacking 8 = .ok (.iconst 4, 1) := by decide +kernel
theorem dX7_lacking_9 : decode cX7_lacking 9 = .ok (.if_icmp .ge 45, 3) := by decide +kernel
theorem dX7_lacking_12 : decode cX7_lacking 12 = .ok (.aload_n 1, 1) := by decide +kernel
theorem dX7_lacking_13 : decode cX7_lacking 13 = .ok (.iload 5, 2) := by decide +kernel
theorem dX7_lacking_15 : decode cX7_lacking 15 = .ok (.iaload, 1) := by decide +kernel
theorem dX7_lacking_16 : decode cX7_lacking 16 = .ok (.iload_n 2, 1) := by decide +kernel
theorem dX7_lacking_17 : decode cX7_lacking 17 = .ok (.iload 5, 2) := by decide +kernel
theorem dX7_lacking_19 : decode cX7_lacking 19 = .ok (.ishr, 1) := by decide +kernel
theorem dX7_lacking_20 : decode cX7_lacking 20 = .ok (.iconst 1, 1) := by decide +kernel
theorem dX7_lacking_21 : decode cX7_lacking 21 = .ok (.iand, 1) := by decide +kernel
theorem dX7_lacking_22 : decode cX7_lacking 22 = .ok (.iadd, 1) := by decide +kernel
theorem dX7_lacking_23 : decode cX7_lacking 23 = .ok (.istore 6, 2) := by decide +kernel
theorem dX7_lacking_25 : decode cX7_lacking 25 = .ok (.aload_n 0, 1) := by decide +kernel
theorem dX7_lacking_26 : decode cX7_lacking 26 = .ok (.iload 5, 2) := by decide +kernel
theorem dX7_lacking_28 : decode cX7_lacking 28 = .ok (.iload_n 3, 1) := by decide +kernel
theorem dX7_lacking_29 : decode cX7_lacking 29 = .ok (.invokevirtual 40, 3) := by decide +kernel
theorem dX7_lacking_32 : decode cX7_lacking 32 = .ok (.iconst 2, 1) := by decide +kernel
theorem dX7_lacking_33 : decode cX7_lacking 33 = .ok (.iload 6, 2) := by decide +kernel
theorem dX7_lacking_35 : decode cX7_lacking 35 = .ok (.imul, 1) := by decide +kernel
theorem dX7_lacking_36 : decode cX7_lacking 36 = .ok (.if_icmp .ge 12, 3) := by decide +kernel
theorem dX7_lacking_39 : decode cX7_lacking 39 = .ok (.iload 4, 2) := by decide +kernel
theorem dX7_lacking_41 : decode cX7_lacking 41 = .ok (.iconst 1, 1) := by decide +kernel
theorem dX7_lacking_42 : decode cX7_lacking 42 = .ok (.iload 5, 2) := by decide +kernel
theorem dX7_lacking_44 : decode cX7_lacking 44 = .ok (.ishl, 1) := by decide +kernel
theorem dX7_lacking_45 : decode cX7_lacking 45 = .ok (.ior, 1) := by decide +kernel
theorem dX7_lacking_46 : decode cX7_lacking 46 = .ok (.istore 4, 2) := by decide +kernel
theorem dX7_lacking_48 : decode cX7_lacking 48 = .ok (.iinc 5 1, 3) := by decide +kernel
theorem dX7_lacking_51 : decode cX7_lacking 51 = .ok (.goto (-45), 3) := by decide +kernel
theorem dX7_lacking_54 : decode cX7_lacking 54 = .ok (.iload 4, 2) := by decide +kernel
theorem dX7_lacking_56 : decode cX7_lacking 56 = .ok (.ireturn, 1) := by decide +kernel
theorem dX8_init_0 : decode cX8_init 0 = .ok (.aload_n 0, 1) := by decide +kernel
theorem dX8_init_1 : decode cX8_init 1 = .ok (.invokespecial 3, 3) := by decide +kernel
theorem dX8_init_4 : decode cX8_init 4 = .ok (.aload_n 0, 1) := by decide +kernel
theorem dX8_init_5 : decode cX8_init 5 = .ok (.iconst 4, 1) := by decide +kernel
theorem dX8_init_6 : decode cX8_init 6 = .ok (.newarray .long, 2) := by decide +kernel
theorem dX8_init_8 : decode cX8_init 8 = .ok (.putfield 9, 3) := by decide +kernel
theorem dX8_init_11 : decode cX8_init 11 = .ok (.aload_n 0, 1) := by decide +kernel
theorem dX8_init_12 : decode cX8_init 12 = .ok (.lconst 1, 1) := by decide +kernel
theorem dX8_init_13 : decode cX8_init 13 = .ok (.putfield 15, 3) := by decide +kernel
theorem dX8_init_16 : decode cX8_init 16 = .ok (.return_, 1) := by decide +kernel
theorem dX8_weigh_0 : decode cX8_weigh 0 = .ok (.aload_n 0, 1) := by decide +kernel
theorem dX8_weigh_1 : decode cX8_weigh 1 = .ok (.getfield 9, 3) := by decide +kernel
theorem dX8_weigh_4 : decode cX8_weigh 4 = .ok (.lconst 0, 1) := by decide +kernel
theorem dX8_weigh_5 : decode cX8_weigh 5 = .ok (.invokestatic 19, 3) := by decide +kernel
theorem dX8_weigh_8 : decode cX8_weigh 8 = .ok (.aload_n 0, 1) := by decide +kernel
theorem dX8_weigh_9 : decode cX8_weigh 9 = .ok (.lconst 0, 1) := by decide +kernel
theorem dX8_weigh_10 : decode cX8_weigh 10 = .ok (.putfield 15, 3) := by decide +kernel
theorem dX8_weigh_13 : decode cX8_weigh 13 = .ok (.iconst 0, 1) := by decide +kernel
theorem dX8_weigh_14 : decode cX8_weigh 14 = .ok (.istore 5, 2) := by decide +kernel
theorem dX8_weigh_16 : decode cX8_weigh 16 = .ok (.iload 5, 2) := by decide +kernel
theorem dX8_weigh_18 : decode cX8_weigh 18 = .ok (.bipush 64, 2) := by decide +kernel
theorem dX8_weigh_20 : decode cX8_weigh 20 = .ok (.if_icmp .ge 94, 3) := by decide +kernel
theorem dX8_weigh_23 : decode cX8_weigh 23 = .ok (.iload 5, 2) := by decide +kernel
theorem dX8_weigh_25 : decode cX8_weigh 25 = .ok (.aload_n 1, 1) := by decide +kernel
theorem dX8_weigh_26 : decode cX8_weigh 26 = .ok (.getfield 25, 3) := by decide +kernel
theorem dX8_weigh_29 : decode cX8_weigh 29 = .ok (.iconst (-1), 1) := by decide +kernel
theorem dX8_weigh_30 : decode cX8_weigh 30 = .ok (.ixor, 1) := by decide +kernel
theorem dX8_weigh_31 : decode cX8_weigh 31 = .ok (.iand, 1) := by decide +kernel
theorem dX8_weigh_32 : decode cX8_weigh 32 = .ok (.ifCond .ne 76, 3) := by decide +kernel
theorem dX8_weigh_35 : decode cX8_weigh 35 = .ok (.aload_n 1, 1) := by decide +kernel
theorem dX8_weigh_36 : decode cX8_weigh 36 = .ok (.iload 5, 2) := by decide +kernel
theorem dX8_weigh_38 : decode cX8_weigh 38 = .ok (.invokestatic 31, 3) := by decide +kernel
theorem dX8_weigh_41 : decode cX8_weigh 41 = .ok (.lstore 6, 2) := by decide +kernel
theorem dX8_weigh_43 : decode cX8_weigh 43 = .ok (.aload_n 2, 1) := by decide +kernel
theorem dX8_weigh_44 : decode cX8_weigh 44 = .ok (.aload_n 3, 1) := by decide +kernel
theorem dX8_weigh_45 : decode cX8_weigh 45 = .ok (.iload 4, 2) := by decide +kernel
theorem dX8_weigh_47 : decode cX8_weigh 47 = .ok (.aload_n 1, 1) := by decide +kernel
theorem dX8_weigh_48 : decode cX8_weigh 48 = .ok (.getfield 25, 3) := by decide +kernel
theorem dX8_weigh_51 : decode cX8_weigh 51 = .ok (.iload 5, 2) := by decide +kernel
theorem dX8_weigh_53 : decode cX8_weigh 53 = .ok (.iconst (-1), 1) := by decide +kernel
theorem dX8_weigh_54 : decode cX8_weigh 54 = .ok (.ixor, 1) := by decide +kernel
theorem dX8_weigh_55 : decode cX8_weigh 55 = .ok (.iand, 1) := by decide +kernel
theorem dX8_weigh_56 : decode cX8_weigh 56 = .ok (.invokevirtual 35, 3) := by decide +kernel
theorem dX8_weigh_59 : decode cX8_weigh 59 = .ok (.istore 8, 2) := by decide +kernel
theorem dX8_weigh_61 : decode cX8_weigh 61 = .ok (.aload_n 0, 1) := by decide +kernel
theorem dX8_weigh_62 : decode cX8_weigh 62 = .ok (.dup, 1) := by decide +kernel
theorem dX8_weigh_63 : decode cX8_weigh 63 = .ok (.getfield 15, 3) := by decide +kernel
theorem dX8_weigh_66 : decode cX8_weigh 66 = .ok (.lload 6, 2) := by decide +kernel
theorem dX8_weigh_68 : decode cX8_weigh 68 = .ok (.ladd, 1) := by decide +kernel
theorem dX8_weigh_69 : decode cX8_weigh 69 = .ok (.putfield 15, 3) := by decide +kernel
theorem dX8_weigh_72 : decode cX8_weigh 72 = .ok (.iconst 0, 1) := by decide +kernel
theorem dX8_weigh_73 : decode cX8_weigh 73 = .ok (.istore 9, 2) := by decide +kernel
theorem dX8_weigh_75 : decode cX8_weigh 75 = .ok (.iload 9, 2) := by decide +kernel
theorem dX8_weigh_77 : decode cX8_weigh 77 = .ok (.iconst 4, 1) := by decide +kernel
theorem dX8_weigh_78 : decode cX8_weigh 78 = .ok (.if_icmp .ge 30, 3) := by decide +kernel
theorem dX8_weigh_81 : decode cX8_weigh 81 = .ok (.aload_n 0, 1) := by decide +kernel
theorem dX8_weigh_82 : decode cX8_weigh 82 = .ok (.getfield 9, 3) := by decide +kernel
theorem dX8_weigh_85 : decode cX8_weigh 85 = .ok (.iload 9, 2) := by decide +kernel
theorem dX8_weigh_87 : decode cX8_weigh 87 = .ok (.dup2, 1) := by decide +kernel
theorem dX8_weigh_88 : decode cX8_weigh 88 = .ok (.laload, 1) := by decide +kernel
theorem dX8_weigh_89 : decode cX8_weigh 89 = .ok (.iload 8, 2) := by decide +kernel
theorem dX8_weigh_91 : decode cX8_weigh 91 = .ok (.iload 9, 2) := by decide +kernel
theorem dX8_weigh_93 : decode cX8_weigh 93 = .ok (.ishr, 1) := by decide +kernel
theorem dX8_weigh_94 : decode cX8_weigh 94 = .ok (.iconst 1, 1) := by decide +kernel
theorem dX8_weigh_95 : decode cX8_weigh 95 = .ok (.iand, 1) := by decide +kernel
theorem dX8_weigh_96 : decode cX8_weigh 96 = .ok (.i2l, 1) := by decide +kernel
theorem dX8_weigh_97 : decode cX8_weigh 97 = .ok (.lload 6, 2) := by decide +kernel
theorem dX8_weigh_99 : decode cX8_weigh 99 = .ok (.lmul, 1) := by decide +kernel
theorem dX8_weigh_100 : decode cX8_weigh 100 = .ok (.ladd, 1) := by decide +kernel
theorem dX8_weigh_101 : decode cX8_weigh 101 = .ok (.lastore, 1) := by decide +kernel
theorem dX8_weigh_102 : decode cX8_weigh 102 = .ok (.iinc 9 1, 3) := by decide +kernel
theorem dX8_weigh_105 : decode cX8_weigh 105 = .ok (.goto (-30), 3) := by decide +kernel
theorem dX8_weigh_108 : decode cX8_weigh 108 = .ok (.iinc 5 1, 3) := by decide +kernel
theorem dX8_weigh_111 : decode cX8_weigh 111 = .ok (.goto (-95), 3) := by decide +kernel
theorem dX8_weigh_114 : decode cX8_weigh 114 = .ok (.return_, 1) := by decide +kernel
theorem dX8_waysOf_0 : decode cX8_waysOf 0 = .ok (.lconst 1, 1) := by decide +kernel
theorem dX8_waysOf_1 : decode cX8_waysOf 1 = .ok (.lstore_n 2, 1) := by decide +kernel
theorem dX8_waysOf_2 : decode cX8_waysOf 2 = .ok (.iconst 0, 1) := by decide +kernel
theorem dX8_waysOf_3 : decode cX8_waysOf 3 = .ok (.istore 4, 2) := by decide +kernel
theorem dX8_waysOf_5 : decode cX8_waysOf 5 = .ok (.iload 4, 2) := by decide +kernel
theorem dX8_waysOf_7 : decode cX8_waysOf 7 = .ok (.bipush 6, 2) := by decide +kernel
theorem dX8_waysOf_9 : decode cX8_waysOf 9 = .ok (.if_icmp .ge 60, 3) := by decide +kernel
theorem dX8_waysOf_12 : decode cX8_waysOf 12 = .ok (.iload_n 1, 1) := by decide +kernel
theorem dX8_waysOf_13 : decode cX8_waysOf 13 = .ok (.iload 4, 2) := by decide +kernel
theorem dX8_waysOf_15 : decode cX8_waysOf 15 = .ok (.ishr, 1) := by decide +kernel
theorem dX8_waysOf_16 : decode cX8_waysOf 16 = .ok (.iconst 1, 1) := by decide +kernel
theorem dX8_waysOf_17 : decode cX8_waysOf 17 = .ok (.iand, 1) := by decide +kernel
theorem dX8_waysOf_18 : decode cX8_waysOf 18 = .ok (.iconst 1, 1) := by decide +kernel
theorem dX8_waysOf_19 : decode cX8_waysOf 19 = .ok (.if_icmp .ne 17, 3) := by decide +kernel
theorem dX8_waysOf_22 : decode cX8_waysOf 22 = .ok (.lload_n 2, 1) := by decide +kernel
theorem dX8_waysOf_23 : decode cX8_waysOf 23 = .ok (.aload_n 0, 1) := by decide +kernel
theorem dX8_waysOf_24 : decode cX8_waysOf 24 = .ok (.getfield 41, 3) := by decide +kernel
theorem dX8_waysOf_27 : decode cX8_waysOf 27 = .ok (.iload 4, 2) := by decide +kernel
theorem dX8_waysOf_29 : decode cX8_waysOf 29 = .ok (.iaload, 1) := by decide +kernel
theorem dX8_waysOf_30 : decode cX8_waysOf 30 = .ok (.i2l, 1) := by decide +kernel
theorem dX8_waysOf_31 : decode cX8_waysOf 31 = .ok (.lmul, 1) := by decide +kernel
theorem dX8_waysOf_32 : decode cX8_waysOf 32 = .ok (.lstore_n 2, 1) := by decide +kernel
theorem dX8_waysOf_33 : decode cX8_waysOf 33 = .ok (.goto 30, 3) := by decide +kernel
theorem dX8_waysOf_36 : decode cX8_waysOf 36 = .ok (.aload_n 0, 1) := by decide +kernel
theorem dX8_waysOf_37 : decode cX8_waysOf 37 = .ok (.getfield 25, 3) := by decide +kernel
theorem dX8_waysOf_40 : decode cX8_waysOf 40 = .ok (.iload 4, 2) := by decide +kernel
theorem dX8_waysOf_42 : decode cX8_waysOf 42 = .ok (.ishr, 1) := by decide +kernel
theorem dX8_waysOf_43 : decode cX8_waysOf 43 = .ok (.iconst 1, 1) := by decide +kernel
theorem dX8_waysOf_44 : decode cX8_waysOf 44 = .ok (.iand, 1) := by decide +kernel
theorem dX8_waysOf_45 : decode cX8_waysOf 45 = .ok (.iconst 1, 1) := by decide +kernel
theorem dX8_waysOf_46 : decode cX8_waysOf 46 = .ok (.if_icmp .ne 17, 3) := by decide +kernel
theorem dX8_waysOf_49 : decode cX8_waysOf 49 = .ok (.lload_n 2, 1) := by decide +kernel
theorem dX8_waysOf_50 : decode cX8_waysOf 50 = .ok (.bipush 10, 2) := by decide +kernel
theorem dX8_waysOf_52 : decode cX8_waysOf 52 = .ok (.aload_n 0, 1) := by decide +kernel
theorem dX8_waysOf_53 : decode cX8_waysOf 53 = .ok (.getfield 41, 3) := by decide +kernel
theorem dX8_waysOf_56 : decode cX8_waysOf 56 = .ok (.iload 4, 2) := by decide +kernel
theorem dX8_waysOf_58 : decode cX8_waysOf 58 = .ok (.iaload, 1) := by decide +kernel
theorem dX8_waysOf_59 : decode cX8_waysOf 59 = .ok (.isub, 1) := by decide +kernel
theorem dX8_waysOf_60 : decode cX8_waysOf 60 = .ok (.i2l, 1) := by decide +kernel
theorem dX8_waysOf_61 : decode cX8_waysOf 61 = .ok (.lmul, 1) := by decide +kernel
theorem dX8_waysOf_62 : decode cX8_waysOf 62 = .ok (.lstore_n 2, 1) := by decide +kernel
theorem dX8_waysOf_63 : decode cX8_waysOf 63 = .ok (.iinc 4 1, 3) := by decide +kernel
theorem dX8_waysOf_66 : decode cX8_waysOf 66 = .ok (.goto (-61), 3) := by decide +kernel
theorem dX8_waysOf_69 : decode cX8_waysOf 69 = .ok (.lload_n 2, 1) := by decide +kernel
theorem dX8_waysOf_70 : decode cX8_waysOf 70 = .ok (.lreturn, 1) := by decide +kernel
theorem dX8_fraction_0 : decode cX8_fraction 0 = .ok (.lload_n 1, 1) := by decide +kernel
theorem dX8_fraction_1 : decode cX8_fraction 1 = .ok (.aload_n 0, 1) := by decide +kernel
theorem dX8_fraction_2 : decode cX8_fraction 2 = .ok (.getfield 15, 3) := by decide +kernel
theorem dX8_fraction_5 : decode cX8_fraction 5 = .ok (.invokestatic 45, 3) := by decide +kernel
theorem dX8_fraction_8 : decode cX8_fraction 8 = .ok (.lstore 4, 2) := by decide +kernel
theorem dX8_fraction_10 : decode cX8_fraction 10 = .ok (.lload 4, 2) := by decide +kernel
theorem dX8_fraction_12 : decode cX8_fraction 12 = .ok (.lconst 0, 1) := by decide +kernel
theorem dX8_fraction_13 : decode cX8_fraction 13 = .ok (.lcmp, 1) := by decide +kernel
theorem dX8_fraction_14 : decode cX8_fraction 14 = .ok (.ifCond .gt 5, 3) := by decide +kernel
theorem dX8_fraction_17 : decode cX8_fraction 17 = .ok (.lconst 0, 1) := by decide +kernel
theorem dX8_fraction_18 : decode cX8_fraction 18 = .ok (.lreturn, 1) := by decide +kernel
theorem dX8_fraction_19 : decode cX8_fraction 19 = .ok (.iload_n 3, 1) := by decide +kernel
theorem dX8_fraction_20 : decode cX8_fraction 20 = .ok (.ifCond .ne 7, 3) := by decide +kernel
theorem dX8_fraction_23 : decode cX8_fraction 23 = .ok (.lload_n 1, 1) := by decide +kernel
theorem dX8_fraction_24 : decode cX8_fraction 24 = .ok (.goto 7, 3) := by decide +kernel
theorem dX8_fraction_27 : decode cX8_fraction 27 = .ok (.aload_n 0, 1) := by decide +kernel
theorem dX8_fraction_28 : decode cX8_fraction 28 = .ok (.getfield 15, 3) := by decide +kernel
theorem dX8_fraction_31 : decode cX8_fraction 31 = .ok (.lload 4, 2) := by decide +kernel
theorem dX8_fraction_33 : decode cX8_fraction 33 = .ok (.ldiv, 1) := by decide +kernel
theorem dX8_fraction_34 : decode cX8_fraction 34 = .ok (.lreturn, 1) := by decide +kernel
theorem dX8_commonDivisor_0 : decode cX8_commonDivisor 0 = .ok (.lload_n 0, 1) := by decide +kernel
theorem dX8_commonDivisor_1 : decode cX8_commonDivisor 1 = .ok (.lstore 4, 2) := by decide +kernel
theorem dX8_commonDivisor_3 : decode cX8_commonDivisor 3 = .ok (.lload_n 2, 1) := by decide +kernel
theorem dX8_commonDivisor_4 : decode cX8_commonDivisor 4 = .ok (.lstore 6, 2) := by decide +kernel
theorem dX8_commonDivisor_6 : decode cX8_commonDivisor 6 = .ok (.iconst 0, 1) := by decide +kernel
theorem dX8_commonDivisor_7 : decode cX8_commonDivisor 7 = .ok (.istore 8, 2) := by decide +kernel
theorem dX8_commonDivisor_9 : decode cX8_commonDivisor 9 = .ok (.iload 8, 2) := by decide +kernel
theorem dX8_commonDivisor_11 : decode cX8_commonDivisor 11 = .ok (.sipush 200, 3) := by decide +kernel
theorem dX8_commonDivisor_14 : decode cX8_commonDivisor 14 = .ok (.if_icmp .ge 31, 3) := by decide +kernel
theorem dX8_commonDivisor_17 : decode cX8_commonDivisor 17 = .ok (.lload 6, 2) := by decide +kernel
theorem dX8_commonDivisor_19 : decode cX8_commonDivisor 19 = .ok (.lconst 0, 1) := by decide +kernel
theorem dX8_commonDivisor_20 : decode cX8_commonDivisor 20 = .ok (.lcmp, 1) := by decide +kernel
theorem dX8_commonDivisor_21 : decode cX8_commonDivisor 21 = .ok (.ifCond .eq 24, 3) := by decide +kernel
theorem dX8_commonDivisor_24 : decode cX8_commonDivisor 24 = .ok (.lload 4, 2) := by decide +kernel
theorem dX8_commonDivisor_26 : decode cX8_commonDivisor 26 = .ok (.lload 6, 2) := by decide +kernel
theorem dX8_commonDivisor_28 : decode cX8_commonDivisor 28 = .ok (.lrem, 1) := by decide +kernel
theorem dX8_commonDivisor_29 : decode cX8_commonDivisor 29 = .ok (.lstore 9, 2) := by decide +kernel
theorem dX8_commonDivisor_31 : decode cX8_commonDivisor 31 = .ok (.lload 6, 2) := by decide +kernel
theorem dX8_commonDivisor_33 : decode cX8_commonDivisor 33 = .ok (.lstore 4, 2) := by decide +kernel
theorem dX8_commonDivisor_35 : decode cX8_commonDivisor 35 = .ok (.lload 9, 2) := by decide +kernel
theorem dX8_commonDivisor_37 : decode cX8_commonDivisor 37 = .ok (.lstore 6, 2) := by decide +kernel
theorem dX8_commonDivisor_39 : decode cX8_commonDivisor 39 = .ok (.iinc 8 1, 3) := by decide +kernel
theorem dX8_commonDivisor_42 : decode cX8_commonDivisor 42 = .ok (.goto (-33), 3) := by decide +kernel
theorem dX8_commonDivisor_45 : decode cX8_commonDivisor 45 = .ok (.lload 4, 2) := by decide +kernel
theorem dX8_commonDivisor_47 : decode cX8_commonDivisor 47 = .ok (.lreturn, 1) := by decide +kernel
theorem dX9_init_0 : decode cX9_init 0 = .ok (.aload_n 0, 1) := by decide +kernel
theorem dX9_init_1 : decode cX9_init 1 = .ok (.invokespecial 1, 3) := by decide +kernel
theorem dX9_init_4 : decode cX9_init 4 = .ok (.aload_n 0, 1) := by decide +kernel
theorem dX9_init_5 : decode cX9_init 5 = .ok (.new 7, 3) := by decide +kernel
theorem dX9_init_8 : decode cX9_init 8 = .ok (.dup, 1) := by decide +kernel
theorem dX9_init_9 : decode cX9_init 9 = .ok (.invokespecial 9, 3) := by decide +kernel
theorem dX9_init_12 : decode cX9_init 12 = .ok (.putfield 10, 3) := by decide +kernel
theorem dX9_init_15 : decode cX9_init 15 = .ok (.aload_n 0, 1) := by decide +kernel
theorem dX9_init_16 : decode cX9_init 16 = .ok (.new 16, 3) := by decide +kernel
theorem dX9_init_19 : decode cX9_init 19 = .ok (.dup, 1) := by decide +kernel
theorem dX9_init_20 : decode cX9_init 20 = .ok (.invokespecial 18, 3) := by decide +kernel
theorem dX9_init_23 : decode cX9_init 23 = .ok (.putfield 19, 3) := by decide +kernel
theorem dX9_init_26 : decode cX9_init 26 = .ok (.aload_n 0, 1) := by decide +kernel
theorem dX9_init_27 : decode cX9_init 27 = .ok (.iconst 2, 1) := by decide +kernel
theorem dX9_init_28 : decode cX9_init 28 = .ok (.anewarray 16, 3) := by decide +kernel
theorem dX9_init_31 : decode cX9_init 31 = .ok (.dup, 1) := by decide +kernel
theorem dX9_init_32 : decode cX9_init 32 = .ok (.iconst 0, 1) := by decide +kernel
theorem dX9_init_33 : decode cX9_init 33 = .ok (.new 16, 3) := by decide +kernel
theorem dX9_init_36 : decode cX9_init 36 = .ok (.dup, 1) := by decide +kernel
theorem dX9_init_37 : decode cX9_init 37 = .ok (.invokespecial 18, 3) := by decide +kernel
theorem dX9_init_40 : decode cX9_init 40 = .ok (.aastore, 1) := by decide +kernel
theorem dX9_init_41 : decode cX9_init 41 = .ok (.dup, 1) := by decide +kernel
theorem dX9_init_42 : decode cX9_init 42 = .ok (.iconst 1, 1) := by decide +kernel
theorem dX9_init_43 : decode cX9_init 43 = .ok (.new 16, 3) := by decide +kernel
theorem dX9_init_46 : decode cX9_init 46 = .ok (.dup, 1) := by decide +kernel
theorem dX9_init_47 : decode cX9_init 47 = .ok (.invokespecial 18, 3) := by decide +kernel
theorem dX9_init_50 : decode cX9_init 50 = .ok (.aastore, 1) := by decide +kernel
theorem dX9_init_51 : decode cX9_init 51 = .ok (.putfield 23, 3) := by decide +kernel
theorem dX9_init_54 : decode cX9_init 54 = .ok (.aload_n 0, 1) := by decide +kernel
theorem dX9_init_55 : decode cX9_init 55 = .ok (.iconst 4, 1) := by decide +kernel
theorem dX9_init_56 : decode cX9_init 56 = .ok (.anewarray 27, 3) := by decide +kernel
theorem dX9_init_59 : decode cX9_init 59 = .ok (.dup, 1) := by decide +kernel
theorem dX9_init_60 : decode cX9_init 60 = .ok (.iconst 0, 1) := by decide +kernel
theorem dX9_init_61 : decode cX9_init 61 = .ok (.new 27, 3) := by decide +kernel
theorem dX9_init_64 : decode cX9_init 64 = .ok (.dup, 1) := by decide +kernel
theorem dX9_init_65 : decode cX9_init 65 = .ok (.invokespecial 29, 3) := by decide +kernel
theorem dX9_init_68 : decode cX9_init 68 = .ok (.aastore, 1) := by decide +kernel
theorem dX9_init_69 : decode cX9_init 69 = .ok (.dup, 1) := by decide +kernel
theorem dX9_init_70 : decode cX9_init 70 = .ok (.iconst 1, 1) := by decide +kernel
theorem dX9_init_71 : decode cX9_init 71 = .ok (.new 27, 3) := by decide +kernel
theorem dX9_init_74 : decode cX9_init 74 = .ok (.dup, 1) := by decide +kernel
theorem dX9_init_75 : decode cX9_init 75 = .ok (.invokespecial 29, 3) := by decide +kernel
theorem dX9_init_78 : decode cX9_init 78 = .ok (.aastore, 1) := by decide +kernel
theorem dX9_init_79 : decode cX9_init 79 = .ok (.dup, 1) := by decide +kernel
theorem dX9_init_80 : decode cX9_init 80 = .ok (.iconst 2, 1) := by decide +kernel
theorem dX9_init_81 : decode cX9_init 81 = .ok (.new 27, 3) := by decide +kernel
theorem dX9_init_84 : decode cX9_init 84 = .ok (.dup, 1) := by decide +kernel
theorem dX9_init_85 : decode cX9_init 85 = .ok (.invokespecial 29, 3) := by decide +kernel
theorem dX9_init_88 : decode cX9_init 88 = .ok (.aastore, 1) := by decide +kernel
theorem dX9_init_89 : decode cX9_init 89 = .ok (.dup, 1) := by decide +kernel
theorem dX9_init_90 : decode cX9_init 90 = .ok (.iconst 3, 1) := by decide +kernel
theorem dX9_init_91 : decode cX9_init 91 = .ok (.new 27, 3) := by decide +kernel
theorem dX9_init_94 : decode cX9_init 94 = .ok (.dup, 1) := by decide +kernel
theorem dX9_init_95 : decode cX9_init 95 = .ok (.invokespecial 29, 3) := by decide +kernel
theorem dX9_init_98 : decode cX9_init 98 = .ok (.aastore, 1) := by decide +kernel
theorem dX9_init_99 : decode cX9_init 99 = .ok (.putfield 30, 3) := by decide +kernel
theorem dX9_init_102 : decode cX9_init 102 = .ok (.aload_n 0, 1) := by decide +kernel
theorem dX9_init_103 : decode cX9_init 103 = .ok (.new 34, 3) := by decide +kernel
theorem dX9_init_106 : decode cX9_init 106 = .ok (.dup, 1) := by decide +kernel
theorem dX9_init_107 : decode cX9_init 107 = .ok (.invokespecial 36, 3) := by decide +kernel
theorem dX9_init_110 : decode cX9_init 110 = .ok (.putfield 37, 3) := by decide +kernel
theorem dX9_init_113 : decode cX9_init 113 = .ok (.aload_n 0, 1) := by decide +kernel
theorem dX9_init_114 : decode cX9_init 114 = .ok (.new 41, 3) := by decide +kernel
theorem dX9_init_117 : decode cX9_init 117 = .ok (.dup, 1) := by decide +kernel
theorem dX9_init_118 : decode cX9_init 118 = .ok (.invokespecial 43, 3) := by decide +kernel
theorem dX9_init_121 : decode cX9_init 121 = .ok (.putfield 44, 3) := by decide +kernel
theorem dX9_init_124 : decode cX9_init 124 = .ok (.aload_n 0, 1) := by decide +kernel
theorem dX9_init_125 : decode cX9_init 125 = .ok (.new 48, 3) := by decide +kernel
theorem dX9_init_128 : decode cX9_init 128 = .ok (.dup, 1) := by decide +kernel
theorem dX9_init_129 : decode cX9_init 129 = .ok (.invokespecial 50, 3) := by decide +kernel
theorem dX9_init_132 : decode cX9_init 132 = .ok (.putfield 51, 3) := by decide +kernel
theorem dX9_init_135 : decode cX9_init 135 = .ok (.aload_n 0, 1) := by decide +kernel
theorem dX9_init_136 : decode cX9_init 136 = .ok (.new 55, 3) := by decide +kernel
theorem dX9_init_139 : decode cX9_init 139 = .ok (.dup, 1) := by decide +kernel
theorem dX9_init_140 : decode cX9_init 140 = .ok (.invokespecial 57, 3) := by decide +kernel
theorem dX9_init_143 : decode cX9_init 143 = .ok (.putfield 58, 3) := by decide +kernel
theorem dX9_init_146 : decode cX9_init 146 = .ok (.aload_n 0, 1) := by decide +kernel
theorem dX9_init_147 : decode cX9_init 147 = .ok (.new 62, 3) := by decide +kernel
theorem dX9_init_150 : decode cX9_init 150 = .ok (.dup, 1) := by decide +kernel
theorem dX9_init_151 : decode cX9_init 151 = .ok (.invokespecial 64, 3) := by decide +kernel
theorem dX9_init_154 : decode cX9_init 154 = .ok (.putfield 65, 3) := by decide +kernel
theorem dX9_init_157 : decode cX9_init 157 = .ok (.aload_n 0, 1) := by decide +kernel
theorem dX9_init_158 : decode cX9_init 158 = .ok (.new 69, 3) := by decide +kernel
theorem dX9_init_161 : decode cX9_init 161 = .ok (.dup, 1) := by decide +kernel
theorem dX9_init_162 : decode cX9_init 162 = .ok (.invokespecial 71, 3) := by decide +kernel
theorem dX9_init_165 : decode cX9_init 165 = .ok (.putfield 72, 3) := by decide +kernel
theorem dX9_init_168 : decode cX9_init 168 = .ok (.aload_n 0, 1) := by decide +kernel
theorem dX9_init_169 : decode cX9_init 169 = .ok (.iconst 3, 1) := by decide +kernel
theorem dX9_init_170 : decode cX9_init 170 = .ok (.newarray .int, 2) := by decide +kernel
theorem dX9_init_172 : decode cX9_init 172 = .ok (.putfield 76, 3) := by decide +kernel
theorem dX9_init_175 : decode cX9_init 175 = .ok (.return_, 1) := by decide +kernel
theorem dX9_feed_0 : decode cX9_feed 0 = .ok (.aload_n 0, 1) := by decide +kernel
theorem dX9_feed_1 : decode cX9_feed 1 = .ok (.getfield 37, 3) := by decide +kernel
theorem dX9_feed_4 : decode cX9_feed 4 = .ok (.lload_n 1, 1) := by decide +kernel
theorem dX9_feed_5 : decode cX9_feed 5 = .ok (.invokevirtual 80, 3) := by decide +kernel
theorem dX9_feed_8 : decode cX9_feed 8 = .ok (.ireturn, 1) := by decide +kernel
theorem dX9_end_0 : decode cX9_end 0 = .ok (.iload_n 1, 1) := by decide +kernel
theorem dX9_end_1 : decode cX9_end 1 = .ok (.ifCond .lt 14, 3) := by decide +kernel
theorem dX9_end_4 : decode cX9_end 4 = .ok (.iload_n 1, 1) := by decide +kernel
theorem dX9_end_5 : decode cX9_end 5 = .ok (.aload_n 0, 1) := by decide +kernel
theorem dX9_end_6 : decode cX9_end 6 = .ok (.getfield 37, 3) := by decide +kernel
theorem dX9_end_9 : decode cX9_end 9 = .ok (.getfield 84, 3) := by decide +kernel
theorem dX9_end_12 : decode cX9_end 12 = .ok (.if_icmp .le 5, 3) := by decide +kernel
theorem dX9_end_15 : decode cX9_end 15 = .ok (.iconst (-1), 1) := by decide +kernel
theorem dX9_end_16 : decode cX9_end 16 = .ok (.ireturn, 1) := by decide +kernel
theorem dX9_end_17 : decode cX9_end 17 = .ok (.aload_n 0, 1) := by decide +kernel
theorem dX9_end_18 : decode cX9_end 18 = .ok (.getfield 37, 3) := by decide +kernel
theorem dX9_end_21 : decode cX9_end 21 = .ok (.getfield 84, 3) := by decide +kernel
theorem dX9_end_24 : decode cX9_end 24 = .ok (.istore_n 2, 1) := by decide +kernel
theorem dX9_end_25 : decode cX9_end 25 = .ok (.aload_n 0, 1) := by decide +kernel
theorem dX9_end_26 : decode cX9_end 26 = .ok (.getfield 37, 3) := by decide +kernel
theorem dX9_end_29 : decode cX9_end 29 = .ok (.iload_n 1, 1) := by decide +kernel
theorem dX9_end_30 : decode cX9_end 30 = .ok (.putfield 84, 3) := by decide +kernel
theorem dX9_end_33 : decode cX9_end 33 = .ok (.iload_n 2, 1) := by decide +kernel
theorem dX9_end_34 : decode cX9_end 34 = .ok (.ireturn, 1) := by decide +kernel
theorem dX9_text_0 : decode cX9_text 0 = .ok (.aload_n 0, 1) := by decide +kernel
theorem dX9_text_1 : decode cX9_text 1 = .ok (.getfield 37, 3) := by decide +kernel
theorem dX9_text_4 : decode cX9_text 4 = .ok (.invokevirtual 88, 3) := by decide +kernel
theorem dX9_text_7 : decode cX9_text 7 = .ok (.istore_n 1, 1) := by decide +kernel
theorem dX9_text_8 : decode cX9_text 8 = .ok (.aload_n 0, 1) := by decide +kernel
theorem dX9_text_9 : decode cX9_text 9 = .ok (.getfield 37, 3) := by decide +kernel
theorem dX9_text_12 : decode cX9_text 12 = .ok (.iconst 0, 1) := by decide +kernel
theorem dX9_text_13 : decode cX9_text 13 = .ok (.putfield 84, 3) := by decide +kernel
theorem dX9_text_16 : decode cX9_text 16 = .ok (.iload_n 1, 1) := by decide +kernel
theorem dX9_text_17 : decode cX9_text 17 = .ok (.ifCond .ne 14, 3) := by decide +kernel
theorem dX9_text_20 : decode cX9_text 20 = .ok (.bipush (-10), 2) := by decide +kernel
theorem dX9_text_22 : decode cX9_text 22 = .ok (.aload_n 0, 1) := by decide +kernel
theorem dX9_text_23 : decode cX9_text 23 = .ok (.getfield 37, 3) := by decide +kernel
theorem dX9_text_26 : decode cX9_text 26 = .ok (.getfield 92, 3) := by decide +kernel
theorem dX9_text_29 : decode cX9_text 29 = .ok (.isub, 1) := by decide +kernel
theorem dX9_text_30 : decode cX9_text 30 = .ok (.ireturn, 1) := by decide +kernel
theorem dX9_text_31 : decode cX9_text 31 = .ok (.aload_n 0, 1) := by decide +kernel
theorem dX9_text_32 : decode cX9_text 32 = .ok (.getfield 10, 3) := by decide +kernel
theorem dX9_text_35 : decode cX9_text 35 = .ok (.aload_n 0, 1) := by decide +kernel
theorem dX9_text_36 : decode cX9_text 36 = .ok (.getfield 37, 3) := by decide +kernel
theorem dX9_text_39 : decode cX9_text 39 = .ok (.getfield 95, 3) := by decide +kernel
theorem dX9_text_42 : decode cX9_text 42 = .ok (.invokevirtual 96, 3) := by decide +kernel
theorem dX9_text_45 : decode cX9_text 45 = .ok (.aload_n 0, 1) := by decide +kernel
theorem dX9_text_46 : decode cX9_text 46 = .ok (.getfield 19, 3) := by decide +kernel
theorem dX9_text_49 : decode cX9_text 49 = .ok (.aload_n 0, 1) := by decide +kernel
theorem dX9_text_50 : decode cX9_text 50 = .ok (.getfield 37, 3) := by decide +kernel
theorem dX9_text_53 : decode cX9_text 53 = .ok (.getfield 100, 3) := by decide +kernel
theorem dX9_text_56 : decode cX9_text 56 = .ok (.invokevirtual 101, 3) := by decide +kernel
theorem dX9_text_59 : decode cX9_text 59 = .ok (.aload_n 0, 1) := by decide +kernel
theorem dX9_text_60 : decode cX9_text 60 = .ok (.iconst 0, 1) := by decide +kernel
theorem dX9_text_61 : decode cX9_text 61 = .ok (.putfield 104, 3) := by decide +kernel
theorem dX9_text_64 : decode cX9_text 64 = .ok (.aload_n 0, 1) := by decide +kernel
theorem dX9_text_65 : decode cX9_text 65 = .ok (.getfield 37, 3) := by decide +kernel
theorem dX9_text_68 : decode cX9_text 68 = .ok (.getfield 107, 3) := by decide +kernel
theorem dX9_text_71 : decode cX9_text 71 = .ok (.ireturn, 1) := by decide +kernel
theorem dX9_fault_0 : decode cX9_fault 0 = .ok (.aload_n 0, 1) := by decide +kernel
theorem dX9_fault_1 : decode cX9_fault 1 = .ok (.getfield 37, 3) := by decide +kernel
theorem dX9_fault_4 : decode cX9_fault 4 = .ok (.getfield 110, 3) := by decide +kernel
theorem dX9_fault_7 : decode cX9_fault 7 = .ok (.ireturn, 1) := by decide +kernel
theorem dX9_rule_0 : decode cX9_rule 0 = .ok (.iload_n 1, 1) := by decide +kernel
theorem dX9_rule_1 : decode cX9_rule 1 = .ok (.ifCond .ne 11, 3) := by decide +kernel
theorem dX9_rule_4 : decode cX9_rule 4 = .ok (.aload_n 0, 1) := by decide +kernel
theorem dX9_rule_5 : decode cX9_rule 5 = .ok (.getfield 10, 3) := by decide +kernel
theorem dX9_rule_8 : decode cX9_rule 8 = .ok (.getfield 113, 3) := by decide +kernel
theorem dX9_rule_11 : decode cX9_rule 11 = .ok (.ireturn, 1) := by decide +kernel
theorem dX9_rule_12 : decode cX9_rule 12 = .ok (.iload_n 1, 1) := by decide +kernel
theorem dX9_rule_13 : decode cX9_rule 13 = .ok (.iconst 1, 1) := by decide +kernel
theorem dX9_rule_14 : decode cX9_rule 14 = .ok (.if_icmp .ne 13, 3) := by decide +kernel
theorem dX9_rule_17 : decode cX9_rule 17 = .ok (.aload_n 0, 1) := by decide +kernel
theorem dX9_rule_18 : decode cX9_rule 18 = .ok (.getfield 10, 3) := by decide +kernel
theorem dX9_rule_21 : decode cX9_rule 21 = .ok (.getfield 116, 3) := by decide +kernel
theorem dX9_rule_24 : decode cX9_rule 24 = .ok (.goto 4, 3) := by decide +kernel
theorem dX9_rule_27 : decode cX9_rule 27 = .ok (.iconst (-1), 1) := by decide +kernel
theorem dX9_rule_28 : decode cX9_rule 28 = .ok (.ireturn, 1) := by decide +kernel
theorem dX9_sister_0 : decode cX9_sister 0 = .ok (.aload_n 0, 1) := by decide +kernel
theorem dX9_sister_1 : decode cX9_sister 1 = .ok (.getfield 10, 3) := by decide +kernel
theorem dX9_sister_4 : decode cX9_sister 4 = .ok (.iload_n 1, 1) := by decide +kernel
theorem dX9_sister_5 : decode cX9_sister 5 = .ok (.invokevirtual 119, 3) := by decide +kernel
theorem dX9_sister_8 : decode cX9_sister 8 = .ok (.ifCond .eq 10, 3) := by decide +kernel
theorem dX9_sister_11 : decode cX9_sister 11 = .ok (.iload_n 2, 1) := by decide +kernel
theorem dX9_sister_12 : decode cX9_sister 12 = .ok (.invokestatic 123, 3) := by decide +kernel
theorem dX9_sister_15 : decode cX9_sister 15 = .ok (.ifCond .ne 5, 3) := by decide +kernel
theorem dX9_sister_18 : decode cX9_sister 18 = .ok (.iconst (-1), 1) := by decide +kernel
theorem dX9_sister_19 : decode cX9_sister 19 = .ok (.ireturn, 1) := by decide +kernel
theorem dX9_sister_20 : decode cX9_sister 20 = .ok (.iload_n 2, 1) := by decide +kernel
theorem dX9_sister_21 : decode cX9_sister 21 = .ok (.ifCond .ne 15, 3) := by decide +kernel
theorem dX9_sister_24 : decode cX9_sister 24 = .ok (.aload_n 0, 1) := by decide +kernel
theorem dX9_sister_25 : decode cX9_sister 25 = .ok (.getfield 10, 3) := by decide +kernel
theorem dX9_sister_28 : decode cX9_sister 28 = .ok (.getfield 126, 3) := by decide +kernel
theorem dX9_sister_31 : decode cX9_sister 31 = .ok (.iload_n 1, 1) := by decide +kernel
theorem dX9_sister_32 : decode cX9_sister 32 = .ok (.iaload, 1) := by decide +kernel
theorem dX9_sister_33 : decode cX9_sister 33 = .ok (.goto 12, 3) := by decide +kernel
theorem dX9_sister_36 : decode cX9_sister 36 = .ok (.aload_n 0, 1) := by decide +kernel
theorem dX9_sister_37 : decode cX9_sister 37 = .ok (.getfield 19, 3) := by decide +kernel
theorem dX9_sister_40 : decode cX9_sister 40 = .ok (.getfield 129, 3) := by decide +kernel
theorem dX9_sister_43 : decode cX9_sister 43 = .ok (.iload_n 1, 1) := by decide +kernel
theorem dX9_sister_44 : decode cX9_sister 44 = .ok (.iaload, 1) := by decide +kernel
theorem dX9_sister_45 : decode cX9_sister 45 = .ok (.ireturn, 1) := by decide +kernel
theorem dX9_eye_0 : decode cX9_eye 0 = .ok (.aload_n 0, 1) := by decide +kernel
theorem dX9_eye_1 : decode cX9_eye 1 = .ok (.getfield 10, 3) := by decide +kernel
theorem dX9_eye_4 : decode cX9_eye 4 = .ok (.iload_n 1, 1) := by decide +kernel
theorem dX9_eye_5 : decode cX9_eye 5 = .ok (.invokevirtual 132, 3) := by decide +kernel
theorem dX9_eye_8 : decode cX9_eye 8 = .ok (.ifCond .eq 10, 3) := by decide +kernel
theorem dX9_eye_11 : decode cX9_eye 11 = .ok (.iload_n 2, 1) := by decide +kernel
theorem dX9_eye_12 : decode cX9_eye 12 = .ok (.invokestatic 123, 3) := by decide +kernel
theorem dX9_eye_15 : decode cX9_eye 15 = .ok (.ifCond .ne 5, 3) := by decide +kernel
theorem dX9_eye_18 : decode cX9_eye 18 = .ok (.iconst (-1), 1) := by decide +kernel
theorem dX9_eye_19 : decode cX9_eye 19 = .ok (.ireturn, 1) := by decide +kernel
theorem dX9_eye_20 : decode cX9_eye 20 = .ok (.iload_n 2, 1) := by decide +kernel
theorem dX9_eye_21 : decode cX9_eye 21 = .ok (.ifCond .ne 15, 3) := by decide +kernel
theorem dX9_eye_24 : decode cX9_eye 24 = .ok (.aload_n 0, 1) := by decide +kernel
theorem dX9_eye_25 : decode cX9_eye 25 = .ok (.invokevirtual 135, 3) := by decide +kernel
theorem dX9_eye_28 : decode cX9_eye 28 = .ok (.getfield 139, 3) := by decide +kernel
theorem dX9_eye_31 : decode cX9_eye 31 = .ok (.iload_n 1, 1) := by decide +kernel
theorem dX9_eye_32 : decode cX9_eye 32 = .ok (.iaload, 1) := by decide +kernel
theorem dX9_eye_33 : decode cX9_eye 33 = .ok (.goto 12, 3) := by decide +kernel
theorem dX9_eye_36 : decode cX9_eye 36 = .ok (.aload_n 0, 1) := by decide +kernel
theorem dX9_eye_37 : decode cX9_eye 37 = .ok (.getfield 19, 3) := by decide +kernel
theorem dX9_eye_40 : decode cX9_eye 40 = .ok (.getfield 142, 3) := by decide +kernel
theorem dX9_eye_43 : decode cX9_eye 43 = .ok (.iload_n 1, 1) := by decide +kernel
theorem dX9_eye_44 : decode cX9_eye 44 = .ok (.iaload, 1) := by decide +kernel
theorem dX9_eye_45 : decode cX9_eye 45 = .ok (.ireturn, 1) := by decide +kernel
theorem dX9_needed_0 : decode cX9_needed 0 = .ok (.iload_n 1, 1) := by decide +kernel
theorem dX9_needed_1 : decode cX9_needed 1 = .ok (.invokestatic 145, 3) := by decide +kernel
theorem dX9_needed_4 : decode cX9_needed 4 = .ok (.ifCond .eq 14, 3) := by decide +kernel
theorem dX9_needed_7 : decode cX9_needed 7 = .ok (.aload_n 0, 1) := by decide +kernel
theorem dX9_needed_8 : decode cX9_needed 8 = .ok (.getfield 10, 3) := by decide +kernel
theorem dX9_needed_11 : decode cX9_needed 11 = .ok (.iload_n 2, 1) := by decide +kernel
theorem dX9_needed_12 : decode cX9_needed 12 = .ok (.invokevirtual 148, 3) := by decide +kernel
theorem dX9_needed_15 : decode cX9_needed 15 = .ok (.ifCond .ne 5, 3) := by decide +kernel
theorem dX9_needed_18 : decode cX9_needed 18 = .ok (.iconst (-1), 1) := by decide +kernel
theorem dX9_needed_19 : decode cX9_needed 19 = .ok (.ireturn, 1) := by decide +kernel
theorem dX9_needed_20 : decode cX9_needed 20 = .ok (.aload_n 0, 1) := by decide +kernel
theorem dX9_needed_21 : decode cX9_needed 21 = .ok (.getfield 19, 3) := by decide +kernel
theorem dX9_needed_24 : decode cX9_needed 24 = .ok (.getfield 151, 3) := by decide +kernel
theorem dX9_needed_27 : decode cX9_needed 27 = .ok (.iload_n 1, 1) := by decide +kernel
theorem dX9_needed_28 : decode cX9_needed 28 = .ok (.iaload, 1) := by decide +kernel
theorem dX9_needed_29 : decode cX9_needed 29 = .ok (.aload_n 0, 1) := by decide +kernel
theorem dX9_needed_30 : decode cX9_needed 30 = .ok (.getfield 19, 3) := by decide +kernel
theorem dX9_needed_33 : decode cX9_needed 33 = .ok (.getfield 154, 3) := by decide +kernel
theorem dX9_needed_36 : decode cX9_needed 36 = .ok (.iload_n 2, 1) := by decide +kernel
theorem dX9_needed_37 : decode cX9_needed 37 = .ok (.iaload, 1) := by decide +kernel
theorem dX9_needed_38 : decode cX9_needed 38 = .ok (.iload_n 1, 1) := by decide +kernel
theorem dX9_needed_39 : decode cX9_needed 39 = .ok (.ishr, 1) := by decide +kernel
theorem dX9_needed_40 : decode cX9_needed 40 = .ok (.iconst 1, 1) := by decide +kernel
theorem dX9_needed_41 : decode cX9_needed 41 = .ok (.iand, 1) := by decide +kernel
theorem dX9_needed_42 : decode cX9_needed 42 = .ok (.iadd, 1) := by decide +kernel
theorem dX9_needed_43 : decode cX9_needed 43 = .ok (.ireturn, 1) := by decide +kernel
theorem dX9_watch_0 : decode cX9_watch 0 = .ok (.aload_n 0, 1) := by decide +kernel
theorem dX9_watch_1 : decode cX9_watch 1 = .ok (.getfield 10, 3) := by decide +kernel
theorem dX9_watch_4 : decode cX9_watch 4 = .ok (.iload_n 1, 1) := by decide +kernel
theorem dX9_watch_5 : decode cX9_watch 5 = .ok (.invokevirtual 148, 3) := by decide +kernel
theorem dX9_watch_8 : decode cX9_watch 8 = .ok (.ifCond .eq 15, 3) := by decide +kernel
theorem dX9_watch_11 : decode cX9_watch 11 = .ok (.aload_n 0, 1) := by decide +kernel
theorem dX9_watch_12 : decode cX9_watch 12 = .ok (.getfield 19, 3) := by decide +kernel
theorem dX9_watch_15 : decode cX9_watch 15 = .ok (.getfield 157, 3) := by decide +kernel
theorem dX9_watch_18 : decode cX9_watch 18 = .ok (.iload_n 1, 1) := by decide +kernel
theorem dX9_watch_19 : decode cX9_watch 19 = .ok (.iaload, 1) := by decide +kernel
theorem dX9_watch_20 : decode cX9_watch 20 = .ok (.goto 4, 3) := by decide +kernel
theorem dX9_watch_23 : decode cX9_watch 23 = .ok (.iconst (-1), 1) := by decide +kernel
theorem dX9_watch_24 : decode cX9_watch 24 = .ok (.ireturn, 1) := by decide +kernel
theorem dX9_tell_0 : decode cX9_tell 0 = .ok (.aload_n 0, 1) := by decide +kernel
theorem dX9_tell_1 : decode cX9_tell 1 = .ok (.iload_n 1, 1) := by decide +kernel
theorem dX9_tell_2 : decode cX9_tell 2 = .ok (.iload_n 2, 1) := by decide +kernel
theorem dX9_tell_3 : decode cX9_tell 3 = .ok (.invokevirtual 160, 3) := by decide +kernel
theorem dX9_tell_6 : decode cX9_tell 6 = .ok (.ifCond .ne 5, 3) := by decide +kernel
theorem dX9_tell_9 : decode cX9_tell 9 = .ok (.iconst (-1), 1) := by decide +kernel
theorem dX9_tell_10 : decode cX9_tell 10 = .ok (.ireturn, 1) := by decide +kernel
theorem dX9_tell_11 : decode cX9_tell 11 = .ok (.aload_n 0, 1) := by decide +kernel
theorem dX9_tell_12 : decode cX9_tell 12 = .ok (.getfield 19, 3) := by decide +kernel
theorem dX9_tell_15 : decode cX9_tell 15 = .ok (.getfield 157, 3) := by decide +kernel
theorem dX9_tell_18 : decode cX9_tell 18 = .ok (.iload_n 1, 1) := by decide +kernel
theorem dX9_tell_19 : decode cX9_tell 19 = .ok (.iaload, 1) := by decide +kernel
theorem dX9_tell_20 : decode cX9_tell 20 = .ok (.istore_n 3, 1) := by decide +kernel
theorem dX9_tell_21 : decode cX9_tell 21 = .ok (.aload_n 0, 1) := by decide +kernel
theorem dX9_tell_22 : decode cX9_tell 22 = .ok (.getfield 19, 3) := by decide +kernel
theorem dX9_tell_25 : decode cX9_tell 25 = .ok (.getfield 157, 3) := by decide +kernel
theorem dX9_tell_28 : decode cX9_tell 28 = .ok (.iload_n 1, 1) := by decide +kernel
theorem dX9_tell_29 : decode cX9_tell 29 = .ok (.iload_n 2, 1) := by decide +kernel
theorem dX9_tell_30 : decode cX9_tell 30 = .ok (.iastore, 1) := by decide +kernel
theorem dX9_tell_31 : decode cX9_tell 31 = .ok (.iload_n 3, 1) := by decide +kernel
theorem dX9_tell_32 : decode cX9_tell 32 = .ok (.ireturn, 1) := by decide +kernel
theorem dX9_need_0 : decode cX9_need 0 = .ok (.iload_n 1, 1) := by decide +kernel
theorem dX9_need_1 : decode cX9_need 1 = .ok (.invokestatic 145, 3) := by decide +kernel
theorem dX9_need_4 : decode cX9_need 4 = .ok (.ifCond .eq 13, 3) := by decide +kernel
theorem dX9_need_7 : decode cX9_need 7 = .ok (.iload_n 2, 1) := by decide +kernel
theorem dX9_need_8 : decode cX9_need 8 = .ok (.ifCond .lt 9, 3) := by decide +kernel
theorem dX9_need_11 : decode cX9_need 11 = .ok (.iload_n 2, 1) := by decide +kernel
theorem dX9_need_12 : decode cX9_need 12 = .ok (.bipush 6, 2) := by decide +kernel
theorem dX9_need_14 : decode cX9_need 14 = .ok (.if_icmp .le 5, 3) := by decide +kernel
theorem dX9_need_17 : decode cX9_need 17 = .ok (.iconst (-1), 1) := by decide +kernel
theorem dX9_need_18 : decode cX9_need 18 = .ok (.ireturn, 1) := by decide +kernel
theorem dX9_need_19 : decode cX9_need 19 = .ok (.aload_n 0, 1) := by decide +kernel
theorem dX9_need_20 : decode cX9_need 20 = .ok (.getfield 19, 3) := by decide +kernel
theorem dX9_need_23 : decode cX9_need 23 = .ok (.getfield 151, 3) := by decide +kernel
theorem dX9_need_26 : decode cX9_need 26 = .ok (.iload_n 1, 1) := by decide +kernel
theorem dX9_need_27 : decode cX9_need 27 = .ok (.iaload, 1) := by decide +kernel
theorem dX9_need_28 : decode cX9_need 28 = .ok (.istore_n 3, 1) := by decide +kernel
theorem dX9_need_29 : decode cX9_need 29 = .ok (.aload_n 0, 1) := by decide +kernel
theorem dX9_need_30 : decode cX9_need 30 = .ok (.getfield 19, 3) := by decide +kernel
theorem dX9_need_33 : decode cX9_need 33 = .ok (.getfield 151, 3) := by decide +kernel
theorem dX9_need_36 : decode cX9_need 36 = .ok (.iload_n 1, 1) := by decide +kernel
theorem dX9_need_37 : decode cX9_need 37 = .ok (.iload_n 2, 1) := by decide +kernel
theorem dX9_need_38 : decode cX9_need 38 = .ok (.iastore, 1) := by decide +kernel
theorem dX9_need_39 : decode cX9_need 39 = .ok (.iload_n 3, 1) := by decide +kernel
theorem dX9_need_40 : decode cX9_need 40 = .ok (.ireturn, 1) := by decide +kernel
theorem dX9_storm_0 : decode cX9_storm 0 = .ok (.aload_n 0, 1) := by decide +kernel
theorem dX9_storm_1 : decode cX9_storm 1 = .ok (.getfield 10, 3) := by decide +kernel
theorem dX9_storm_4 : decode cX9_storm 4 = .ok (.iload_n 1, 1) := by decide +kernel
theorem dX9_storm_5 : decode cX9_storm 5 = .ok (.invokevirtual 148, 3) := by decide +kernel
theorem dX9_storm_8 : decode cX9_storm 8 = .ok (.ifCond .eq 10, 3) := by decide +kernel
theorem dX9_storm_11 : decode cX9_storm 11 = .ok (.iload_n 2, 1) := by decide +kernel
theorem dX9_storm_12 : decode cX9_storm 12 = .ok (.invokestatic 145, 3) := by decide +kernel
theorem dX9_storm_15 : decode cX9_storm 15 = .ok (.ifCond .ne 5, 3) := by decide +kernel
theorem dX9_storm_18 : decode cX9_storm 18 = .ok (.iconst (-1), 1) := by decide +kernel
theorem dX9_storm_19 : decode cX9_storm 19 = .ok (.ireturn, 1) := by decide +kernel
theorem dX9_storm_20 : decode cX9_storm 20 = .ok (.aload_n 0, 1) := by decide +kernel
theorem dX9_storm_21 : decode cX9_storm 21 = .ok (.getfield 19, 3) := by decide +kernel
theorem dX9_storm_24 : decode cX9_storm 24 = .ok (.getfield 154, 3) := by decide +kernel
theorem dX9_storm_27 : decode cX9_storm 27 = .ok (.iload_n 1, 1) := by decide +kernel
theorem dX9_storm_28 : decode cX9_storm 28 = .ok (.iaload, 1) := by decide +kernel
theorem dX9_storm_29 : decode cX9_storm 29 = .ok (.iload_n 2, 1) := by decide +kernel
theorem dX9_storm_30 : decode cX9_storm 30 = .ok (.ishr, 1) := by decide +kernel
theorem dX9_storm_31 : decode cX9_storm 31 = .ok (.iconst 1, 1) := by decide +kernel
theorem dX9_storm_32 : decode cX9_storm 32 = .ok (.iand, 1) := by decide +kernel
theorem dX9_storm_33 : decode cX9_storm 33 = .ok (.istore 4, 2) := by decide +kernel
theorem dX9_storm_35 : decode cX9_storm 35 = .ok (.iload_n 3, 1) := by decide +kernel
theorem dX9_storm_36 : decode cX9_storm 36 = .ok (.ifCond .eq 21, 3) := by decide +kernel
theorem dX9_storm_39 : decode cX9_storm 39 = .ok (.aload_n 0, 1) := by decide +kernel
theorem dX9_storm_40 : decode cX9_storm 40 = .ok (.getfield 19, 3) := by decide +kernel
theorem dX9_storm_43 : decode cX9_storm 43 = .ok (.getfield 154, 3) := by decide +kernel
theorem dX9_storm_46 : decode cX9_storm 46 = .ok (.iload_n 1, 1) := by decide +kernel
theorem dX9_storm_47 : decode cX9_storm 47 = .ok (.dup2, 1) := by decide +kernel
theorem dX9_storm_48 : decode cX9_storm 48 = .ok (.iaload, 1) := by decide +kernel
theorem dX9_storm_49 : decode cX9_storm 49 = .ok (.iconst 1, 1) := by decide +kernel
theorem dX9_storm_50 : decode cX9_storm 50 = .ok (.iload_n 2, 1) := by decide +kernel
theorem dX9_storm_51 : decode cX9_storm 51 = .ok (.ishl, 1) := by decide +kernel
theorem dX9_storm_52 : decode cX9_storm 52 = .ok (.ior, 1) := by decide +kernel
theorem dX9_storm_53 : decode cX9_storm 53 = .ok (.iastore, 1) := by decide +kernel
theorem dX9_storm_54 : decode cX9_storm 54 = .ok (.goto 20, 3) := by decide +kernel
theorem dX9_storm_57 : decode cX9_storm 57 = .ok (.aload_n 0, 1) := by decide +kernel
theorem dX9_storm_58 : decode cX9_storm 58 = .ok (.getfield 19, 3) := by decide +kernel
theorem dX9_storm_61 : decode cX9_storm 61 = .ok (.getfield 154, 3) := by decide +kernel
theorem dX9_storm_64 : decode cX9_storm 64 = .ok (.iload_n 1, 1) := by decide +kernel
theorem dX9_storm_65 : decode cX9_storm 65 = .ok (.dup2, 1) := by decide +kernel
theorem dX9_storm_66 : decode cX9_storm 66 = .ok (.iaload, 1) := by decide +kernel
theorem dX9_storm_67 : decode cX9_storm 67 = .ok (.iconst 1, 1) := by decide +kernel
theorem dX9_storm_68 : decode cX9_storm 68 = .ok (.iload_n 2, 1) := by decide +kernel
theorem dX9_storm_69 : decode cX9_storm 69 = .ok (.ishl, 1) := by decide +kernel
theorem dX9_storm_70 : decode cX9_storm 70 = .ok (.iconst (-1), 1) := by decide +kernel
theorem dX9_storm_71 : decode cX9_storm 71 = .ok (.ixor, 1) := by decide +kernel
theorem dX9_storm_72 : decode cX9_storm 72 = .ok (.iand, 1) := by decide +kernel
theorem dX9_storm_73 : decode cX9_storm 73 = .ok (.iastore, 1) := by decide +kernel
theorem dX9_storm_74 : decode cX9_storm 74 = .ok (.iload 4, 2) := by decide +kernel
theorem dX9_storm_76 : decode cX9_storm 76 = .ok (.ireturn, 1) := by decide +kernel
theorem dX9_turn_0 : decode cX9_turn 0 = .ok (.aload_n 0, 1) := by decide +kernel
theorem dX9_turn_1 : decode cX9_turn 1 = .ok (.getfield 10, 3) := by decide +kernel
theorem dX9_turn_4 : decode cX9_turn 4 = .ok (.iload_n 1, 1) := by decide +kernel
theorem dX9_turn_5 : decode cX9_turn 5 = .ok (.invokevirtual 119, 3) := by decide +kernel
theorem dX9_turn_8 : decode cX9_turn 8 = .ok (.ifCond .eq 12, 3) := by decide +kernel
theorem dX9_turn_11 : decode cX9_turn 11 = .ok (.iload_n 2, 1) := by decide +kernel
theorem dX9_turn_12 : decode cX9_turn 12 = .ok (.ifCond .lt 8, 3) := by decide +kernel
theorem dX9_turn_15 : decode cX9_turn 15 = .ok (.iload_n 2, 1) := by decide +kernel
theorem dX9_turn_16 : decode cX9_turn 16 = .ok (.iconst 3, 1) := by decide +kernel
theorem dX9_turn_17 : decode cX9_turn 17 = .ok (.if_icmp .le 5, 3) := by decide +kernel
theorem dX9_turn_20 : decode cX9_turn 20 = .ok (.iconst (-1), 1) := by decide +kernel
theorem dX9_turn_21 : decode cX9_turn 21 = .ok (.ireturn, 1) := by decide +kernel
theorem dX9_turn_22 : decode cX9_turn 22 = .ok (.aload_n 0, 1) := by decide +kernel
theorem dX9_turn_23 : decode cX9_turn 23 = .ok (.getfield 19, 3) := by decide +kernel
theorem dX9_turn_26 : decode cX9_turn 26 = .ok (.getfield 129, 3) := by decide +kernel
theorem dX9_turn_29 : decode cX9_turn 29 = .ok (.iload_n 1, 1) := by decide +kernel
theorem dX9_turn_30 : decode cX9_turn 30 = .ok (.iaload, 1) := by decide +kernel
theorem dX9_turn_31 : decode cX9_turn 31 = .ok (.istore_n 3, 1) := by decide +kernel
theorem dX9_turn_32 : decode cX9_turn 32 = .ok (.aload_n 0, 1) := by decide +kernel
theorem dX9_turn_33 : decode cX9_turn 33 = .ok (.getfield 19, 3) := by decide +kernel
theorem dX9_turn_36 : decode cX9_turn 36 = .ok (.getfield 129, 3) := by decide +kernel
theorem dX9_turn_39 : decode cX9_turn 39 = .ok (.iload_n 1, 1) := by decide +kernel
theorem dX9_turn_40 : decode cX9_turn 40 = .ok (.iload_n 2, 1) := by decide +kernel
theorem dX9_turn_41 : decode cX9_turn 41 = .ok (.iastore, 1) := by decide +kernel
theorem dX9_turn_42 : decode cX9_turn 42 = .ok (.iload_n 3, 1) := by decide +kernel
theorem dX9_turn_43 : decode cX9_turn 43 = .ok (.ireturn, 1) := by decide +kernel
theorem dX9_tire_0 : decode cX9_tire 0 = .ok (.aload_n 0, 1) := by decide +kernel
theorem dX9_tire_1 : decode cX9_tire 1 = .ok (.getfield 10, 3) := by decide +kernel
theorem dX9_tire_4 : decode cX9_tire 4 = .ok (.iload_n 1, 1) := by decide +kernel
theorem dX9_tire_5 : decode cX9_tire 5 = .ok (.invokevirtual 132, 3) := by decide +kernel
theorem dX9_tire_8 : decode cX9_tire 8 = .ok (.ifCond .eq 24, 3) := by decide +kernel
theorem dX9_tire_11 : decode cX9_tire 11 = .ok (.aload_n 0, 1) := by decide +kernel
theorem dX9_tire_12 : decode cX9_tire 12 = .ok (.getfield 10, 3) := by decide +kernel
theorem dX9_tire_15 : decode cX9_tire 15 = .ok (.iload_n 1, 1) := by decide +kernel
theorem dX9_tire_16 : decode cX9_tire 16 = .ok (.invokevirtual 164, 3) := by decide +kernel
theorem dX9_tire_19 : decode cX9_tire 19 = .ok (.ifCond .ne 13, 3) := by decide +kernel
theorem dX9_tire_22 : decode cX9_tire 22 = .ok (.iload_n 2, 1) := by decide +kernel
theorem dX9_tire_23 : decode cX9_tire 23 = .ok (.ifCond .lt 9, 3) := by decide +kernel
theorem dX9_tire_26 : decode cX9_tire 26 = .ok (.iload_n 2, 1) := by decide +kernel
theorem dX9_tire_27 : decode cX9_tire 27 = .ok (.bipush 9, 2) := by decide +kernel
theorem dX9_tire_29 : decode cX9_tire 29 = .ok (.if_icmp .le 5, 3) := by decide +kernel
theorem dX9_tire_32 : decode cX9_tire 32 = .ok (.iconst (-1), 1) := by decide +kernel
theorem dX9_tire_33 : decode cX9_tire 33 = .ok (.ireturn, 1) := by decide +kernel
theorem dX9_tire_34 : decode cX9_tire 34 = .ok (.aload_n 0, 1) := by decide +kernel
theorem dX9_tire_35 : decode cX9_tire 35 = .ok (.getfield 19, 3) := by decide +kernel
theorem dX9_tire_38 : decode cX9_tire 38 = .ok (.getfield 142, 3) := by decide +kernel
theorem dX9_tire_41 : decode cX9_tire 41 = .ok (.iload_n 1, 1) := by decide +kernel
theorem dX9_tire_42 : decode cX9_tire 42 = .ok (.iaload, 1) := by decide +kernel
theorem dX9_tire_43 : decode cX9_tire 43 = .ok (.istore_n 3, 1) := by decide +kernel
theorem dX9_tire_44 : decode cX9_tire 44 = .ok (.aload_n 0, 1) := by decide +kernel
theorem dX9_tire_45 : decode cX9_tire 45 = .ok (.getfield 19, 3) := by decide +kernel
theorem dX9_tire_48 : decode cX9_tire 48 = .ok (.getfield 142, 3) := by decide +kernel
theorem dX9_tire_51 : decode cX9_tire 51 = .ok (.iload_n 1, 1) := by decide +kernel
theorem dX9_tire_52 : decode cX9_tire 52 = .ok (.iload_n 2, 1) := by decide +kernel
theorem dX9_tire_53 : decode cX9_tire 53 = .ok (.iastore, 1) := by decide +kernel
theorem dX9_tire_54 : decode cX9_tire 54 = .ok (.iload_n 3, 1) := by decide +kernel
theorem dX9_tire_55 : decode cX9_tire 55 = .ok (.ireturn, 1) := by decide +kernel
theorem dX9_sees_0 : decode cX9_sees 0 = .ok (.iload_n 1, 1) := by decide +kernel
theorem dX9_sees_1 : decode cX9_sees 1 = .ok (.invokestatic 145, 3) := by decide +kernel
theorem dX9_sees_4 : decode cX9_sees 4 = .ok (.ifCond .eq 14, 3) := by decide +kernel
theorem dX9_sees_7 : decode cX9_sees 7 = .ok (.aload_n 0, 1) := by decide +kernel
theorem dX9_sees_8 : decode cX9_sees 8 = .ok (.getfield 10, 3) := by decide +kernel
theorem dX9_sees_11 : decode cX9_sees 11 = .ok (.iload_n 2, 1) := by decide +kernel
theorem dX9_sees_12 : decode cX9_sees 12 = .ok (.invokevirtual 167, 3) := by decide +kernel
theorem dX9_sees_15 : decode cX9_sees 15 = .ok (.ifCond .ne 5, 3) := by decide +kernel
theorem dX9_sees_18 : decode cX9_sees 18 = .ok (.iconst (-1), 1) := by decide +kernel
theorem dX9_sees_19 : decode cX9_sees 19 = .ok (.ireturn, 1) := by decide +kernel
theorem dX9_sees_20 : decode cX9_sees 20 = .ok (.aload_n 0, 1) := by decide +kernel
theorem dX9_sees_21 : decode cX9_sees 21 = .ok (.invokevirtual 135, 3) := by decide +kernel
theorem dX9_sees_24 : decode cX9_sees 24 = .ok (.pop, 1) := by decide +kernel
theorem dX9_sees_25 : decode cX9_sees 25 = .ok (.aload_n 0, 1) := by decide +kernel
theorem dX9_sees_26 : decode cX9_sees 26 = .ok (.getfield 44, 3) := by decide +kernel
theorem dX9_sees_29 : decode cX9_sees 29 = .ok (.iload_n 1, 1) := by decide +kernel
theorem dX9_sees_30 : decode cX9_sees 30 = .ok (.aload_n 0, 1) := by decide +kernel
theorem dX9_sees_31 : decode cX9_sees 31 = .ok (.getfield 44, 3) := by decide +kernel
theorem dX9_sees_34 : decode cX9_sees 34 = .ok (.iload_n 2, 1) := by decide +kernel
theorem dX9_sees_35 : decode cX9_sees 35 = .ok (.invokevirtual 170, 3) := by decide +kernel
theorem dX9_sees_38 : decode cX9_sees 38 = .ok (.invokevirtual 174, 3) := by decide +kernel
theorem dX9_sees_41 : decode cX9_sees 41 = .ok (.ireturn, 1) := by decide +kernel
theorem dX9_lawful_0 : decode cX9_lawful 0 = .ok (.aload_n 0, 1) := by decide +kernel
theorem dX9_lawful_1 : decode cX9_lawful 1 = .ok (.iload_n 1, 1) := by decide +kernel
theorem dX9_lawful_2 : decode cX9_lawful 2 = .ok (.iload_n 2, 1) := by decide +kernel
theorem dX9_lawful_3 : decode cX9_lawful 3 = .ok (.invokevirtual 160, 3) := by decide +kernel
theorem dX9_lawful_6 : decode cX9_lawful 6 = .ok (.ifCond .ne 5, 3) := by decide +kernel
theorem dX9_lawful_9 : decode cX9_lawful 9 = .ok (.iconst (-1), 1) := by decide +kernel
theorem dX9_lawful_10 : decode cX9_lawful 10 = .ok (.ireturn, 1) := by decide +kernel
theorem dX9_lawful_11 : decode cX9_lawful 11 = .ok (.aload_n 0, 1) := by decide +kernel
theorem dX9_lawful_12 : decode cX9_lawful 12 = .ok (.invokevirtual 135, 3) := by decide +kernel
theorem dX9_lawful_15 : decode cX9_lawful 15 = .ok (.pop, 1) := by decide +kernel
theorem dX9_lawful_16 : decode cX9_lawful 16 = .ok (.aload_n 0, 1) := by decide +kernel
theorem dX9_lawful_17 : decode cX9_lawful 17 = .ok (.iload_n 1, 1) := by decide +kernel
theorem dX9_lawful_18 : decode cX9_lawful 18 = .ok (.iload_n 2, 1) := by decide +kernel
theorem dX9_lawful_19 : decode cX9_lawful 19 = .ok (.invokevirtual 178, 3) := by decide +kernel
theorem dX9_lawful_22 : decode cX9_lawful 22 = .ok (.ifCond .eq 7, 3) := by decide +kernel
theorem dX9_lawful_25 : decode cX9_lawful 25 = .ok (.iconst 1, 1) := by decide +kernel
theorem dX9_lawful_26 : decode cX9_lawful 26 = .ok (.goto 4, 3) := by decide +kernel
theorem dX9_lawful_29 : decode cX9_lawful 29 = .ok (.iconst 0, 1) := by decide +kernel
theorem dX9_lawful_30 : decode cX9_lawful 30 = .ok (.ireturn, 1) := by decide +kernel
theorem dX9_asleep_0 : decode cX9_asleep 0 = .ok (.aload_n 0, 1) := by decide +kernel
theorem dX9_asleep_1 : decode cX9_asleep 1 = .ok (.getfield 10, 3) := by decide +kernel
theorem dX9_asleep_4 : decode cX9_asleep 4 = .ok (.iload_n 1, 1) := by decide +kernel
theorem dX9_asleep_5 : decode cX9_asleep 5 = .ok (.invokevirtual 148, 3) := by decide +kernel
theorem dX9_asleep_8 : decode cX9_asleep 8 = .ok (.ifCond .eq 10, 3) := by decide +kernel
theorem dX9_asleep_11 : decode cX9_asleep 11 = .ok (.iload_n 2, 1) := by decide +kernel
theorem dX9_asleep_12 : decode cX9_asleep 12 = .ok (.invokestatic 123, 3) := by decide +kernel
theorem dX9_asleep_15 : decode cX9_asleep 15 = .ok (.ifCond .ne 5, 3) := by decide +kernel
theorem dX9_asleep_18 : decode cX9_asleep 18 = .ok (.iconst (-1), 1) := by decide +kernel
theorem dX9_asleep_19 : decode cX9_asleep 19 = .ok (.ireturn, 1) := by decide +kernel
theorem dX9_asleep_20 : decode cX9_asleep 20 = .ok (.aload_n 0, 1) := by decide +kernel
theorem dX9_asleep_21 : decode cX9_asleep 21 = .ok (.invokevirtual 135, 3) := by decide +kernel
theorem dX9_asleep_24 : decode cX9_asleep 24 = .ok (.pop, 1) := by decide +kernel
theorem dX9_asleep_25 : decode cX9_asleep 25 = .ok (.bipush (-4), 2) := by decide +kernel
theorem dX9_asleep_27 : decode cX9_asleep 27 = .ok (.istore_n 3, 1) := by decide +kernel
theorem dX9_asleep_28 : decode cX9_asleep 28 = .ok (.bipush (-4), 2) := by decide +kernel
theorem dX9_asleep_30 : decode cX9_asleep 30 = .ok (.istore 4, 2) := by decide +kernel
theorem dX9_asleep_32 : decode cX9_asleep 32 = .ok (.iconst 0, 1) := by decide +kernel
theorem dX9_asleep_33 : decode cX9_asleep 33 = .ok (.istore 5, 2) := by decide +kernel
theorem dX9_asleep_35 : decode cX9_asleep 35 = .ok (.iload 5, 2) := by decide +kernel
theorem dX9_asleep_37 : decode cX9_asleep 37 = .ok (.aload_n 0, 1) := by decide +kernel
theorem dX9_asleep_38 : decode cX9_asleep 38 = .ok (.getfield 10, 3) := by decide +kernel
theorem dX9_asleep_41 : decode cX9_asleep 41 = .ok (.invokevirtual 181, 3) := by decide +kernel
theorem dX9_asleep_44 : decode cX9_asleep 44 = .ok (.if_icmp .ge 53, 3) := by decide +kernel
theorem dX9_asleep_47 : decode cX9_asleep 47 = .ok (.getstatic 185, 3) := by decide +kernel
theorem dX9_asleep_50 : decode cX9_asleep 50 = .ok (.iload 5, 2) := by decide +kernel
theorem dX9_asleep_52 : decode cX9_asleep 52 = .ok (.iaload, 1) := by decide +kernel
theorem dX9_asleep_53 : decode cX9_asleep 53 = .ok (.aload_n 0, 1) := by decide +kernel
theorem dX9_asleep_54 : decode cX9_asleep 54 = .ok (.getfield 44, 3) := by decide +kernel
theorem dX9_asleep_57 : decode cX9_asleep 57 = .ok (.getfield 188, 3) := by decide +kernel
theorem dX9_asleep_60 : decode cX9_asleep 60 = .ok (.iconst (-1), 1) := by decide +kernel
theorem dX9_asleep_61 : decode cX9_asleep 61 = .ok (.ixor, 1) := by decide +kernel
theorem dX9_asleep_62 : decode cX9_asleep 62 = .ok (.iand, 1) := by decide +kernel
theorem dX9_asleep_63 : decode cX9_asleep 63 = .ok (.invokestatic 191, 3) := by decide +kernel
theorem dX9_asleep_66 : decode cX9_asleep 66 = .ok (.istore 6, 2) := by decide +kernel
theorem dX9_asleep_68 : decode cX9_asleep 68 = .ok (.iload 6, 2) := by decide +kernel
theorem dX9_asleep_70 : decode cX9_asleep 70 = .ok (.iload_n 3, 1) := by decide +kernel
theorem dX9_asleep_71 : decode cX9_asleep 71 = .ok (.if_icmp .le 20, 3) := by decide +kernel
theorem dX9_asleep_74 : decode cX9_asleep 74 = .ok (.aload_n 0, 1) := by decide +kernel
theorem dX9_asleep_75 : decode cX9_asleep 75 = .ok (.iload_n 1, 1) := by decide +kernel
theorem dX9_asleep_76 : decode cX9_asleep 76 = .ok (.iload 5, 2) := by decide +kernel
theorem dX9_asleep_78 : decode cX9_asleep 78 = .ok (.invokevirtual 178, 3) := by decide +kernel
theorem dX9_asleep_81 : decode cX9_asleep 81 = .ok (.ifCond .eq 10, 3) := by decide +kernel
theorem dX9_asleep_84 : decode cX9_asleep 84 = .ok (.iload 6, 2) := by decide +kernel
theorem dX9_asleep_86 : decode cX9_asleep 86 = .ok (.istore_n 3, 1) := by decide +kernel
theorem dX9_asleep_87 : decode cX9_asleep 87 = .ok (.iload 5, 2) := by decide +kernel
theorem dX9_asleep_89 : decode cX9_asleep 89 = .ok (.istore 4, 2) := by decide +kernel
theorem dX9_asleep_91 : decode cX9_asleep 91 = .ok (.iinc 5 1, 3) := by decide +kernel
theorem dX9_asleep_94 : decode cX9_asleep 94 = .ok (.goto (-59), 3) := by decide +kernel
theorem dX9_asleep_97 : decode cX9_asleep 97 = .ok (.iload_n 2, 1) := by decide +kernel
theorem dX9_asleep_98 : decode cX9_asleep 98 = .ok (.ifCond .ne 7, 3) := by decide +kernel
theorem dX9_asleep_101 : decode cX9_asleep 101 = .ok (.iload_n 3, 1) := by decide +kernel
theorem dX9_asleep_102 : decode cX9_asleep 102 = .ok (.goto 5, 3) := by decide +kernel
theorem dX9_asleep_105 : decode cX9_asleep 105 = .ok (.iload 4, 2) := by decide +kernel
theorem dX9_asleep_107 : decode cX9_asleep 107 = .ok (.ireturn, 1) := by decide +kernel
theorem dX9_tired_0 : decode cX9_tired 0 = .ok (.aload_n 0, 1) := by decide +kernel
theorem dX9_tired_1 : decode cX9_tired 1 = .ok (.getfield 10, 3) := by decide +kernel
theorem dX9_tired_4 : decode cX9_tired 4 = .ok (.iload_n 1, 1) := by decide +kernel
theorem dX9_tired_5 : decode cX9_tired 5 = .ok (.invokevirtual 132, 3) := by decide +kernel
theorem dX9_tired_8 : decode cX9_tired 8 = .ok (.ifCond .eq 14, 3) := by decide +kernel
theorem dX9_tired_11 : decode cX9_tired 11 = .ok (.aload_n 0, 1) := by decide +kernel
theorem dX9_tired_12 : decode cX9_tired 12 = .ok (.getfield 10, 3) := by decide +kernel
theorem dX9_tired_15 : decode cX9_tired 15 = .ok (.iload_n 2, 1) := by decide +kernel
theorem dX9_tired_16 : decode cX9_tired 16 = .ok (.invokevirtual 148, 3) := by decide +kernel
theorem dX9_tired_19 : decode cX9_tired 19 = .ok (.ifCond .ne 5, 3) := by decide +kernel
theorem dX9_tired_22 : decode cX9_tired 22 = .ok (.iconst (-1), 1) := by decide +kernel
theorem dX9_tired_23 : decode cX9_tired 23 = .ok (.ireturn, 1) := by decide +kernel
theorem dX9_tired_24 : decode cX9_tired 24 = .ok (.aload_n 0, 1) := by decide +kernel
theorem dX9_tired_25 : decode cX9_tired 25 = .ok (.getfield 51, 3) := by decide +kernel
theorem dX9_tired_28 : decode cX9_tired 28 = .ok (.aload_n 0, 1) := by decide +kernel
theorem dX9_tired_29 : decode cX9_tired 29 = .ok (.getfield 10, 3) := by decide +kernel
theorem dX9_tired_32 : decode cX9_tired 32 = .ok (.aload_n 0, 1) := by decide +kernel
theorem dX9_tired_33 : decode cX9_tired 33 = .ok (.getfield 19, 3) := by decide +kernel
theorem dX9_tired_36 : decode cX9_tired 36 = .ok (.aload_n 0, 1) := by decide +kernel
theorem dX9_tired_37 : decode cX9_tired 37 = .ok (.invokevirtual 135, 3) := by decide +kernel
theorem dX9_tired_40 : decode cX9_tired 40 = .ok (.iload_n 2, 1) := by decide +kernel
theorem dX9_tired_41 : decode cX9_tired 41 = .ok (.invokevirtual 196, 3) := by decide +kernel
theorem dX9_tired_44 : decode cX9_tired 44 = .ok (.aload_n 0, 1) := by decide +kernel
theorem dX9_tired_45 : decode cX9_tired 45 = .ok (.getfield 51, 3) := by decide +kernel
theorem dX9_tired_48 : decode cX9_tired 48 = .ok (.aload_n 0, 1) := by decide +kernel
theorem dX9_tired_49 : decode cX9_tired 49 = .ok (.getfield 10, 3) := by decide +kernel
theorem dX9_tired_52 : decode cX9_tired 52 = .ok (.invokevirtual 200, 3) := by decide +kernel
theorem dX9_tired_55 : decode cX9_tired 55 = .ok (.aload_n 0, 1) := by decide +kernel
theorem dX9_tired_56 : decode cX9_tired 56 = .ok (.getfield 51, 3) := by decide +kernel
theorem dX9_tired_59 : decode cX9_tired 59 = .ok (.getfield 203, 3) := by decide +kernel
theorem dX9_tired_62 : decode cX9_tired 62 = .ok (.iload_n 1, 1) := by decide +kernel
theorem dX9_tired_63 : decode cX9_tired 63 = .ok (.iaload, 1) := by decide +kernel
theorem dX9_tired_64 : decode cX9_tired 64 = .ok (.ireturn, 1) := by decide +kernel
theorem dX9_open_0 : decode cX9_open 0 = .ok (.aload_n 0, 1) := by decide +kernel
theorem dX9_open_1 : decode cX9_open 1 = .ok (.getfield 10, 3) := by decide +kernel
theorem dX9_open_4 : decode cX9_open 4 = .ok (.iload_n 1, 1) := by decide +kernel
theorem dX9_open_5 : decode cX9_open 5 = .ok (.invokevirtual 148, 3) := by decide +kernel
theorem dX9_open_8 : decode cX9_open 8 = .ok (.ifCond .ne 5, 3) := by decide +kernel
theorem dX9_open_11 : decode cX9_open 11 = .ok (.iconst (-1), 1) := by decide +kernel
theorem dX9_open_12 : decode cX9_open 12 = .ok (.ireturn, 1) := by decide +kernel
theorem dX9_open_13 : decode cX9_open 13 = .ok (.aload_n 0, 1) := by decide +kernel
theorem dX9_open_14 : decode cX9_open 14 = .ok (.getfield 51, 3) := by decide +kernel
theorem dX9_open_17 : decode cX9_open 17 = .ok (.aload_n 0, 1) := by decide +kernel
theorem dX9_open_18 : decode cX9_open 18 = .ok (.getfield 10, 3) := by decide +kernel
theorem dX9_open_21 : decode cX9_open 21 = .ok (.aload_n 0, 1) := by decide +kernel
theorem dX9_open_22 : decode cX9_open 22 = .ok (.getfield 19, 3) := by decide +kernel
theorem dX9_open_25 : decode cX9_open 25 = .ok (.aload_n 0, 1) := by decide +kernel
theorem dX9_open_26 : decode cX9_open 26 = .ok (.invokevirtual 135, 3) := by decide +kernel
theorem dX9_open_29 : decode cX9_open 29 = .ok (.iload_n 1, 1) := by decide +kernel
theorem dX9_open_30 : decode cX9_open 30 = .ok (.invokevirtual 196, 3) := by decide +kernel
theorem dX9_open_33 : decode cX9_open 33 = .ok (.aload_n 0, 1) := by decide +kernel
theorem dX9_open_34 : decode cX9_open 34 = .ok (.getfield 51, 3) := by decide +kernel
theorem dX9_open_37 : decode cX9_open 37 = .ok (.getfield 204, 3) := by decide +kernel
theorem dX9_open_40 : decode cX9_open 40 = .ok (.ireturn, 1) := by decide +kernel
theorem dX9_missed_0 : decode cX9_missed 0 = .ok (.aload_n 0, 1) := by decide +kernel
theorem dX9_missed_1 : decode cX9_missed 1 = .ok (.getfield 10, 3) := by decide +kernel
theorem dX9_missed_4 : decode cX9_missed 4 = .ok (.iload_n 1, 1) := by decide +kernel
theorem dX9_missed_5 : decode cX9_missed 5 = .ok (.invokevirtual 148, 3) := by decide +kernel
theorem dX9_missed_8 : decode cX9_missed 8 = .ok (.ifCond .eq 11, 3) := by decide +kernel
theorem dX9_missed_11 : decode cX9_missed 11 = .ok (.aload_n 0, 1) := by decide +kernel
theorem dX9_missed_12 : decode cX9_missed 12 = .ok (.iload_n 1, 1) := by decide +kernel
theorem dX9_missed_13 : decode cX9_missed 13 = .ok (.invokevirtual 207, 3) := by decide +kernel
theorem dX9_missed_16 : decode cX9_missed 16 = .ok (.goto 4, 3) := by decide +kernel
theorem dX9_missed_19 : decode cX9_missed 19 = .ok (.iconst (-1), 1) := by decide +kernel
theorem dX9_missed_20 : decode cX9_missed 20 = .ok (.ireturn, 1) := by decide +kernel
theorem dX9_wreck_0 : decode cX9_wreck 0 = .ok (.iconst 0, 1) := by decide +kernel
theorem dX9_wreck_1 : decode cX9_wreck 1 = .ok (.istore_n 1, 1) := by decide +kernel
theorem dX9_wreck_2 : decode cX9_wreck 2 = .ok (.iload_n 1, 1) := by decide +kernel
theorem dX9_wreck_3 : decode cX9_wreck 3 = .ok (.aload_n 0, 1) := by decide +kernel
theorem dX9_wreck_4 : decode cX9_wreck 4 = .ok (.getfield 10, 3) := by decide +kernel
theorem dX9_wreck_7 : decode cX9_wreck 7 = .ok (.getfield 116, 3) := by decide +kernel
theorem dX9_wreck_10 : decode cX9_wreck 10 = .ok (.if_icmp .ge 19, 3) := by decide +kernel
theorem dX9_wreck_13 : decode cX9_wreck 13 = .ok (.aload_n 0, 1) := by decide +kernel
theorem dX9_wreck_14 : decode cX9_wreck 14 = .ok (.iload_n 1, 1) := by decide +kernel
theorem dX9_wreck_15 : decode cX9_wreck 15 = .ok (.invokevirtual 207, 3) := by decide +kernel
theorem dX9_wreck_18 : decode cX9_wreck 18 = .ok (.ifCond .eq 5, 3) := by decide +kernel
theorem dX9_wreck_21 : decode cX9_wreck 21 = .ok (.iload_n 1, 1) := by decide +kernel
theorem dX9_wreck_22 : decode cX9_wreck 22 = .ok (.ireturn, 1) := by decide +kernel
theorem dX9_wreck_23 : decode cX9_wreck 23 = .ok (.iinc 1 1, 3) := by decide +kernel
theorem dX9_wreck_26 : decode cX9_wreck 26 = .ok (.goto (-24), 3) := by decide +kernel
theorem dX9_wreck_29 : decode cX9_wreck 29 = .ok (.bipush (-4), 2) := by decide +kernel
theorem dX9_wreck_31 : decode cX9_wreck 31 = .ok (.ireturn, 1) := by decide +kernel
theorem dX9_rest_0 : decode cX9_rest 0 = .ok (.aload_n 0, 1) := by decide +kernel
theorem dX9_rest_1 : decode cX9_rest 1 = .ok (.getfield 10, 3) := by decide +kernel
theorem dX9_rest_4 : decode cX9_rest 4 = .ok (.iload_n 1, 1) := by decide +kernel
theorem dX9_rest_5 : decode cX9_rest 5 = .ok (.invokevirtual 132, 3) := by decide +kernel
theorem dX9_rest_8 : decode cX9_rest 8 = .ok (.ifCond .ne 5, 3) := by decide +kernel
theorem dX9_rest_11 : decode cX9_rest 11 = .ok (.iconst (-1), 1) := by decide +kernel
theorem dX9_rest_12 : decode cX9_rest 12 = .ok (.ireturn, 1) := by decide +kernel
theorem dX9_rest_13 : decode cX9_rest 13 = .ok (.iconst 0, 1) := by decide +kernel
theorem dX9_rest_14 : decode cX9_rest 14 = .ok (.istore_n 2, 1) := by decide +kernel
theorem dX9_rest_15 : decode cX9_rest 15 = .ok (.iconst 0, 1) := by decide +kernel
theorem dX9_rest_16 : decode cX9_rest 16 = .ok (.istore_n 3, 1) := by decide +kernel
theorem dX9_rest_17 : decode cX9_rest 17 = .ok (.iload_n 3, 1) := by decide +kernel
theorem dX9_rest_18 : decode cX9_rest 18 = .ok (.aload_n 0, 1) := by decide +kernel
theorem dX9_rest_19 : decode cX9_rest 19 = .ok (.getfield 10, 3) := by decide +kernel
theorem dX9_rest_22 : decode cX9_rest 22 = .ok (.getfield 116, 3) := by decide +kernel
theorem dX9_rest_25 : decode cX9_rest 25 = .ok (.if_icmp .ge 29, 3) := by decide +kernel
theorem dX9_rest_28 : decode cX9_rest 28 = .ok (.iload_n 2, 1) := by decide +kernel
theorem dX9_rest_29 : decode cX9_rest 29 = .ok (.getstatic 185, 3) := by decide +kernel
theorem dX9_rest_32 : decode cX9_rest 32 = .ok (.aload_n 0, 1) := by decide +kernel
theorem dX9_rest_33 : decode cX9_rest 33 = .ok (.getfield 19, 3) := by decide +kernel
theorem dX9_rest_36 : decode cX9_rest 36 = .ok (.getfield 157, 3) := by decide +kernel
