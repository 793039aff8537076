theorem dX0_init_0 : decode cX0_init 0 = .ok (.aload_n 0, 1) := by decide +kernel
theorem dX0_init_1 : decode cX0_init 1 = .ok (.invokespecial 3, 3) := by decide +kernel
theorem dX0_init_4 : decode cX0_init 4 = .ok (.aload_n 0, 1) := by decide +kernel
theorem dX0_init_5 : decode cX0_init 5 = .ok (.iconst 3, 1) := by decide +kernel
theorem dX0_init_6 : decode cX0_init 6 = .ok (.newarray .int, 2) := by decide +kernel
theorem dX0_init_8 : decode cX0_init 8 = .ok (.putfield 9, 3) := by decide +kernel
theorem dX0_init_11 : decode cX0_init 11 = .ok (.aload_n 0, 1) := by decide +kernel
theorem dX0_init_12 : decode cX0_init 12 = .ok (.iconst 0, 1) := by decide +kernel
theorem dX0_init_13 : decode cX0_init 13 = .ok (.putfield 15, 3) := by decide +kernel
theorem dX0_init_16 : decode cX0_init 16 = .ok (.return_, 1) := by decide +kernel
theorem dX0_shortest_0 : decode cX0_shortest 0 = .ok (.aload_n 0, 1) := by decide +kernel
theorem dX0_shortest_1 : decode cX0_shortest 1 = .ok (.iconst 0, 1) := by decide +kernel
theorem dX0_shortest_2 : decode cX0_shortest 2 = .ok (.putfield 15, 3) := by decide +kernel
theorem dX0_shortest_5 : decode cX0_shortest 5 = .ok (.iconst 0, 1) := by decide +kernel
theorem dX0_shortest_6 : decode cX0_shortest 6 = .ok (.istore_n 3, 1) := by decide +kernel
theorem dX0_shortest_7 : decode cX0_shortest 7 = .ok (.iload_n 3, 1) := by decide +kernel
theorem dX0_shortest_8 : decode cX0_shortest 8 = .ok (.bipush 27, 2) := by decide +kernel
theorem dX0_shortest_10 : decode cX0_shortest 10 = .ok (.if_icmp .ge 62, 3) := by decide +kernel
theorem dX0_shortest_13 : decode cX0_shortest 13 = .ok (.getstatic 19, 3) := by decide +kernel
theorem dX0_shortest_16 : decode cX0_shortest 16 = .ok (.iload_n 3, 1) := by decide +kernel
theorem dX0_shortest_17 : decode cX0_shortest 17 = .ok (.iaload, 1) := by decide +kernel
theorem dX0_shortest_18 : decode cX0_shortest 18 = .ok (.aload_n 1, 1) := by decide +kernel
theorem dX0_shortest_19 : decode cX0_shortest 19 = .ok (.getfield 22, 3) := by decide +kernel
theorem dX0_shortest_22 : decode cX0_shortest 22 = .ok (.iconst (-1), 1) := by decide +kernel
theorem dX0_shortest_23 : decode cX0_shortest 23 = .ok (.ixor, 1) := by decide +kernel
theorem dX0_shortest_24 : decode cX0_shortest 24 = .ok (.iand, 1) := by decide +kernel
theorem dX0_shortest_25 : decode cX0_shortest 25 = .ok (.ifCond .ne 7, 3) := by decide +kernel
theorem dX0_shortest_28 : decode cX0_shortest 28 = .ok (.iconst 1, 1) := by decide +kernel
theorem dX0_shortest_29 : decode cX0_shortest 29 = .ok (.goto 4, 3) := by decide +kernel
theorem dX0_shortest_32 : decode cX0_shortest 32 = .ok (.iconst 0, 1) := by decide +kernel
theorem dX0_shortest_33 : decode cX0_shortest 33 = .ok (.istore 4, 2) := by decide +kernel
theorem dX0_shortest_35 : decode cX0_shortest 35 = .ok (.iload 4, 2) := by decide +kernel
theorem dX0_shortest_37 : decode cX0_shortest 37 = .ok (.ifCond .eq 29, 3) := by decide +kernel
theorem dX0_shortest_40 : decode cX0_shortest 40 = .ok (.aload_n 1, 1) := by decide +kernel
theorem dX0_shortest_41 : decode cX0_shortest 41 = .ok (.aload_n 2, 1) := by decide +kernel
theorem dX0_shortest_42 : decode cX0_shortest 42 = .ok (.iconst 0, 1) := by decide +kernel
theorem dX0_shortest_43 : decode cX0_shortest 43 = .ok (.aload_n 1, 1) := by decide +kernel
theorem dX0_shortest_44 : decode cX0_shortest 44 = .ok (.iload_n 3, 1) := by decide +kernel
theorem dX0_shortest_45 : decode cX0_shortest 45 = .ok (.invokevirtual 27, 3) := by decide +kernel
theorem dX0_shortest_48 : decode cX0_shortest 48 = .ok (.invokevirtual 31, 3) := by decide +kernel
theorem dX0_shortest_51 : decode cX0_shortest 51 = .ok (.ifCond .ne 15, 3) := by decide +kernel
theorem dX0_shortest_54 : decode cX0_shortest 54 = .ok (.aload_n 0, 1) := by decide +kernel
theorem dX0_shortest_55 : decode cX0_shortest 55 = .ok (.dup, 1) := by decide +kernel
theorem dX0_shortest_56 : decode cX0_shortest 56 = .ok (.getfield 15, 3) := by decide +kernel
theorem dX0_shortest_59 : decode cX0_shortest 59 = .ok (.iconst 1, 1) := by decide +kernel
theorem dX0_shortest_60 : decode cX0_shortest 60 = .ok (.iload_n 3, 1) := by decide +kernel
theorem dX0_shortest_61 : decode cX0_shortest 61 = .ok (.ishl, 1) := by decide +kernel
theorem dX0_shortest_62 : decode cX0_shortest 62 = .ok (.ior, 1) := by decide +kernel
theorem dX0_shortest_63 : decode cX0_shortest 63 = .ok (.putfield 15, 3) := by decide +kernel
theorem dX0_shortest_66 : decode cX0_shortest 66 = .ok (.iinc 3 1, 3) := by decide +kernel
theorem dX0_shortest_69 : decode cX0_shortest 69 = .ok (.goto (-62), 3) := by decide +kernel
theorem dX0_shortest_72 : decode cX0_shortest 72 = .ok (.iconst 1, 1) := by decide +kernel
theorem dX0_shortest_73 : decode cX0_shortest 73 = .ok (.istore_n 3, 1) := by decide +kernel
theorem dX0_shortest_74 : decode cX0_shortest 74 = .ok (.iload_n 3, 1) := by decide +kernel
theorem dX0_shortest_75 : decode cX0_shortest 75 = .ok (.iconst 3, 1) := by decide +kernel
theorem dX0_shortest_76 : decode cX0_shortest 76 = .ok (.if_icmp .gt 31, 3) := by decide +kernel
theorem dX0_shortest_79 : decode cX0_shortest 79 = .ok (.aload_n 0, 1) := by decide +kernel
theorem dX0_shortest_80 : decode cX0_shortest 80 = .ok (.iconst 0, 1) := by decide +kernel
theorem dX0_shortest_81 : decode cX0_shortest 81 = .ok (.iload_n 3, 1) := by decide +kernel
theorem dX0_shortest_82 : decode cX0_shortest 82 = .ok (.aload_n 1, 1) := by decide +kernel
theorem dX0_shortest_83 : decode cX0_shortest 83 = .ok (.getfield 22, 3) := by decide +kernel
theorem dX0_shortest_86 : decode cX0_shortest 86 = .ok (.aload_n 1, 1) := by decide +kernel
theorem dX0_shortest_87 : decode cX0_shortest 87 = .ok (.getfield 35, 3) := by decide +kernel
theorem dX0_shortest_90 : decode cX0_shortest 90 = .ok (.iconst (-1), 1) := by decide +kernel
theorem dX0_shortest_91 : decode cX0_shortest 91 = .ok (.ixor, 1) := by decide +kernel
theorem dX0_shortest_92 : decode cX0_shortest 92 = .ok (.iand, 1) := by decide +kernel
theorem dX0_shortest_93 : decode cX0_shortest 93 = .ok (.invokestatic 38, 3) := by decide +kernel
theorem dX0_shortest_96 : decode cX0_shortest 96 = .ok (.ifCond .eq 5, 3) := by decide +kernel
theorem dX0_shortest_99 : decode cX0_shortest 99 = .ok (.iload_n 3, 1) := by decide +kernel
theorem dX0_shortest_100 : decode cX0_shortest 100 = .ok (.ireturn, 1) := by decide +kernel
theorem dX0_shortest_101 : decode cX0_shortest 101 = .ok (.iinc 3 1, 3) := by decide +kernel
theorem dX0_shortest_104 : decode cX0_shortest 104 = .ok (.goto (-30), 3) := by decide +kernel
theorem dX0_shortest_107 : decode cX0_shortest 107 = .ok (.iconst 0, 1) := by decide +kernel
theorem dX0_shortest_108 : decode cX0_shortest 108 = .ok (.ireturn, 1) := by decide +kernel
theorem dX0_fill_0 : decode cX0_fill 0 = .ok (.iload_n 1, 1) := by decide +kernel
theorem dX0_fill_1 : decode cX0_fill 1 = .ok (.iload_n 2, 1) := by decide +kernel
theorem dX0_fill_2 : decode cX0_fill 2 = .ok (.if_icmp .ge 8, 3) := by decide +kernel
theorem dX0_fill_5 : decode cX0_fill 5 = .ok (.iload_n 1, 1) := by decide +kernel
theorem dX0_fill_6 : decode cX0_fill 6 = .ok (.iconst 3, 1) := by decide +kernel
theorem dX0_fill_7 : decode cX0_fill 7 = .ok (.if_icmp .lt 13, 3) := by decide +kernel
theorem dX0_fill_10 : decode cX0_fill 10 = .ok (.iload_n 3, 1) := by decide +kernel
theorem dX0_fill_11 : decode cX0_fill 11 = .ok (.ifCond .ne 7, 3) := by decide +kernel
theorem dX0_fill_14 : decode cX0_fill 14 = .ok (.iconst 1, 1) := by decide +kernel
theorem dX0_fill_15 : decode cX0_fill 15 = .ok (.goto 4, 3) := by decide +kernel
theorem dX0_fill_18 : decode cX0_fill 18 = .ok (.iconst 0, 1) := by decide +kernel
theorem dX0_fill_19 : decode cX0_fill 19 = .ok (.ireturn, 1) := by decide +kernel
theorem dX0_fill_20 : decode cX0_fill 20 = .ok (.iconst 0, 1) := by decide +kernel
theorem dX0_fill_21 : decode cX0_fill 21 = .ok (.istore 4, 2) := by decide +kernel
theorem dX0_fill_23 : decode cX0_fill 23 = .ok (.iload 4, 2) := by decide +kernel
theorem dX0_fill_25 : decode cX0_fill 25 = .ok (.bipush 27, 2) := by decide +kernel
theorem dX0_fill_27 : decode cX0_fill 27 = .ok (.if_icmp .ge 53, 3) := by decide +kernel
theorem dX0_fill_30 : decode cX0_fill 30 = .ok (.aload_n 0, 1) := by decide +kernel
theorem dX0_fill_31 : decode cX0_fill 31 = .ok (.getfield 15, 3) := by decide +kernel
theorem dX0_fill_34 : decode cX0_fill 34 = .ok (.iload 4, 2) := by decide +kernel
theorem dX0_fill_36 : decode cX0_fill 36 = .ok (.ishr, 1) := by decide +kernel
theorem dX0_fill_37 : decode cX0_fill 37 = .ok (.iconst 1, 1) := by decide +kernel
theorem dX0_fill_38 : decode cX0_fill 38 = .ok (.iand, 1) := by decide +kernel
theorem dX0_fill_39 : decode cX0_fill 39 = .ok (.iconst 1, 1) := by decide +kernel
theorem dX0_fill_40 : decode cX0_fill 40 = .ok (.if_icmp .ne 34, 3) := by decide +kernel
theorem dX0_fill_43 : decode cX0_fill 43 = .ok (.aload_n 0, 1) := by decide +kernel
theorem dX0_fill_44 : decode cX0_fill 44 = .ok (.getfield 9, 3) := by decide +kernel
theorem dX0_fill_47 : decode cX0_fill 47 = .ok (.iload_n 1, 1) := by decide +kernel
theorem dX0_fill_48 : decode cX0_fill 48 = .ok (.iload 4, 2) := by decide +kernel
theorem dX0_fill_50 : decode cX0_fill 50 = .ok (.iastore, 1) := by decide +kernel
theorem dX0_fill_51 : decode cX0_fill 51 = .ok (.aload_n 0, 1) := by decide +kernel
theorem dX0_fill_52 : decode cX0_fill 52 = .ok (.iload_n 1, 1) := by decide +kernel
theorem dX0_fill_53 : decode cX0_fill 53 = .ok (.iconst 1, 1) := by decide +kernel
theorem dX0_fill_54 : decode cX0_fill 54 = .ok (.iadd, 1) := by decide +kernel
theorem dX0_fill_55 : decode cX0_fill 55 = .ok (.iload_n 2, 1) := by decide +kernel
theorem dX0_fill_56 : decode cX0_fill 56 = .ok (.iload_n 3, 1) := by decide +kernel
theorem dX0_fill_57 : decode cX0_fill 57 = .ok (.getstatic 19, 3) := by decide +kernel
theorem dX0_fill_60 : decode cX0_fill 60 = .ok (.iload 4, 2) := by decide +kernel
theorem dX0_fill_62 : decode cX0_fill 62 = .ok (.iaload, 1) := by decide +kernel
theorem dX0_fill_63 : decode cX0_fill 63 = .ok (.iconst (-1), 1) := by decide +kernel
theorem dX0_fill_64 : decode cX0_fill 64 = .ok (.ixor, 1) := by decide +kernel
theorem dX0_fill_65 : decode cX0_fill 65 = .ok (.iand, 1) := by decide +kernel
theorem dX0_fill_66 : decode cX0_fill 66 = .ok (.invokestatic 38, 3) := by decide +kernel
theorem dX0_fill_69 : decode cX0_fill 69 = .ok (.ifCond .eq 5, 3) := by decide +kernel
theorem dX0_fill_72 : decode cX0_fill 72 = .ok (.iconst 1, 1) := by decide +kernel
theorem dX0_fill_73 : decode cX0_fill 73 = .ok (.ireturn, 1) := by decide +kernel
theorem dX0_fill_74 : decode cX0_fill 74 = .ok (.iinc 4 1, 3) := by decide +kernel
theorem dX0_fill_77 : decode cX0_fill 77 = .ok (.goto (-54), 3) := by decide +kernel
theorem dX0_fill_80 : decode cX0_fill 80 = .ok (.iconst 0, 1) := by decide +kernel
theorem dX0_fill_81 : decode cX0_fill 81 = .ok (.ireturn, 1) := by decide +kernel
theorem dX1_init_0 : decode cX1_init 0 = .ok (.aload_n 0, 1) := by decide +kernel
theorem dX1_init_1 : decode cX1_init 1 = .ok (.invokespecial 3, 3) := by decide +kernel
theorem dX1_init_4 : decode cX1_init 4 = .ok (.aload_n 0, 1) := by decide +kernel
theorem dX1_init_5 : decode cX1_init 5 = .ok (.iconst 0, 1) := by decide +kernel
theorem dX1_init_6 : decode cX1_init 6 = .ok (.putfield 9, 3) := by decide +kernel
theorem dX1_init_9 : decode cX1_init 9 = .ok (.aload_n 0, 1) := by decide +kernel
theorem dX1_init_10 : decode cX1_init 10 = .ok (.iconst 4, 1) := by decide +kernel
theorem dX1_init_11 : decode cX1_init 11 = .ok (.putfield 15, 3) := by decide +kernel
theorem dX1_init_14 : decode cX1_init 14 = .ok (.aload_n 0, 1) := by decide +kernel
theorem dX1_init_15 : decode cX1_init 15 = .ok (.iconst 3, 1) := by decide +kernel
theorem dX1_init_16 : decode cX1_init 16 = .ok (.newarray .int, 2) := by decide +kernel
theorem dX1_init_18 : decode cX1_init 18 = .ok (.putfield 18, 3) := by decide +kernel
theorem dX1_init_21 : decode cX1_init 21 = .ok (.aload_n 0, 1) := by decide +kernel
theorem dX1_init_22 : decode cX1_init 22 = .ok (.bipush 6, 2) := by decide +kernel
theorem dX1_init_24 : decode cX1_init 24 = .ok (.newarray .int, 2) := by decide +kernel
theorem dX1_init_26 : decode cX1_init 26 = .ok (.putfield 22, 3) := by decide +kernel
theorem dX1_init_29 : decode cX1_init 29 = .ok (.return_, 1) := by decide +kernel
theorem dX1_become_0 : decode cX1_become 0 = .ok (.aload_n 0, 1) := by decide +kernel
theorem dX1_become_1 : decode cX1_become 1 = .ok (.aload_n 1, 1) := by decide +kernel
theorem dX1_become_2 : decode cX1_become 2 = .ok (.getfield 9, 3) := by decide +kernel
theorem dX1_become_5 : decode cX1_become 5 = .ok (.putfield 9, 3) := by decide +kernel
theorem dX1_become_8 : decode cX1_become 8 = .ok (.aload_n 0, 1) := by decide +kernel
theorem dX1_become_9 : decode cX1_become 9 = .ok (.aload_n 1, 1) := by decide +kernel
theorem dX1_become_10 : decode cX1_become 10 = .ok (.getfield 15, 3) := by decide +kernel
theorem dX1_become_13 : decode cX1_become 13 = .ok (.putfield 15, 3) := by decide +kernel
theorem dX1_become_16 : decode cX1_become 16 = .ok (.aload_n 1, 1) := by decide +kernel
theorem dX1_become_17 : decode cX1_become 17 = .ok (.getfield 18, 3) := by decide +kernel
theorem dX1_become_20 : decode cX1_become 20 = .ok (.iconst 0, 1) := by decide +kernel
theorem dX1_become_21 : decode cX1_become 21 = .ok (.aload_n 0, 1) := by decide +kernel
theorem dX1_become_22 : decode cX1_become 22 = .ok (.getfield 18, 3) := by decide +kernel
theorem dX1_become_25 : decode cX1_become 25 = .ok (.iconst 0, 1) := by decide +kernel
theorem dX1_become_26 : decode cX1_become 26 = .ok (.iconst 3, 1) := by decide +kernel
theorem dX1_become_27 : decode cX1_become 27 = .ok (.invokestatic 25, 3) := by decide +kernel
theorem dX1_become_30 : decode cX1_become 30 = .ok (.aload_n 1, 1) := by decide +kernel
theorem dX1_become_31 : decode cX1_become 31 = .ok (.getfield 22, 3) := by decide +kernel
theorem dX1_become_34 : decode cX1_become 34 = .ok (.iconst 0, 1) := by decide +kernel
theorem dX1_become_35 : decode cX1_become 35 = .ok (.aload_n 0, 1) := by decide +kernel
theorem dX1_become_36 : decode cX1_become 36 = .ok (.getfield 22, 3) := by decide +kernel
theorem dX1_become_39 : decode cX1_become 39 = .ok (.iconst 0, 1) := by decide +kernel
theorem dX1_become_40 : decode cX1_become 40 = .ok (.bipush 6, 2) := by decide +kernel
theorem dX1_become_42 : decode cX1_become 42 = .ok (.invokestatic 25, 3) := by decide +kernel
theorem dX1_become_45 : decode cX1_become 45 = .ok (.return_, 1) := by decide +kernel
theorem dX1_empty_0 : decode cX1_empty 0 = .ok (.aload_n 0, 1) := by decide +kernel
theorem dX1_empty_1 : decode cX1_empty 1 = .ok (.iconst 0, 1) := by decide +kernel
theorem dX1_empty_2 : decode cX1_empty 2 = .ok (.putfield 9, 3) := by decide +kernel
theorem dX1_empty_5 : decode cX1_empty 5 = .ok (.aload_n 0, 1) := by decide +kernel
theorem dX1_empty_6 : decode cX1_empty 6 = .ok (.iconst 4, 1) := by decide +kernel
theorem dX1_empty_7 : decode cX1_empty 7 = .ok (.putfield 15, 3) := by decide +kernel
theorem dX1_empty_10 : decode cX1_empty 10 = .ok (.aload_n 0, 1) := by decide +kernel
theorem dX1_empty_11 : decode cX1_empty 11 = .ok (.getfield 18, 3) := by decide +kernel
theorem dX1_empty_14 : decode cX1_empty 14 = .ok (.iconst 0, 1) := by decide +kernel
theorem dX1_empty_15 : decode cX1_empty 15 = .ok (.invokestatic 31, 3) := by decide +kernel
theorem dX1_empty_18 : decode cX1_empty 18 = .ok (.aload_n 0, 1) := by decide +kernel
theorem dX1_empty_19 : decode cX1_empty 19 = .ok (.getfield 22, 3) := by decide +kernel
theorem dX1_empty_22 : decode cX1_empty 22 = .ok (.iconst 0, 1) := by decide +kernel
theorem dX1_empty_23 : decode cX1_empty 23 = .ok (.invokestatic 31, 3) := by decide +kernel
theorem dX1_empty_26 : decode cX1_empty 26 = .ok (.return_, 1) := by decide +kernel
theorem dX1_hasSister_0 : decode cX1_hasSister 0 = .ok (.iload_n 1, 1) := by decide +kernel
theorem dX1_hasSister_1 : decode cX1_hasSister 1 = .ok (.ifCond .lt 15, 3) := by decide +kernel
theorem dX1_hasSister_4 : decode cX1_hasSister 4 = .ok (.iload_n 1, 1) := by decide +kernel
theorem dX1_hasSister_5 : decode cX1_hasSister 5 = .ok (.aload_n 0, 1) := by decide +kernel
theorem dX1_hasSister_6 : decode cX1_hasSister 6 = .ok (.getfield 9, 3) := by decide +kernel
theorem dX1_hasSister_9 : decode cX1_hasSister 9 = .ok (.if_icmp .ge 7, 3) := by decide +kernel
theorem dX1_hasSister_12 : decode cX1_hasSister 12 = .ok (.iconst 1, 1) := by decide +kernel
theorem dX1_hasSister_13 : decode cX1_hasSister 13 = .ok (.goto 4, 3) := by decide +kernel
theorem dX1_hasSister_16 : decode cX1_hasSister 16 = .ok (.iconst 0, 1) := by decide +kernel
theorem dX1_hasSister_17 : decode cX1_hasSister 17 = .ok (.ireturn, 1) := by decide +kernel
theorem dX1_hasEye_0 : decode cX1_hasEye 0 = .ok (.iload_n 1, 1) := by decide +kernel
theorem dX1_hasEye_1 : decode cX1_hasEye 1 = .ok (.ifCond .lt 17, 3) := by decide +kernel
theorem dX1_hasEye_4 : decode cX1_hasEye 4 = .ok (.iload_n 1, 1) := by decide +kernel
theorem dX1_hasEye_5 : decode cX1_hasEye 5 = .ok (.iconst 2, 1) := by decide +kernel
theorem dX1_hasEye_6 : decode cX1_hasEye 6 = .ok (.aload_n 0, 1) := by decide +kernel
theorem dX1_hasEye_7 : decode cX1_hasEye 7 = .ok (.getfield 9, 3) := by decide +kernel
theorem dX1_hasEye_10 : decode cX1_hasEye 10 = .ok (.imul, 1) := by decide +kernel
theorem dX1_hasEye_11 : decode cX1_hasEye 11 = .ok (.if_icmp .ge 7, 3) := by decide +kernel
theorem dX1_hasEye_14 : decode cX1_hasEye 14 = .ok (.iconst 1, 1) := by decide +kernel
theorem dX1_hasEye_15 : decode cX1_hasEye 15 = .ok (.goto 4, 3) := by decide +kernel
theorem dX1_hasEye_18 : decode cX1_hasEye 18 = .ok (.iconst 0, 1) := by decide +kernel
theorem dX1_hasEye_19 : decode cX1_hasEye 19 = .ok (.ireturn, 1) := by decide +kernel
theorem dX1_hasQuarter_0 : decode cX1_hasQuarter 0 = .ok (.iload_n 1, 1) := by decide +kernel
theorem dX1_hasQuarter_1 : decode cX1_hasQuarter 1 = .ok (.ifCond .lt 15, 3) := by decide +kernel
theorem dX1_hasQuarter_4 : decode cX1_hasQuarter 4 = .ok (.iload_n 1, 1) := by decide +kernel
theorem dX1_hasQuarter_5 : decode cX1_hasQuarter 5 = .ok (.aload_n 0, 1) := by decide +kernel
theorem dX1_hasQuarter_6 : decode cX1_hasQuarter 6 = .ok (.getfield 15, 3) := by decide +kernel
theorem dX1_hasQuarter_9 : decode cX1_hasQuarter 9 = .ok (.if_icmp .ge 7, 3) := by decide +kernel
theorem dX1_hasQuarter_12 : decode cX1_hasQuarter 12 = .ok (.iconst 1, 1) := by decide +kernel
theorem dX1_hasQuarter_13 : decode cX1_hasQuarter 13 = .ok (.goto 4, 3) := by decide +kernel
theorem dX1_hasQuarter_16 : decode cX1_hasQuarter 16 = .ok (.iconst 0, 1) := by decide +kernel
theorem dX1_hasQuarter_17 : decode cX1_hasQuarter 17 = .ok (.ireturn, 1) := by decide +kernel
theorem dX1_hasWatch_0 : decode cX1_hasWatch 0 = .ok (.iload_n 1, 1) := by decide +kernel
theorem dX1_hasWatch_1 : decode cX1_hasWatch 1 = .ok (.ifCond .lt 15, 3) := by decide +kernel
theorem dX1_hasWatch_4 : decode cX1_hasWatch 4 = .ok (.iload_n 1, 1) := by decide +kernel
theorem dX1_hasWatch_5 : decode cX1_hasWatch 5 = .ok (.aload_n 0, 1) := by decide +kernel
theorem dX1_hasWatch_6 : decode cX1_hasWatch 6 = .ok (.invokevirtual 37, 3) := by decide +kernel
theorem dX1_hasWatch_9 : decode cX1_hasWatch 9 = .ok (.if_icmp .ge 7, 3) := by decide +kernel
theorem dX1_hasWatch_12 : decode cX1_hasWatch 12 = .ok (.iconst 1, 1) := by decide +kernel
theorem dX1_hasWatch_13 : decode cX1_hasWatch 13 = .ok (.goto 4, 3) := by decide +kernel
theorem dX1_hasWatch_16 : decode cX1_hasWatch 16 = .ok (.iconst 0, 1) := by decide +kernel
theorem dX1_hasWatch_17 : decode cX1_hasWatch 17 = .ok (.ireturn, 1) := by decide +kernel
theorem dX1_watches_0 : decode cX1_watches 0 = .ok (.getstatic 41, 3) := by decide +kernel
theorem dX1_watches_3 : decode cX1_watches 3 = .ok (.aload_n 0, 1) := by decide +kernel
theorem dX1_watches_4 : decode cX1_watches 4 = .ok (.getfield 9, 3) := by decide +kernel
theorem dX1_watches_7 : decode cX1_watches 7 = .ok (.iaload, 1) := by decide +kernel
theorem dX1_watches_8 : decode cX1_watches 8 = .ok (.ireturn, 1) := by decide +kernel
theorem dX1_everybody_0 : decode cX1_everybody 0 = .ok (.iconst 1, 1) := by decide +kernel
theorem dX1_everybody_1 : decode cX1_everybody 1 = .ok (.aload_n 0, 1) := by decide +kernel
theorem dX1_everybody_2 : decode cX1_everybody 2 = .ok (.getfield 9, 3) := by decide +kernel
theorem dX1_everybody_5 : decode cX1_everybody 5 = .ok (.ishl, 1) := by decide +kernel
theorem dX1_everybody_6 : decode cX1_everybody 6 = .ok (.iconst 1, 1) := by decide +kernel
theorem dX1_everybody_7 : decode cX1_everybody 7 = .ok (.isub, 1) := by decide +kernel
theorem dX1_everybody_8 : decode cX1_everybody 8 = .ok (.ireturn, 1) := by decide +kernel
theorem dX1_isGlassEye_0 : decode cX1_isGlassEye 0 = .ok (.iload_n 1, 1) := by decide +kernel
theorem dX1_isGlassEye_1 : decode cX1_isGlassEye 1 = .ok (.iconst 1, 1) := by decide +kernel
theorem dX1_isGlassEye_2 : decode cX1_isGlassEye 2 = .ok (.iand, 1) := by decide +kernel
theorem dX1_isGlassEye_3 : decode cX1_isGlassEye 3 = .ok (.ifCond .ne 19, 3) := by decide +kernel
theorem dX1_isGlassEye_6 : decode cX1_isGlassEye 6 = .ok (.aload_n 0, 1) := by decide +kernel
theorem dX1_isGlassEye_7 : decode cX1_isGlassEye 7 = .ok (.getfield 18, 3) := by decide +kernel
theorem dX1_isGlassEye_10 : decode cX1_isGlassEye 10 = .ok (.iload_n 1, 1) := by decide +kernel
theorem dX1_isGlassEye_11 : decode cX1_isGlassEye 11 = .ok (.iconst 2, 1) := by decide +kernel
theorem dX1_isGlassEye_12 : decode cX1_isGlassEye 12 = .ok (.idiv, 1) := by decide +kernel
theorem dX1_isGlassEye_13 : decode cX1_isGlassEye 13 = .ok (.iaload, 1) := by decide +kernel
theorem dX1_isGlassEye_14 : decode cX1_isGlassEye 14 = .ok (.iconst 1, 1) := by decide +kernel
theorem dX1_isGlassEye_15 : decode cX1_isGlassEye 15 = .ok (.if_icmp .ne 7, 3) := by decide +kernel
theorem dX1_isGlassEye_18 : decode cX1_isGlassEye 18 = .ok (.iconst 1, 1) := by decide +kernel
theorem dX1_isGlassEye_19 : decode cX1_isGlassEye 19 = .ok (.goto 4, 3) := by decide +kernel
theorem dX1_isGlassEye_22 : decode cX1_isGlassEye 22 = .ok (.iconst 0, 1) := by decide +kernel
theorem dX1_isGlassEye_23 : decode cX1_isGlassEye 23 = .ok (.ireturn, 1) := by decide +kernel
theorem dX2_init_0 : decode cX2_init 0 = .ok (.aload_n 0, 1) := by decide +kernel
theorem dX2_init_1 : decode cX2_init 1 = .ok (.invokespecial 3, 3) := by decide +kernel
theorem dX2_init_4 : decode cX2_init 4 = .ok (.aload_n 0, 1) := by decide +kernel
theorem dX2_init_5 : decode cX2_init 5 = .ok (.bipush 6, 2) := by decide +kernel
theorem dX2_init_7 : decode cX2_init 7 = .ok (.newarray .int, 2) := by decide +kernel
theorem dX2_init_9 : decode cX2_init 9 = .ok (.putfield 9, 3) := by decide +kernel
theorem dX2_init_12 : decode cX2_init 12 = .ok (.aload_n 0, 1) := by decide +kernel
theorem dX2_init_13 : decode cX2_init 13 = .ok (.iconst 0, 1) := by decide +kernel
theorem dX2_init_14 : decode cX2_init 14 = .ok (.putfield 15, 3) := by decide +kernel
theorem dX2_init_17 : decode cX2_init 17 = .ok (.return_, 1) := by decide +kernel
theorem dX2_reach_0 : decode cX2_reach 0 = .ok (.aload_n 2, 1) := by decide +kernel
theorem dX2_reach_1 : decode cX2_reach 1 = .ok (.getfield 19, 3) := by decide +kernel
theorem dX2_reach_4 : decode cX2_reach 4 = .ok (.iconst 0, 1) := by decide +kernel
theorem dX2_reach_5 : decode cX2_reach 5 = .ok (.aload_n 0, 1) := by decide +kernel
theorem dX2_reach_6 : decode cX2_reach 6 = .ok (.getfield 9, 3) := by decide +kernel
theorem dX2_reach_9 : decode cX2_reach 9 = .ok (.iconst 0, 1) := by decide +kernel
theorem dX2_reach_10 : decode cX2_reach 10 = .ok (.bipush 6, 2) := by decide +kernel
theorem dX2_reach_12 : decode cX2_reach 12 = .ok (.invokestatic 22, 3) := by decide +kernel
theorem dX2_reach_15 : decode cX2_reach 15 = .ok (.aload_n 0, 1) := by decide +kernel
theorem dX2_reach_16 : decode cX2_reach 16 = .ok (.aload_n 3, 1) := by decide +kernel
theorem dX2_reach_17 : decode cX2_reach 17 = .ok (.aload_n 2, 1) := by decide +kernel
theorem dX2_reach_18 : decode cX2_reach 18 = .ok (.getfield 28, 3) := by decide +kernel
theorem dX2_reach_21 : decode cX2_reach 21 = .ok (.iconst 0, 1) := by decide +kernel
theorem dX2_reach_22 : decode cX2_reach 22 = .ok (.iaload, 1) := by decide +kernel
theorem dX2_reach_23 : decode cX2_reach 23 = .ok (.invokevirtual 31, 3) := by decide +kernel
theorem dX2_reach_26 : decode cX2_reach 26 = .ok (.iconst 1, 1) := by decide +kernel
theorem dX2_reach_27 : decode cX2_reach 27 = .ok (.istore 5, 2) := by decide +kernel
theorem dX2_reach_29 : decode cX2_reach 29 = .ok (.iload 5, 2) := by decide +kernel
theorem dX2_reach_31 : decode cX2_reach 31 = .ok (.iload 4, 2) := by decide +kernel
theorem dX2_reach_33 : decode cX2_reach 33 = .ok (.if_icmp .gt 26, 3) := by decide +kernel
theorem dX2_reach_36 : decode cX2_reach 36 = .ok (.aload_n 0, 1) := by decide +kernel
theorem dX2_reach_37 : decode cX2_reach 37 = .ok (.aload_n 1, 1) := by decide +kernel
theorem dX2_reach_38 : decode cX2_reach 38 = .ok (.invokevirtual 35, 3) := by decide +kernel
theorem dX2_reach_41 : decode cX2_reach 41 = .ok (.aload_n 0, 1) := by decide +kernel
theorem dX2_reach_42 : decode cX2_reach 42 = .ok (.aload_n 3, 1) := by decide +kernel
theorem dX2_reach_43 : decode cX2_reach 43 = .ok (.aload_n 2, 1) := by decide +kernel
theorem dX2_reach_44 : decode cX2_reach 44 = .ok (.getfield 28, 3) := by decide +kernel
theorem dX2_reach_47 : decode cX2_reach 47 = .ok (.iload 5, 2) := by decide +kernel
theorem dX2_reach_49 : decode cX2_reach 49 = .ok (.iaload, 1) := by decide +kernel
theorem dX2_reach_50 : decode cX2_reach 50 = .ok (.invokevirtual 31, 3) := by decide +kernel
theorem dX2_reach_53 : decode cX2_reach 53 = .ok (.iinc 5 1, 3) := by decide +kernel
theorem dX2_reach_56 : decode cX2_reach 56 = .ok (.goto (-27), 3) := by decide +kernel
theorem dX2_reach_59 : decode cX2_reach 59 = .ok (.return_, 1) := by decide +kernel
theorem dX2_beginQuarter_0 : decode cX2_beginQuarter 0 = .ok (.aload_n 0, 1) := by decide +kernel
theorem dX2_beginQuarter_1 : decode cX2_beginQuarter 1 = .ok (.aload_n 1, 1) := by decide +kernel
theorem dX2_beginQuarter_2 : decode cX2_beginQuarter 2 = .ok (.iload_n 2, 1) := by decide +kernel
theorem dX2_beginQuarter_3 : decode cX2_beginQuarter 3 = .ok (.invokevirtual 39, 3) := by decide +kernel
theorem dX2_beginQuarter_6 : decode cX2_beginQuarter 6 = .ok (.putfield 15, 3) := by decide +kernel
theorem dX2_beginQuarter_9 : decode cX2_beginQuarter 9 = .ok (.iconst 0, 1) := by decide +kernel
theorem dX2_beginQuarter_10 : decode cX2_beginQuarter 10 = .ok (.istore_n 3, 1) := by decide +kernel
theorem dX2_beginQuarter_11 : decode cX2_beginQuarter 11 = .ok (.iload_n 3, 1) := by decide +kernel
theorem dX2_beginQuarter_12 : decode cX2_beginQuarter 12 = .ok (.bipush 6, 2) := by decide +kernel
theorem dX2_beginQuarter_14 : decode cX2_beginQuarter 14 = .ok (.if_icmp .ge 34, 3) := by decide +kernel
theorem dX2_beginQuarter_17 : decode cX2_beginQuarter 17 = .ok (.aload_n 0, 1) := by decide +kernel
theorem dX2_beginQuarter_18 : decode cX2_beginQuarter 18 = .ok (.getfield 9, 3) := by decide +kernel
theorem dX2_beginQuarter_21 : decode cX2_beginQuarter 21 = .ok (.iload_n 3, 1) := by decide +kernel
theorem dX2_beginQuarter_22 : decode cX2_beginQuarter 22 = .ok (.iaload, 1) := by decide +kernel
theorem dX2_beginQuarter_23 : decode cX2_beginQuarter 23 = .ok (.bipush 9, 2) := by decide +kernel
theorem dX2_beginQuarter_25 : decode cX2_beginQuarter 25 = .ok (.if_icmp .lt 17, 3) := by decide +kernel
theorem dX2_beginQuarter_28 : decode cX2_beginQuarter 28 = .ok (.aload_n 0, 1) := by decide +kernel
theorem dX2_beginQuarter_29 : decode cX2_beginQuarter 29 = .ok (.dup, 1) := by decide +kernel
theorem dX2_beginQuarter_30 : decode cX2_beginQuarter 30 = .ok (.getfield 15, 3) := by decide +kernel
theorem dX2_beginQuarter_33 : decode cX2_beginQuarter 33 = .ok (.iconst 1, 1) := by decide +kernel
theorem dX2_beginQuarter_34 : decode cX2_beginQuarter 34 = .ok (.iload_n 3, 1) := by decide +kernel
theorem dX2_beginQuarter_35 : decode cX2_beginQuarter 35 = .ok (.ishl, 1) := by decide +kernel
theorem dX2_beginQuarter_36 : decode cX2_beginQuarter 36 = .ok (.iconst (-1), 1) := by decide +kernel
theorem dX2_beginQuarter_37 : decode cX2_beginQuarter 37 = .ok (.ixor, 1) := by decide +kernel
theorem dX2_beginQuarter_38 : decode cX2_beginQuarter 38 = .ok (.iand, 1) := by decide +kernel
theorem dX2_beginQuarter_39 : decode cX2_beginQuarter 39 = .ok (.putfield 15, 3) := by decide +kernel
theorem dX2_beginQuarter_42 : decode cX2_beginQuarter 42 = .ok (.iinc 3 1, 3) := by decide +kernel
theorem dX2_beginQuarter_45 : decode cX2_beginQuarter 45 = .ok (.goto (-34), 3) := by decide +kernel
theorem dX2_beginQuarter_48 : decode cX2_beginQuarter 48 = .ok (.return_, 1) := by decide +kernel
theorem dX2_pass_0 : decode cX2_pass 0 = .ok (.iconst 0, 1) := by decide +kernel
theorem dX2_pass_1 : decode cX2_pass 1 = .ok (.istore_n 2, 1) := by decide +kernel
theorem dX2_pass_2 : decode cX2_pass 2 = .ok (.iload_n 2, 1) := by decide +kernel
theorem dX2_pass_3 : decode cX2_pass 3 = .ok (.bipush 6, 2) := by decide +kernel
theorem dX2_pass_5 : decode cX2_pass 5 = .ok (.if_icmp .ge 79, 3) := by decide +kernel
theorem dX2_pass_8 : decode cX2_pass 8 = .ok (.aload_n 0, 1) := by decide +kernel
theorem dX2_pass_9 : decode cX2_pass 9 = .ok (.getfield 15, 3) := by decide +kernel
theorem dX2_pass_12 : decode cX2_pass 12 = .ok (.iload_n 2, 1) := by decide +kernel
theorem dX2_pass_13 : decode cX2_pass 13 = .ok (.ishr, 1) := by decide +kernel
theorem dX2_pass_14 : decode cX2_pass 14 = .ok (.iconst 1, 1) := by decide +kernel
theorem dX2_pass_15 : decode cX2_pass 15 = .ok (.iand, 1) := by decide +kernel
theorem dX2_pass_16 : decode cX2_pass 16 = .ok (.iconst 1, 1) := by decide +kernel
theorem dX2_pass_17 : decode cX2_pass 17 = .ok (.if_icmp .ne 43, 3) := by decide +kernel
theorem dX2_pass_20 : decode cX2_pass 20 = .ok (.aload_n 1, 1) := by decide +kernel
theorem dX2_pass_21 : decode cX2_pass 21 = .ok (.getfield 45, 3) := by decide +kernel
theorem dX2_pass_24 : decode cX2_pass 24 = .ok (.iload_n 2, 1) := by decide +kernel
theorem dX2_pass_25 : decode cX2_pass 25 = .ok (.iconst 2, 1) := by decide +kernel
theorem dX2_pass_26 : decode cX2_pass 26 = .ok (.idiv, 1) := by decide +kernel
theorem dX2_pass_27 : decode cX2_pass 27 = .ok (.iaload, 1) := by decide +kernel
theorem dX2_pass_28 : decode cX2_pass 28 = .ok (.iconst 2, 1) := by decide +kernel
theorem dX2_pass_29 : decode cX2_pass 29 = .ok (.if_icmp .ne 7, 3) := by decide +kernel
theorem dX2_pass_32 : decode cX2_pass 32 = .ok (.iconst 2, 1) := by decide +kernel
theorem dX2_pass_33 : decode cX2_pass 33 = .ok (.goto 4, 3) := by decide +kernel
theorem dX2_pass_36 : decode cX2_pass 36 = .ok (.iconst 1, 1) := by decide +kernel
theorem dX2_pass_37 : decode cX2_pass 37 = .ok (.istore_n 3, 1) := by decide +kernel
theorem dX2_pass_38 : decode cX2_pass 38 = .ok (.aload_n 0, 1) := by decide +kernel
theorem dX2_pass_39 : decode cX2_pass 39 = .ok (.getfield 9, 3) := by decide +kernel
theorem dX2_pass_42 : decode cX2_pass 42 = .ok (.iload_n 2, 1) := by decide +kernel
theorem dX2_pass_43 : decode cX2_pass 43 = .ok (.bipush 9, 2) := by decide +kernel
theorem dX2_pass_45 : decode cX2_pass 45 = .ok (.aload_n 0, 1) := by decide +kernel
theorem dX2_pass_46 : decode cX2_pass 46 = .ok (.getfield 9, 3) := by decide +kernel
theorem dX2_pass_49 : decode cX2_pass 49 = .ok (.iload_n 2, 1) := by decide +kernel
theorem dX2_pass_50 : decode cX2_pass 50 = .ok (.iaload, 1) := by decide +kernel
theorem dX2_pass_51 : decode cX2_pass 51 = .ok (.iload_n 3, 1) := by decide +kernel
theorem dX2_pass_52 : decode cX2_pass 52 = .ok (.iadd, 1) := by decide +kernel
theorem dX2_pass_53 : decode cX2_pass 53 = .ok (.invokestatic 50, 3) := by decide +kernel
theorem dX2_pass_56 : decode cX2_pass 56 = .ok (.iastore, 1) := by decide +kernel
theorem dX2_pass_57 : decode cX2_pass 57 = .ok (.goto 21, 3) := by decide +kernel
theorem dX2_pass_60 : decode cX2_pass 60 = .ok (.aload_n 0, 1) := by decide +kernel
theorem dX2_pass_61 : decode cX2_pass 61 = .ok (.getfield 9, 3) := by decide +kernel
theorem dX2_pass_64 : decode cX2_pass 64 = .ok (.iload_n 2, 1) := by decide +kernel
theorem dX2_pass_65 : decode cX2_pass 65 = .ok (.iconst 0, 1) := by decide +kernel
theorem dX2_pass_66 : decode cX2_pass 66 = .ok (.aload_n 0, 1) := by decide +kernel
theorem dX2_pass_67 : decode cX2_pass 67 = .ok (.getfield 9, 3) := by decide +kernel
theorem dX2_pass_70 : decode cX2_pass 70 = .ok (.iload_n 2, 1) := by decide +kernel
theorem dX2_pass_71 : decode cX2_pass 71 = .ok (.iaload, 1) := by decide +kernel
theorem dX2_pass_72 : decode cX2_pass 72 = .ok (.iconst 2, 1) := by decide +kernel
theorem dX2_pass_73 : decode cX2_pass 73 = .ok (.isub, 1) := by decide +kernel
theorem dX2_pass_74 : decode cX2_pass 74 = .ok (.invokestatic 56, 3) := by decide +kernel
theorem dX2_pass_77 : decode cX2_pass 77 = .ok (.iastore, 1) := by decide +kernel
theorem dX2_pass_78 : decode cX2_pass 78 = .ok (.iinc 2 1, 3) := by decide +kernel
theorem dX2_pass_81 : decode cX2_pass 81 = .ok (.goto (-79), 3) := by decide +kernel
theorem dX2_pass_84 : decode cX2_pass 84 = .ok (.return_, 1) := by decide +kernel
theorem dX3_init_0 : decode cX3_init 0 = .ok (.aload_n 0, 1) := by decide +kernel
theorem dX3_init_1 : decode cX3_init 1 = .ok (.invokespecial 3, 3) := by decide +kernel
theorem dX3_init_4 : decode cX3_init 4 = .ok (.aload_n 0, 1) := by decide +kernel
theorem dX3_init_5 : decode cX3_init 5 = .ok (.bipush 6, 2) := by decide +kernel
theorem dX3_init_7 : decode cX3_init 7 = .ok (.newarray .int, 2) := by decide +kernel
theorem dX3_init_9 : decode cX3_init 9 = .ok (.putfield 9, 3) := by decide +kernel
theorem dX3_init_12 : decode cX3_init 12 = .ok (.aload_n 0, 1) := by decide +kernel
theorem dX3_init_13 : decode cX3_init 13 = .ok (.iconst 0, 1) := by decide +kernel
theorem dX3_init_14 : decode cX3_init 14 = .ok (.putfield 15, 3) := by decide +kernel
theorem dX3_init_17 : decode cX3_init 17 = .ok (.aload_n 0, 1) := by decide +kernel
theorem dX3_init_18 : decode cX3_init 18 = .ok (.iconst 0, 1) := by decide +kernel
theorem dX3_init_19 : decode cX3_init 19 = .ok (.putfield 19, 3) := by decide +kernel
theorem dX3_init_22 : decode cX3_init 22 = .ok (.aload_n 0, 1) := by decide +kernel
theorem dX3_init_23 : decode cX3_init 23 = .ok (.iconst 0, 1) := by decide +kernel
theorem dX3_init_24 : decode cX3_init 24 = .ok (.putfield 22, 3) := by decide +kernel
theorem dX3_init_27 : decode cX3_init 27 = .ok (.aload_n 0, 1) := by decide +kernel
theorem dX3_init_28 : decode cX3_init 28 = .ok (.iconst 1, 1) := by decide +kernel
theorem dX3_init_29 : decode cX3_init 29 = .ok (.putfield 25, 3) := by decide +kernel
theorem dX3_init_32 : decode cX3_init 32 = .ok (.aload_n 0, 1) := by decide +kernel
theorem dX3_init_33 : decode cX3_init 33 = .ok (.bipush 6, 2) := by decide +kernel
theorem dX3_init_35 : decode cX3_init 35 = .ok (.newarray .int, 2) := by decide +kernel
theorem dX3_init_37 : decode cX3_init 37 = .ok (.putfield 28, 3) := by decide +kernel
theorem dX3_init_40 : decode cX3_init 40 = .ok (.aload_n 0, 1) := by decide +kernel
theorem dX3_init_41 : decode cX3_init 41 = .ok (.bipush 7, 2) := by decide +kernel
theorem dX3_init_43 : decode cX3_init 43 = .ok (.newarray .int, 2) := by decide +kernel
theorem dX3_init_45 : decode cX3_init 45 = .ok (.putfield 31, 3) := by decide +kernel
theorem dX3_init_48 : decode cX3_init 48 = .ok (.aload_n 0, 1) := by decide +kernel
theorem dX3_init_49 : decode cX3_init 49 = .ok (.bipush 6, 2) := by decide +kernel
theorem dX3_init_51 : decode cX3_init 51 = .ok (.newarray .int, 2) := by decide +kernel
theorem dX3_init_53 : decode cX3_init 53 = .ok (.putfield 34, 3) := by decide +kernel
theorem dX3_init_56 : decode cX3_init 56 = .ok (.aload_n 0, 1) := by decide +kernel
theorem dX3_init_57 : decode cX3_init 57 = .ok (.sipush 384, 3) := by decide +kernel
theorem dX3_init_60 : decode cX3_init 60 = .ok (.newarray .long, 2) := by decide +kernel
theorem dX3_init_62 : decode cX3_init 62 = .ok (.putfield 37, 3) := by decide +kernel
theorem dX3_init_65 : decode cX3_init 65 = .ok (.return_, 1) := by decide +kernel
theorem dX3_prepare_0 : decode cX3_prepare 0 = .ok (.aload_n 0, 1) := by decide +kernel
theorem dX3_prepare_1 : decode cX3_prepare 1 = .ok (.aload_n 1, 1) := by decide +kernel
theorem dX3_prepare_2 : decode cX3_prepare 2 = .ok (.getfield 41, 3) := by decide +kernel
theorem dX3_prepare_5 : decode cX3_prepare 5 = .ok (.putfield 15, 3) := by decide +kernel
theorem dX3_prepare_8 : decode cX3_prepare 8 = .ok (.aload_n 0, 1) := by decide +kernel
theorem dX3_prepare_9 : decode cX3_prepare 9 = .ok (.aload_n 3, 1) := by decide +kernel
theorem dX3_prepare_10 : decode cX3_prepare 10 = .ok (.getfield 44, 3) := by decide +kernel
theorem dX3_prepare_13 : decode cX3_prepare 13 = .ok (.aload_n 3, 1) := by decide +kernel
theorem dX3_prepare_14 : decode cX3_prepare 14 = .ok (.getfield 49, 3) := by decide +kernel
theorem dX3_prepare_17 : decode cX3_prepare 17 = .ok (.iconst (-1), 1) := by decide +kernel
theorem dX3_prepare_18 : decode cX3_prepare 18 = .ok (.ixor, 1) := by decide +kernel
theorem dX3_prepare_19 : decode cX3_prepare 19 = .ok (.iand, 1) := by decide +kernel
theorem dX3_prepare_20 : decode cX3_prepare 20 = .ok (.putfield 22, 3) := by decide +kernel
theorem dX3_prepare_23 : decode cX3_prepare 23 = .ok (.aload_n 0, 1) := by decide +kernel
theorem dX3_prepare_24 : decode cX3_prepare 24 = .ok (.getfield 22, 3) := by decide +kernel
theorem dX3_prepare_27 : decode cX3_prepare 27 = .ok (.aload_n 0, 1) := by decide +kernel
theorem dX3_prepare_28 : decode cX3_prepare 28 = .ok (.getfield 22, 3) := by decide +kernel
theorem dX3_prepare_31 : decode cX3_prepare 31 = .ok (.iconst 1, 1) := by decide +kernel
theorem dX3_prepare_32 : decode cX3_prepare 32 = .ok (.ishr, 1) := by decide +kernel
theorem dX3_prepare_33 : decode cX3_prepare 33 = .ok (.iand, 1) := by decide +kernel
theorem dX3_prepare_34 : decode cX3_prepare 34 = .ok (.bipush 21, 2) := by decide +kernel
theorem dX3_prepare_36 : decode cX3_prepare 36 = .ok (.iand, 1) := by decide +kernel
theorem dX3_prepare_37 : decode cX3_prepare 37 = .ok (.ifCond .eq 7, 3) := by decide +kernel
theorem dX3_prepare_40 : decode cX3_prepare 40 = .ok (.iconst 1, 1) := by decide +kernel
theorem dX3_prepare_41 : decode cX3_prepare 41 = .ok (.goto 4, 3) := by decide +kernel
theorem dX3_prepare_44 : decode cX3_prepare 44 = .ok (.iconst 0, 1) := by decide +kernel
theorem dX3_prepare_45 : decode cX3_prepare 45 = .ok (.istore 4, 2) := by decide +kernel
theorem dX3_prepare_47 : decode cX3_prepare 47 = .ok (.aload_n 0, 1) := by decide +kernel
theorem dX3_prepare_48 : decode cX3_prepare 48 = .ok (.iload 4, 2) := by decide +kernel
theorem dX3_prepare_50 : decode cX3_prepare 50 = .ok (.ifCond .eq 12, 3) := by decide +kernel
theorem dX3_prepare_53 : decode cX3_prepare 53 = .ok (.aload_n 0, 1) := by decide +kernel
theorem dX3_prepare_54 : decode cX3_prepare 54 = .ok (.getfield 15, 3) := by decide +kernel
theorem dX3_prepare_57 : decode cX3_prepare 57 = .ok (.iconst 2, 1) := by decide +kernel
theorem dX3_prepare_58 : decode cX3_prepare 58 = .ok (.idiv, 1) := by decide +kernel
theorem dX3_prepare_59 : decode cX3_prepare 59 = .ok (.goto 7, 3) := by decide +kernel
theorem dX3_prepare_62 : decode cX3_prepare 62 = .ok (.aload_n 0, 1) := by decide +kernel
theorem dX3_prepare_63 : decode cX3_prepare 63 = .ok (.getfield 15, 3) := by decide +kernel
theorem dX3_prepare_66 : decode cX3_prepare 66 = .ok (.putfield 19, 3) := by decide +kernel
theorem dX3_prepare_69 : decode cX3_prepare 69 = .ok (.aload_n 0, 1) := by decide +kernel
theorem dX3_prepare_70 : decode cX3_prepare 70 = .ok (.getfield 31, 3) := by decide +kernel
theorem dX3_prepare_73 : decode cX3_prepare 73 = .ok (.aload_n 0, 1) := by decide +kernel
theorem dX3_prepare_74 : decode cX3_prepare 74 = .ok (.getfield 15, 3) := by decide +kernel
theorem dX3_prepare_77 : decode cX3_prepare 77 = .ok (.iconst 0, 1) := by decide +kernel
theorem dX3_prepare_78 : decode cX3_prepare 78 = .ok (.iastore, 1) := by decide +kernel
theorem dX3_prepare_79 : decode cX3_prepare 79 = .ok (.aload_n 0, 1) := by decide +kernel
theorem dX3_prepare_80 : decode cX3_prepare 80 = .ok (.getfield 15, 3) := by decide +kernel
theorem dX3_prepare_83 : decode cX3_prepare 83 = .ok (.iconst 1, 1) := by decide +kernel
theorem dX3_prepare_84 : decode cX3_prepare 84 = .ok (.isub, 1) := by decide +kernel
theorem dX3_prepare_85 : decode cX3_prepare 85 = .ok (.istore 5, 2) := by decide +kernel
theorem dX3_prepare_87 : decode cX3_prepare 87 = .ok (.iload 5, 2) := by decide +kernel
theorem dX3_prepare_89 : decode cX3_prepare 89 = .ok (.ifCond .lt 17, 3) := by decide +kernel
theorem dX3_prepare_92 : decode cX3_prepare 92 = .ok (.aload_n 0, 1) := by decide +kernel
theorem dX3_prepare_93 : decode cX3_prepare 93 = .ok (.aload_n 2, 1) := by decide +kernel
theorem dX3_prepare_94 : decode cX3_prepare 94 = .ok (.aload_n 3, 1) := by decide +kernel
theorem dX3_prepare_95 : decode cX3_prepare 95 = .ok (.iload 5, 2) := by decide +kernel
theorem dX3_prepare_97 : decode cX3_prepare 97 = .ok (.invokevirtual 52, 3) := by decide +kernel
theorem dX3_prepare_100 : decode cX3_prepare 100 = .ok (.iinc 5 (-1), 3) := by decide +kernel
theorem dX3_prepare_103 : decode cX3_prepare 103 = .ok (.goto (-16), 3) := by decide +kernel
theorem dX3_prepare_106 : decode cX3_prepare 106 = .ok (.return_, 1) := by decide +kernel
theorem dX3_judge_0 : decode cX3_judge 0 = .ok (.iconst 0, 1) := by decide +kernel
theorem dX3_judge_1 : decode cX3_judge 1 = .ok (.istore 4, 2) := by decide +kernel
theorem dX3_judge_3 : decode cX3_judge 3 = .ok (.aload_n 0, 1) := by decide +kernel
theorem dX3_judge_4 : decode cX3_judge 4 = .ok (.getfield 28, 3) := by decide +kernel
theorem dX3_judge_7 : decode cX3_judge 7 = .ok (.iload_n 3, 1) := by decide +kernel
theorem dX3_judge_8 : decode cX3_judge 8 = .ok (.iconst 0, 1) := by decide +kernel
theorem dX3_judge_9 : decode cX3_judge 9 = .ok (.iastore, 1) := by decide +kernel
theorem dX3_judge_10 : decode cX3_judge 10 = .ok (.iconst 0, 1) := by decide +kernel
theorem dX3_judge_11 : decode cX3_judge 11 = .ok (.istore 5, 2) := by decide +kernel
theorem dX3_judge_13 : decode cX3_judge 13 = .ok (.iload 5, 2) := by decide +kernel
theorem dX3_judge_15 : decode cX3_judge 15 = .ok (.bipush 27, 2) := by decide +kernel
theorem dX3_judge_17 : decode cX3_judge 17 = .ok (.if_icmp .ge 94, 3) := by decide +kernel
theorem dX3_judge_20 : decode cX3_judge 20 = .ok (.getstatic 56, 3) := by decide +kernel
theorem dX3_judge_23 : decode cX3_judge 23 = .ok (.iload 5, 2) := by decide +kernel
theorem dX3_judge_25 : decode cX3_judge 25 = .ok (.iaload, 1) := by decide +kernel
theorem dX3_judge_26 : decode cX3_judge 26 = .ok (.aload_n 2, 1) := by decide +kernel
theorem dX3_judge_27 : decode cX3_judge 27 = .ok (.getfield 44, 3) := by decide +kernel
theorem dX3_judge_30 : decode cX3_judge 30 = .ok (.iconst (-1), 1) := by decide +kernel
theorem dX3_judge_31 : decode cX3_judge 31 = .ok (.ixor, 1) := by decide +kernel
theorem dX3_judge_32 : decode cX3_judge 32 = .ok (.iand, 1) := by decide +kernel
theorem dX3_judge_33 : decode cX3_judge 33 = .ok (.ifCond .ne 7, 3) := by decide +kernel
theorem dX3_judge_36 : decode cX3_judge 36 = .ok (.iconst 1, 1) := by decide +kernel
theorem dX3_judge_37 : decode cX3_judge 37 = .ok (.goto 4, 3) := by decide +kernel
theorem dX3_judge_40 : decode cX3_judge 40 = .ok (.iconst 0, 1) := by decide +kernel
theorem dX3_judge_41 : decode cX3_judge 41 = .ok (.istore 6, 2) := by decide +kernel
theorem dX3_judge_43 : decode cX3_judge 43 = .ok (.iload 6, 2) := by decide +kernel
theorem dX3_judge_45 : decode cX3_judge 45 = .ok (.ifCond .eq 60, 3) := by decide +kernel
theorem dX3_judge_48 : decode cX3_judge 48 = .ok (.aload_n 2, 1) := by decide +kernel
theorem dX3_judge_49 : decode cX3_judge 49 = .ok (.aload_n 1, 1) := by decide +kernel
theorem dX3_judge_50 : decode cX3_judge 50 = .ok (.getfield 59, 3) := by decide +kernel
theorem dX3_judge_53 : decode cX3_judge 53 = .ok (.aload_n 1, 1) := by decide +kernel
theorem dX3_judge_54 : decode cX3_judge 54 = .ok (.getfield 64, 3) := by decide +kernel
theorem dX3_judge_57 : decode cX3_judge 57 = .ok (.iload_n 3, 1) := by decide +kernel
theorem dX3_judge_58 : decode cX3_judge 58 = .ok (.iaload, 1) := by decide +kernel
theorem dX3_judge_59 : decode cX3_judge 59 = .ok (.aload_n 2, 1) := by decide +kernel
theorem dX3_judge_60 : decode cX3_judge 60 = .ok (.iload 5, 2) := by decide +kernel
theorem dX3_judge_62 : decode cX3_judge 62 = .ok (.invokevirtual 67, 3) := by decide +kernel
theorem dX3_judge_65 : decode cX3_judge 65 = .ok (.invokevirtual 71, 3) := by decide +kernel
theorem dX3_judge_68 : decode cX3_judge 68 = .ok (.ifCond .ne 37, 3) := by decide +kernel
theorem dX3_judge_71 : decode cX3_judge 71 = .ok (.aload_n 0, 1) := by decide +kernel
theorem dX3_judge_72 : decode cX3_judge 72 = .ok (.getfield 28, 3) := by decide +kernel
theorem dX3_judge_75 : decode cX3_judge 75 = .ok (.iload_n 3, 1) := by decide +kernel
theorem dX3_judge_76 : decode cX3_judge 76 = .ok (.dup2, 1) := by decide +kernel
theorem dX3_judge_77 : decode cX3_judge 77 = .ok (.iaload, 1) := by decide +kernel
theorem dX3_judge_78 : decode cX3_judge 78 = .ok (.iconst 1, 1) := by decide +kernel
theorem dX3_judge_79 : decode cX3_judge 79 = .ok (.iload 5, 2) := by decide +kernel
theorem dX3_judge_81 : decode cX3_judge 81 = .ok (.ishl, 1) := by decide +kernel
theorem dX3_judge_82 : decode cX3_judge 82 = .ok (.ior, 1) := by decide +kernel
theorem dX3_judge_83 : decode cX3_judge 83 = .ok (.iastore, 1) := by decide +kernel
theorem dX3_judge_84 : decode cX3_judge 84 = .ok (.iload 4, 2) := by decide +kernel
theorem dX3_judge_86 : decode cX3_judge 86 = .ok (.getstatic 56, 3) := by decide +kernel
theorem dX3_judge_89 : decode cX3_judge 89 = .ok (.iload 5, 2) := by decide +kernel
theorem dX3_judge_91 : decode cX3_judge 91 = .ok (.iaload, 1) := by decide +kernel
theorem dX3_judge_92 : decode cX3_judge 92 = .ok (.aload_n 0, 1) := by decide +kernel
theorem dX3_judge_93 : decode cX3_judge 93 = .ok (.getfield 22, 3) := by decide +kernel
theorem dX3_judge_96 : decode cX3_judge 96 = .ok (.iand, 1) := by decide +kernel
theorem dX3_judge_97 : decode cX3_judge 97 = .ok (.invokestatic 75, 3) := by decide +kernel
theorem dX3_judge_100 : decode cX3_judge 100 = .ok (.invokestatic 80, 3) := by decide +kernel
theorem dX3_judge_103 : decode cX3_judge 103 = .ok (.istore 4, 2) := by decide +kernel
theorem dX3_judge_105 : decode cX3_judge 105 = .ok (.iinc 5 1, 3) := by decide +kernel
theorem dX3_judge_108 : decode cX3_judge 108 = .ok (.goto (-95), 3) := by decide +kernel
theorem dX3_judge_111 : decode cX3_judge 111 = .ok (.aload_n 0, 1) := by decide +kernel
theorem dX3_judge_112 : decode cX3_judge 112 = .ok (.getfield 31, 3) := by decide +kernel
theorem dX3_judge_115 : decode cX3_judge 115 = .ok (.iload_n 3, 1) := by decide +kernel
theorem dX3_judge_116 : decode cX3_judge 116 = .ok (.aload_n 0, 1) := by decide +kernel
theorem dX3_judge_117 : decode cX3_judge 117 = .ok (.getfield 31, 3) := by decide +kernel
theorem dX3_judge_120 : decode cX3_judge 120 = .ok (.iload_n 3, 1) := by decide +kernel
theorem dX3_judge_121 : decode cX3_judge 121 = .ok (.iconst 1, 1) := by decide +kernel
theorem dX3_judge_122 : decode cX3_judge 122 = .ok (.iadd, 1) := by decide +kernel
theorem dX3_judge_123 : decode cX3_judge 123 = .ok (.iaload, 1) := by decide +kernel
theorem dX3_judge_124 : decode cX3_judge 124 = .ok (.iload 4, 2) := by decide +kernel
theorem dX3_judge_126 : decode cX3_judge 126 = .ok (.iadd, 1) := by decide +kernel
theorem dX3_judge_127 : decode cX3_judge 127 = .ok (.iastore, 1) := by decide +kernel
theorem dX3_judge_128 : decode cX3_judge 128 = .ok (.return_, 1) := by decide +kernel
theorem dX3_greatest_0 : decode cX3_greatest 0 = .ok (.iload_n 1, 1) := by decide +kernel
theorem dX3_greatest_1 : decode cX3_greatest 1 = .ok (.istore_n 2, 1) := by decide +kernel
theorem dX3_greatest_2 : decode cX3_greatest 2 = .ok (.iload_n 2, 1) := by decide +kernel
theorem dX3_greatest_3 : decode cX3_greatest 3 = .ok (.aload_n 0, 1) := by decide +kernel
theorem dX3_greatest_4 : decode cX3_greatest 4 = .ok (.getfield 19, 3) := by decide +kernel
theorem dX3_greatest_7 : decode cX3_greatest 7 = .ok (.if_icmp .ge 19, 3) := by decide +kernel
theorem dX3_greatest_10 : decode cX3_greatest 10 = .ok (.aload_n 0, 1) := by decide +kernel
theorem dX3_greatest_11 : decode cX3_greatest 11 = .ok (.iload_n 2, 1) := by decide +kernel
theorem dX3_greatest_12 : decode cX3_greatest 12 = .ok (.iconst 1, 1) := by decide +kernel
theorem dX3_greatest_13 : decode cX3_greatest 13 = .ok (.iadd, 1) := by decide +kernel
theorem dX3_greatest_14 : decode cX3_greatest 14 = .ok (.invokevirtual 86, 3) := by decide +kernel
theorem dX3_greatest_17 : decode cX3_greatest 17 = .ok (.ifCond .eq 9, 3) := by decide +kernel
theorem dX3_greatest_20 : decode cX3_greatest 20 = .ok (.iinc 2 1, 3) := by decide +kernel
theorem dX3_greatest_23 : decode cX3_greatest 23 = .ok (.goto (-21), 3) := by decide +kernel
theorem dX3_greatest_26 : decode cX3_greatest 26 = .ok (.iload_n 2, 1) := by decide +kernel
theorem dX3_greatest_27 : decode cX3_greatest 27 = .ok (.ireturn, 1) := by decide +kernel
theorem dX3_find_0 : decode cX3_find 0 = .ok (.aload_n 0, 1) := by decide +kernel
theorem dX3_find_1 : decode cX3_find 1 = .ok (.iload_n 1, 1) := by decide +kernel
theorem dX3_find_2 : decode cX3_find 2 = .ok (.iconst 1, 1) := by decide +kernel
theorem dX3_find_3 : decode cX3_find 3 = .ok (.iadd, 1) := by decide +kernel
theorem dX3_find_4 : decode cX3_find 4 = .ok (.putfield 25, 3) := by decide +kernel
theorem dX3_find_7 : decode cX3_find 7 = .ok (.iconst 1, 1) := by decide +kernel
theorem dX3_find_8 : decode cX3_find 8 = .ok (.istore_n 2, 1) := by decide +kernel
theorem dX3_find_9 : decode cX3_find 9 = .ok (.iconst 0, 1) := by decide +kernel
theorem dX3_find_10 : decode cX3_find 10 = .ok (.istore_n 3, 1) := by decide +kernel
theorem dX3_find_11 : decode cX3_find 11 = .ok (.iload_n 3, 1) := by decide +kernel
theorem dX3_find_12 : decode cX3_find 12 = .ok (.bipush 6, 2) := by decide +kernel
theorem dX3_find_14 : decode cX3_find 14 = .ok (.if_icmp .ge 60, 3) := by decide +kernel
theorem dX3_find_17 : decode cX3_find 17 = .ok (.aload_n 0, 1) := by decide +kernel
theorem dX3_find_18 : decode cX3_find 18 = .ok (.getfield 22, 3) := by decide +kernel
theorem dX3_find_21 : decode cX3_find 21 = .ok (.iload_n 3, 1) := by decide +kernel
theorem dX3_find_22 : decode cX3_find 22 = .ok (.ishr, 1) := by decide +kernel
theorem dX3_find_23 : decode cX3_find 23 = .ok (.iconst 1, 1) := by decide +kernel
theorem dX3_find_24 : decode cX3_find 24 = .ok (.iand, 1) := by decide +kernel
theorem dX3_find_25 : decode cX3_find 25 = .ok (.iconst 1, 1) := by decide +kernel
theorem dX3_find_26 : decode cX3_find 26 = .ok (.if_icmp .ne 7, 3) := by decide +kernel
theorem dX3_find_29 : decode cX3_find 29 = .ok (.iconst 1, 1) := by decide +kernel
theorem dX3_find_30 : decode cX3_find 30 = .ok (.goto 4, 3) := by decide +kernel
theorem dX3_find_33 : decode cX3_find 33 = .ok (.iconst 0, 1) := by decide +kernel
theorem dX3_find_34 : decode cX3_find 34 = .ok (.istore 4, 2) := by decide +kernel
theorem dX3_find_36 : decode cX3_find 36 = .ok (.aload_n 0, 1) := by decide +kernel
theorem dX3_find_37 : decode cX3_find 37 = .ok (.getfield 34, 3) := by decide +kernel
theorem dX3_find_40 : decode cX3_find 40 = .ok (.iload_n 3, 1) := by decide +kernel
theorem dX3_find_41 : decode cX3_find 41 = .ok (.iload 4, 2) := by decide +kernel
theorem dX3_find_43 : decode cX3_find 43 = .ok (.ifCond .eq 7, 3) := by decide +kernel
theorem dX3_find_46 : decode cX3_find 46 = .ok (.iload_n 2, 1) := by decide +kernel
theorem dX3_find_47 : decode cX3_find 47 = .ok (.goto 4, 3) := by decide +kernel
theorem dX3_find_50 : decode cX3_find 50 = .ok (.iconst 0, 1) := by decide +kernel
theorem dX3_find_51 : decode cX3_find 51 = .ok (.iastore, 1) := by decide +kernel
theorem dX3_find_52 : decode cX3_find 52 = .ok (.iload_n 2, 1) := by decide +kernel
theorem dX3_find_53 : decode cX3_find 53 = .ok (.iload 4, 2) := by decide +kernel
theorem dX3_find_55 : decode cX3_find 55 = .ok (.ifCond .eq 10, 3) := by decide +kernel
theorem dX3_find_58 : decode cX3_find 58 = .ok (.aload_n 0, 1) := by decide +kernel
theorem dX3_find_59 : decode cX3_find 59 = .ok (.getfield 25, 3) := by decide +kernel
theorem dX3_find_62 : decode cX3_find 62 = .ok (.goto 4, 3) := by decide +kernel
theorem dX3_find_65 : decode cX3_find 65 = .ok (.iconst 1, 1) := by decide +kernel
theorem dX3_find_66 : decode cX3_find 66 = .ok (.imul, 1) := by decide +kernel
theorem dX3_find_67 : decode cX3_find 67 = .ok (.istore_n 2, 1) := by decide +kernel
theorem dX3_find_68 : decode cX3_find 68 = .ok (.iinc 3 1, 3) := by decide +kernel
theorem dX3_find_71 : decode cX3_find 71 = .ok (.goto (-60), 3) := by decide +kernel
theorem dX3_find_74 : decode cX3_find 74 = .ok (.iload_n 2, 1) := by decide +kernel
theorem dX3_find_75 : decode cX3_find 75 = .ok (.sipush 4096, 3) := by decide +kernel
theorem dX3_find_78 : decode cX3_find 78 = .ok (.if_icmp .le 5, 3) := by decide +kernel
theorem dX3_find_81 : decode cX3_find 81 = .ok (.iconst 0, 1) := by decide +kernel
theorem dX3_find_82 : decode cX3_find 82 = .ok (.ireturn, 1) := by decide +kernel
theorem dX3_find_83 : decode cX3_find 83 = .ok (.aload_n 0, 1) := by decide +kernel
theorem dX3_find_84 : decode cX3_find 84 = .ok (.getfield 37, 3) := by decide +kernel
theorem dX3_find_87 : decode cX3_find 87 = .ok (.lconst 0, 1) := by decide +kernel
theorem dX3_find_88 : decode cX3_find 88 = .ok (.invokestatic 90, 3) := by decide +kernel
theorem dX3_find_91 : decode cX3_find 91 = .ok (.aload_n 0, 1) := by decide +kernel
theorem dX3_find_92 : decode cX3_find 92 = .ok (.iconst 0, 1) := by decide +kernel
theorem dX3_find_93 : decode cX3_find 93 = .ok (.iload_n 2, 1) := by decide +kernel
theorem dX3_find_94 : decode cX3_find 94 = .ok (.iconst 1, 1) := by decide +kernel
theorem dX3_find_95 : decode cX3_find 95 = .ok (.isub, 1) := by decide +kernel
theorem dX3_find_96 : decode cX3_find 96 = .ok (.invokestatic 96, 3) := by decide +kernel
theorem dX3_find_99 : decode cX3_find 99 = .ok (.ireturn, 1) := by decide +kernel
theorem dX3_reach_0 : decode cX3_reach 0 = .ok (.iload_n 1, 1) := by decide +kernel
theorem dX3_reach_1 : decode cX3_reach 1 = .ok (.aload_n 0, 1) := by decide +kernel
theorem dX3_reach_2 : decode cX3_reach 2 = .ok (.getfield 15, 3) := by decide +kernel
theorem dX3_reach_5 : decode cX3_reach 5 = .ok (.if_icmp .ge 9, 3) := by decide +kernel
theorem dX3_reach_8 : decode cX3_reach 8 = .ok (.iload_n 1, 1) := by decide +kernel
theorem dX3_reach_9 : decode cX3_reach 9 = .ok (.bipush 6, 2) := by decide +kernel
theorem dX3_reach_11 : decode cX3_reach 11 = .ok (.if_icmp .lt 13, 3) := by decide +kernel
theorem dX3_reach_14 : decode cX3_reach 14 = .ok (.iload_n 2, 1) := by decide +kernel
theorem dX3_reach_15 : decode cX3_reach 15 = .ok (.ifCond .ne 7, 3) := by decide +kernel
theorem dX3_reach_18 : decode cX3_reach 18 = .ok (.iconst 1, 1) := by decide +kernel
theorem dX3_reach_19 : decode cX3_reach 19 = .ok (.goto 4, 3) := by decide +kernel
theorem dX3_reach_22 : decode cX3_reach 22 = .ok (.iconst 0, 1) := by decide +kernel
theorem dX3_reach_23 : decode cX3_reach 23 = .ok (.ireturn, 1) := by decide +kernel
theorem dX3_reach_24 : decode cX3_reach 24 = .ok (.iload_n 1, 1) := by decide +kernel
theorem dX3_reach_25 : decode cX3_reach 25 = .ok (.sipush 4096, 3) := by decide +kernel
theorem dX3_reach_28 : decode cX3_reach 28 = .ok (.imul, 1) := by decide +kernel
theorem dX3_reach_29 : decode cX3_reach 29 = .ok (.iload_n 2, 1) := by decide +kernel
theorem dX3_reach_30 : decode cX3_reach 30 = .ok (.iadd, 1) := by decide +kernel
theorem dX3_reach_31 : decode cX3_reach 31 = .ok (.istore_n 3, 1) := by decide +kernel
theorem dX3_reach_32 : decode cX3_reach 32 = .ok (.aload_n 0, 1) := by decide +kernel
theorem dX3_reach_33 : decode cX3_reach 33 = .ok (.getfield 37, 3) := by decide +kernel
theorem dX3_reach_36 : decode cX3_reach 36 = .ok (.iload_n 3, 1) := by decide +kernel
theorem dX3_reach_37 : decode cX3_reach 37 = .ok (.bipush 6, 2) := by decide +kernel
theorem dX3_reach_39 : decode cX3_reach 39 = .ok (.ishr, 1) := by decide +kernel
theorem dX3_reach_40 : decode cX3_reach 40 = .ok (.laload, 1) := by decide +kernel
theorem dX3_reach_41 : decode cX3_reach 41 = .ok (.iload_n 3, 1) := by decide +kernel
theorem dX3_reach_42 : decode cX3_reach 42 = .ok (.bipush 63, 2) := by decide +kernel
theorem dX3_reach_44 : decode cX3_reach 44 = .ok (.iand, 1) := by decide +kernel
theorem dX3_reach_45 : decode cX3_reach 45 = .ok (.lshr, 1) := by decide +kernel
theorem dX3_reach_46 : decode cX3_reach 46 = .ok (.lconst 1, 1) := by decide +kernel
theorem dX3_reach_47 : decode cX3_reach 47 = .ok (.land, 1) := by decide +kernel
theorem dX3_reach_48 : decode cX3_reach 48 = .ok (.lconst 1, 1) := by decide +kernel
theorem dX3_reach_49 : decode cX3_reach 49 = .ok (.lcmp, 1) := by decide +kernel
theorem dX3_reach_50 : decode cX3_reach 50 = .ok (.ifCond .ne 5, 3) := by decide +kernel
theorem dX3_reach_53 : decode cX3_reach 53 = .ok (.iconst 0, 1) := by decide +kernel
theorem dX3_reach_54 : decode cX3_reach 54 = .ok (.ireturn, 1) := by decide +kernel
theorem dX3_reach_55 : decode cX3_reach 55 = .ok (.iconst 0, 1) := by decide +kernel
theorem dX3_reach_56 : decode cX3_reach 56 = .ok (.istore 4, 2) := by decide +kernel
theorem dX3_reach_58 : decode cX3_reach 58 = .ok (.iload 4, 2) := by decide +kernel
theorem dX3_reach_60 : decode cX3_reach 60 = .ok (.bipush 27, 2) := by decide +kernel
theorem dX3_reach_62 : decode cX3_reach 62 = .ok (.if_icmp .ge 67, 3) := by decide +kernel
theorem dX3_reach_65 : decode cX3_reach 65 = .ok (.aload_n 0, 1) := by decide +kernel
theorem dX3_reach_66 : decode cX3_reach 66 = .ok (.getfield 28, 3) := by decide +kernel
theorem dX3_reach_69 : decode cX3_reach 69 = .ok (.iload_n 1, 1) := by decide +kernel
theorem dX3_reach_70 : decode cX3_reach 70 = .ok (.iaload, 1) := by decide +kernel
theorem dX3_reach_71 : decode cX3_reach 71 = .ok (.iload 4, 2) := by decide +kernel
theorem dX3_reach_73 : decode cX3_reach 73 = .ok (.ishr, 1) := by decide +kernel
theorem dX3_reach_74 : decode cX3_reach 74 = .ok (.iconst 1, 1) := by decide +kernel
theorem dX3_reach_75 : decode cX3_reach 75 = .ok (.iand, 1) := by decide +kernel
theorem dX3_reach_76 : decode cX3_reach 76 = .ok (.iconst 1, 1) := by decide +kernel
theorem dX3_reach_77 : decode cX3_reach 77 = .ok (.if_icmp .ne 46, 3) := by decide +kernel
theorem dX3_reach_80 : decode cX3_reach 80 = .ok (.aload_n 0, 1) := by decide +kernel
theorem dX3_reach_81 : decode cX3_reach 81 = .ok (.iload_n 2, 1) := by decide +kernel
theorem dX3_reach_82 : decode cX3_reach 82 = .ok (.iload 4, 2) := by decide +kernel
theorem dX3_reach_84 : decode cX3_reach 84 = .ok (.invokevirtual 100, 3) := by decide +kernel
theorem dX3_reach_87 : decode cX3_reach 87 = .ok (.istore 5, 2) := by decide +kernel
theorem dX3_reach_89 : decode cX3_reach 89 = .ok (.aload_n 0, 1) := by decide +kernel
theorem dX3_reach_90 : decode cX3_reach 90 = .ok (.getfield 9, 3) := by decide +kernel
theorem dX3_reach_93 : decode cX3_reach 93 = .ok (.iload_n 1, 1) := by decide +kernel
theorem dX3_reach_94 : decode cX3_reach 94 = .ok (.iload 4, 2) := by decide +kernel
theorem dX3_reach_96 : decode cX3_reach 96 = .ok (.iastore, 1) := by decide +kernel
theorem dX3_reach_97 : decode cX3_reach 97 = .ok (.aload_n 0, 1) := by decide +kernel
theorem dX3_reach_98 : decode cX3_reach 98 = .ok (.iload_n 1, 1) := by decide +kernel
theorem dX3_reach_99 : decode cX3_reach 99 = .ok (.iconst 1, 1) := by decide +kernel
theorem dX3_reach_100 : decode cX3_reach 100 = .ok (.iadd, 1) := by decide +kernel
theorem dX3_reach_101 : decode cX3_reach 101 = .ok (.iload 5, 2) := by decide +kernel
theorem dX3_reach_103 : decode cX3_reach 103 = .ok (.invokevirtual 103, 3) := by decide +kernel
theorem dX3_reach_106 : decode cX3_reach 106 = .ok (.ifCond .eq 17, 3) := by decide +kernel
theorem dX3_reach_109 : decode cX3_reach 109 = .ok (.aload_n 0, 1) := by decide +kernel
theorem dX3_reach_110 : decode cX3_reach 110 = .ok (.iload_n 1, 1) := by decide +kernel
theorem dX3_reach_111 : decode cX3_reach 111 = .ok (.iconst 1, 1) := by decide +kernel
theorem dX3_reach_112 : decode cX3_reach 112 = .ok (.iadd, 1) := by decide +kernel
theorem dX3_reach_113 : decode cX3_reach 113 = .ok (.iload 5, 2) := by decide +kernel
theorem dX3_reach_115 : decode cX3_reach 115 = .ok (.invokestatic 96, 3) := by decide +kernel
theorem dX3_reach_118 : decode cX3_reach 118 = .ok (.ifCond .eq 5, 3) := by decide +kernel
theorem dX3_reach_121 : decode cX3_reach 121 = .ok (.iconst 1, 1) := by decide +kernel
theorem dX3_reach_122 : decode cX3_reach 122 = .ok (.ireturn, 1) := by decide +kernel
theorem dX3_reach_123 : decode cX3_reach 123 = .ok (.iinc 4 1, 3) := by decide +kernel
theorem dX3_reach_126 : decode cX3_reach 126 = .ok (.goto (-68), 3) := by decide +kernel
theorem dX3_reach_129 : decode cX3_reach 129 = .ok (.aload_n 0, 1) := by decide +kernel
theorem dX3_reach_130 : decode cX3_reach 130 = .ok (.getfield 37, 3) := by decide +kernel
theorem dX3_reach_133 : decode cX3_reach 133 = .ok (.iload_n 3, 1) := by decide +kernel
theorem dX3_reach_134 : decode cX3_reach 134 = .ok (.bipush 6, 2) := by decide +kernel
theorem dX3_reach_136 : decode cX3_reach 136 = .ok (.ishr, 1) := by decide +kernel
theorem dX3_reach_137 : decode cX3_reach 137 = .ok (.dup2, 1) := by decide +kernel
theorem dX3_reach_138 : decode cX3_reach 138 = .ok (.laload, 1) := by decide +kernel
theorem dX3_reach_139 : decode cX3_reach 139 = .ok (.lconst 1, 1) := by decide +kernel
theorem dX3_reach_140 : decode cX3_reach 140 = .ok (.iload_n 3, 1) := by decide +kernel
theorem dX3_reach_141 : decode cX3_reach 141 = .ok (.bipush 63, 2) := by decide +kernel
theorem dX3_reach_143 : decode cX3_reach 143 = .ok (.iand, 1) := by decide +kernel
theorem dX3_reach_144 : decode cX3_reach 144 = .ok (.lshl, 1) := by decide +kernel
theorem dX3_reach_145 : decode cX3_reach 145 = .ok (.lor, 1) := by decide +kernel
theorem dX3_reach_146 : decode cX3_reach 146 = .ok (.lastore, 1) := by decide +kernel
theorem dX3_reach_147 : decode cX3_reach 147 = .ok (.iconst 0, 1) := by decide +kernel
theorem dX3_reach_148 : decode cX3_reach 148 = .ok (.ireturn, 1) := by decide +kernel
theorem dX3_lack_0 : decode cX3_lack 0 = .ok (.aload_n 0, 1) := by decide +kernel
theorem dX3_lack_1 : decode cX3_lack 1 = .ok (.getfield 34, 3) := by decide +kernel
theorem dX3_lack_4 : decode cX3_lack 4 = .ok (.iload_n 1, 1) := by decide +kernel
theorem dX3_lack_5 : decode cX3_lack 5 = .ok (.iaload, 1) := by decide +kernel
theorem dX3_lack_6 : decode cX3_lack 6 = .ok (.ifCond .le 26, 3) := by decide +kernel
theorem dX3_lack_9 : decode cX3_lack 9 = .ok (.aload_n 0, 1) := by decide +kernel
theorem dX3_lack_10 : decode cX3_lack 10 = .ok (.getfield 25, 3) := by decide +kernel
theorem dX3_lack_13 : decode cX3_lack 13 = .ok (.ifCond .le 19, 3) := by decide +kernel
theorem dX3_lack_16 : decode cX3_lack 16 = .ok (.iload_n 2, 1) := by decide +kernel
theorem dX3_lack_17 : decode cX3_lack 17 = .ok (.aload_n 0, 1) := by decide +kernel
theorem dX3_lack_18 : decode cX3_lack 18 = .ok (.getfield 34, 3) := by decide +kernel
theorem dX3_lack_21 : decode cX3_lack 21 = .ok (.iload_n 1, 1) := by decide +kernel
theorem dX3_lack_22 : decode cX3_lack 22 = .ok (.iaload, 1) := by decide +kernel
theorem dX3_lack_23 : decode cX3_lack 23 = .ok (.idiv, 1) := by decide +kernel
theorem dX3_lack_24 : decode cX3_lack 24 = .ok (.aload_n 0, 1) := by decide +kernel
theorem dX3_lack_25 : decode cX3_lack 25 = .ok (.getfield 25, 3) := by decide +kernel
theorem dX3_lack_28 : decode cX3_lack 28 = .ok (.irem, 1) := by decide +kernel
theorem dX3_lack_29 : decode cX3_lack 29 = .ok (.goto 4, 3) := by decide +kernel
theorem dX3_lack_32 : decode cX3_lack 32 = .ok (.iconst 0, 1) := by decide +kernel
theorem dX3_lack_33 : decode cX3_lack 33 = .ok (.ireturn, 1) := by decide +kernel
theorem dX3_codeBehind_0 : decode cX3_codeBehind 0 = .ok (.iload_n 1, 1) := by decide +kernel
theorem dX3_codeBehind_1 : decode cX3_codeBehind 1 = .ok (.istore_n 3, 1) := by decide +kernel
theorem dX3_codeBehind_2 : decode cX3_codeBehind 2 = .ok (.iconst 0, 1) := by decide +kernel
theorem dX3_codeBehind_3 : decode cX3_codeBehind 3 = .ok (.istore 4, 2) := by decide +kernel
theorem dX3_codeBehind_5 : decode cX3_codeBehind 5 = .ok (.iload 4, 2) := by decide +kernel
theorem dX3_codeBehind_7 : decode cX3_codeBehind 7 = .ok (.bipush 6, 2) := by decide +kernel
theorem dX3_codeBehind_9 : decode cX3_codeBehind 9 = .ok (.if_icmp .ge 43, 3) := by decide +kernel
theorem dX3_codeBehind_12 : decode cX3_codeBehind 12 = .ok (.getstatic 56, 3) := by decide +kernel
theorem dX3_codeBehind_15 : decode cX3_codeBehind 15 = .ok (.iload_n 2, 1) := by decide +kernel
theorem dX3_codeBehind_16 : decode cX3_codeBehind 16 = .ok (.iaload, 1) := by decide +kernel
theorem dX3_codeBehind_17 : decode cX3_codeBehind 17 = .ok (.iload 4, 2) := by decide +kernel
theorem dX3_codeBehind_19 : decode cX3_codeBehind 19 = .ok (.ishr, 1) := by decide +kernel
theorem dX3_codeBehind_20 : decode cX3_codeBehind 20 = .ok (.iconst 1, 1) := by decide +kernel
theorem dX3_codeBehind_21 : decode cX3_codeBehind 21 = .ok (.iand, 1) := by decide +kernel
theorem dX3_codeBehind_22 : decode cX3_codeBehind 22 = .ok (.iconst 1, 1) := by decide +kernel
theorem dX3_codeBehind_23 : decode cX3_codeBehind 23 = .ok (.if_icmp .ne 23, 3) := by decide +kernel
theorem dX3_codeBehind_26 : decode cX3_codeBehind 26 = .ok (.aload_n 0, 1) := by decide +kernel
theorem dX3_codeBehind_27 : decode cX3_codeBehind 27 = .ok (.iload 4, 2) := by decide +kernel
theorem dX3_codeBehind_29 : decode cX3_codeBehind 29 = .ok (.iload_n 1, 1) := by decide +kernel
theorem dX3_codeBehind_30 : decode cX3_codeBehind 30 = .ok (.invokevirtual 107, 3) := by decide +kernel
theorem dX3_codeBehind_33 : decode cX3_codeBehind 33 = .ok (.ifCond .le 13, 3) := by decide +kernel
theorem dX3_codeBehind_36 : decode cX3_codeBehind 36 = .ok (.iload_n 3, 1) := by decide +kernel
theorem dX3_codeBehind_37 : decode cX3_codeBehind 37 = .ok (.aload_n 0, 1) := by decide +kernel
theorem dX3_codeBehind_38 : decode cX3_codeBehind 38 = .ok (.getfield 34, 3) := by decide +kernel
theorem dX3_codeBehind_41 : decode cX3_codeBehind 41 = .ok (.iload 4, 2) := by decide +kernel
theorem dX3_codeBehind_43 : decode cX3_codeBehind 43 = .ok (.iaload, 1) := by decide +kernel
theorem dX3_codeBehind_44 : decode cX3_codeBehind 44 = .ok (.isub, 1) := by decide +kernel
theorem dX3_codeBehind_45 : decode cX3_codeBehind 45 = .ok (.istore_n 3, 1) := by decide +kernel
theorem dX3_codeBehind_46 : decode cX3_codeBehind 46 = .ok (.iinc 4 1, 3) := by decide +kernel
theorem dX3_codeBehind_49 : decode cX3_codeBehind 49 = .ok (.goto (-44), 3) := by decide +kernel
theorem dX3_codeBehind_52 : decode cX3_codeBehind 52 = .ok (.iload_n 3, 1) := by decide +kernel
theorem dX3_codeBehind_53 : decode cX3_codeBehind 53 = .ok (.ireturn, 1) := by decide +kernel
theorem dX3_hasTime_0 : decode cX3_hasTime 0 = .ok (.iconst 0, 1) := by decide +kernel
theorem dX3_hasTime_1 : decode cX3_hasTime 1 = .ok (.istore_n 3, 1) := by decide +kernel
theorem dX3_hasTime_2 : decode cX3_hasTime 2 = .ok (.iconst 0, 1) := by decide +kernel
theorem dX3_hasTime_3 : decode cX3_hasTime 3 = .ok (.istore 4, 2) := by decide +kernel
theorem dX3_hasTime_5 : decode cX3_hasTime 5 = .ok (.iload 4, 2) := by decide +kernel
theorem dX3_hasTime_7 : decode cX3_hasTime 7 = .ok (.iconst 3, 1) := by decide +kernel
theorem dX3_hasTime_8 : decode cX3_hasTime 8 = .ok (.if_icmp .ge 50, 3) := by decide +kernel
theorem dX3_hasTime_11 : decode cX3_hasTime 11 = .ok (.aload_n 0, 1) := by decide +kernel
theorem dX3_hasTime_12 : decode cX3_hasTime 12 = .ok (.iconst 2, 1) := by decide +kernel
theorem dX3_hasTime_13 : decode cX3_hasTime 13 = .ok (.iload 4, 2) := by decide +kernel
theorem dX3_hasTime_15 : decode cX3_hasTime 15 = .ok (.imul, 1) := by decide +kernel
theorem dX3_hasTime_16 : decode cX3_hasTime 16 = .ok (.iload_n 2, 1) := by decide +kernel
theorem dX3_hasTime_17 : decode cX3_hasTime 17 = .ok (.invokevirtual 107, 3) := by decide +kernel
theorem dX3_hasTime_20 : decode cX3_hasTime 20 = .ok (.aload_n 0, 1) := by decide +kernel
theorem dX3_hasTime_21 : decode cX3_hasTime 21 = .ok (.iconst 2, 1) := by decide +kernel
theorem dX3_hasTime_22 : decode cX3_hasTime 22 = .ok (.iload 4, 2) := by decide +kernel
theorem dX3_hasTime_24 : decode cX3_hasTime 24 = .ok (.imul, 1) := by decide +kernel
theorem dX3_hasTime_25 : decode cX3_hasTime 25 = .ok (.iconst 1, 1) := by decide +kernel
theorem dX3_hasTime_26 : decode cX3_hasTime 26 = .ok (.iadd, 1) := by decide +kernel
theorem dX3_hasTime_27 : decode cX3_hasTime 27 = .ok (.iload_n 2, 1) := by decide +kernel
theorem dX3_hasTime_28 : decode cX3_hasTime 28 = .ok (.invokevirtual 107, 3) := by decide +kernel
theorem dX3_hasTime_31 : decode cX3_hasTime 31 = .ok (.iadd, 1) := by decide +kernel
theorem dX3_hasTime_32 : decode cX3_hasTime 32 = .ok (.istore 5, 2) := by decide +kernel
theorem dX3_hasTime_34 : decode cX3_hasTime 34 = .ok (.iload 5, 2) := by decide +kernel
theorem dX3_hasTime_36 : decode cX3_hasTime 36 = .ok (.aload_n 0, 1) := by decide +kernel
theorem dX3_hasTime_37 : decode cX3_hasTime 37 = .ok (.getfield 15, 3) := by decide +kernel
theorem dX3_hasTime_40 : decode cX3_hasTime 40 = .ok (.iload_n 1, 1) := by decide +kernel
theorem dX3_hasTime_41 : decode cX3_hasTime 41 = .ok (.isub, 1) := by decide +kernel
theorem dX3_hasTime_42 : decode cX3_hasTime 42 = .ok (.if_icmp .le 5, 3) := by decide +kernel
theorem dX3_hasTime_45 : decode cX3_hasTime 45 = .ok (.iconst 0, 1) := by decide +kernel
theorem dX3_hasTime_46 : decode cX3_hasTime 46 = .ok (.ireturn, 1) := by decide +kernel
theorem dX3_hasTime_47 : decode cX3_hasTime 47 = .ok (.iload_n 3, 1) := by decide +kernel
theorem dX3_hasTime_48 : decode cX3_hasTime 48 = .ok (.iload 5, 2) := by decide +kernel
theorem dX3_hasTime_50 : decode cX3_hasTime 50 = .ok (.iadd, 1) := by decide +kernel
theorem dX3_hasTime_51 : decode cX3_hasTime 51 = .ok (.istore_n 3, 1) := by decide +kernel
theorem dX3_hasTime_52 : decode cX3_hasTime 52 = .ok (.iinc 4 1, 3) := by decide +kernel
theorem dX3_hasTime_55 : decode cX3_hasTime 55 = .ok (.goto (-50), 3) := by decide +kernel
theorem dX3_hasTime_58 : decode cX3_hasTime 58 = .ok (.iload_n 3, 1) := by decide +kernel
theorem dX3_hasTime_59 : decode cX3_hasTime 59 = .ok (.aload_n 0, 1) := by decide +kernel
theorem dX3_hasTime_60 : decode cX3_hasTime 60 = .ok (.getfield 31, 3) := by decide +kernel
theorem dX3_hasTime_63 : decode cX3_hasTime 63 = .ok (.iload_n 1, 1) := by decide +kernel
theorem dX3_hasTime_64 : decode cX3_hasTime 64 = .ok (.iaload, 1) := by decide +kernel
theorem dX3_hasTime_65 : decode cX3_hasTime 65 = .ok (.if_icmp .gt 7, 3) := by decide +kernel
theorem dX3_hasTime_68 : decode cX3_hasTime 68 = .ok (.iconst 1, 1) := by decide +kernel
theorem dX3_hasTime_69 : decode cX3_hasTime 69 = .ok (.goto 4, 3) := by decide +kernel
theorem dX3_hasTime_72 : decode cX3_hasTime 72 = .ok (.iconst 0, 1) := by decide +kernel
theorem dX3_hasTime_73 : decode cX3_hasTime 73 = .ok (.ireturn, 1) := by decide +kernel
theorem dX4_init_0 : decode cX4_init 0 = .ok (.aload_n 0, 1) := by decide +kernel
theorem dX4_init_1 : decode cX4_init 1 = .ok (.invokespecial 3, 3) := by decide +kernel
theorem dX4_init_4 : decode cX4_init 4 = .ok (.aload_n 0, 1) := by decide +kernel
theorem dX4_init_5 : decode cX4_init 5 = .ok (.iconst 3, 1) := by decide +kernel
theorem dX4_init_6 : decode cX4_init 6 = .ok (.newarray .int, 2) := by decide +kernel
theorem dX4_init_8 : decode cX4_init 8 = .ok (.putfield 9, 3) := by decide +kernel
theorem dX4_init_11 : decode cX4_init 11 = .ok (.aload_n 0, 1) := by decide +kernel
theorem dX4_init_12 : decode cX4_init 12 = .ok (.bipush 6, 2) := by decide +kernel
theorem dX4_init_14 : decode cX4_init 14 = .ok (.newarray .int, 2) := by decide +kernel
theorem dX4_init_16 : decode cX4_init 16 = .ok (.putfield 15, 3) := by decide +kernel
theorem dX4_init_19 : decode cX4_init 19 = .ok (.aload_n 0, 1) := by decide +kernel
theorem dX4_init_20 : decode cX4_init 20 = .ok (.iconst 4, 1) := by decide +kernel
theorem dX4_init_21 : decode cX4_init 21 = .ok (.newarray .int, 2) := by decide +kernel
theorem dX4_init_23 : decode cX4_init 23 = .ok (.putfield 18, 3) := by decide +kernel
theorem dX4_init_26 : decode cX4_init 26 = .ok (.aload_n 0, 1) := by decide +kernel
theorem dX4_init_27 : decode cX4_init 27 = .ok (.bipush 6, 2) := by decide +kernel
theorem dX4_init_29 : decode cX4_init 29 = .ok (.newarray .int, 2) := by decide +kernel
theorem dX4_init_31 : decode cX4_init 31 = .ok (.putfield 21, 3) := by decide +kernel
theorem dX4_init_34 : decode cX4_init 34 = .ok (.aload_n 0, 1) := by decide +kernel
theorem dX4_init_35 : decode cX4_init 35 = .ok (.bipush 6, 2) := by decide +kernel
theorem dX4_init_37 : decode cX4_init 37 = .ok (.newarray .int, 2) := by decide +kernel
theorem dX4_init_39 : decode cX4_init 39 = .ok (.putfield 24, 3) := by decide +kernel
theorem dX4_init_42 : decode cX4_init 42 = .ok (.aload_n 0, 1) := by decide +kernel
theorem dX4_init_43 : decode cX4_init 43 = .ok (.bipush 8, 2) := by decide +kernel
theorem dX4_init_45 : decode cX4_init 45 = .ok (.newarray .int, 2) := by decide +kernel
theorem dX4_init_47 : decode cX4_init 47 = .ok (.putfield 27, 3) := by decide +kernel
theorem dX4_init_50 : decode cX4_init 50 = .ok (.aload_n 0, 1) := by decide +kernel
theorem dX4_init_51 : decode cX4_init 51 = .ok (.iconst 0, 1) := by decide +kernel
theorem dX4_init_52 : decode cX4_init 52 = .ok (.putfield 30, 3) := by decide +kernel
theorem dX4_init_55 : decode cX4_init 55 = .ok (.return_, 1) := by decide +kernel
theorem dX4_become_0 : decode cX4_become 0 = .ok (.aload_n 1, 1) := by decide +kernel
theorem dX4_become_1 : decode cX4_become 1 = .ok (.getfield 9, 3) := by decide +kernel
theorem dX4_become_4 : decode cX4_become 4 = .ok (.iconst 0, 1) := by decide +kernel
theorem dX4_become_5 : decode cX4_become 5 = .ok (.aload_n 0, 1) := by decide +kernel
theorem dX4_become_6 : decode cX4_become 6 = .ok (.getfield 9, 3) := by decide +kernel
theorem dX4_become_9 : decode cX4_become 9 = .ok (.iconst 0, 1) := by decide +kernel
theorem dX4_become_10 : decode cX4_become 10 = .ok (.iconst 3, 1) := by decide +kernel
theorem dX4_become_11 : decode cX4_become 11 = .ok (.invokestatic 34, 3) := by decide +kernel
theorem dX4_become_14 : decode cX4_become 14 = .ok (.aload_n 1, 1) := by decide +kernel
theorem dX4_become_15 : decode cX4_become 15 = .ok (.getfield 15, 3) := by decide +kernel
theorem dX4_become_18 : decode cX4_become 18 = .ok (.iconst 0, 1) := by decide +kernel
theorem dX4_become_19 : decode cX4_become 19 = .ok (.aload_n 0, 1) := by decide +kernel
theorem dX4_become_20 : decode cX4_become 20 = .ok (.getfield 15, 3) := by decide +kernel
theorem dX4_become_23 : decode cX4_become 23 = .ok (.iconst 0, 1) := by decide +kernel
theorem dX4_become_24 : decode cX4_become 24 = .ok (.bipush 6, 2) := by decide +kernel
theorem dX4_become_26 : decode cX4_become 26 = .ok (.invokestatic 34, 3) := by decide +kernel
theorem dX4_become_29 : decode cX4_become 29 = .ok (.aload_n 1, 1) := by decide +kernel
theorem dX4_become_30 : decode cX4_become 30 = .ok (.getfield 18, 3) := by decide +kernel
theorem dX4_become_33 : decode cX4_become 33 = .ok (.iconst 0, 1) := by decide +kernel
theorem dX4_become_34 : decode cX4_become 34 = .ok (.aload_n 0, 1) := by decide +kernel
theorem dX4_become_35 : decode cX4_become 35 = .ok (.getfield 18, 3) := by decide +kernel
theorem dX4_become_38 : decode cX4_become 38 = .ok (.iconst 0, 1) := by decide +kernel
theorem dX4_become_39 : decode cX4_become 39 = .ok (.iconst 4, 1) := by decide +kernel
theorem dX4_become_40 : decode cX4_become 40 = .ok (.invokestatic 34, 3) := by decide +kernel
theorem dX4_become_43 : decode cX4_become 43 = .ok (.aload_n 1, 1) := by decide +kernel
theorem dX4_become_44 : decode cX4_become 44 = .ok (.getfield 21, 3) := by decide +kernel
theorem dX4_become_47 : decode cX4_become 47 = .ok (.iconst 0, 1) := by decide +kernel
theorem dX4_become_48 : decode cX4_become 48 = .ok (.aload_n 0, 1) := by decide +kernel
theorem dX4_become_49 : decode cX4_become 49 = .ok (.getfield 21, 3) := by decide +kernel
theorem dX4_become_52 : decode cX4_become 52 = .ok (.iconst 0, 1) := by decide +kernel
theorem dX4_become_53 : decode cX4_become 53 = .ok (.bipush 6, 2) := by decide +kernel
theorem dX4_become_55 : decode cX4_become 55 = .ok (.invokestatic 34, 3) := by decide +kernel
theorem dX4_become_58 : decode cX4_become 58 = .ok (.aload_n 1, 1) := by decide +kernel
theorem dX4_become_59 : decode cX4_become 59 = .ok (.getfield 24, 3) := by decide +kernel
theorem dX4_become_62 : decode cX4_become 62 = .ok (.iconst 0, 1) := by decide +kernel
theorem dX4_become_63 : decode cX4_become 63 = .ok (.aload_n 0, 1) := by decide +kernel
theorem dX4_become_64 : decode cX4_become 64 = .ok (.getfield 24, 3) := by decide +kernel
theorem dX4_become_67 : decode cX4_become 67 = .ok (.iconst 0, 1) := by decide +kernel
theorem dX4_become_68 : decode cX4_become 68 = .ok (.bipush 6, 2) := by decide +kernel
theorem dX4_become_70 : decode cX4_become 70 = .ok (.invokestatic 34, 3) := by decide +kernel
theorem dX4_become_73 : decode cX4_become 73 = .ok (.aload_n 1, 1) := by decide +kernel
theorem dX4_become_74 : decode cX4_become 74 = .ok (.getfield 27, 3) := by decide +kernel
theorem dX4_become_77 : decode cX4_become 77 = .ok (.iconst 0, 1) := by decide +kernel
theorem dX4_become_78 : decode cX4_become 78 = .ok (.aload_n 0, 1) := by decide +kernel
theorem dX4_become_79 : decode cX4_become 79 = .ok (.getfield 27, 3) := by decide +kernel
theorem dX4_become_82 : decode cX4_become 82 = .ok (.iconst 0, 1) := by decide +kernel
theorem dX4_become_83 : decode cX4_become 83 = .ok (.bipush 8, 2) := by decide +kernel
theorem dX4_become_85 : decode cX4_become 85 = .ok (.invokestatic 34, 3) := by decide +kernel
theorem dX4_become_88 : decode cX4_become 88 = .ok (.aload_n 0, 1) := by decide +kernel
theorem dX4_become_89 : decode cX4_become 89 = .ok (.aload_n 1, 1) := by decide +kernel
theorem dX4_become_90 : decode cX4_become 90 = .ok (.getfield 30, 3) := by decide +kernel
theorem dX4_become_93 : decode cX4_become 93 = .ok (.putfield 30, 3) := by decide +kernel
theorem dX4_become_96 : decode cX4_become 96 = .ok (.return_, 1) := by decide +kernel
theorem dX4_empty_0 : decode cX4_empty 0 = .ok (.aload_n 0, 1) := by decide +kernel
theorem dX4_empty_1 : decode cX4_empty 1 = .ok (.getfield 9, 3) := by decide +kernel
theorem dX4_empty_4 : decode cX4_empty 4 = .ok (.iconst 0, 1) := by decide +kernel
theorem dX4_empty_5 : decode cX4_empty 5 = .ok (.invokestatic 40, 3) := by decide +kernel
theorem dX4_empty_8 : decode cX4_empty 8 = .ok (.aload_n 0, 1) := by decide +kernel
theorem dX4_empty_9 : decode cX4_empty 9 = .ok (.getfield 15, 3) := by decide +kernel
theorem dX4_empty_12 : decode cX4_empty 12 = .ok (.iconst 0, 1) := by decide +kernel
theorem dX4_empty_13 : decode cX4_empty 13 = .ok (.invokestatic 40, 3) := by decide +kernel
theorem dX4_empty_16 : decode cX4_empty 16 = .ok (.aload_n 0, 1) := by decide +kernel
theorem dX4_empty_17 : decode cX4_empty 17 = .ok (.getfield 18, 3) := by decide +kernel
theorem dX4_empty_20 : decode cX4_empty 20 = .ok (.iconst 0, 1) := by decide +kernel
theorem dX4_empty_21 : decode cX4_empty 21 = .ok (.invokestatic 40, 3) := by decide +kernel
theorem dX4_empty_24 : decode cX4_empty 24 = .ok (.aload_n 0, 1) := by decide +kernel
theorem dX4_empty_25 : decode cX4_empty 25 = .ok (.getfield 21, 3) := by decide +kernel
theorem dX4_empty_28 : decode cX4_empty 28 = .ok (.iconst 0, 1) := by decide +kernel
theorem dX4_empty_29 : decode cX4_empty 29 = .ok (.invokestatic 40, 3) := by decide +kernel
theorem dX4_empty_32 : decode cX4_empty 32 = .ok (.aload_n 0, 1) := by decide +kernel
theorem dX4_empty_33 : decode cX4_empty 33 = .ok (.getfield 24, 3) := by decide +kernel
theorem dX4_empty_36 : decode cX4_empty 36 = .ok (.iconst 0, 1) := by decide +kernel
theorem dX4_empty_37 : decode cX4_empty 37 = .ok (.invokestatic 40, 3) := by decide +kernel
theorem dX4_empty_40 : decode cX4_empty 40 = .ok (.aload_n 0, 1) := by decide +kernel
theorem dX4_empty_41 : decode cX4_empty 41 = .ok (.iconst 0, 1) := by decide +kernel
theorem dX4_empty_42 : decode cX4_empty 42 = .ok (.putfield 30, 3) := by decide +kernel
theorem dX4_empty_45 : decode cX4_empty 45 = .ok (.return_, 1) := by decide +kernel
theorem dX4_storms_0 : decode cX4_storms 0 = .ok (.iconst 0, 1) := by decide +kernel
theorem dX4_storms_1 : decode cX4_storms 1 = .ok (.istore_n 1, 1) := by decide +kernel
theorem dX4_storms_2 : decode cX4_storms 2 = .ok (.iconst 0, 1) := by decide +kernel
theorem dX4_storms_3 : decode cX4_storms 3 = .ok (.istore_n 2, 1) := by decide +kernel
theorem dX4_storms_4 : decode cX4_storms 4 = .ok (.iload_n 2, 1) := by decide +kernel
theorem dX4_storms_5 : decode cX4_storms 5 = .ok (.bipush 6, 2) := by decide +kernel
theorem dX4_storms_7 : decode cX4_storms 7 = .ok (.if_icmp .ge 21, 3) := by decide +kernel
theorem dX4_storms_10 : decode cX4_storms 10 = .ok (.iload_n 1, 1) := by decide +kernel
theorem dX4_storms_11 : decode cX4_storms 11 = .ok (.aload_n 0, 1) := by decide +kernel
theorem dX4_storms_12 : decode cX4_storms 12 = .ok (.getfield 21, 3) := by decide +kernel
theorem dX4_storms_15 : decode cX4_storms 15 = .ok (.iload_n 2, 1) := by decide +kernel
theorem dX4_storms_16 : decode cX4_storms 16 = .ok (.iaload, 1) := by decide +kernel
theorem dX4_storms_17 : decode cX4_storms 17 = .ok (.invokestatic 46, 3) := by decide +kernel
theorem dX4_storms_20 : decode cX4_storms 20 = .ok (.iadd, 1) := by decide +kernel
theorem dX4_storms_21 : decode cX4_storms 21 = .ok (.istore_n 1, 1) := by decide +kernel
theorem dX4_storms_22 : decode cX4_storms 22 = .ok (.iinc 2 1, 3) := by decide +kernel
theorem dX4_storms_25 : decode cX4_storms 25 = .ok (.goto (-21), 3) := by decide +kernel
theorem dX4_storms_28 : decode cX4_storms 28 = .ok (.iload_n 1, 1) := by decide +kernel
theorem dX4_storms_29 : decode cX4_storms 29 = .ok (.ireturn, 1) := by decide +kernel
theorem dX5_init_0 : decode cX5_init 0 = .ok (.aload_n 0, 1) := by decide +kernel
theorem dX5_init_1 : decode cX5_init 1 = .ok (.invokespecial 3, 3) := by decide +kernel
theorem dX5_init_4 : decode cX5_init 4 = .ok (.aload_n 0, 1) := by decide +kernel
theorem dX5_init_5 : decode cX5_init 5 = .ok (.sipush 320, 3) := by decide +kernel
theorem dX5_init_8 : decode cX5_init 8 = .ok (.newarray .byte, 2) := by decide +kernel
theorem dX5_init_10 : decode cX5_init 10 = .ok (.putfield 11, 3) := by decide +kernel
theorem dX5_init_13 : decode cX5_init 13 = .ok (.aload_n 0, 1) := by decide +kernel
theorem dX5_init_14 : decode cX5_init 14 = .ok (.iconst 0, 1) := by decide +kernel
theorem dX5_init_15 : decode cX5_init 15 = .ok (.putfield 15, 3) := by decide +kernel
theorem dX5_init_18 : decode cX5_init 18 = .ok (.aload_n 0, 1) := by decide +kernel
theorem dX5_init_19 : decode cX5_init 19 = .ok (.iconst 0, 1) := by decide +kernel
theorem dX5_init_20 : decode cX5_init 20 = .ok (.putfield 19, 3) := by decide +kernel
theorem dX5_init_23 : decode cX5_init 23 = .ok (.aload_n 0, 1) := by decide +kernel
theorem dX5_init_24 : decode cX5_init 24 = .ok (.iconst 0, 1) := by decide +kernel
theorem dX5_init_25 : decode cX5_init 25 = .ok (.putfield 22, 3) := by decide +kernel
theorem dX5_init_28 : decode cX5_init 28 = .ok (.aload_n 0, 1) := by decide +kernel
theorem dX5_init_29 : decode cX5_init 29 = .ok (.iconst 0, 1) := by decide +kernel
theorem dX5_init_30 : decode cX5_init 30 = .ok (.putfield 25, 3) := by decide +kernel
theorem dX5_init_33 : decode cX5_init 33 = .ok (.aload_n 0, 1) := by decide +kernel
theorem dX5_init_34 : decode cX5_init 34 = .ok (.new 28, 3) := by decide +kernel
theorem dX5_init_37 : decode cX5_init 37 = .ok (.dup, 1) := by decide +kernel
theorem dX5_init_38 : decode cX5_init 38 = .ok (.invokespecial 30, 3) := by decide +kernel
theorem dX5_init_41 : decode cX5_init 41 = .ok (.putfield 31, 3) := by decide +kernel
theorem dX5_init_44 : decode cX5_init 44 = .ok (.aload_n 0, 1) := by decide +kernel
theorem dX5_init_45 : decode cX5_init 45 = .ok (.new 35, 3) := by decide +kernel
theorem dX5_init_48 : decode cX5_init 48 = .ok (.dup, 1) := by decide +kernel
theorem dX5_init_49 : decode cX5_init 49 = .ok (.invokespecial 37, 3) := by decide +kernel
theorem dX5_init_52 : decode cX5_init 52 = .ok (.putfield 38, 3) := by decide +kernel
theorem dX5_init_55 : decode cX5_init 55 = .ok (.aload_n 0, 1) := by decide +kernel
theorem dX5_init_56 : decode cX5_init 56 = .ok (.iconst 0, 1) := by decide +kernel
theorem dX5_init_57 : decode cX5_init 57 = .ok (.putfield 42, 3) := by decide +kernel
theorem dX5_init_60 : decode cX5_init 60 = .ok (.aload_n 0, 1) := by decide +kernel
theorem dX5_init_61 : decode cX5_init 61 = .ok (.iconst 0, 1) := by decide +kernel
theorem dX5_init_62 : decode cX5_init 62 = .ok (.putfield 45, 3) := by decide +kernel
theorem dX5_init_65 : decode cX5_init 65 = .ok (.aload_n 0, 1) := by decide +kernel
theorem dX5_init_66 : decode cX5_init 66 = .ok (.iconst 0, 1) := by decide +kernel
theorem dX5_init_67 : decode cX5_init 67 = .ok (.putfield 48, 3) := by decide +kernel
theorem dX5_init_70 : decode cX5_init 70 = .ok (.aload_n 0, 1) := by decide +kernel
theorem dX5_init_71 : decode cX5_init 71 = .ok (.iconst 0, 1) := by decide +kernel
theorem dX5_init_72 : decode cX5_init 72 = .ok (.putfield 51, 3) := by decide +kernel
theorem dX5_init_75 : decode cX5_init 75 = .ok (.aload_n 0, 1) := by decide +kernel
theorem dX5_init_76 : decode cX5_init 76 = .ok (.iconst 0, 1) := by decide +kernel
theorem dX5_init_77 : decode cX5_init 77 = .ok (.putfield 54, 3) := by decide +kernel
theorem dX5_init_80 : decode cX5_init 80 = .ok (.aload_n 0, 1) := by decide +kernel
theorem dX5_init_81 : decode cX5_init 81 = .ok (.iconst 0, 1) := by decide +kernel
theorem dX5_init_82 : decode cX5_init 82 = .ok (.putfield 58, 3) := by decide +kernel
theorem dX5_init_85 : decode cX5_init 85 = .ok (.aload_n 0, 1) := by decide +kernel
theorem dX5_init_86 : decode cX5_init 86 = .ok (.iconst 0, 1) := by decide +kernel
theorem dX5_init_87 : decode cX5_init 87 = .ok (.putfield 61, 3) := by decide +kernel
theorem dX5_init_90 : decode cX5_init 90 = .ok (.aload_n 0, 1) := by decide +kernel
theorem dX5_init_91 : decode cX5_init 91 = .ok (.iconst 0, 1) := by decide +kernel
theorem dX5_init_92 : decode cX5_init 92 = .ok (.putfield 64, 3) := by decide +kernel
theorem dX5_init_95 : decode cX5_init 95 = .ok (.return_, 1) := by decide +kernel
theorem dX5_append_0 : decode cX5_append 0 = .ok (.aload_n 0, 1) := by decide +kernel
theorem dX5_append_1 : decode cX5_append 1 = .ok (.getfield 15, 3) := by decide +kernel
theorem dX5_append_4 : decode cX5_append 4 = .ok (.bipush 8, 2) := by decide +kernel
theorem dX5_append_6 : decode cX5_append 6 = .ok (.iadd, 1) := by decide +kernel
theorem dX5_append_7 : decode cX5_append 7 = .ok (.sipush 320, 3) := by decide +kernel
theorem dX5_append_10 : decode cX5_append 10 = .ok (.if_icmp .le 6, 3) := by decide +kernel
theorem dX5_append_13 : decode cX5_append 13 = .ok (.bipush (-3), 2) := by decide +kernel
theorem dX5_append_15 : decode cX5_append 15 = .ok (.ireturn, 1) := by decide +kernel
theorem dX5_append_16 : decode cX5_append 16 = .ok (.bipush 56, 2) := by decide +kernel
theorem dX5_append_18 : decode cX5_append 18 = .ok (.istore_n 3, 1) := by decide +kernel
theorem dX5_append_19 : decode cX5_append 19 = .ok (.iload_n 3, 1) := by decide +kernel
theorem dX5_append_20 : decode cX5_append 20 = .ok (.ifCond .lt 33, 3) := by decide +kernel
theorem dX5_append_23 : decode cX5_append 23 = .ok (.aload_n 0, 1) := by decide +kernel
theorem dX5_append_24 : decode cX5_append 24 = .ok (.getfield 11, 3) := by decide +kernel
theorem dX5_append_27 : decode cX5_append 27 = .ok (.aload_n 0, 1) := by decide +kernel
theorem dX5_append_28 : decode cX5_append 28 = .ok (.getfield 15, 3) := by decide +kernel
theorem dX5_append_31 : decode cX5_append 31 = .ok (.lload_n 1, 1) := by decide +kernel
theorem dX5_append_32 : decode cX5_append 32 = .ok (.iload_n 3, 1) := by decide +kernel
theorem dX5_append_33 : decode cX5_append 33 = .ok (.lshr, 1) := by decide +kernel
theorem dX5_append_34 : decode cX5_append 34 = .ok (.l2i, 1) := by decide +kernel
theorem dX5_append_35 : decode cX5_append 35 = .ok (.i2b, 1) := by decide +kernel
theorem dX5_append_36 : decode cX5_append 36 = .ok (.bastore, 1) := by decide +kernel
theorem dX5_append_37 : decode cX5_append 37 = .ok (.aload_n 0, 1) := by decide +kernel
theorem dX5_append_38 : decode cX5_append 38 = .ok (.dup, 1) := by decide +kernel
theorem dX5_append_39 : decode cX5_append 39 = .ok (.getfield 15, 3) := by decide +kernel
theorem dX5_append_42 : decode cX5_append 42 = .ok (.iconst 1, 1) := by decide +kernel
theorem dX5_append_43 : decode cX5_append 43 = .ok (.iadd, 1) := by decide +kernel
theorem dX5_append_44 : decode cX5_append 44 = .ok (.putfield 15, 3) := by decide +kernel
theorem dX5_append_47 : decode cX5_append 47 = .ok (.iinc 3 (-8), 3) := by decide +kernel
theorem dX5_append_50 : decode cX5_append 50 = .ok (.goto (-31), 3) := by decide +kernel
theorem dX5_append_53 : decode cX5_append 53 = .ok (.aload_n 0, 1) := by decide +kernel
theorem dX5_append_54 : decode cX5_append 54 = .ok (.getfield 15, 3) := by decide +kernel
theorem dX5_append_57 : decode cX5_append 57 = .ok (.ireturn, 1) := by decide +kernel
theorem dX5_readAll_0 : decode cX5_readAll 0 = .ok (.aload_n 0, 1) := by decide +kernel
theorem dX5_readAll_1 : decode cX5_readAll 1 = .ok (.invokevirtual 67, 3) := by decide +kernel
theorem dX5_readAll_4 : decode cX5_readAll 4 = .ok (.iconst 0, 1) := by decide +kernel
theorem dX5_readAll_5 : decode cX5_readAll 5 = .ok (.istore_n 1, 1) := by decide +kernel
theorem dX5_readAll_6 : decode cX5_readAll 6 = .ok (.iload_n 1, 1) := by decide +kernel
theorem dX5_readAll_7 : decode cX5_readAll 7 = .ok (.sipush 320, 3) := by decide +kernel
theorem dX5_readAll_10 : decode cX5_readAll 10 = .ok (.if_icmp .gt 49, 3) := by decide +kernel
theorem dX5_readAll_13 : decode cX5_readAll 13 = .ok (.aload_n 0, 1) := by decide +kernel
theorem dX5_readAll_14 : decode cX5_readAll 14 = .ok (.invokevirtual 70, 3) := by decide +kernel
theorem dX5_readAll_17 : decode cX5_readAll 17 = .ok (.ifCond .ne 5, 3) := by decide +kernel
theorem dX5_readAll_20 : decode cX5_readAll 20 = .ok (.iconst 0, 1) := by decide +kernel
theorem dX5_readAll_21 : decode cX5_readAll 21 = .ok (.ireturn, 1) := by decide +kernel
theorem dX5_readAll_22 : decode cX5_readAll 22 = .ok (.aload_n 0, 1) := by decide +kernel
theorem dX5_readAll_23 : decode cX5_readAll 23 = .ok (.getfield 42, 3) := by decide +kernel
theorem dX5_readAll_26 : decode cX5_readAll 26 = .ok (.ifCond .ne 8, 3) := by decide +kernel
theorem dX5_readAll_29 : decode cX5_readAll 29 = .ok (.aload_n 0, 1) := by decide +kernel
theorem dX5_readAll_30 : decode cX5_readAll 30 = .ok (.invokevirtual 74, 3) := by decide +kernel
theorem dX5_readAll_33 : decode cX5_readAll 33 = .ok (.ireturn, 1) := by decide +kernel
theorem dX5_readAll_34 : decode cX5_readAll 34 = .ok (.aload_n 0, 1) := by decide +kernel
theorem dX5_readAll_35 : decode cX5_readAll 35 = .ok (.invokevirtual 77, 3) := by decide +kernel
theorem dX5_readAll_38 : decode cX5_readAll 38 = .ok (.ifCond .ne 5, 3) := by decide +kernel
theorem dX5_readAll_41 : decode cX5_readAll 41 = .ok (.iconst 0, 1) := by decide +kernel
theorem dX5_readAll_42 : decode cX5_readAll 42 = .ok (.ireturn, 1) := by decide +kernel
theorem dX5_readAll_43 : decode cX5_readAll 43 = .ok (.aload_n 0, 1) := by decide +kernel
theorem dX5_readAll_44 : decode cX5_readAll 44 = .ok (.dup, 1) := by decide +kernel
theorem dX5_readAll_45 : decode cX5_readAll 45 = .ok (.getfield 25, 3) := by decide +kernel
theorem dX5_readAll_48 : decode cX5_readAll 48 = .ok (.iconst 1, 1) := by decide +kernel
theorem dX5_readAll_49 : decode cX5_readAll 49 = .ok (.iadd, 1) := by decide +kernel
theorem dX5_readAll_50 : decode cX5_readAll 50 = .ok (.putfield 25, 3) := by decide +kernel
theorem dX5_readAll_53 : decode cX5_readAll 53 = .ok (.iinc 1 1, 3) := by decide +kernel
theorem dX5_readAll_56 : decode cX5_readAll 56 = .ok (.goto (-50), 3) := by decide +kernel
theorem dX5_readAll_59 : decode cX5_readAll 59 = .ok (.iconst 0, 1) := by decide +kernel
theorem dX5_readAll_60 : decode cX5_readAll 60 = .ok (.ireturn, 1) := by decide +kernel
theorem dX5_begin_0 : decode cX5_begin 0 = .ok (.aload_n 0, 1) := by decide +kernel
theorem dX5_begin_1 : decode cX5_begin 1 = .ok (.getfield 31, 3) := by decide +kernel
theorem dX5_begin_4 : decode cX5_begin 4 = .ok (.invokevirtual 80, 3) := by decide +kernel
theorem dX5_begin_7 : decode cX5_begin 7 = .ok (.aload_n 0, 1) := by decide +kernel
theorem dX5_begin_8 : decode cX5_begin 8 = .ok (.getfield 38, 3) := by decide +kernel
theorem dX5_begin_11 : decode cX5_begin 11 = .ok (.invokevirtual 83, 3) := by decide +kernel
theorem dX5_begin_14 : decode cX5_begin 14 = .ok (.aload_n 0, 1) := by decide +kernel
theorem dX5_begin_15 : decode cX5_begin 15 = .ok (.iconst 0, 1) := by decide +kernel
theorem dX5_begin_16 : decode cX5_begin 16 = .ok (.putfield 19, 3) := by decide +kernel
theorem dX5_begin_19 : decode cX5_begin 19 = .ok (.aload_n 0, 1) := by decide +kernel
theorem dX5_begin_20 : decode cX5_begin 20 = .ok (.iconst 0, 1) := by decide +kernel
theorem dX5_begin_21 : decode cX5_begin 21 = .ok (.putfield 22, 3) := by decide +kernel
theorem dX5_begin_24 : decode cX5_begin 24 = .ok (.aload_n 0, 1) := by decide +kernel
theorem dX5_begin_25 : decode cX5_begin 25 = .ok (.iconst 0, 1) := by decide +kernel
theorem dX5_begin_26 : decode cX5_begin 26 = .ok (.putfield 25, 3) := by decide +kernel
theorem dX5_begin_29 : decode cX5_begin 29 = .ok (.aload_n 0, 1) := by decide +kernel
theorem dX5_begin_30 : decode cX5_begin 30 = .ok (.iconst 0, 1) := by decide +kernel
theorem dX5_begin_31 : decode cX5_begin 31 = .ok (.putfield 51, 3) := by decide +kernel
theorem dX5_begin_34 : decode cX5_begin 34 = .ok (.aload_n 0, 1) := by decide +kernel
theorem dX5_begin_35 : decode cX5_begin 35 = .ok (.iconst 0, 1) := by decide +kernel
theorem dX5_begin_36 : decode cX5_begin 36 = .ok (.putfield 54, 3) := by decide +kernel
theorem dX5_begin_39 : decode cX5_begin 39 = .ok (.aload_n 0, 1) := by decide +kernel
theorem dX5_begin_40 : decode cX5_begin 40 = .ok (.iconst 0, 1) := by decide +kernel
theorem dX5_begin_41 : decode cX5_begin 41 = .ok (.putfield 58, 3) := by decide +kernel
theorem dX5_begin_44 : decode cX5_begin 44 = .ok (.aload_n 0, 1) := by decide +kernel
theorem dX5_begin_45 : decode cX5_begin 45 = .ok (.iconst 0, 1) := by decide +kernel
theorem dX5_begin_46 : decode cX5_begin 46 = .ok (.putfield 61, 3) := by decide +kernel
theorem dX5_begin_49 : decode cX5_begin 49 = .ok (.aload_n 0, 1) := by decide +kernel
theorem dX5_begin_50 : decode cX5_begin 50 = .ok (.iconst 0, 1) := by decide +kernel
theorem dX5_begin_51 : decode cX5_begin 51 = .ok (.putfield 64, 3) := by decide +kernel
theorem dX5_begin_54 : decode cX5_begin 54 = .ok (.return_, 1) := by decide +kernel
theorem dX5_refuse_0 : decode cX5_refuse 0 = .ok (.aload_n 0, 1) := by decide +kernel
theorem dX5_refuse_1 : decode cX5_refuse 1 = .ok (.iload_n 1, 1) := by decide +kernel
theorem dX5_refuse_2 : decode cX5_refuse 2 = .ok (.putfield 19, 3) := by decide +kernel
theorem dX5_refuse_5 : decode cX5_refuse 5 = .ok (.aload_n 0, 1) := by decide +kernel
theorem dX5_refuse_6 : decode cX5_refuse 6 = .ok (.iload_n 2, 1) := by decide +kernel
theorem dX5_refuse_7 : decode cX5_refuse 7 = .ok (.putfield 22, 3) := by decide +kernel
theorem dX5_refuse_10 : decode cX5_refuse 10 = .ok (.iconst 0, 1) := by decide +kernel
theorem dX5_refuse_11 : decode cX5_refuse 11 = .ok (.ireturn, 1) := by decide +kernel
theorem dX5_line_0 : decode cX5_line 0 = .ok (.aload_n 0, 1) := by decide +kernel
theorem dX5_line_1 : decode cX5_line 1 = .ok (.getfield 42, 3) := by decide +kernel
theorem dX5_line_4 : decode cX5_line 4 = .ok (.iconst 1, 1) := by decide +kernel
theorem dX5_line_5 : decode cX5_line 5 = .ok (.if_icmp .eq 13, 3) := by decide +kernel
theorem dX5_line_8 : decode cX5_line 8 = .ok (.aload_n 0, 1) := by decide +kernel
theorem dX5_line_9 : decode cX5_line 9 = .ok (.iconst 2, 1) := by decide +kernel
theorem dX5_line_10 : decode cX5_line 10 = .ok (.aload_n 0, 1) := by decide +kernel
theorem dX5_line_11 : decode cX5_line 11 = .ok (.getfield 45, 3) := by decide +kernel
theorem dX5_line_14 : decode cX5_line 14 = .ok (.invokevirtual 84, 3) := by decide +kernel
theorem dX5_line_17 : decode cX5_line 17 = .ok (.ireturn, 1) := by decide +kernel
theorem dX5_line_18 : decode cX5_line 18 = .ok (.aload_n 0, 1) := by decide +kernel
theorem dX5_line_19 : decode cX5_line 19 = .ok (.ldc 88, 2) := by decide +kernel
theorem dX5_line_21 : decode cX5_line 21 = .ok (.invokevirtual 90, 3) := by decide +kernel
theorem dX5_line_24 : decode cX5_line 24 = .ok (.ifCond .eq 23, 3) := by decide +kernel
theorem dX5_line_27 : decode cX5_line 27 = .ok (.aload_n 0, 1) := by decide +kernel
theorem dX5_line_28 : decode cX5_line 28 = .ok (.invokevirtual 94, 3) := by decide +kernel
theorem dX5_line_31 : decode cX5_line 31 = .ok (.ifCond .eq 14, 3) := by decide +kernel
theorem dX5_line_34 : decode cX5_line 34 = .ok (.aload_n 0, 1) := by decide +kernel
theorem dX5_line_35 : decode cX5_line 35 = .ok (.invokevirtual 97, 3) := by decide +kernel
theorem dX5_line_38 : decode cX5_line 38 = .ok (.ifCond .eq 7, 3) := by decide +kernel
theorem dX5_line_41 : decode cX5_line 41 = .ok (.iconst 1, 1) := by decide +kernel
theorem dX5_line_42 : decode cX5_line 42 = .ok (.goto 4, 3) := by decide +kernel
theorem dX5_line_45 : decode cX5_line 45 = .ok (.iconst 0, 1) := by decide +kernel
theorem dX5_line_46 : decode cX5_line 46 = .ok (.ireturn, 1) := by decide +kernel
theorem dX5_line_47 : decode cX5_line 47 = .ok (.aload_n 0, 1) := by decide +kernel
theorem dX5_line_48 : decode cX5_line 48 = .ok (.ldc 100, 2) := by decide +kernel
theorem dX5_line_50 : decode cX5_line 50 = .ok (.invokevirtual 90, 3) := by decide +kernel
theorem dX5_line_53 : decode cX5_line 53 = .ok (.ifCond .eq 23, 3) := by decide +kernel
theorem dX5_line_56 : decode cX5_line 56 = .ok (.aload_n 0, 1) := by decide +kernel
theorem dX5_line_57 : decode cX5_line 57 = .ok (.invokevirtual 102, 3) := by decide +kernel
theorem dX5_line_60 : decode cX5_line 60 = .ok (.ifCond .eq 14, 3) := by decide +kernel
theorem dX5_line_63 : decode cX5_line 63 = .ok (.aload_n 0, 1) := by decide +kernel
theorem dX5_line_64 : decode cX5_line 64 = .ok (.invokevirtual 97, 3) := by decide +kernel
theorem dX5_line_67 : decode cX5_line 67 = .ok (.ifCond .eq 7, 3) := by decide +kernel
theorem dX5_line_70 : decode cX5_line 70 = .ok (.iconst 1, 1) := by decide +kernel
theorem dX5_line_71 : decode cX5_line 71 = .ok (.goto 4, 3) := by decide +kernel
theorem dX5_line_74 : decode cX5_line 74 = .ok (.iconst 0, 1) := by decide +kernel
theorem dX5_line_75 : decode cX5_line 75 = .ok (.ireturn, 1) := by decide +kernel
theorem dX5_line_76 : decode cX5_line 76 = .ok (.aload_n 0, 1) := by decide +kernel
theorem dX5_line_77 : decode cX5_line 77 = .ok (.ldc 105, 2) := by decide +kernel
theorem dX5_line_79 : decode cX5_line 79 = .ok (.invokevirtual 90, 3) := by decide +kernel
theorem dX5_line_82 : decode cX5_line 82 = .ok (.ifCond .eq 23, 3) := by decide +kernel
theorem dX5_line_85 : decode cX5_line 85 = .ok (.aload_n 0, 1) := by decide +kernel
theorem dX5_line_86 : decode cX5_line 86 = .ok (.invokevirtual 107, 3) := by decide +kernel
theorem dX5_line_89 : decode cX5_line 89 = .ok (.ifCond .eq 14, 3) := by decide +kernel
theorem dX5_line_92 : decode cX5_line 92 = .ok (.aload_n 0, 1) := by decide +kernel
theorem dX5_line_93 : decode cX5_line 93 = .ok (.invokevirtual 97, 3) := by decide +kernel
theorem dX5_line_96 : decode cX5_line 96 = .ok (.ifCond .eq 7, 3) := by decide +kernel
theorem dX5_line_99 : decode cX5_line 99 = .ok (.iconst 1, 1) := by decide +kernel
theorem dX5_line_100 : decode cX5_line 100 = .ok (.goto 4, 3) := by decide +kernel
theorem dX5_line_103 : decode cX5_line 103 = .ok (.iconst 0, 1) := by decide +kernel
theorem dX5_line_104 : decode cX5_line 104 = .ok (.ireturn, 1) := by decide +kernel
theorem dX5_line_105 : decode cX5_line 105 = .ok (.aload_n 0, 1) := by decide +kernel
theorem dX5_line_106 : decode cX5_line 106 = .ok (.ldc 110, 2) := by decide +kernel
theorem dX5_line_108 : decode cX5_line 108 = .ok (.invokevirtual 90, 3) := by decide +kernel
theorem dX5_line_111 : decode cX5_line 111 = .ok (.ifCond .eq 23, 3) := by decide +kernel
theorem dX5_line_114 : decode cX5_line 114 = .ok (.aload_n 0, 1) := by decide +kernel
theorem dX5_line_115 : decode cX5_line 115 = .ok (.invokevirtual 112, 3) := by decide +kernel
theorem dX5_line_118 : decode cX5_line 118 = .ok (.ifCond .eq 14, 3) := by decide +kernel
theorem dX5_line_121 : decode cX5_line 121 = .ok (.aload_n 0, 1) := by decide +kernel
theorem dX5_line_122 : decode cX5_line 122 = .ok (.invokevirtual 97, 3) := by decide +kernel
theorem dX5_line_125 : decode cX5_line 125 = .ok (.ifCond .eq 7, 3) := by decide +kernel
theorem dX5_line_128 : decode cX5_line 128 = .ok (.iconst 1, 1) := by decide +kernel
theorem dX5_line_129 : decode cX5_line 129 = .ok (.goto 4, 3) := by decide +kernel
theorem dX5_line_132 : decode cX5_line 132 = .ok (.iconst 0, 1) := by decide +kernel
theorem dX5_line_133 : decode cX5_line 133 = .ok (.ireturn, 1) := by decide +kernel
theorem dX5_line_134 : decode cX5_line 134 = .ok (.aload_n 0, 1) := by decide +kernel
theorem dX5_line_135 : decode cX5_line 135 = .ok (.ldc 115, 2) := by decide +kernel
theorem dX5_line_137 : decode cX5_line 137 = .ok (.invokevirtual 90, 3) := by decide +kernel
theorem dX5_line_140 : decode cX5_line 140 = .ok (.ifCond .eq 23, 3) := by decide +kernel
theorem dX5_line_143 : decode cX5_line 143 = .ok (.aload_n 0, 1) := by decide +kernel
theorem dX5_line_144 : decode cX5_line 144 = .ok (.invokevirtual 117, 3) := by decide +kernel
theorem dX5_line_147 : decode cX5_line 147 = .ok (.ifCond .eq 14, 3) := by decide +kernel
theorem dX5_line_150 : decode cX5_line 150 = .ok (.aload_n 0, 1) := by decide +kernel
theorem dX5_line_151 : decode cX5_line 151 = .ok (.invokevirtual 97, 3) := by decide +kernel
theorem dX5_line_154 : decode cX5_line 154 = .ok (.ifCond .eq 7, 3) := by decide +kernel
theorem dX5_line_157 : decode cX5_line 157 = .ok (.iconst 1, 1) := by decide +kernel
theorem dX5_line_158 : decode cX5_line 158 = .ok (.goto 4, 3) := by decide +kernel
theorem dX5_line_161 : decode cX5_line 161 = .ok (.iconst 0, 1) := by decide +kernel
theorem dX5_line_162 : decode cX5_line 162 = .ok (.ireturn, 1) := by decide +kernel
theorem dX5_line_163 : decode cX5_line 163 = .ok (.aload_n 0, 1) := by decide +kernel
theorem dX5_line_164 : decode cX5_line 164 = .ok (.ldc 120, 2) := by decide +kernel
theorem dX5_line_166 : decode cX5_line 166 = .ok (.invokevirtual 90, 3) := by decide +kernel
theorem dX5_line_169 : decode cX5_line 169 = .ok (.ifCond .eq 23, 3) := by decide +kernel
theorem dX5_line_172 : decode cX5_line 172 = .ok (.aload_n 0, 1) := by decide +kernel
theorem dX5_line_173 : decode cX5_line 173 = .ok (.invokevirtual 122, 3) := by decide +kernel
theorem dX5_line_176 : decode cX5_line 176 = .ok (.ifCond .eq 14, 3) := by decide +kernel
theorem dX5_line_179 : decode cX5_line 179 = .ok (.aload_n 0, 1) := by decide +kernel
theorem dX5_line_180 : decode cX5_line 180 = .ok (.invokevirtual 97, 3) := by decide +kernel
theorem dX5_line_183 : decode cX5_line 183 = .ok (.ifCond .eq 7, 3) := by decide +kernel
theorem dX5_line_186 : decode cX5_line 186 = .ok (.iconst 1, 1) := by decide +kernel
theorem dX5_line_187 : decode cX5_line 187 = .ok (.goto 4, 3) := by decide +kernel
theorem dX5_line_190 : decode cX5_line 190 = .ok (.iconst 0, 1) := by decide +kernel
theorem dX5_line_191 : decode cX5_line 191 = .ok (.ireturn, 1) := by decide +kernel
theorem dX5_line_192 : decode cX5_line 192 = .ok (.aload_n 0, 1) := by decide +kernel
theorem dX5_line_193 : decode cX5_line 193 = .ok (.iconst 2, 1) := by decide +kernel
theorem dX5_line_194 : decode cX5_line 194 = .ok (.aload_n 0, 1) := by decide +kernel
theorem dX5_line_195 : decode cX5_line 195 = .ok (.getfield 45, 3) := by decide +kernel
theorem dX5_line_198 : decode cX5_line 198 = .ok (.invokevirtual 84, 3) := by decide +kernel
theorem dX5_line_201 : decode cX5_line 201 = .ok (.ireturn, 1) := by decide +kernel
theorem dX5_sisterLine_0 : decode cX5_sisterLine 0 = .ok (.aload_n 0, 1) := by decide +kernel
theorem dX5_sisterLine_1 : decode cX5_sisterLine 1 = .ok (.getfield 31, 3) := by decide +kernel
theorem dX5_sisterLine_4 : decode cX5_sisterLine 4 = .ok (.getfield 125, 3) := by decide +kernel
theorem dX5_sisterLine_7 : decode cX5_sisterLine 7 = .ok (.istore_n 1, 1) := by decide +kernel
theorem dX5_sisterLine_8 : decode cX5_sisterLine 8 = .ok (.iload_n 1, 1) := by decide +kernel
theorem dX5_sisterLine_9 : decode cX5_sisterLine 9 = .ok (.iconst 3, 1) := by decide +kernel
theorem dX5_sisterLine_10 : decode cX5_sisterLine 10 = .ok (.if_icmp .lt 13, 3) := by decide +kernel
theorem dX5_sisterLine_13 : decode cX5_sisterLine 13 = .ok (.aload_n 0, 1) := by decide +kernel
theorem dX5_sisterLine_14 : decode cX5_sisterLine 14 = .ok (.iconst 5, 1) := by decide +kernel
theorem dX5_sisterLine_15 : decode cX5_sisterLine 15 = .ok (.aload_n 0, 1) := by decide +kernel
theorem dX5_sisterLine_16 : decode cX5_sisterLine 16 = .ok (.getfield 45, 3) := by decide +kernel
theorem dX5_sisterLine_19 : decode cX5_sisterLine 19 = .ok (.invokevirtual 84, 3) := by decide +kernel
theorem dX5_sisterLine_22 : decode cX5_sisterLine 22 = .ok (.ireturn, 1) := by decide +kernel
theorem dX5_sisterLine_23 : decode cX5_sisterLine 23 = .ok (.aload_n 0, 1) := by decide +kernel
theorem dX5_sisterLine_24 : decode cX5_sisterLine 24 = .ok (.invokevirtual 128, 3) := by decide +kernel
theorem dX5_sisterLine_27 : decode cX5_sisterLine 27 = .ok (.ifCond .ne 5, 3) := by decide +kernel
theorem dX5_sisterLine_30 : decode cX5_sisterLine 30 = .ok (.iconst 0, 1) := by decide +kernel
theorem dX5_sisterLine_31 : decode cX5_sisterLine 31 = .ok (.ireturn, 1) := by decide +kernel
theorem dX5_sisterLine_32 : decode cX5_sisterLine 32 = .ok (.aload_n 0, 1) := by decide +kernel
theorem dX5_sisterLine_33 : decode cX5_sisterLine 33 = .ok (.getfield 31, 3) := by decide +kernel
theorem dX5_sisterLine_36 : decode cX5_sisterLine 36 = .ok (.getfield 131, 3) := by decide +kernel
theorem dX5_sisterLine_39 : decode cX5_sisterLine 39 = .ok (.iload_n 1, 1) := by decide +kernel
theorem dX5_sisterLine_40 : decode cX5_sisterLine 40 = .ok (.aload_n 0, 1) := by decide +kernel
theorem dX5_sisterLine_41 : decode cX5_sisterLine 41 = .ok (.getfield 48, 3) := by decide +kernel
theorem dX5_sisterLine_44 : decode cX5_sisterLine 44 = .ok (.iastore, 1) := by decide +kernel
theorem dX5_sisterLine_45 : decode cX5_sisterLine 45 = .ok (.iconst 2, 1) := by decide +kernel
theorem dX5_sisterLine_46 : decode cX5_sisterLine 46 = .ok (.iload_n 1, 1) := by decide +kernel
theorem dX5_sisterLine_47 : decode cX5_sisterLine 47 = .ok (.imul, 1) := by decide +kernel
theorem dX5_sisterLine_48 : decode cX5_sisterLine 48 = .ok (.istore_n 2, 1) := by decide +kernel
theorem dX5_sisterLine_49 : decode cX5_sisterLine 49 = .ok (.iload_n 2, 1) := by decide +kernel
theorem dX5_sisterLine_50 : decode cX5_sisterLine 50 = .ok (.iconst 2, 1) := by decide +kernel
theorem dX5_sisterLine_51 : decode cX5_sisterLine 51 = .ok (.iload_n 1, 1) := by decide +kernel
theorem dX5_sisterLine_52 : decode cX5_sisterLine 52 = .ok (.imul, 1) := by decide +kernel
theorem dX5_sisterLine_53 : decode cX5_sisterLine 53 = .ok (.iconst 1, 1) := by decide +kernel
theorem dX5_sisterLine_54 : decode cX5_sisterLine 54 = .ok (.iadd, 1) := by decide +kernel
theorem dX5_sisterLine_55 : decode cX5_sisterLine 55 = .ok (.if_icmp .gt 34, 3) := by decide +kernel
theorem dX5_sisterLine_58 : decode cX5_sisterLine 58 = .ok (.aload_n 0, 1) := by decide +kernel
theorem dX5_sisterLine_59 : decode cX5_sisterLine 59 = .ok (.iconst 0, 1) := by decide +kernel
theorem dX5_sisterLine_60 : decode cX5_sisterLine 60 = .ok (.bipush 15, 2) := by decide +kernel
theorem dX5_sisterLine_62 : decode cX5_sisterLine 62 = .ok (.invokevirtual 135, 3) := by decide +kernel
theorem dX5_sisterLine_65 : decode cX5_sisterLine 65 = .ok (.ifCond .ne 5, 3) := by decide +kernel
theorem dX5_sisterLine_68 : decode cX5_sisterLine 68 = .ok (.iconst 0, 1) := by decide +kernel
theorem dX5_sisterLine_69 : decode cX5_sisterLine 69 = .ok (.ireturn, 1) := by decide +kernel
theorem dX5_sisterLine_70 : decode cX5_sisterLine 70 = .ok (.aload_n 0, 1) := by decide +kernel
theorem dX5_sisterLine_71 : decode cX5_sisterLine 71 = .ok (.getfield 31, 3) := by decide +kernel
theorem dX5_sisterLine_74 : decode cX5_sisterLine 74 = .ok (.getfield 138, 3) := by decide +kernel
theorem dX5_sisterLine_77 : decode cX5_sisterLine 77 = .ok (.iload_n 2, 1) := by decide +kernel
theorem dX5_sisterLine_78 : decode cX5_sisterLine 78 = .ok (.aload_n 0, 1) := by decide +kernel
theorem dX5_sisterLine_79 : decode cX5_sisterLine 79 = .ok (.getfield 48, 3) := by decide +kernel
theorem dX5_sisterLine_82 : decode cX5_sisterLine 82 = .ok (.iastore, 1) := by decide +kernel
theorem dX5_sisterLine_83 : decode cX5_sisterLine 83 = .ok (.iinc 2 1, 3) := by decide +kernel
theorem dX5_sisterLine_86 : decode cX5_sisterLine 86 = .ok (.goto (-37), 3) := by decide +kernel
theorem dX5_sisterLine_89 : decode cX5_sisterLine 89 = .ok (.iconst 2, 1) := by decide +kernel
theorem dX5_sisterLine_90 : decode cX5_sisterLine 90 = .ok (.iload_n 1, 1) := by decide +kernel
theorem dX5_sisterLine_91 : decode cX5_sisterLine 91 = .ok (.imul, 1) := by decide +kernel
theorem dX5_sisterLine_92 : decode cX5_sisterLine 92 = .ok (.istore_n 2, 1) := by decide +kernel
theorem dX5_sisterLine_93 : decode cX5_sisterLine 93 = .ok (.iload_n 2, 1) := by decide +kernel
theorem dX5_sisterLine_94 : decode cX5_sisterLine 94 = .ok (.iconst 2, 1) := by decide +kernel
theorem dX5_sisterLine_95 : decode cX5_sisterLine 95 = .ok (.iload_n 1, 1) := by decide +kernel
theorem dX5_sisterLine_96 : decode cX5_sisterLine 96 = .ok (.imul, 1) := by decide +kernel
theorem dX5_sisterLine_97 : decode cX5_sisterLine 97 = .ok (.iconst 1, 1) := by decide +kernel
theorem dX5_sisterLine_98 : decode cX5_sisterLine 98 = .ok (.iadd, 1) := by decide +kernel
theorem dX5_sisterLine_99 : decode cX5_sisterLine 99 = .ok (.if_icmp .gt 49, 3) := by decide +kernel
theorem dX5_sisterLine_102 : decode cX5_sisterLine 102 = .ok (.aload_n 0, 1) := by decide +kernel
theorem dX5_sisterLine_103 : decode cX5_sisterLine 103 = .ok (.iconst 0, 1) := by decide +kernel
theorem dX5_sisterLine_104 : decode cX5_sisterLine 104 = .ok (.bipush 9, 2) := by decide +kernel
theorem dX5_sisterLine_106 : decode cX5_sisterLine 106 = .ok (.invokevirtual 135, 3) := by decide +kernel
theorem dX5_sisterLine_109 : decode cX5_sisterLine 109 = .ok (.ifCond .ne 5, 3) := by decide +kernel
theorem dX5_sisterLine_112 : decode cX5_sisterLine 112 = .ok (.iconst 0, 1) := by decide +kernel
theorem dX5_sisterLine_113 : decode cX5_sisterLine 113 = .ok (.ireturn, 1) := by decide +kernel
theorem dX5_sisterLine_114 : decode cX5_sisterLine 114 = .ok (.aload_n 0, 1) := by decide +kernel
theorem dX5_sisterLine_115 : decode cX5_sisterLine 115 = .ok (.getfield 38, 3) := by decide +kernel
theorem dX5_sisterLine_118 : decode cX5_sisterLine 118 = .ok (.getfield 141, 3) := by decide +kernel
theorem dX5_sisterLine_121 : decode cX5_sisterLine 121 = .ok (.iload_n 2, 1) := by decide +kernel
theorem dX5_sisterLine_122 : decode cX5_sisterLine 122 = .ok (.aload_n 0, 1) := by decide +kernel
theorem dX5_sisterLine_123 : decode cX5_sisterLine 123 = .ok (.getfield 31, 3) := by decide +kernel
theorem dX5_sisterLine_126 : decode cX5_sisterLine 126 = .ok (.iload_n 2, 1) := by decide +kernel
theorem dX5_sisterLine_127 : decode cX5_sisterLine 127 = .ok (.invokevirtual 144, 3) := by decide +kernel
theorem dX5_sisterLine_130 : decode cX5_sisterLine 130 = .ok (.ifCond .eq 7, 3) := by decide +kernel
theorem dX5_sisterLine_133 : decode cX5_sisterLine 133 = .ok (.iconst 0, 1) := by decide +kernel
theorem dX5_sisterLine_134 : decode cX5_sisterLine 134 = .ok (.goto 7, 3) := by decide +kernel
theorem dX5_sisterLine_137 : decode cX5_sisterLine 137 = .ok (.aload_n 0, 1) := by decide +kernel
theorem dX5_sisterLine_138 : decode cX5_sisterLine 138 = .ok (.getfield 48, 3) := by decide +kernel
theorem dX5_sisterLine_141 : decode cX5_sisterLine 141 = .ok (.iastore, 1) := by decide +kernel
theorem dX5_sisterLine_142 : decode cX5_sisterLine 142 = .ok (.iinc 2 1, 3) := by decide +kernel
theorem dX5_sisterLine_145 : decode cX5_sisterLine 145 = .ok (.goto (-52), 3) := by decide +kernel
theorem dX5_sisterLine_148 : decode cX5_sisterLine 148 = .ok (.aload_n 0, 1) := by decide +kernel
theorem dX5_sisterLine_149 : decode cX5_sisterLine 149 = .ok (.getfield 31, 3) := by decide +kernel
theorem dX5_sisterLine_152 : decode cX5_sisterLine 152 = .ok (.dup, 1) := by decide +kernel
theorem dX5_sisterLine_153 : decode cX5_sisterLine 153 = .ok (.getfield 125, 3) := by decide +kernel
theorem dX5_sisterLine_156 : decode cX5_sisterLine 156 = .ok (.iconst 1, 1) := by decide +kernel
theorem dX5_sisterLine_157 : decode cX5_sisterLine 157 = .ok (.iadd, 1) := by decide +kernel
theorem dX5_sisterLine_158 : decode cX5_sisterLine 158 = .ok (.putfield 125, 3) := by decide +kernel
theorem dX5_sisterLine_161 : decode cX5_sisterLine 161 = .ok (.iconst 1, 1) := by decide +kernel
theorem dX5_sisterLine_162 : decode cX5_sisterLine 162 = .ok (.ireturn, 1) := by decide +kernel
theorem dX5_quartersLine_0 : decode cX5_quartersLine 0 = .ok (.aload_n 0, 1) := by decide +kernel
theorem dX5_quartersLine_1 : decode cX5_quartersLine 1 = .ok (.getfield 54, 3) := by decide +kernel
theorem dX5_quartersLine_4 : decode cX5_quartersLine 4 = .ok (.ifCond .eq 13, 3) := by decide +kernel
theorem dX5_quartersLine_7 : decode cX5_quartersLine 7 = .ok (.aload_n 0, 1) := by decide +kernel
theorem dX5_quartersLine_8 : decode cX5_quartersLine 8 = .ok (.iconst 4, 1) := by decide +kernel
theorem dX5_quartersLine_9 : decode cX5_quartersLine 9 = .ok (.aload_n 0, 1) := by decide +kernel
theorem dX5_quartersLine_10 : decode cX5_quartersLine 10 = .ok (.getfield 45, 3) := by decide +kernel
theorem dX5_quartersLine_13 : decode cX5_quartersLine 13 = .ok (.invokevirtual 84, 3) := by decide +kernel
theorem dX5_quartersLine_16 : decode cX5_quartersLine 16 = .ok (.ireturn, 1) := by decide +kernel
theorem dX5_quartersLine_17 : decode cX5_quartersLine 17 = .ok (.aload_n 0, 1) := by decide +kernel
theorem dX5_quartersLine_18 : decode cX5_quartersLine 18 = .ok (.iconst 1, 1) := by decide +kernel
theorem dX5_quartersLine_19 : decode cX5_quartersLine 19 = .ok (.bipush 6, 2) := by decide +kernel
theorem dX5_quartersLine_21 : decode cX5_quartersLine 21 = .ok (.invokevirtual 135, 3) := by decide +kernel
theorem dX5_quartersLine_24 : decode cX5_quartersLine 24 = .ok (.ifCond .ne 5, 3) := by decide +kernel
theorem dX5_quartersLine_27 : decode cX5_quartersLine 27 = .ok (.iconst 0, 1) := by decide +kernel
theorem dX5_quartersLine_28 : decode cX5_quartersLine 28 = .ok (.ireturn, 1) := by decide +kernel
theorem dX5_quartersLine_29 : decode cX5_quartersLine 29 = .ok (.aload_n 0, 1) := by decide +kernel
theorem dX5_quartersLine_30 : decode cX5_quartersLine 30 = .ok (.iconst 1, 1) := by decide +kernel
theorem dX5_quartersLine_31 : decode cX5_quartersLine 31 = .ok (.putfield 54, 3) := by decide +kernel
theorem dX5_quartersLine_34 : decode cX5_quartersLine 34 = .ok (.aload_n 0, 1) := by decide +kernel
theorem dX5_quartersLine_35 : decode cX5_quartersLine 35 = .ok (.getfield 31, 3) := by decide +kernel
theorem dX5_quartersLine_38 : decode cX5_quartersLine 38 = .ok (.aload_n 0, 1) := by decide +kernel
theorem dX5_quartersLine_39 : decode cX5_quartersLine 39 = .ok (.getfield 48, 3) := by decide +kernel
theorem dX5_quartersLine_42 : decode cX5_quartersLine 42 = .ok (.putfield 148, 3) := by decide +kernel
theorem dX5_quartersLine_45 : decode cX5_quartersLine 45 = .ok (.iconst 1, 1) := by decide +kernel
theorem dX5_quartersLine_46 : decode cX5_quartersLine 46 = .ok (.ireturn, 1) := by decide +kernel
theorem dX5_needLine_0 : decode cX5_needLine 0 = .ok (.aload_n 0, 1) := by decide +kernel
theorem dX5_needLine_1 : decode cX5_needLine 1 = .ok (.iconst 0, 1) := by decide +kernel
theorem dX5_needLine_2 : decode cX5_needLine 2 = .ok (.iconst 3, 1) := by decide +kernel
theorem dX5_needLine_3 : decode cX5_needLine 3 = .ok (.invokevirtual 135, 3) := by decide +kernel
theorem dX5_needLine_6 : decode cX5_needLine 6 = .ok (.ifCond .ne 5, 3) := by decide +kernel
theorem dX5_needLine_9 : decode cX5_needLine 9 = .ok (.iconst 0, 1) := by decide +kernel
theorem dX5_needLine_10 : decode cX5_needLine 10 = .ok (.ireturn, 1) := by decide +kernel
theorem dX5_needLine_11 : decode cX5_needLine 11 = .ok (.aload_n 0, 1) := by decide +kernel
theorem dX5_needLine_12 : decode cX5_needLine 12 = .ok (.getfield 48, 3) := by decide +kernel
theorem dX5_needLine_15 : decode cX5_needLine 15 = .ok (.istore_n 1, 1) := by decide +kernel
theorem dX5_needLine_16 : decode cX5_needLine 16 = .ok (.aload_n 0, 1) := by decide +kernel
theorem dX5_needLine_17 : decode cX5_needLine 17 = .ok (.getfield 58, 3) := by decide +kernel
theorem dX5_needLine_20 : decode cX5_needLine 20 = .ok (.iload_n 1, 1) := by decide +kernel
theorem dX5_needLine_21 : decode cX5_needLine 21 = .ok (.ishr, 1) := by decide +kernel
theorem dX5_needLine_22 : decode cX5_needLine 22 = .ok (.iconst 1, 1) := by decide +kernel
theorem dX5_needLine_23 : decode cX5_needLine 23 = .ok (.iand, 1) := by decide +kernel
theorem dX5_needLine_24 : decode cX5_needLine 24 = .ok (.iconst 1, 1) := by decide +kernel
theorem dX5_needLine_25 : decode cX5_needLine 25 = .ok (.if_icmp .ne 13, 3) := by decide +kernel
theorem dX5_needLine_28 : decode cX5_needLine 28 = .ok (.aload_n 0, 1) := by decide +kernel
theorem dX5_needLine_29 : decode cX5_needLine 29 = .ok (.iconst 4, 1) := by decide +kernel
theorem dX5_needLine_30 : decode cX5_needLine 30 = .ok (.aload_n 0, 1) := by decide +kernel
theorem dX5_needLine_31 : decode cX5_needLine 31 = .ok (.getfield 45, 3) := by decide +kernel
theorem dX5_needLine_34 : decode cX5_needLine 34 = .ok (.invokevirtual 84, 3) := by decide +kernel
theorem dX5_needLine_37 : decode cX5_needLine 37 = .ok (.ireturn, 1) := by decide +kernel
theorem dX5_needLine_38 : decode cX5_needLine 38 = .ok (.aload_n 0, 1) := by decide +kernel
theorem dX5_needLine_39 : decode cX5_needLine 39 = .ok (.iconst 0, 1) := by decide +kernel
theorem dX5_needLine_40 : decode cX5_needLine 40 = .ok (.bipush 6, 2) := by decide +kernel
theorem dX5_needLine_42 : decode cX5_needLine 42 = .ok (.invokevirtual 135, 3) := by decide +kernel
theorem dX5_needLine_45 : decode cX5_needLine 45 = .ok (.ifCond .ne 5, 3) := by decide +kernel
theorem dX5_needLine_48 : decode cX5_needLine 48 = .ok (.iconst 0, 1) := by decide +kernel
theorem dX5_needLine_49 : decode cX5_needLine 49 = .ok (.ireturn, 1) := by decide +kernel
theorem dX5_needLine_50 : decode cX5_needLine 50 = .ok (.aload_n 0, 1) := by decide +kernel
theorem dX5_needLine_51 : decode cX5_needLine 51 = .ok (.dup, 1) := by decide +kernel
theorem dX5_needLine_52 : decode cX5_needLine 52 = .ok (.getfield 58, 3) := by decide +kernel
theorem dX5_needLine_55 : decode cX5_needLine 55 = .ok (.iconst 1, 1) := by decide +kernel
theorem dX5_needLine_56 : decode cX5_needLine 56 = .ok (.iload_n 1, 1) := by decide +kernel
theorem dX5_needLine_57 : decode cX5_needLine 57 = .ok (.ishl, 1) := by decide +kernel
theorem dX5_needLine_58 : decode cX5_needLine 58 = .ok (.ior, 1) := by decide +kernel
theorem dX5_needLine_59 : decode cX5_needLine 59 = .ok (.putfield 58, 3) := by decide +kernel
theorem dX5_needLine_62 : decode cX5_needLine 62 = .ok (.aload_n 0, 1) := by decide +kernel
theorem dX5_needLine_63 : decode cX5_needLine 63 = .ok (.getfield 38, 3) := by decide +kernel
theorem dX5_needLine_66 : decode cX5_needLine 66 = .ok (.getfield 150, 3) := by decide +kernel
theorem dX5_needLine_69 : decode cX5_needLine 69 = .ok (.iload_n 1, 1) := by decide +kernel
theorem dX5_needLine_70 : decode cX5_needLine 70 = .ok (.aload_n 0, 1) := by decide +kernel
theorem dX5_needLine_71 : decode cX5_needLine 71 = .ok (.getfield 48, 3) := by decide +kernel
theorem dX5_needLine_74 : decode cX5_needLine 74 = .ok (.iastore, 1) := by decide +kernel
theorem dX5_needLine_75 : decode cX5_needLine 75 = .ok (.iconst 1, 1) := by decide +kernel
theorem dX5_needLine_76 : decode cX5_needLine 76 = .ok (.ireturn, 1) := by decide +kernel
theorem dX5_stormLine_0 : decode cX5_stormLine 0 = .ok (.aload_n 0, 1) := by decide +kernel
theorem dX5_stormLine_1 : decode cX5_stormLine 1 = .ok (.iconst 0, 1) := by decide +kernel
theorem dX5_stormLine_2 : decode cX5_stormLine 2 = .ok (.iconst 5, 1) := by decide +kernel
theorem dX5_stormLine_3 : decode cX5_stormLine 3 = .ok (.invokevirtual 135, 3) := by decide +kernel
theorem dX5_stormLine_6 : decode cX5_stormLine 6 = .ok (.ifCond .ne 5, 3) := by decide +kernel
theorem dX5_stormLine_9 : decode cX5_stormLine 9 = .ok (.iconst 0, 1) := by decide +kernel
theorem dX5_stormLine_10 : decode cX5_stormLine 10 = .ok (.ireturn, 1) := by decide +kernel
theorem dX5_stormLine_11 : decode cX5_stormLine 11 = .ok (.aload_n 0, 1) := by decide +kernel
theorem dX5_stormLine_12 : decode cX5_stormLine 12 = .ok (.getfield 48, 3) := by decide +kernel
theorem dX5_stormLine_15 : decode cX5_stormLine 15 = .ok (.istore_n 1, 1) := by decide +kernel
theorem dX5_stormLine_16 : decode cX5_stormLine 16 = .ok (.aload_n 0, 1) := by decide +kernel
theorem dX5_stormLine_17 : decode cX5_stormLine 17 = .ok (.iconst 0, 1) := by decide +kernel
theorem dX5_stormLine_18 : decode cX5_stormLine 18 = .ok (.iconst 3, 1) := by decide +kernel
theorem dX5_stormLine_19 : decode cX5_stormLine 19 = .ok (.invokevirtual 135, 3) := by decide +kernel
theorem dX5_stormLine_22 : decode cX5_stormLine 22 = .ok (.ifCond .ne 5, 3) := by decide +kernel
theorem dX5_stormLine_25 : decode cX5_stormLine 25 = .ok (.iconst 0, 1) := by decide +kernel
theorem dX5_stormLine_26 : decode cX5_stormLine 26 = .ok (.ireturn, 1) := by decide +kernel
theorem dX5_stormLine_27 : decode cX5_stormLine 27 = .ok (.aload_n 0, 1) := by decide +kernel
theorem dX5_stormLine_28 : decode cX5_stormLine 28 = .ok (.getfield 38, 3) := by decide +kernel
theorem dX5_stormLine_31 : decode cX5_stormLine 31 = .ok (.getfield 152, 3) := by decide +kernel
theorem dX5_stormLine_34 : decode cX5_stormLine 34 = .ok (.iload_n 1, 1) := by decide +kernel
theorem dX5_stormLine_35 : decode cX5_stormLine 35 = .ok (.iaload, 1) := by decide +kernel
theorem dX5_stormLine_36 : decode cX5_stormLine 36 = .ok (.aload_n 0, 1) := by decide +kernel
theorem dX5_stormLine_37 : decode cX5_stormLine 37 = .ok (.getfield 48, 3) := by decide +kernel
theorem dX5_stormLine_40 : decode cX5_stormLine 40 = .ok (.ishr, 1) := by decide +kernel
theorem dX5_stormLine_41 : decode cX5_stormLine 41 = .ok (.iconst 1, 1) := by decide +kernel
theorem dX5_stormLine_42 : decode cX5_stormLine 42 = .ok (.iand, 1) := by decide +kernel
theorem dX5_stormLine_43 : decode cX5_stormLine 43 = .ok (.iconst 1, 1) := by decide +kernel
theorem dX5_stormLine_44 : decode cX5_stormLine 44 = .ok (.if_icmp .ne 13, 3) := by decide +kernel
theorem dX5_stormLine_47 : decode cX5_stormLine 47 = .ok (.aload_n 0, 1) := by decide +kernel
theorem dX5_stormLine_48 : decode cX5_stormLine 48 = .ok (.iconst 4, 1) := by decide +kernel
theorem dX5_stormLine_49 : decode cX5_stormLine 49 = .ok (.aload_n 0, 1) := by decide +kernel
theorem dX5_stormLine_50 : decode cX5_stormLine 50 = .ok (.getfield 45, 3) := by decide +kernel
theorem dX5_stormLine_53 : decode cX5_stormLine 53 = .ok (.invokevirtual 84, 3) := by decide +kernel
theorem dX5_stormLine_56 : decode cX5_stormLine 56 = .ok (.ireturn, 1) := by decide +kernel
theorem dX5_stormLine_57 : decode cX5_stormLine 57 = .ok (.aload_n 0, 1) := by decide +kernel
theorem dX5_stormLine_58 : decode cX5_stormLine 58 = .ok (.getfield 38, 3) := by decide +kernel
theorem dX5_stormLine_61 : decode cX5_stormLine 61 = .ok (.getfield 152, 3) := by decide +kernel
theorem dX5_stormLine_64 : decode cX5_stormLine 64 = .ok (.iload_n 1, 1) := by decide +kernel
theorem dX5_stormLine_65 : decode cX5_stormLine 65 = .ok (.dup2, 1) := by decide +kernel
theorem dX5_stormLine_66 : decode cX5_stormLine 66 = .ok (.iaload, 1) := by decide +kernel
theorem dX5_stormLine_67 : decode cX5_stormLine 67 = .ok (.iconst 1, 1) := by decide +kernel
theorem dX5_stormLine_68 : decode cX5_stormLine 68 = .ok (.aload_n 0, 1) := by decide +kernel
theorem dX5_stormLine_69 : decode cX5_stormLine 69 = .ok (.getfield 48, 3) := by decide +kernel
theorem dX5_stormLine_72 : decode cX5_stormLine 72 = .ok (.ishl, 1) := by decide +kernel
theorem dX5_stormLine_73 : decode cX5_stormLine 73 = .ok (.ior, 1) := by decide +kernel
theorem dX5_stormLine_74 : decode cX5_stormLine 74 = .ok (.iastore, 1) := by decide +kernel
theorem dX5_stormLine_75 : decode cX5_stormLine 75 = .ok (.iconst 1, 1) := by decide +kernel
theorem dX5_stormLine_76 : decode cX5_stormLine 76 = .ok (.ireturn, 1) := by decide +kernel
theorem dX5_watchLine_0 : decode cX5_watchLine 0 = .ok (.aload_n 0, 1) := by decide +kernel
theorem dX5_watchLine_1 : decode cX5_watchLine 1 = .ok (.iconst 0, 1) := by decide +kernel
theorem dX5_watchLine_2 : decode cX5_watchLine 2 = .ok (.iconst 5, 1) := by decide +kernel
theorem dX5_watchLine_3 : decode cX5_watchLine 3 = .ok (.invokevirtual 135, 3) := by decide +kernel
theorem dX5_watchLine_6 : decode cX5_watchLine 6 = .ok (.ifCond .ne 5, 3) := by decide +kernel
theorem dX5_watchLine_9 : decode cX5_watchLine 9 = .ok (.iconst 0, 1) := by decide +kernel
theorem dX5_watchLine_10 : decode cX5_watchLine 10 = .ok (.ireturn, 1) := by decide +kernel
theorem dX5_watchLine_11 : decode cX5_watchLine 11 = .ok (.aload_n 0, 1) := by decide +kernel
theorem dX5_watchLine_12 : decode cX5_watchLine 12 = .ok (.getfield 48, 3) := by decide +kernel
theorem dX5_watchLine_15 : decode cX5_watchLine 15 = .ok (.istore_n 1, 1) := by decide +kernel
theorem dX5_watchLine_16 : decode cX5_watchLine 16 = .ok (.aload_n 0, 1) := by decide +kernel
theorem dX5_watchLine_17 : decode cX5_watchLine 17 = .ok (.getfield 61, 3) := by decide +kernel
theorem dX5_watchLine_20 : decode cX5_watchLine 20 = .ok (.iload_n 1, 1) := by decide +kernel
theorem dX5_watchLine_21 : decode cX5_watchLine 21 = .ok (.ishr, 1) := by decide +kernel
theorem dX5_watchLine_22 : decode cX5_watchLine 22 = .ok (.iconst 1, 1) := by decide +kernel
theorem dX5_watchLine_23 : decode cX5_watchLine 23 = .ok (.iand, 1) := by decide +kernel
theorem dX5_watchLine_24 : decode cX5_watchLine 24 = .ok (.iconst 1, 1) := by decide +kernel
theorem dX5_watchLine_25 : decode cX5_watchLine 25 = .ok (.if_icmp .ne 13, 3) := by decide +kernel
theorem dX5_watchLine_28 : decode cX5_watchLine 28 = .ok (.aload_n 0, 1) := by decide +kernel
theorem dX5_watchLine_29 : decode cX5_watchLine 29 = .ok (.iconst 4, 1) := by decide +kernel
theorem dX5_watchLine_30 : decode cX5_watchLine 30 = .ok (.aload_n 0, 1) := by decide +kernel
theorem dX5_watchLine_31 : decode cX5_watchLine 31 = .ok (.getfield 45, 3) := by decide +kernel
theorem dX5_watchLine_34 : decode cX5_watchLine 34 = .ok (.invokevirtual 84, 3) := by decide +kernel
theorem dX5_watchLine_37 : decode cX5_watchLine 37 = .ok (.ireturn, 1) := by decide +kernel
theorem dX5_watchLine_38 : decode cX5_watchLine 38 = .ok (.aload_n 0, 1) := by decide +kernel
theorem dX5_watchLine_39 : decode cX5_watchLine 39 = .ok (.iconst 0, 1) := by decide +kernel
theorem dX5_watchLine_40 : decode cX5_watchLine 40 = .ok (.bipush 26, 2) := by decide +kernel
theorem dX5_watchLine_42 : decode cX5_watchLine 42 = .ok (.invokevirtual 135, 3) := by decide +kernel
theorem dX5_watchLine_45 : decode cX5_watchLine 45 = .ok (.ifCond .ne 5, 3) := by decide +kernel
theorem dX5_watchLine_48 : decode cX5_watchLine 48 = .ok (.iconst 0, 1) := by decide +kernel
theorem dX5_watchLine_49 : decode cX5_watchLine 49 = .ok (.ireturn, 1) := by decide +kernel
theorem dX5_watchLine_50 : decode cX5_watchLine 50 = .ok (.aload_n 0, 1) := by decide +kernel
theorem dX5_watchLine_51 : decode cX5_watchLine 51 = .ok (.dup, 1) := by decide +kernel
theorem dX5_watchLine_52 : decode cX5_watchLine 52 = .ok (.getfield 61, 3) := by decide +kernel
theorem dX5_watchLine_55 : decode cX5_watchLine 55 = .ok (.iconst 1, 1) := by decide +kernel
theorem dX5_watchLine_56 : decode cX5_watchLine 56 = .ok (.iload_n 1, 1) := by decide +kernel
theorem dX5_watchLine_57 : decode cX5_watchLine 57 = .ok (.ishl, 1) := by decide +kernel
theorem dX5_watchLine_58 : decode cX5_watchLine 58 = .ok (.ior, 1) := by decide +kernel
theorem dX5_watchLine_59 : decode cX5_watchLine 59 = .ok (.putfield 61, 3) := by decide +kernel
theorem dX5_watchLine_62 : decode cX5_watchLine 62 = .ok (.aload_n 0, 1) := by decide +kernel
theorem dX5_watchLine_63 : decode cX5_watchLine 63 = .ok (.getfield 38, 3) := by decide +kernel
theorem dX5_watchLine_66 : decode cX5_watchLine 66 = .ok (.getfield 154, 3) := by decide +kernel
theorem dX5_watchLine_69 : decode cX5_watchLine 69 = .ok (.iload_n 1, 1) := by decide +kernel
theorem dX5_watchLine_70 : decode cX5_watchLine 70 = .ok (.aload_n 0, 1) := by decide +kernel
theorem dX5_watchLine_71 : decode cX5_watchLine 71 = .ok (.getfield 48, 3) := by decide +kernel
theorem dX5_watchLine_74 : decode cX5_watchLine 74 = .ok (.iastore, 1) := by decide +kernel
theorem dX5_watchLine_75 : decode cX5_watchLine 75 = .ok (.iconst 1, 1) := by decide +kernel
theorem dX5_watchLine_76 : decode cX5_watchLine 76 = .ok (.ireturn, 1) := by decide +kernel
theorem dX5_bedLine_0 : decode cX5_bedLine 0 = .ok (.aload_n 0, 1) := by decide +kernel
theorem dX5_bedLine_1 : decode cX5_bedLine 1 = .ok (.iconst 0, 1) := by decide +kernel
theorem dX5_bedLine_2 : decode cX5_bedLine 2 = .ok (.iconst 2, 1) := by decide +kernel
theorem dX5_bedLine_3 : decode cX5_bedLine 3 = .ok (.invokevirtual 135, 3) := by decide +kernel
theorem dX5_bedLine_6 : decode cX5_bedLine 6 = .ok (.ifCond .ne 5, 3) := by decide +kernel
theorem dX5_bedLine_9 : decode cX5_bedLine 9 = .ok (.iconst 0, 1) := by decide +kernel
theorem dX5_bedLine_10 : decode cX5_bedLine 10 = .ok (.ireturn, 1) := by decide +kernel
theorem dX5_bedLine_11 : decode cX5_bedLine 11 = .ok (.aload_n 0, 1) := by decide +kernel
theorem dX5_bedLine_12 : decode cX5_bedLine 12 = .ok (.getfield 48, 3) := by decide +kernel
theorem dX5_bedLine_15 : decode cX5_bedLine 15 = .ok (.istore_n 1, 1) := by decide +kernel
theorem dX5_bedLine_16 : decode cX5_bedLine 16 = .ok (.aload_n 0, 1) := by decide +kernel
theorem dX5_bedLine_17 : decode cX5_bedLine 17 = .ok (.getfield 64, 3) := by decide +kernel
theorem dX5_bedLine_20 : decode cX5_bedLine 20 = .ok (.iload_n 1, 1) := by decide +kernel
theorem dX5_bedLine_21 : decode cX5_bedLine 21 = .ok (.ishr, 1) := by decide +kernel
theorem dX5_bedLine_22 : decode cX5_bedLine 22 = .ok (.iconst 1, 1) := by decide +kernel
theorem dX5_bedLine_23 : decode cX5_bedLine 23 = .ok (.iand, 1) := by decide +kernel
theorem dX5_bedLine_24 : decode cX5_bedLine 24 = .ok (.iconst 1, 1) := by decide +kernel
theorem dX5_bedLine_25 : decode cX5_bedLine 25 = .ok (.if_icmp .ne 13, 3) := by decide +kernel
theorem dX5_bedLine_28 : decode cX5_bedLine 28 = .ok (.aload_n 0, 1) := by decide +kernel
theorem dX5_bedLine_29 : decode cX5_bedLine 29 = .ok (.iconst 4, 1) := by decide +kernel
theorem dX5_bedLine_30 : decode cX5_bedLine 30 = .ok (.aload_n 0, 1) := by decide +kernel
theorem dX5_bedLine_31 : decode cX5_bedLine 31 = .ok (.getfield 45, 3) := by decide +kernel
theorem dX5_bedLine_34 : decode cX5_bedLine 34 = .ok (.invokevirtual 84, 3) := by decide +kernel
theorem dX5_bedLine_37 : decode cX5_bedLine 37 = .ok (.ireturn, 1) := by decide +kernel
theorem dX5_bedLine_38 : decode cX5_bedLine 38 = .ok (.aload_n 0, 1) := by decide +kernel
theorem dX5_bedLine_39 : decode cX5_bedLine 39 = .ok (.iconst 0, 1) := by decide +kernel
theorem dX5_bedLine_40 : decode cX5_bedLine 40 = .ok (.iconst 3, 1) := by decide +kernel
theorem dX5_bedLine_41 : decode cX5_bedLine 41 = .ok (.invokevirtual 135, 3) := by decide +kernel
theorem dX5_bedLine_44 : decode cX5_bedLine 44 = .ok (.ifCond .ne 5, 3) := by decide +kernel
theorem dX5_bedLine_47 : decode cX5_bedLine 47 = .ok (.iconst 0, 1) := by decide +kernel
theorem dX5_bedLine_48 : decode cX5_bedLine 48 = .ok (.ireturn, 1) := by decide +kernel
theorem dX5_bedLine_49 : decode cX5_bedLine 49 = .ok (.aload_n 0, 1) := by decide +kernel
theorem dX5_bedLine_50 : decode cX5_bedLine 50 = .ok (.dup, 1) := by decide +kernel
theorem dX5_bedLine_51 : decode cX5_bedLine 51 = .ok (.getfield 64, 3) := by decide +kernel
theorem dX5_bedLine_54 : decode cX5_bedLine 54 = .ok (.iconst 1, 1) := by decide +kernel
theorem dX5_bedLine_55 : decode cX5_bedLine 55 = .ok (.iload_n 1, 1) := by decide +kernel
