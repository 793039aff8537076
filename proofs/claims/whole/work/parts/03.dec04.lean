theorem dX10_lineNow_103 : decode cX10_lineNow 103 = .ok (.ifCond .eq 16, 3) := by decide +kernel
theorem dX10_lineNow_106 : decode cX10_lineNow 106 = .ok (.aload_n 0, 1) := by decide +kernel
theorem dX10_lineNow_107 : decode cX10_lineNow 107 = .ok (.bipush 100, 2) := by decide +kernel
theorem dX10_lineNow_109 : decode cX10_lineNow 109 = .ok (.iconst 0, 1) := by decide +kernel
theorem dX10_lineNow_110 : decode cX10_lineNow 110 = .ok (.iconst 0, 1) := by decide +kernel
theorem dX10_lineNow_111 : decode cX10_lineNow 111 = .ok (.invokevirtual 136, 3) := by decide +kernel
theorem dX10_lineNow_114 : decode cX10_lineNow 114 = .ok (.ifCond .eq 5, 3) := by decide +kernel
theorem dX10_lineNow_117 : decode cX10_lineNow 117 = .ok (.iconst 2, 1) := by decide +kernel
theorem dX10_lineNow_118 : decode cX10_lineNow 118 = .ok (.ireturn, 1) := by decide +kernel
theorem dX10_lineNow_119 : decode cX10_lineNow 119 = .ok (.aload_n 0, 1) := by decide +kernel
theorem dX10_lineNow_120 : decode cX10_lineNow 120 = .ok (.iconst 5, 1) := by decide +kernel
theorem dX10_lineNow_121 : decode cX10_lineNow 121 = .ok (.bipush 115, 2) := by decide +kernel
theorem dX10_lineNow_123 : decode cX10_lineNow 123 = .ok (.bipush 116, 2) := by decide +kernel
theorem dX10_lineNow_125 : decode cX10_lineNow 125 = .ok (.bipush 111, 2) := by decide +kernel
theorem dX10_lineNow_127 : decode cX10_lineNow 127 = .ok (.invokevirtual 132, 3) := by decide +kernel
theorem dX10_lineNow_130 : decode cX10_lineNow 130 = .ok (.ifCond .eq 17, 3) := by decide +kernel
theorem dX10_lineNow_133 : decode cX10_lineNow 133 = .ok (.aload_n 0, 1) := by decide +kernel
theorem dX10_lineNow_134 : decode cX10_lineNow 134 = .ok (.bipush 114, 2) := by decide +kernel
theorem dX10_lineNow_136 : decode cX10_lineNow 136 = .ok (.bipush 109, 2) := by decide +kernel
theorem dX10_lineNow_138 : decode cX10_lineNow 138 = .ok (.iconst 0, 1) := by decide +kernel
theorem dX10_lineNow_139 : decode cX10_lineNow 139 = .ok (.invokevirtual 136, 3) := by decide +kernel
theorem dX10_lineNow_142 : decode cX10_lineNow 142 = .ok (.ifCond .eq 5, 3) := by decide +kernel
theorem dX10_lineNow_145 : decode cX10_lineNow 145 = .ok (.iconst 3, 1) := by decide +kernel
theorem dX10_lineNow_146 : decode cX10_lineNow 146 = .ok (.ireturn, 1) := by decide +kernel
theorem dX10_lineNow_147 : decode cX10_lineNow 147 = .ok (.aload_n 0, 1) := by decide +kernel
theorem dX10_lineNow_148 : decode cX10_lineNow 148 = .ok (.iconst 5, 1) := by decide +kernel
theorem dX10_lineNow_149 : decode cX10_lineNow 149 = .ok (.bipush 119, 2) := by decide +kernel
theorem dX10_lineNow_151 : decode cX10_lineNow 151 = .ok (.bipush 97, 2) := by decide +kernel
theorem dX10_lineNow_153 : decode cX10_lineNow 153 = .ok (.bipush 116, 2) := by decide +kernel
theorem dX10_lineNow_155 : decode cX10_lineNow 155 = .ok (.invokevirtual 132, 3) := by decide +kernel
theorem dX10_lineNow_158 : decode cX10_lineNow 158 = .ok (.ifCond .eq 19, 3) := by decide +kernel
theorem dX10_lineNow_161 : decode cX10_lineNow 161 = .ok (.aload_n 0, 1) := by decide +kernel
theorem dX10_lineNow_162 : decode cX10_lineNow 162 = .ok (.bipush 99, 2) := by decide +kernel
theorem dX10_lineNow_164 : decode cX10_lineNow 164 = .ok (.bipush 104, 2) := by decide +kernel
theorem dX10_lineNow_166 : decode cX10_lineNow 166 = .ok (.iconst 0, 1) := by decide +kernel
theorem dX10_lineNow_167 : decode cX10_lineNow 167 = .ok (.invokevirtual 136, 3) := by decide +kernel
theorem dX10_lineNow_170 : decode cX10_lineNow 170 = .ok (.ifCond .eq 7, 3) := by decide +kernel
theorem dX10_lineNow_173 : decode cX10_lineNow 173 = .ok (.iconst 4, 1) := by decide +kernel
theorem dX10_lineNow_174 : decode cX10_lineNow 174 = .ok (.goto 23, 3) := by decide +kernel
theorem dX10_lineNow_177 : decode cX10_lineNow 177 = .ok (.aload_n 0, 1) := by decide +kernel
theorem dX10_lineNow_178 : decode cX10_lineNow 178 = .ok (.iconst 3, 1) := by decide +kernel
theorem dX10_lineNow_179 : decode cX10_lineNow 179 = .ok (.bipush 98, 2) := by decide +kernel
theorem dX10_lineNow_181 : decode cX10_lineNow 181 = .ok (.bipush 101, 2) := by decide +kernel
theorem dX10_lineNow_183 : decode cX10_lineNow 183 = .ok (.bipush 100, 2) := by decide +kernel
theorem dX10_lineNow_185 : decode cX10_lineNow 185 = .ok (.invokevirtual 132, 3) := by decide +kernel
theorem dX10_lineNow_188 : decode cX10_lineNow 188 = .ok (.ifCond .eq 7, 3) := by decide +kernel
theorem dX10_lineNow_191 : decode cX10_lineNow 191 = .ok (.iconst 5, 1) := by decide +kernel
theorem dX10_lineNow_192 : decode cX10_lineNow 192 = .ok (.goto 5, 3) := by decide +kernel
theorem dX10_lineNow_195 : decode cX10_lineNow 195 = .ok (.bipush (-4), 2) := by decide +kernel
theorem dX10_lineNow_197 : decode cX10_lineNow 197 = .ok (.ireturn, 1) := by decide +kernel
theorem dX10_kindNow_0 : decode cX10_kindNow 0 = .ok (.aload_n 0, 1) := by decide +kernel
theorem dX10_kindNow_1 : decode cX10_kindNow 1 = .ok (.iconst 5, 1) := by decide +kernel
theorem dX10_kindNow_2 : decode cX10_kindNow 2 = .ok (.bipush 112, 2) := by decide +kernel
theorem dX10_kindNow_4 : decode cX10_kindNow 4 = .ok (.bipush 108, 2) := by decide +kernel
theorem dX10_kindNow_6 : decode cX10_kindNow 6 = .ok (.bipush 97, 2) := by decide +kernel
theorem dX10_kindNow_8 : decode cX10_kindNow 8 = .ok (.invokevirtual 132, 3) := by decide +kernel
theorem dX10_kindNow_11 : decode cX10_kindNow 11 = .ok (.ifCond .eq 17, 3) := by decide +kernel
theorem dX10_kindNow_14 : decode cX10_kindNow 14 = .ok (.aload_n 0, 1) := by decide +kernel
theorem dX10_kindNow_15 : decode cX10_kindNow 15 = .ok (.bipush 105, 2) := by decide +kernel
theorem dX10_kindNow_17 : decode cX10_kindNow 17 = .ok (.bipush 110, 2) := by decide +kernel
theorem dX10_kindNow_19 : decode cX10_kindNow 19 = .ok (.iconst 0, 1) := by decide +kernel
theorem dX10_kindNow_20 : decode cX10_kindNow 20 = .ok (.invokevirtual 136, 3) := by decide +kernel
theorem dX10_kindNow_23 : decode cX10_kindNow 23 = .ok (.ifCond .eq 5, 3) := by decide +kernel
theorem dX10_kindNow_26 : decode cX10_kindNow 26 = .ok (.iconst 0, 1) := by decide +kernel
theorem dX10_kindNow_27 : decode cX10_kindNow 27 = .ok (.ireturn, 1) := by decide +kernel
theorem dX10_kindNow_28 : decode cX10_kindNow 28 = .ok (.aload_n 0, 1) := by decide +kernel
theorem dX10_kindNow_29 : decode cX10_kindNow 29 = .ok (.iconst 5, 1) := by decide +kernel
theorem dX10_kindNow_30 : decode cX10_kindNow 30 = .ok (.bipush 103, 2) := by decide +kernel
theorem dX10_kindNow_32 : decode cX10_kindNow 32 = .ok (.bipush 108, 2) := by decide +kernel
theorem dX10_kindNow_34 : decode cX10_kindNow 34 = .ok (.bipush 97, 2) := by decide +kernel
theorem dX10_kindNow_36 : decode cX10_kindNow 36 = .ok (.invokevirtual 132, 3) := by decide +kernel
theorem dX10_kindNow_39 : decode cX10_kindNow 39 = .ok (.ifCond .eq 17, 3) := by decide +kernel
theorem dX10_kindNow_42 : decode cX10_kindNow 42 = .ok (.aload_n 0, 1) := by decide +kernel
theorem dX10_kindNow_43 : decode cX10_kindNow 43 = .ok (.bipush 115, 2) := by decide +kernel
theorem dX10_kindNow_45 : decode cX10_kindNow 45 = .ok (.bipush 115, 2) := by decide +kernel
theorem dX10_kindNow_47 : decode cX10_kindNow 47 = .ok (.iconst 0, 1) := by decide +kernel
theorem dX10_kindNow_48 : decode cX10_kindNow 48 = .ok (.invokevirtual 136, 3) := by decide +kernel
theorem dX10_kindNow_51 : decode cX10_kindNow 51 = .ok (.ifCond .eq 5, 3) := by decide +kernel
theorem dX10_kindNow_54 : decode cX10_kindNow 54 = .ok (.iconst 1, 1) := by decide +kernel
theorem dX10_kindNow_55 : decode cX10_kindNow 55 = .ok (.ireturn, 1) := by decide +kernel
theorem dX10_kindNow_56 : decode cX10_kindNow 56 = .ok (.aload_n 0, 1) := by decide +kernel
theorem dX10_kindNow_57 : decode cX10_kindNow 57 = .ok (.bipush 7, 2) := by decide +kernel
theorem dX10_kindNow_59 : decode cX10_kindNow 59 = .ok (.bipush 118, 2) := by decide +kernel
theorem dX10_kindNow_61 : decode cX10_kindNow 61 = .ok (.bipush 105, 2) := by decide +kernel
theorem dX10_kindNow_63 : decode cX10_kindNow 63 = .ok (.bipush 115, 2) := by decide +kernel
theorem dX10_kindNow_65 : decode cX10_kindNow 65 = .ok (.invokevirtual 132, 3) := by decide +kernel
theorem dX10_kindNow_68 : decode cX10_kindNow 68 = .ok (.ifCond .eq 34, 3) := by decide +kernel
theorem dX10_kindNow_71 : decode cX10_kindNow 71 = .ok (.aload_n 0, 1) := by decide +kernel
theorem dX10_kindNow_72 : decode cX10_kindNow 72 = .ok (.bipush 105, 2) := by decide +kernel
theorem dX10_kindNow_74 : decode cX10_kindNow 74 = .ok (.bipush 116, 2) := by decide +kernel
theorem dX10_kindNow_76 : decode cX10_kindNow 76 = .ok (.bipush 111, 2) := by decide +kernel
theorem dX10_kindNow_78 : decode cX10_kindNow 78 = .ok (.invokevirtual 136, 3) := by decide +kernel
theorem dX10_kindNow_81 : decode cX10_kindNow 81 = .ok (.ifCond .eq 21, 3) := by decide +kernel
theorem dX10_kindNow_84 : decode cX10_kindNow 84 = .ok (.aload_n 0, 1) := by decide +kernel
theorem dX10_kindNow_85 : decode cX10_kindNow 85 = .ok (.aload_n 0, 1) := by decide +kernel
theorem dX10_kindNow_86 : decode cX10_kindNow 86 = .ok (.getfield 119, 3) := by decide +kernel
theorem dX10_kindNow_89 : decode cX10_kindNow 89 = .ok (.bipush 6, 2) := by decide +kernel
theorem dX10_kindNow_91 : decode cX10_kindNow 91 = .ok (.iadd, 1) := by decide +kernel
theorem dX10_kindNow_92 : decode cX10_kindNow 92 = .ok (.invokevirtual 128, 3) := by decide +kernel
theorem dX10_kindNow_95 : decode cX10_kindNow 95 = .ok (.bipush 114, 2) := by decide +kernel
theorem dX10_kindNow_97 : decode cX10_kindNow 97 = .ok (.if_icmp .ne 5, 3) := by decide +kernel
theorem dX10_kindNow_100 : decode cX10_kindNow 100 = .ok (.iconst 2, 1) := by decide +kernel
theorem dX10_kindNow_101 : decode cX10_kindNow 101 = .ok (.ireturn, 1) := by decide +kernel
theorem dX10_kindNow_102 : decode cX10_kindNow 102 = .ok (.aload_n 0, 1) := by decide +kernel
theorem dX10_kindNow_103 : decode cX10_kindNow 103 = .ok (.bipush 7, 2) := by decide +kernel
theorem dX10_kindNow_105 : decode cX10_kindNow 105 = .ok (.bipush 100, 2) := by decide +kernel
theorem dX10_kindNow_107 : decode cX10_kindNow 107 = .ok (.bipush 114, 2) := by decide +kernel
theorem dX10_kindNow_109 : decode cX10_kindNow 109 = .ok (.bipush 101, 2) := by decide +kernel
theorem dX10_kindNow_111 : decode cX10_kindNow 111 = .ok (.invokevirtual 132, 3) := by decide +kernel
theorem dX10_kindNow_114 : decode cX10_kindNow 114 = .ok (.ifCond .eq 36, 3) := by decide +kernel
theorem dX10_kindNow_117 : decode cX10_kindNow 117 = .ok (.aload_n 0, 1) := by decide +kernel
theorem dX10_kindNow_118 : decode cX10_kindNow 118 = .ok (.bipush 97, 2) := by decide +kernel
theorem dX10_kindNow_120 : decode cX10_kindNow 120 = .ok (.bipush 109, 2) := by decide +kernel
theorem dX10_kindNow_122 : decode cX10_kindNow 122 = .ok (.bipush 101, 2) := by decide +kernel
theorem dX10_kindNow_124 : decode cX10_kindNow 124 = .ok (.invokevirtual 136, 3) := by decide +kernel
theorem dX10_kindNow_127 : decode cX10_kindNow 127 = .ok (.ifCond .eq 23, 3) := by decide +kernel
theorem dX10_kindNow_130 : decode cX10_kindNow 130 = .ok (.aload_n 0, 1) := by decide +kernel
theorem dX10_kindNow_131 : decode cX10_kindNow 131 = .ok (.aload_n 0, 1) := by decide +kernel
theorem dX10_kindNow_132 : decode cX10_kindNow 132 = .ok (.getfield 119, 3) := by decide +kernel
theorem dX10_kindNow_135 : decode cX10_kindNow 135 = .ok (.bipush 6, 2) := by decide +kernel
theorem dX10_kindNow_137 : decode cX10_kindNow 137 = .ok (.iadd, 1) := by decide +kernel
theorem dX10_kindNow_138 : decode cX10_kindNow 138 = .ok (.invokevirtual 128, 3) := by decide +kernel
theorem dX10_kindNow_141 : decode cX10_kindNow 141 = .ok (.bipush 114, 2) := by decide +kernel
theorem dX10_kindNow_143 : decode cX10_kindNow 143 = .ok (.if_icmp .ne 7, 3) := by decide +kernel
theorem dX10_kindNow_146 : decode cX10_kindNow 146 = .ok (.iconst 3, 1) := by decide +kernel
theorem dX10_kindNow_147 : decode cX10_kindNow 147 = .ok (.goto 5, 3) := by decide +kernel
theorem dX10_kindNow_150 : decode cX10_kindNow 150 = .ok (.bipush (-4), 2) := by decide +kernel
theorem dX10_kindNow_152 : decode cX10_kindNow 152 = .ok (.ireturn, 1) := by decide +kernel
theorem dX10_next_0 : decode cX10_next 0 = .ok (.aload_n 0, 1) := by decide +kernel
theorem dX10_next_1 : decode cX10_next 1 = .ok (.getfield 116, 3) := by decide +kernel
theorem dX10_next_4 : decode cX10_next 4 = .ok (.ifCond .le 4, 3) := by decide +kernel
theorem dX10_next_7 : decode cX10_next 7 = .ok (.return_, 1) := by decide +kernel
theorem dX10_next_8 : decode cX10_next 8 = .ok (.aload_n 0, 1) := by decide +kernel
theorem dX10_next_9 : decode cX10_next 9 = .ok (.aload_n 0, 1) := by decide +kernel
theorem dX10_next_10 : decode cX10_next 10 = .ok (.getfield 125, 3) := by decide +kernel
theorem dX10_next_13 : decode cX10_next 13 = .ok (.invokevirtual 128, 3) := by decide +kernel
theorem dX10_next_16 : decode cX10_next 16 = .ok (.bipush 32, 2) := by decide +kernel
theorem dX10_next_18 : decode cX10_next 18 = .ok (.if_icmp .ne 16, 3) := by decide +kernel
theorem dX10_next_21 : decode cX10_next 21 = .ok (.aload_n 0, 1) := by decide +kernel
theorem dX10_next_22 : decode cX10_next 22 = .ok (.dup, 1) := by decide +kernel
theorem dX10_next_23 : decode cX10_next 23 = .ok (.getfield 125, 3) := by decide +kernel
theorem dX10_next_26 : decode cX10_next 26 = .ok (.iconst 1, 1) := by decide +kernel
theorem dX10_next_27 : decode cX10_next 27 = .ok (.iadd, 1) := by decide +kernel
theorem dX10_next_28 : decode cX10_next 28 = .ok (.putfield 125, 3) := by decide +kernel
theorem dX10_next_31 : decode cX10_next 31 = .ok (.goto (-23), 3) := by decide +kernel
theorem dX10_next_34 : decode cX10_next 34 = .ok (.aload_n 0, 1) := by decide +kernel
theorem dX10_next_35 : decode cX10_next 35 = .ok (.aload_n 0, 1) := by decide +kernel
theorem dX10_next_36 : decode cX10_next 36 = .ok (.getfield 125, 3) := by decide +kernel
theorem dX10_next_39 : decode cX10_next 39 = .ok (.putfield 119, 3) := by decide +kernel
theorem dX10_next_42 : decode cX10_next 42 = .ok (.aload_n 0, 1) := by decide +kernel
theorem dX10_next_43 : decode cX10_next 43 = .ok (.aload_n 0, 1) := by decide +kernel
theorem dX10_next_44 : decode cX10_next 44 = .ok (.getfield 125, 3) := by decide +kernel
theorem dX10_next_47 : decode cX10_next 47 = .ok (.invokevirtual 128, 3) := by decide +kernel
theorem dX10_next_50 : decode cX10_next 50 = .ok (.istore_n 1, 1) := by decide +kernel
theorem dX10_next_51 : decode cX10_next 51 = .ok (.iload_n 1, 1) := by decide +kernel
theorem dX10_next_52 : decode cX10_next 52 = .ok (.ifCond .ge 11, 3) := by decide +kernel
theorem dX10_next_55 : decode cX10_next 55 = .ok (.aload_n 0, 1) := by decide +kernel
theorem dX10_next_56 : decode cX10_next 56 = .ok (.iconst 0, 1) := by decide +kernel
theorem dX10_next_57 : decode cX10_next 57 = .ok (.putfield 140, 3) := by decide +kernel
theorem dX10_next_60 : decode cX10_next 60 = .ok (.goto 214, 3) := by decide +kernel
theorem dX10_next_63 : decode cX10_next 63 = .ok (.iload_n 1, 1) := by decide +kernel
theorem dX10_next_64 : decode cX10_next 64 = .ok (.i2l, 1) := by decide +kernel
theorem dX10_next_65 : decode cX10_next 65 = .ok (.ldc2_w 143, 3) := by decide +kernel
theorem dX10_next_68 : decode cX10_next 68 = .ok (.ldc2_w 145, 3) := by decide +kernel
theorem dX10_next_71 : decode cX10_next 71 = .ok (.invokestatic 112, 3) := by decide +kernel
theorem dX10_next_74 : decode cX10_next 74 = .ok (.ifCond .eq 42, 3) := by decide +kernel
theorem dX10_next_77 : decode cX10_next 77 = .ok (.aload_n 0, 1) := by decide +kernel
theorem dX10_next_78 : decode cX10_next 78 = .ok (.iconst 1, 1) := by decide +kernel
theorem dX10_next_79 : decode cX10_next 79 = .ok (.putfield 140, 3) := by decide +kernel
theorem dX10_next_82 : decode cX10_next 82 = .ok (.aload_n 0, 1) := by decide +kernel
theorem dX10_next_83 : decode cX10_next 83 = .ok (.aload_n 0, 1) := by decide +kernel
theorem dX10_next_84 : decode cX10_next 84 = .ok (.getfield 125, 3) := by decide +kernel
theorem dX10_next_87 : decode cX10_next 87 = .ok (.invokevirtual 128, 3) := by decide +kernel
theorem dX10_next_90 : decode cX10_next 90 = .ok (.i2l, 1) := by decide +kernel
theorem dX10_next_91 : decode cX10_next 91 = .ok (.ldc2_w 143, 3) := by decide +kernel
theorem dX10_next_94 : decode cX10_next 94 = .ok (.ldc2_w 145, 3) := by decide +kernel
theorem dX10_next_97 : decode cX10_next 97 = .ok (.invokestatic 112, 3) := by decide +kernel
theorem dX10_next_100 : decode cX10_next 100 = .ok (.ifCond .eq 174, 3) := by decide +kernel
theorem dX10_next_103 : decode cX10_next 103 = .ok (.aload_n 0, 1) := by decide +kernel
theorem dX10_next_104 : decode cX10_next 104 = .ok (.dup, 1) := by decide +kernel
theorem dX10_next_105 : decode cX10_next 105 = .ok (.getfield 125, 3) := by decide +kernel
theorem dX10_next_108 : decode cX10_next 108 = .ok (.iconst 1, 1) := by decide +kernel
theorem dX10_next_109 : decode cX10_next 109 = .ok (.iadd, 1) := by decide +kernel
theorem dX10_next_110 : decode cX10_next 110 = .ok (.putfield 125, 3) := by decide +kernel
theorem dX10_next_113 : decode cX10_next 113 = .ok (.goto (-31), 3) := by decide +kernel
theorem dX10_next_116 : decode cX10_next 116 = .ok (.iload_n 1, 1) := by decide +kernel
theorem dX10_next_117 : decode cX10_next 117 = .ok (.i2l, 1) := by decide +kernel
theorem dX10_next_118 : decode cX10_next 118 = .ok (.ldc2_w 147, 3) := by decide +kernel
theorem dX10_next_121 : decode cX10_next 121 = .ok (.ldc2_w 149, 3) := by decide +kernel
theorem dX10_next_124 : decode cX10_next 124 = .ok (.invokestatic 112, 3) := by decide +kernel
theorem dX10_next_127 : decode cX10_next 127 = .ok (.ifCond .eq 116, 3) := by decide +kernel
theorem dX10_next_130 : decode cX10_next 130 = .ok (.aload_n 0, 1) := by decide +kernel
theorem dX10_next_131 : decode cX10_next 131 = .ok (.iconst 2, 1) := by decide +kernel
theorem dX10_next_132 : decode cX10_next 132 = .ok (.putfield 140, 3) := by decide +kernel
theorem dX10_next_135 : decode cX10_next 135 = .ok (.aload_n 0, 1) := by decide +kernel
theorem dX10_next_136 : decode cX10_next 136 = .ok (.iconst 0, 1) := by decide +kernel
theorem dX10_next_137 : decode cX10_next 137 = .ok (.putfield 151, 3) := by decide +kernel
theorem dX10_next_140 : decode cX10_next 140 = .ok (.aload_n 0, 1) := by decide +kernel
theorem dX10_next_141 : decode cX10_next 141 = .ok (.aload_n 0, 1) := by decide +kernel
theorem dX10_next_142 : decode cX10_next 142 = .ok (.getfield 125, 3) := by decide +kernel
theorem dX10_next_145 : decode cX10_next 145 = .ok (.invokevirtual 128, 3) := by decide +kernel
theorem dX10_next_148 : decode cX10_next 148 = .ok (.i2l, 1) := by decide +kernel
theorem dX10_next_149 : decode cX10_next 149 = .ok (.ldc2_w 147, 3) := by decide +kernel
theorem dX10_next_152 : decode cX10_next 152 = .ok (.ldc2_w 149, 3) := by decide +kernel
theorem dX10_next_155 : decode cX10_next 155 = .ok (.invokestatic 112, 3) := by decide +kernel
theorem dX10_next_158 : decode cX10_next 158 = .ok (.ifCond .eq 59, 3) := by decide +kernel
theorem dX10_next_161 : decode cX10_next 161 = .ok (.aload_n 0, 1) := by decide +kernel
theorem dX10_next_162 : decode cX10_next 162 = .ok (.aload_n 0, 1) := by decide +kernel
theorem dX10_next_163 : decode cX10_next 163 = .ok (.getfield 125, 3) := by decide +kernel
theorem dX10_next_166 : decode cX10_next 166 = .ok (.aload_n 0, 1) := by decide +kernel
theorem dX10_next_167 : decode cX10_next 167 = .ok (.getfield 119, 3) := by decide +kernel
theorem dX10_next_170 : decode cX10_next 170 = .ok (.isub, 1) := by decide +kernel
theorem dX10_next_171 : decode cX10_next 171 = .ok (.iconst 2, 1) := by decide +kernel
theorem dX10_next_172 : decode cX10_next 172 = .ok (.if_icmp .ge 25, 3) := by decide +kernel
theorem dX10_next_175 : decode cX10_next 175 = .ok (.bipush 10, 2) := by decide +kernel
theorem dX10_next_177 : decode cX10_next 177 = .ok (.aload_n 0, 1) := by decide +kernel
theorem dX10_next_178 : decode cX10_next 178 = .ok (.getfield 151, 3) := by decide +kernel
theorem dX10_next_181 : decode cX10_next 181 = .ok (.imul, 1) := by decide +kernel
theorem dX10_next_182 : decode cX10_next 182 = .ok (.aload_n 0, 1) := by decide +kernel
theorem dX10_next_183 : decode cX10_next 183 = .ok (.aload_n 0, 1) := by decide +kernel
theorem dX10_next_184 : decode cX10_next 184 = .ok (.getfield 125, 3) := by decide +kernel
theorem dX10_next_187 : decode cX10_next 187 = .ok (.invokevirtual 128, 3) := by decide +kernel
theorem dX10_next_190 : decode cX10_next 190 = .ok (.iadd, 1) := by decide +kernel
theorem dX10_next_191 : decode cX10_next 191 = .ok (.bipush 48, 2) := by decide +kernel
theorem dX10_next_193 : decode cX10_next 193 = .ok (.isub, 1) := by decide +kernel
theorem dX10_next_194 : decode cX10_next 194 = .ok (.goto 7, 3) := by decide +kernel
theorem dX10_next_197 : decode cX10_next 197 = .ok (.aload_n 0, 1) := by decide +kernel
theorem dX10_next_198 : decode cX10_next 198 = .ok (.getfield 151, 3) := by decide +kernel
theorem dX10_next_201 : decode cX10_next 201 = .ok (.putfield 151, 3) := by decide +kernel
theorem dX10_next_204 : decode cX10_next 204 = .ok (.aload_n 0, 1) := by decide +kernel
theorem dX10_next_205 : decode cX10_next 205 = .ok (.dup, 1) := by decide +kernel
theorem dX10_next_206 : decode cX10_next 206 = .ok (.getfield 125, 3) := by decide +kernel
theorem dX10_next_209 : decode cX10_next 209 = .ok (.iconst 1, 1) := by decide +kernel
theorem dX10_next_210 : decode cX10_next 210 = .ok (.iadd, 1) := by decide +kernel
theorem dX10_next_211 : decode cX10_next 211 = .ok (.putfield 125, 3) := by decide +kernel
theorem dX10_next_214 : decode cX10_next 214 = .ok (.goto (-74), 3) := by decide +kernel
theorem dX10_next_217 : decode cX10_next 217 = .ok (.aload_n 0, 1) := by decide +kernel
theorem dX10_next_218 : decode cX10_next 218 = .ok (.aload_n 0, 1) := by decide +kernel
theorem dX10_next_219 : decode cX10_next 219 = .ok (.getfield 125, 3) := by decide +kernel
theorem dX10_next_222 : decode cX10_next 222 = .ok (.aload_n 0, 1) := by decide +kernel
theorem dX10_next_223 : decode cX10_next 223 = .ok (.getfield 119, 3) := by decide +kernel
theorem dX10_next_226 : decode cX10_next 226 = .ok (.isub, 1) := by decide +kernel
theorem dX10_next_227 : decode cX10_next 227 = .ok (.iconst 2, 1) := by decide +kernel
theorem dX10_next_228 : decode cX10_next 228 = .ok (.if_icmp .gt 7, 3) := by decide +kernel
theorem dX10_next_231 : decode cX10_next 231 = .ok (.iconst 1, 1) := by decide +kernel
theorem dX10_next_232 : decode cX10_next 232 = .ok (.goto 4, 3) := by decide +kernel
theorem dX10_next_235 : decode cX10_next 235 = .ok (.iconst 0, 1) := by decide +kernel
theorem dX10_next_236 : decode cX10_next 236 = .ok (.iconst 1, 1) := by decide +kernel
theorem dX10_next_237 : decode cX10_next 237 = .ok (.invokevirtual 154, 3) := by decide +kernel
theorem dX10_next_240 : decode cX10_next 240 = .ok (.goto 34, 3) := by decide +kernel
theorem dX10_next_243 : decode cX10_next 243 = .ok (.aload_n 0, 1) := by decide +kernel
theorem dX10_next_244 : decode cX10_next 244 = .ok (.iconst 3, 1) := by decide +kernel
theorem dX10_next_245 : decode cX10_next 245 = .ok (.putfield 140, 3) := by decide +kernel
theorem dX10_next_248 : decode cX10_next 248 = .ok (.aload_n 0, 1) := by decide +kernel
theorem dX10_next_249 : decode cX10_next 249 = .ok (.iload_n 1, 1) := by decide +kernel
theorem dX10_next_250 : decode cX10_next 250 = .ok (.bipush 59, 2) := by decide +kernel
theorem dX10_next_252 : decode cX10_next 252 = .ok (.if_icmp .ne 7, 3) := by decide +kernel
theorem dX10_next_255 : decode cX10_next 255 = .ok (.iconst 1, 1) := by decide +kernel
theorem dX10_next_256 : decode cX10_next 256 = .ok (.goto 4, 3) := by decide +kernel
theorem dX10_next_259 : decode cX10_next 259 = .ok (.iconst 0, 1) := by decide +kernel
theorem dX10_next_260 : decode cX10_next 260 = .ok (.iconst 1, 1) := by decide +kernel
theorem dX10_next_261 : decode cX10_next 261 = .ok (.invokevirtual 154, 3) := by decide +kernel
theorem dX10_next_264 : decode cX10_next 264 = .ok (.aload_n 0, 1) := by decide +kernel
theorem dX10_next_265 : decode cX10_next 265 = .ok (.dup, 1) := by decide +kernel
theorem dX10_next_266 : decode cX10_next 266 = .ok (.getfield 125, 3) := by decide +kernel
theorem dX10_next_269 : decode cX10_next 269 = .ok (.iconst 1, 1) := by decide +kernel
theorem dX10_next_270 : decode cX10_next 270 = .ok (.iadd, 1) := by decide +kernel
theorem dX10_next_271 : decode cX10_next 271 = .ok (.putfield 125, 3) := by decide +kernel
theorem dX10_next_274 : decode cX10_next 274 = .ok (.return_, 1) := by decide +kernel
theorem dX10_looked_0 : decode cX10_looked 0 = .ok (.aload_n 0, 1) := by decide +kernel
theorem dX10_looked_1 : decode cX10_looked 1 = .ok (.getfield 116, 3) := by decide +kernel
theorem dX10_looked_4 : decode cX10_looked 4 = .ok (.ifCond .ne 21, 3) := by decide +kernel
theorem dX10_looked_7 : decode cX10_looked 7 = .ok (.aload_n 0, 1) := by decide +kernel
theorem dX10_looked_8 : decode cX10_looked 8 = .ok (.aload_n 0, 1) := by decide +kernel
theorem dX10_looked_9 : decode cX10_looked 9 = .ok (.getfield 140, 3) := by decide +kernel
theorem dX10_looked_12 : decode cX10_looked 12 = .ok (.iconst 2, 1) := by decide +kernel
theorem dX10_looked_13 : decode cX10_looked 13 = .ok (.if_icmp .ne 7, 3) := by decide +kernel
theorem dX10_looked_16 : decode cX10_looked 16 = .ok (.iconst 1, 1) := by decide +kernel
theorem dX10_looked_17 : decode cX10_looked 17 = .ok (.goto 4, 3) := by decide +kernel
theorem dX10_looked_20 : decode cX10_looked 20 = .ok (.iconst 0, 1) := by decide +kernel
theorem dX10_looked_21 : decode cX10_looked 21 = .ok (.iconst 2, 1) := by decide +kernel
theorem dX10_looked_22 : decode cX10_looked 22 = .ok (.invokevirtual 154, 3) := by decide +kernel
theorem dX10_looked_25 : decode cX10_looked 25 = .ok (.aload_n 0, 1) := by decide +kernel
theorem dX10_looked_26 : decode cX10_looked 26 = .ok (.getfield 116, 3) := by decide +kernel
theorem dX10_looked_29 : decode cX10_looked 29 = .ok (.ifCond .ne 20, 3) := by decide +kernel
theorem dX10_looked_32 : decode cX10_looked 32 = .ok (.aload_n 0, 1) := by decide +kernel
theorem dX10_looked_33 : decode cX10_looked 33 = .ok (.aload_n 0, 1) := by decide +kernel
theorem dX10_looked_34 : decode cX10_looked 34 = .ok (.getfield 151, 3) := by decide +kernel
theorem dX10_looked_37 : decode cX10_looked 37 = .ok (.i2l, 1) := by decide +kernel
theorem dX10_looked_38 : decode cX10_looked 38 = .ok (.iload_n 1, 1) := by decide +kernel
theorem dX10_looked_39 : decode cX10_looked 39 = .ok (.i2l, 1) := by decide +kernel
theorem dX10_looked_40 : decode cX10_looked 40 = .ok (.iload_n 2, 1) := by decide +kernel
theorem dX10_looked_41 : decode cX10_looked 41 = .ok (.i2l, 1) := by decide +kernel
theorem dX10_looked_42 : decode cX10_looked 42 = .ok (.invokestatic 112, 3) := by decide +kernel
theorem dX10_looked_45 : decode cX10_looked 45 = .ok (.iconst 3, 1) := by decide +kernel
theorem dX10_looked_46 : decode cX10_looked 46 = .ok (.invokevirtual 154, 3) := by decide +kernel
theorem dX10_looked_49 : decode cX10_looked 49 = .ok (.aload_n 0, 1) := by decide +kernel
theorem dX10_looked_50 : decode cX10_looked 50 = .ok (.getfield 116, 3) := by decide +kernel
theorem dX10_looked_53 : decode cX10_looked 53 = .ok (.ifCond .ne 10, 3) := by decide +kernel
theorem dX10_looked_56 : decode cX10_looked 56 = .ok (.aload_n 0, 1) := by decide +kernel
theorem dX10_looked_57 : decode cX10_looked 57 = .ok (.getfield 151, 3) := by decide +kernel
theorem dX10_looked_60 : decode cX10_looked 60 = .ok (.goto 4, 3) := by decide +kernel
theorem dX10_looked_63 : decode cX10_looked 63 = .ok (.iconst 0, 1) := by decide +kernel
theorem dX10_looked_64 : decode cX10_looked 64 = .ok (.ireturn, 1) := by decide +kernel
theorem dX10_readNumber_0 : decode cX10_readNumber 0 = .ok (.aload_n 0, 1) := by decide +kernel
theorem dX10_readNumber_1 : decode cX10_readNumber 1 = .ok (.iload_n 1, 1) := by decide +kernel
theorem dX10_readNumber_2 : decode cX10_readNumber 2 = .ok (.iload_n 2, 1) := by decide +kernel
theorem dX10_readNumber_3 : decode cX10_readNumber 3 = .ok (.invokevirtual 158, 3) := by decide +kernel
theorem dX10_readNumber_6 : decode cX10_readNumber 6 = .ok (.istore_n 3, 1) := by decide +kernel
theorem dX10_readNumber_7 : decode cX10_readNumber 7 = .ok (.aload_n 0, 1) := by decide +kernel
theorem dX10_readNumber_8 : decode cX10_readNumber 8 = .ok (.invokevirtual 161, 3) := by decide +kernel
theorem dX10_readNumber_11 : decode cX10_readNumber 11 = .ok (.iload_n 3, 1) := by decide +kernel
theorem dX10_readNumber_12 : decode cX10_readNumber 12 = .ok (.ireturn, 1) := by decide +kernel
theorem dX10_readNew_0 : decode cX10_readNew 0 = .ok (.aload_n 0, 1) := by decide +kernel
theorem dX10_readNew_1 : decode cX10_readNew 1 = .ok (.iconst 0, 1) := by decide +kernel
theorem dX10_readNew_2 : decode cX10_readNew 2 = .ok (.iload_n 1, 1) := by decide +kernel
theorem dX10_readNew_3 : decode cX10_readNew 3 = .ok (.invokevirtual 158, 3) := by decide +kernel
theorem dX10_readNew_6 : decode cX10_readNew 6 = .ok (.istore_n 3, 1) := by decide +kernel
theorem dX10_readNew_7 : decode cX10_readNew 7 = .ok (.aload_n 0, 1) := by decide +kernel
theorem dX10_readNew_8 : decode cX10_readNew 8 = .ok (.getfield 116, 3) := by decide +kernel
theorem dX10_readNew_11 : decode cX10_readNew 11 = .ok (.ifCond .ne 21, 3) := by decide +kernel
theorem dX10_readNew_14 : decode cX10_readNew 14 = .ok (.aload_n 0, 1) := by decide +kernel
theorem dX10_readNew_15 : decode cX10_readNew 15 = .ok (.iload_n 2, 1) := by decide +kernel
theorem dX10_readNew_16 : decode cX10_readNew 16 = .ok (.iload_n 3, 1) := by decide +kernel
theorem dX10_readNew_17 : decode cX10_readNew 17 = .ok (.ishr, 1) := by decide +kernel
theorem dX10_readNew_18 : decode cX10_readNew 18 = .ok (.iconst 1, 1) := by decide +kernel
theorem dX10_readNew_19 : decode cX10_readNew 19 = .ok (.iand, 1) := by decide +kernel
theorem dX10_readNew_20 : decode cX10_readNew 20 = .ok (.ifCond .ne 7, 3) := by decide +kernel
theorem dX10_readNew_23 : decode cX10_readNew 23 = .ok (.iconst 1, 1) := by decide +kernel
theorem dX10_readNew_24 : decode cX10_readNew 24 = .ok (.goto 4, 3) := by decide +kernel
theorem dX10_readNew_27 : decode cX10_readNew 27 = .ok (.iconst 0, 1) := by decide +kernel
theorem dX10_readNew_28 : decode cX10_readNew 28 = .ok (.iconst 4, 1) := by decide +kernel
theorem dX10_readNew_29 : decode cX10_readNew 29 = .ok (.invokevirtual 154, 3) := by decide +kernel
theorem dX10_readNew_32 : decode cX10_readNew 32 = .ok (.aload_n 0, 1) := by decide +kernel
theorem dX10_readNew_33 : decode cX10_readNew 33 = .ok (.invokevirtual 161, 3) := by decide +kernel
theorem dX10_readNew_36 : decode cX10_readNew 36 = .ok (.iload_n 3, 1) := by decide +kernel
theorem dX10_readNew_37 : decode cX10_readNew 37 = .ok (.ireturn, 1) := by decide +kernel
theorem dX10_readSister_0 : decode cX10_readSister 0 = .ok (.aload_n 0, 1) := by decide +kernel
theorem dX10_readSister_1 : decode cX10_readSister 1 = .ok (.getfield 116, 3) := by decide +kernel
theorem dX10_readSister_4 : decode cX10_readSister 4 = .ok (.ifCond .ne 18, 3) := by decide +kernel
theorem dX10_readSister_7 : decode cX10_readSister 7 = .ok (.aload_n 0, 1) := by decide +kernel
theorem dX10_readSister_8 : decode cX10_readSister 8 = .ok (.getfield 140, 3) := by decide +kernel
theorem dX10_readSister_11 : decode cX10_readSister 11 = .ok (.iconst 1, 1) := by decide +kernel
theorem dX10_readSister_12 : decode cX10_readSister 12 = .ok (.if_icmp .ne 10, 3) := by decide +kernel
theorem dX10_readSister_15 : decode cX10_readSister 15 = .ok (.aload_n 0, 1) := by decide +kernel
theorem dX10_readSister_16 : decode cX10_readSister 16 = .ok (.invokevirtual 164, 3) := by decide +kernel
theorem dX10_readSister_19 : decode cX10_readSister 19 = .ok (.goto 5, 3) := by decide +kernel
theorem dX10_readSister_22 : decode cX10_readSister 22 = .ok (.bipush (-4), 2) := by decide +kernel
theorem dX10_readSister_24 : decode cX10_readSister 24 = .ok (.istore_n 1, 1) := by decide +kernel
theorem dX10_readSister_25 : decode cX10_readSister 25 = .ok (.aload_n 0, 1) := by decide +kernel
theorem dX10_readSister_26 : decode cX10_readSister 26 = .ok (.iload_n 1, 1) := by decide +kernel
theorem dX10_readSister_27 : decode cX10_readSister 27 = .ok (.bipush (-4), 2) := by decide +kernel
theorem dX10_readSister_29 : decode cX10_readSister 29 = .ok (.if_icmp .eq 7, 3) := by decide +kernel
theorem dX10_readSister_32 : decode cX10_readSister 32 = .ok (.iconst 1, 1) := by decide +kernel
theorem dX10_readSister_33 : decode cX10_readSister 33 = .ok (.goto 4, 3) := by decide +kernel
theorem dX10_readSister_36 : decode cX10_readSister 36 = .ok (.iconst 0, 1) := by decide +kernel
theorem dX10_readSister_37 : decode cX10_readSister 37 = .ok (.iconst 2, 1) := by decide +kernel
theorem dX10_readSister_38 : decode cX10_readSister 38 = .ok (.invokevirtual 154, 3) := by decide +kernel
theorem dX10_readSister_41 : decode cX10_readSister 41 = .ok (.aload_n 0, 1) := by decide +kernel
theorem dX10_readSister_42 : decode cX10_readSister 42 = .ok (.invokevirtual 161, 3) := by decide +kernel
theorem dX10_readSister_45 : decode cX10_readSister 45 = .ok (.aload_n 0, 1) := by decide +kernel
theorem dX10_readSister_46 : decode cX10_readSister 46 = .ok (.getfield 26, 3) := by decide +kernel
theorem dX10_readSister_49 : decode cX10_readSister 49 = .ok (.aload_n 0, 1) := by decide +kernel
theorem dX10_readSister_50 : decode cX10_readSister 50 = .ok (.getfield 68, 3) := by decide +kernel
theorem dX10_readSister_53 : decode cX10_readSister 53 = .ok (.iload_n 1, 1) := by decide +kernel
theorem dX10_readSister_54 : decode cX10_readSister 54 = .ok (.iastore, 1) := by decide +kernel
theorem dX10_readSister_55 : decode cX10_readSister 55 = .ok (.aload_n 0, 1) := by decide +kernel
theorem dX10_readSister_56 : decode cX10_readSister 56 = .ok (.getfield 29, 3) := by decide +kernel
theorem dX10_readSister_59 : decode cX10_readSister 59 = .ok (.iconst 2, 1) := by decide +kernel
theorem dX10_readSister_60 : decode cX10_readSister 60 = .ok (.aload_n 0, 1) := by decide +kernel
theorem dX10_readSister_61 : decode cX10_readSister 61 = .ok (.getfield 68, 3) := by decide +kernel
theorem dX10_readSister_64 : decode cX10_readSister 64 = .ok (.imul, 1) := by decide +kernel
theorem dX10_readSister_65 : decode cX10_readSister 65 = .ok (.aload_n 0, 1) := by decide +kernel
theorem dX10_readSister_66 : decode cX10_readSister 66 = .ok (.iconst 0, 1) := by decide +kernel
theorem dX10_readSister_67 : decode cX10_readSister 67 = .ok (.bipush 15, 2) := by decide +kernel
theorem dX10_readSister_69 : decode cX10_readSister 69 = .ok (.invokevirtual 168, 3) := by decide +kernel
theorem dX10_readSister_72 : decode cX10_readSister 72 = .ok (.iastore, 1) := by decide +kernel
theorem dX10_readSister_73 : decode cX10_readSister 73 = .ok (.aload_n 0, 1) := by decide +kernel
theorem dX10_readSister_74 : decode cX10_readSister 74 = .ok (.getfield 29, 3) := by decide +kernel
theorem dX10_readSister_77 : decode cX10_readSister 77 = .ok (.iconst 2, 1) := by decide +kernel
theorem dX10_readSister_78 : decode cX10_readSister 78 = .ok (.aload_n 0, 1) := by decide +kernel
theorem dX10_readSister_79 : decode cX10_readSister 79 = .ok (.getfield 68, 3) := by decide +kernel
theorem dX10_readSister_82 : decode cX10_readSister 82 = .ok (.imul, 1) := by decide +kernel
theorem dX10_readSister_83 : decode cX10_readSister 83 = .ok (.iconst 1, 1) := by decide +kernel
theorem dX10_readSister_84 : decode cX10_readSister 84 = .ok (.iadd, 1) := by decide +kernel
theorem dX10_readSister_85 : decode cX10_readSister 85 = .ok (.aload_n 0, 1) := by decide +kernel
theorem dX10_readSister_86 : decode cX10_readSister 86 = .ok (.iconst 0, 1) := by decide +kernel
theorem dX10_readSister_87 : decode cX10_readSister 87 = .ok (.bipush 15, 2) := by decide +kernel
theorem dX10_readSister_89 : decode cX10_readSister 89 = .ok (.invokevirtual 168, 3) := by decide +kernel
theorem dX10_readSister_92 : decode cX10_readSister 92 = .ok (.iastore, 1) := by decide +kernel
theorem dX10_readSister_93 : decode cX10_readSister 93 = .ok (.aload_n 0, 1) := by decide +kernel
theorem dX10_readSister_94 : decode cX10_readSister 94 = .ok (.getfield 23, 3) := by decide +kernel
theorem dX10_readSister_97 : decode cX10_readSister 97 = .ok (.iconst 3, 1) := by decide +kernel
theorem dX10_readSister_98 : decode cX10_readSister 98 = .ok (.iconst 2, 1) := by decide +kernel
theorem dX10_readSister_99 : decode cX10_readSister 99 = .ok (.aload_n 0, 1) := by decide +kernel
theorem dX10_readSister_100 : decode cX10_readSister 100 = .ok (.getfield 68, 3) := by decide +kernel
theorem dX10_readSister_103 : decode cX10_readSister 103 = .ok (.imul, 1) := by decide +kernel
theorem dX10_readSister_104 : decode cX10_readSister 104 = .ok (.iadd, 1) := by decide +kernel
theorem dX10_readSister_105 : decode cX10_readSister 105 = .ok (.aload_n 0, 1) := by decide +kernel
theorem dX10_readSister_106 : decode cX10_readSister 106 = .ok (.iconst 0, 1) := by decide +kernel
theorem dX10_readSister_107 : decode cX10_readSister 107 = .ok (.bipush 9, 2) := by decide +kernel
theorem dX10_readSister_109 : decode cX10_readSister 109 = .ok (.invokevirtual 168, 3) := by decide +kernel
theorem dX10_readSister_112 : decode cX10_readSister 112 = .ok (.iastore, 1) := by decide +kernel
theorem dX10_readSister_113 : decode cX10_readSister 113 = .ok (.aload_n 0, 1) := by decide +kernel
theorem dX10_readSister_114 : decode cX10_readSister 114 = .ok (.getfield 23, 3) := by decide +kernel
theorem dX10_readSister_117 : decode cX10_readSister 117 = .ok (.iconst 3, 1) := by decide +kernel
theorem dX10_readSister_118 : decode cX10_readSister 118 = .ok (.iconst 2, 1) := by decide +kernel
theorem dX10_readSister_119 : decode cX10_readSister 119 = .ok (.aload_n 0, 1) := by decide +kernel
theorem dX10_readSister_120 : decode cX10_readSister 120 = .ok (.getfield 68, 3) := by decide +kernel
theorem dX10_readSister_123 : decode cX10_readSister 123 = .ok (.imul, 1) := by decide +kernel
theorem dX10_readSister_124 : decode cX10_readSister 124 = .ok (.iadd, 1) := by decide +kernel
theorem dX10_readSister_125 : decode cX10_readSister 125 = .ok (.iconst 1, 1) := by decide +kernel
theorem dX10_readSister_126 : decode cX10_readSister 126 = .ok (.iadd, 1) := by decide +kernel
theorem dX10_readSister_127 : decode cX10_readSister 127 = .ok (.aload_n 0, 1) := by decide +kernel
theorem dX10_readSister_128 : decode cX10_readSister 128 = .ok (.iconst 0, 1) := by decide +kernel
theorem dX10_readSister_129 : decode cX10_readSister 129 = .ok (.bipush 9, 2) := by decide +kernel
theorem dX10_readSister_131 : decode cX10_readSister 131 = .ok (.invokevirtual 168, 3) := by decide +kernel
theorem dX10_readSister_134 : decode cX10_readSister 134 = .ok (.iastore, 1) := by decide +kernel
theorem dX10_readSister_135 : decode cX10_readSister 135 = .ok (.aload_n 0, 1) := by decide +kernel
theorem dX10_readSister_136 : decode cX10_readSister 136 = .ok (.dup, 1) := by decide +kernel
theorem dX10_readSister_137 : decode cX10_readSister 137 = .ok (.getfield 68, 3) := by decide +kernel
theorem dX10_readSister_140 : decode cX10_readSister 140 = .ok (.iconst 1, 1) := by decide +kernel
theorem dX10_readSister_141 : decode cX10_readSister 141 = .ok (.iadd, 1) := by decide +kernel
theorem dX10_readSister_142 : decode cX10_readSister 142 = .ok (.putfield 68, 3) := by decide +kernel
theorem dX10_readSister_145 : decode cX10_readSister 145 = .ok (.return_, 1) := by decide +kernel
theorem dX10_sawQuarter_0 : decode cX10_sawQuarter 0 = .ok (.aload_n 0, 1) := by decide +kernel
theorem dX10_sawQuarter_1 : decode cX10_sawQuarter 1 = .ok (.iload_n 1, 1) := by decide +kernel
theorem dX10_sawQuarter_2 : decode cX10_sawQuarter 2 = .ok (.aload_n 0, 1) := by decide +kernel
theorem dX10_sawQuarter_3 : decode cX10_sawQuarter 3 = .ok (.getfield 91, 3) := by decide +kernel
theorem dX10_sawQuarter_6 : decode cX10_sawQuarter 6 = .ok (.if_icmp .le 7, 3) := by decide +kernel
theorem dX10_sawQuarter_9 : decode cX10_sawQuarter 9 = .ok (.iload_n 1, 1) := by decide +kernel
theorem dX10_sawQuarter_10 : decode cX10_sawQuarter 10 = .ok (.goto 7, 3) := by decide +kernel
theorem dX10_sawQuarter_13 : decode cX10_sawQuarter 13 = .ok (.aload_n 0, 1) := by decide +kernel
theorem dX10_sawQuarter_14 : decode cX10_sawQuarter 14 = .ok (.getfield 91, 3) := by decide +kernel
theorem dX10_sawQuarter_17 : decode cX10_sawQuarter 17 = .ok (.putfield 91, 3) := by decide +kernel
theorem dX10_sawQuarter_20 : decode cX10_sawQuarter 20 = .ok (.return_, 1) := by decide +kernel
theorem dX10_readLineOf_0 : decode cX10_readLineOf 0 = .ok (.iload_n 1, 1) := by decide +kernel
theorem dX10_readLineOf_1 : decode cX10_readLineOf 1 = .ok (.tableswitch 193 0 4 #[35, 42, 61, 102, 147], 35) := by decide +kernel
theorem dX10_readLineOf_36 : decode cX10_readLineOf 36 = .ok (.aload_n 0, 1) := by decide +kernel
theorem dX10_readLineOf_37 : decode cX10_readLineOf 37 = .ok (.invokevirtual 171, 3) := by decide +kernel
theorem dX10_readLineOf_40 : decode cX10_readLineOf 40 = .ok (.goto 210, 3) := by decide +kernel
theorem dX10_readLineOf_43 : decode cX10_readLineOf 43 = .ok (.aload_n 0, 1) := by decide +kernel
theorem dX10_readLineOf_44 : decode cX10_readLineOf 44 = .ok (.iconst 1, 1) := by decide +kernel
theorem dX10_readLineOf_45 : decode cX10_readLineOf 45 = .ok (.putfield 75, 3) := by decide +kernel
theorem dX10_readLineOf_48 : decode cX10_readLineOf 48 = .ok (.aload_n 0, 1) := by decide +kernel
theorem dX10_readLineOf_49 : decode cX10_readLineOf 49 = .ok (.aload_n 0, 1) := by decide +kernel
theorem dX10_readLineOf_50 : decode cX10_readLineOf 50 = .ok (.iconst 1, 1) := by decide +kernel
theorem dX10_readLineOf_51 : decode cX10_readLineOf 51 = .ok (.bipush 6, 2) := by decide +kernel
theorem dX10_readLineOf_53 : decode cX10_readLineOf 53 = .ok (.invokevirtual 168, 3) := by decide +kernel
theorem dX10_readLineOf_56 : decode cX10_readLineOf 56 = .ok (.putfield 72, 3) := by decide +kernel
theorem dX10_readLineOf_59 : decode cX10_readLineOf 59 = .ok (.goto 191, 3) := by decide +kernel
theorem dX10_readLineOf_62 : decode cX10_readLineOf 62 = .ok (.aload_n 0, 1) := by decide +kernel
theorem dX10_readLineOf_63 : decode cX10_readLineOf 63 = .ok (.iconst 3, 1) := by decide +kernel
theorem dX10_readLineOf_64 : decode cX10_readLineOf 64 = .ok (.aload_n 0, 1) := by decide +kernel
theorem dX10_readLineOf_65 : decode cX10_readLineOf 65 = .ok (.getfield 79, 3) := by decide +kernel
theorem dX10_readLineOf_68 : decode cX10_readLineOf 68 = .ok (.invokevirtual 174, 3) := by decide +kernel
theorem dX10_readLineOf_71 : decode cX10_readLineOf 71 = .ok (.istore_n 2, 1) := by decide +kernel
theorem dX10_readLineOf_72 : decode cX10_readLineOf 72 = .ok (.aload_n 0, 1) := by decide +kernel
theorem dX10_readLineOf_73 : decode cX10_readLineOf 73 = .ok (.dup, 1) := by decide +kernel
theorem dX10_readLineOf_74 : decode cX10_readLineOf 74 = .ok (.getfield 79, 3) := by decide +kernel
theorem dX10_readLineOf_77 : decode cX10_readLineOf 77 = .ok (.iconst 1, 1) := by decide +kernel
theorem dX10_readLineOf_78 : decode cX10_readLineOf 78 = .ok (.iload_n 2, 1) := by decide +kernel
theorem dX10_readLineOf_79 : decode cX10_readLineOf 79 = .ok (.ishl, 1) := by decide +kernel
theorem dX10_readLineOf_80 : decode cX10_readLineOf 80 = .ok (.ior, 1) := by decide +kernel
theorem dX10_readLineOf_81 : decode cX10_readLineOf 81 = .ok (.putfield 79, 3) := by decide +kernel
theorem dX10_readLineOf_84 : decode cX10_readLineOf 84 = .ok (.aload_n 0, 1) := by decide +kernel
theorem dX10_readLineOf_85 : decode cX10_readLineOf 85 = .ok (.getfield 23, 3) := by decide +kernel
theorem dX10_readLineOf_88 : decode cX10_readLineOf 88 = .ok (.bipush 9, 2) := by decide +kernel
theorem dX10_readLineOf_90 : decode cX10_readLineOf 90 = .ok (.iload_n 2, 1) := by decide +kernel
theorem dX10_readLineOf_91 : decode cX10_readLineOf 91 = .ok (.iadd, 1) := by decide +kernel
theorem dX10_readLineOf_92 : decode cX10_readLineOf 92 = .ok (.aload_n 0, 1) := by decide +kernel
theorem dX10_readLineOf_93 : decode cX10_readLineOf 93 = .ok (.iconst 0, 1) := by decide +kernel
theorem dX10_readLineOf_94 : decode cX10_readLineOf 94 = .ok (.bipush 6, 2) := by decide +kernel
theorem dX10_readLineOf_96 : decode cX10_readLineOf 96 = .ok (.invokevirtual 168, 3) := by decide +kernel
theorem dX10_readLineOf_99 : decode cX10_readLineOf 99 = .ok (.iastore, 1) := by decide +kernel
theorem dX10_readLineOf_100 : decode cX10_readLineOf 100 = .ok (.goto 150, 3) := by decide +kernel
theorem dX10_readLineOf_103 : decode cX10_readLineOf 103 = .ok (.aload_n 0, 1) := by decide +kernel
theorem dX10_readLineOf_104 : decode cX10_readLineOf 104 = .ok (.iconst 0, 1) := by decide +kernel
theorem dX10_readLineOf_105 : decode cX10_readLineOf 105 = .ok (.iconst 5, 1) := by decide +kernel
theorem dX10_readLineOf_106 : decode cX10_readLineOf 106 = .ok (.invokevirtual 168, 3) := by decide +kernel
theorem dX10_readLineOf_109 : decode cX10_readLineOf 109 = .ok (.istore_n 2, 1) := by decide +kernel
theorem dX10_readLineOf_110 : decode cX10_readLineOf 110 = .ok (.aload_n 0, 1) := by decide +kernel
theorem dX10_readLineOf_111 : decode cX10_readLineOf 111 = .ok (.iload_n 2, 1) := by decide +kernel
theorem dX10_readLineOf_112 : decode cX10_readLineOf 112 = .ok (.invokevirtual 177, 3) := by decide +kernel
theorem dX10_readLineOf_115 : decode cX10_readLineOf 115 = .ok (.aload_n 0, 1) := by decide +kernel
theorem dX10_readLineOf_116 : decode cX10_readLineOf 116 = .ok (.iconst 3, 1) := by decide +kernel
theorem dX10_readLineOf_117 : decode cX10_readLineOf 117 = .ok (.aload_n 0, 1) := by decide +kernel
theorem dX10_readLineOf_118 : decode cX10_readLineOf 118 = .ok (.getfield 23, 3) := by decide +kernel
theorem dX10_readLineOf_121 : decode cX10_readLineOf 121 = .ok (.bipush 13, 2) := by decide +kernel
theorem dX10_readLineOf_123 : decode cX10_readLineOf 123 = .ok (.iload_n 2, 1) := by decide +kernel
theorem dX10_readLineOf_124 : decode cX10_readLineOf 124 = .ok (.iadd, 1) := by decide +kernel
theorem dX10_readLineOf_125 : decode cX10_readLineOf 125 = .ok (.iaload, 1) := by decide +kernel
theorem dX10_readLineOf_126 : decode cX10_readLineOf 126 = .ok (.invokevirtual 174, 3) := by decide +kernel
theorem dX10_readLineOf_129 : decode cX10_readLineOf 129 = .ok (.istore_n 3, 1) := by decide +kernel
theorem dX10_readLineOf_130 : decode cX10_readLineOf 130 = .ok (.aload_n 0, 1) := by decide +kernel
theorem dX10_readLineOf_131 : decode cX10_readLineOf 131 = .ok (.getfield 23, 3) := by decide +kernel
theorem dX10_readLineOf_134 : decode cX10_readLineOf 134 = .ok (.bipush 13, 2) := by decide +kernel
theorem dX10_readLineOf_136 : decode cX10_readLineOf 136 = .ok (.iload_n 2, 1) := by decide +kernel
theorem dX10_readLineOf_137 : decode cX10_readLineOf 137 = .ok (.iadd, 1) := by decide +kernel
theorem dX10_readLineOf_138 : decode cX10_readLineOf 138 = .ok (.dup2, 1) := by decide +kernel
theorem dX10_readLineOf_139 : decode cX10_readLineOf 139 = .ok (.iaload, 1) := by decide +kernel
theorem dX10_readLineOf_140 : decode cX10_readLineOf 140 = .ok (.iconst 1, 1) := by decide +kernel
theorem dX10_readLineOf_141 : decode cX10_readLineOf 141 = .ok (.iload_n 3, 1) := by decide +kernel
theorem dX10_readLineOf_142 : decode cX10_readLineOf 142 = .ok (.ishl, 1) := by decide +kernel
theorem dX10_readLineOf_143 : decode cX10_readLineOf 143 = .ok (.ior, 1) := by decide +kernel
theorem dX10_readLineOf_144 : decode cX10_readLineOf 144 = .ok (.iastore, 1) := by decide +kernel
theorem dX10_readLineOf_145 : decode cX10_readLineOf 145 = .ok (.goto 105, 3) := by decide +kernel
theorem dX10_readLineOf_148 : decode cX10_readLineOf 148 = .ok (.aload_n 0, 1) := by decide +kernel
theorem dX10_readLineOf_149 : decode cX10_readLineOf 149 = .ok (.iconst 5, 1) := by decide +kernel
theorem dX10_readLineOf_150 : decode cX10_readLineOf 150 = .ok (.aload_n 0, 1) := by decide +kernel
theorem dX10_readLineOf_151 : decode cX10_readLineOf 151 = .ok (.getfield 82, 3) := by decide +kernel
theorem dX10_readLineOf_154 : decode cX10_readLineOf 154 = .ok (.invokevirtual 174, 3) := by decide +kernel
theorem dX10_readLineOf_157 : decode cX10_readLineOf 157 = .ok (.istore_n 2, 1) := by decide +kernel
theorem dX10_readLineOf_158 : decode cX10_readLineOf 158 = .ok (.aload_n 0, 1) := by decide +kernel
theorem dX10_readLineOf_159 : decode cX10_readLineOf 159 = .ok (.dup, 1) := by decide +kernel
theorem dX10_readLineOf_160 : decode cX10_readLineOf 160 = .ok (.getfield 82, 3) := by decide +kernel
theorem dX10_readLineOf_163 : decode cX10_readLineOf 163 = .ok (.iconst 1, 1) := by decide +kernel
theorem dX10_readLineOf_164 : decode cX10_readLineOf 164 = .ok (.iload_n 2, 1) := by decide +kernel
theorem dX10_readLineOf_165 : decode cX10_readLineOf 165 = .ok (.ishl, 1) := by decide +kernel
theorem dX10_readLineOf_166 : decode cX10_readLineOf 166 = .ok (.ior, 1) := by decide +kernel
theorem dX10_readLineOf_167 : decode cX10_readLineOf 167 = .ok (.putfield 82, 3) := by decide +kernel
theorem dX10_readLineOf_170 : decode cX10_readLineOf 170 = .ok (.aload_n 0, 1) := by decide +kernel
theorem dX10_readLineOf_171 : decode cX10_readLineOf 171 = .ok (.iload_n 2, 1) := by decide +kernel
theorem dX10_readLineOf_172 : decode cX10_readLineOf 172 = .ok (.invokevirtual 177, 3) := by decide +kernel
theorem dX10_readLineOf_175 : decode cX10_readLineOf 175 = .ok (.aload_n 0, 1) := by decide +kernel
theorem dX10_readLineOf_176 : decode cX10_readLineOf 176 = .ok (.getfield 23, 3) := by decide +kernel
theorem dX10_readLineOf_179 : decode cX10_readLineOf 179 = .ok (.bipush 21, 2) := by decide +kernel
theorem dX10_readLineOf_181 : decode cX10_readLineOf 181 = .ok (.iload_n 2, 1) := by decide +kernel
theorem dX10_readLineOf_182 : decode cX10_readLineOf 182 = .ok (.iadd, 1) := by decide +kernel
theorem dX10_readLineOf_183 : decode cX10_readLineOf 183 = .ok (.aload_n 0, 1) := by decide +kernel
theorem dX10_readLineOf_184 : decode cX10_readLineOf 184 = .ok (.iconst 0, 1) := by decide +kernel
theorem dX10_readLineOf_185 : decode cX10_readLineOf 185 = .ok (.bipush 26, 2) := by decide +kernel
theorem dX10_readLineOf_187 : decode cX10_readLineOf 187 = .ok (.invokevirtual 168, 3) := by decide +kernel
theorem dX10_readLineOf_190 : decode cX10_readLineOf 190 = .ok (.iastore, 1) := by decide +kernel
theorem dX10_readLineOf_191 : decode cX10_readLineOf 191 = .ok (.goto 59, 3) := by decide +kernel
theorem dX10_readLineOf_194 : decode cX10_readLineOf 194 = .ok (.aload_n 0, 1) := by decide +kernel
theorem dX10_readLineOf_195 : decode cX10_readLineOf 195 = .ok (.iconst 2, 1) := by decide +kernel
theorem dX10_readLineOf_196 : decode cX10_readLineOf 196 = .ok (.aload_n 0, 1) := by decide +kernel
theorem dX10_readLineOf_197 : decode cX10_readLineOf 197 = .ok (.getfield 85, 3) := by decide +kernel
theorem dX10_readLineOf_200 : decode cX10_readLineOf 200 = .ok (.invokevirtual 174, 3) := by decide +kernel
theorem dX10_readLineOf_203 : decode cX10_readLineOf 203 = .ok (.istore_n 2, 1) := by decide +kernel
theorem dX10_readLineOf_204 : decode cX10_readLineOf 204 = .ok (.aload_n 0, 1) := by decide +kernel
theorem dX10_readLineOf_205 : decode cX10_readLineOf 205 = .ok (.dup, 1) := by decide +kernel
theorem dX10_readLineOf_206 : decode cX10_readLineOf 206 = .ok (.getfield 85, 3) := by decide +kernel
theorem dX10_readLineOf_209 : decode cX10_readLineOf 209 = .ok (.iconst 1, 1) := by decide +kernel
theorem dX10_readLineOf_210 : decode cX10_readLineOf 210 = .ok (.iload_n 2, 1) := by decide +kernel
theorem dX10_readLineOf_211 : decode cX10_readLineOf 211 = .ok (.ishl, 1) := by decide +kernel
theorem dX10_readLineOf_212 : decode cX10_readLineOf 212 = .ok (.ior, 1) := by decide +kernel
theorem dX10_readLineOf_213 : decode cX10_readLineOf 213 = .ok (.putfield 85, 3) := by decide +kernel
theorem dX10_readLineOf_216 : decode cX10_readLineOf 216 = .ok (.aload_n 0, 1) := by decide +kernel
theorem dX10_readLineOf_217 : decode cX10_readLineOf 217 = .ok (.iload_n 2, 1) := by decide +kernel
theorem dX10_readLineOf_218 : decode cX10_readLineOf 218 = .ok (.aload_n 0, 1) := by decide +kernel
theorem dX10_readLineOf_219 : decode cX10_readLineOf 219 = .ok (.getfield 88, 3) := by decide +kernel
theorem dX10_readLineOf_222 : decode cX10_readLineOf 222 = .ok (.if_icmp .le 7, 3) := by decide +kernel
theorem dX10_readLineOf_225 : decode cX10_readLineOf 225 = .ok (.iload_n 2, 1) := by decide +kernel
theorem dX10_readLineOf_226 : decode cX10_readLineOf 226 = .ok (.goto 7, 3) := by decide +kernel
theorem dX10_readLineOf_229 : decode cX10_readLineOf 229 = .ok (.aload_n 0, 1) := by decide +kernel
theorem dX10_readLineOf_230 : decode cX10_readLineOf 230 = .ok (.getfield 88, 3) := by decide +kernel
theorem dX10_readLineOf_233 : decode cX10_readLineOf 233 = .ok (.putfield 88, 3) := by decide +kernel
theorem dX10_readLineOf_236 : decode cX10_readLineOf 236 = .ok (.aload_n 0, 1) := by decide +kernel
theorem dX10_readLineOf_237 : decode cX10_readLineOf 237 = .ok (.getfield 23, 3) := by decide +kernel
theorem dX10_readLineOf_240 : decode cX10_readLineOf 240 = .ok (.iconst 0, 1) := by decide +kernel
theorem dX10_readLineOf_241 : decode cX10_readLineOf 241 = .ok (.iload_n 2, 1) := by decide +kernel
theorem dX10_readLineOf_242 : decode cX10_readLineOf 242 = .ok (.iadd, 1) := by decide +kernel
theorem dX10_readLineOf_243 : decode cX10_readLineOf 243 = .ok (.aload_n 0, 1) := by decide +kernel
theorem dX10_readLineOf_244 : decode cX10_readLineOf 244 = .ok (.iconst 0, 1) := by decide +kernel
theorem dX10_readLineOf_245 : decode cX10_readLineOf 245 = .ok (.iconst 3, 1) := by decide +kernel
theorem dX10_readLineOf_246 : decode cX10_readLineOf 246 = .ok (.invokevirtual 168, 3) := by decide +kernel
theorem dX10_readLineOf_249 : decode cX10_readLineOf 249 = .ok (.iastore, 1) := by decide +kernel
theorem dX10_readLineOf_250 : decode cX10_readLineOf 250 = .ok (.return_, 1) := by decide +kernel
theorem dX10_readLine_0 : decode cX10_readLine 0 = .ok (.aload_n 0, 1) := by decide +kernel
theorem dX10_readLine_1 : decode cX10_readLine 1 = .ok (.getfield 140, 3) := by decide +kernel
theorem dX10_readLine_4 : decode cX10_readLine 4 = .ok (.iconst 1, 1) := by decide +kernel
theorem dX10_readLine_5 : decode cX10_readLine 5 = .ok (.if_icmp .ne 10, 3) := by decide +kernel
theorem dX10_readLine_8 : decode cX10_readLine 8 = .ok (.aload_n 0, 1) := by decide +kernel
theorem dX10_readLine_9 : decode cX10_readLine 9 = .ok (.invokevirtual 181, 3) := by decide +kernel
theorem dX10_readLine_12 : decode cX10_readLine 12 = .ok (.goto 5, 3) := by decide +kernel
theorem dX10_readLine_15 : decode cX10_readLine 15 = .ok (.bipush (-4), 2) := by decide +kernel
theorem dX10_readLine_17 : decode cX10_readLine 17 = .ok (.istore_n 1, 1) := by decide +kernel
theorem dX10_readLine_18 : decode cX10_readLine 18 = .ok (.aload_n 0, 1) := by decide +kernel
theorem dX10_readLine_19 : decode cX10_readLine 19 = .ok (.iload_n 1, 1) := by decide +kernel
theorem dX10_readLine_20 : decode cX10_readLine 20 = .ok (.bipush (-4), 2) := by decide +kernel
theorem dX10_readLine_22 : decode cX10_readLine 22 = .ok (.if_icmp .eq 7, 3) := by decide +kernel
theorem dX10_readLine_25 : decode cX10_readLine 25 = .ok (.iconst 1, 1) := by decide +kernel
theorem dX10_readLine_26 : decode cX10_readLine 26 = .ok (.goto 4, 3) := by decide +kernel
theorem dX10_readLine_29 : decode cX10_readLine 29 = .ok (.iconst 0, 1) := by decide +kernel
theorem dX10_readLine_30 : decode cX10_readLine 30 = .ok (.iconst 2, 1) := by decide +kernel
theorem dX10_readLine_31 : decode cX10_readLine 31 = .ok (.invokevirtual 154, 3) := by decide +kernel
theorem dX10_readLine_34 : decode cX10_readLine 34 = .ok (.aload_n 0, 1) := by decide +kernel
theorem dX10_readLine_35 : decode cX10_readLine 35 = .ok (.iload_n 1, 1) := by decide +kernel
theorem dX10_readLine_36 : decode cX10_readLine 36 = .ok (.ifCond .ne 11, 3) := by decide +kernel
theorem dX10_readLine_39 : decode cX10_readLine 39 = .ok (.aload_n 0, 1) := by decide +kernel
theorem dX10_readLine_40 : decode cX10_readLine 40 = .ok (.getfield 68, 3) := by decide +kernel
theorem dX10_readLine_43 : decode cX10_readLine 43 = .ok (.iconst 3, 1) := by decide +kernel
theorem dX10_readLine_44 : decode cX10_readLine 44 = .ok (.if_icmp .ge 7, 3) := by decide +kernel
theorem dX10_readLine_47 : decode cX10_readLine 47 = .ok (.iconst 1, 1) := by decide +kernel
theorem dX10_readLine_48 : decode cX10_readLine 48 = .ok (.goto 4, 3) := by decide +kernel
theorem dX10_readLine_51 : decode cX10_readLine 51 = .ok (.iconst 0, 1) := by decide +kernel
theorem dX10_readLine_52 : decode cX10_readLine 52 = .ok (.iconst 5, 1) := by decide +kernel
theorem dX10_readLine_53 : decode cX10_readLine 53 = .ok (.invokevirtual 154, 3) := by decide +kernel
theorem dX10_readLine_56 : decode cX10_readLine 56 = .ok (.aload_n 0, 1) := by decide +kernel
theorem dX10_readLine_57 : decode cX10_readLine 57 = .ok (.iload_n 1, 1) := by decide +kernel
theorem dX10_readLine_58 : decode cX10_readLine 58 = .ok (.iconst 1, 1) := by decide +kernel
theorem dX10_readLine_59 : decode cX10_readLine 59 = .ok (.if_icmp .ne 10, 3) := by decide +kernel
theorem dX10_readLine_62 : decode cX10_readLine 62 = .ok (.aload_n 0, 1) := by decide +kernel
theorem dX10_readLine_63 : decode cX10_readLine 63 = .ok (.getfield 75, 3) := by decide +kernel
theorem dX10_readLine_66 : decode cX10_readLine 66 = .ok (.ifCond .ne 7, 3) := by decide +kernel
theorem dX10_readLine_69 : decode cX10_readLine 69 = .ok (.iconst 1, 1) := by decide +kernel
theorem dX10_readLine_70 : decode cX10_readLine 70 = .ok (.goto 4, 3) := by decide +kernel
theorem dX10_readLine_73 : decode cX10_readLine 73 = .ok (.iconst 0, 1) := by decide +kernel
theorem dX10_readLine_74 : decode cX10_readLine 74 = .ok (.iconst 4, 1) := by decide +kernel
theorem dX10_readLine_75 : decode cX10_readLine 75 = .ok (.invokevirtual 154, 3) := by decide +kernel
theorem dX10_readLine_78 : decode cX10_readLine 78 = .ok (.aload_n 0, 1) := by decide +kernel
theorem dX10_readLine_79 : decode cX10_readLine 79 = .ok (.invokevirtual 161, 3) := by decide +kernel
theorem dX10_readLine_82 : decode cX10_readLine 82 = .ok (.aload_n 0, 1) := by decide +kernel
theorem dX10_readLine_83 : decode cX10_readLine 83 = .ok (.getfield 116, 3) := by decide +kernel
theorem dX10_readLine_86 : decode cX10_readLine 86 = .ok (.ifCond .le 4, 3) := by decide +kernel
theorem dX10_readLine_89 : decode cX10_readLine 89 = .ok (.return_, 1) := by decide +kernel
theorem dX10_readLine_90 : decode cX10_readLine 90 = .ok (.aload_n 0, 1) := by decide +kernel
theorem dX10_readLine_91 : decode cX10_readLine 91 = .ok (.iload_n 1, 1) := by decide +kernel
theorem dX10_readLine_92 : decode cX10_readLine 92 = .ok (.invokevirtual 184, 3) := by decide +kernel
theorem dX10_readLine_95 : decode cX10_readLine 95 = .ok (.aload_n 0, 1) := by decide +kernel
theorem dX10_readLine_96 : decode cX10_readLine 96 = .ok (.getfield 116, 3) := by decide +kernel
theorem dX10_readLine_99 : decode cX10_readLine 99 = .ok (.ifCond .ne 21, 3) := by decide +kernel
theorem dX10_readLine_102 : decode cX10_readLine 102 = .ok (.aload_n 0, 1) := by decide +kernel
theorem dX10_readLine_103 : decode cX10_readLine 103 = .ok (.aload_n 0, 1) := by decide +kernel
theorem dX10_readLine_104 : decode cX10_readLine 104 = .ok (.getfield 140, 3) := by decide +kernel
theorem dX10_readLine_107 : decode cX10_readLine 107 = .ok (.iconst 3, 1) := by decide +kernel
theorem dX10_readLine_108 : decode cX10_readLine 108 = .ok (.if_icmp .ne 7, 3) := by decide +kernel
theorem dX10_readLine_111 : decode cX10_readLine 111 = .ok (.iconst 1, 1) := by decide +kernel
theorem dX10_readLine_112 : decode cX10_readLine 112 = .ok (.goto 4, 3) := by decide +kernel
theorem dX10_readLine_115 : decode cX10_readLine 115 = .ok (.iconst 0, 1) := by decide +kernel
theorem dX10_readLine_116 : decode cX10_readLine 116 = .ok (.iconst 2, 1) := by decide +kernel
theorem dX10_readLine_117 : decode cX10_readLine 117 = .ok (.invokevirtual 154, 3) := by decide +kernel
theorem dX10_readLine_120 : decode cX10_readLine 120 = .ok (.aload_n 0, 1) := by decide +kernel
theorem dX10_readLine_121 : decode cX10_readLine 121 = .ok (.invokevirtual 161, 3) := by decide +kernel
theorem dX10_readLine_124 : decode cX10_readLine 124 = .ok (.return_, 1) := by decide +kernel
theorem dX10_areWatches_0 : decode cX10_areWatches 0 = .ok (.iconst 1, 1) := by decide +kernel
theorem dX10_areWatches_1 : decode cX10_areWatches 1 = .ok (.istore_n 1, 1) := by decide +kernel
theorem dX10_areWatches_2 : decode cX10_areWatches 2 = .ok (.iconst 0, 1) := by decide +kernel
theorem dX10_areWatches_3 : decode cX10_areWatches 3 = .ok (.istore_n 2, 1) := by decide +kernel
theorem dX10_areWatches_4 : decode cX10_areWatches 4 = .ok (.iload_n 2, 1) := by decide +kernel
theorem dX10_areWatches_5 : decode cX10_areWatches 5 = .ok (.bipush 6, 2) := by decide +kernel
theorem dX10_areWatches_7 : decode cX10_areWatches 7 = .ok (.if_icmp .ge 39, 3) := by decide +kernel
theorem dX10_areWatches_10 : decode cX10_areWatches 10 = .ok (.iload_n 1, 1) := by decide +kernel
theorem dX10_areWatches_11 : decode cX10_areWatches 11 = .ok (.ifCond .eq 27, 3) := by decide +kernel
theorem dX10_areWatches_14 : decode cX10_areWatches 14 = .ok (.aload_n 0, 1) := by decide +kernel
theorem dX10_areWatches_15 : decode cX10_areWatches 15 = .ok (.getfield 23, 3) := by decide +kernel
theorem dX10_areWatches_18 : decode cX10_areWatches 18 = .ok (.bipush 21, 2) := by decide +kernel
theorem dX10_areWatches_20 : decode cX10_areWatches 20 = .ok (.iload_n 2, 1) := by decide +kernel
theorem dX10_areWatches_21 : decode cX10_areWatches 21 = .ok (.iadd, 1) := by decide +kernel
theorem dX10_areWatches_22 : decode cX10_areWatches 22 = .ok (.iaload, 1) := by decide +kernel
theorem dX10_areWatches_23 : decode cX10_areWatches 23 = .ok (.iconst 3, 1) := by decide +kernel
theorem dX10_areWatches_24 : decode cX10_areWatches 24 = .ok (.aload_n 0, 1) := by decide +kernel
theorem dX10_areWatches_25 : decode cX10_areWatches 25 = .ok (.getfield 68, 3) := by decide +kernel
theorem dX10_areWatches_28 : decode cX10_areWatches 28 = .ok (.invokestatic 100, 3) := by decide +kernel
theorem dX10_areWatches_31 : decode cX10_areWatches 31 = .ok (.if_icmp .ge 7, 3) := by decide +kernel
theorem dX10_areWatches_34 : decode cX10_areWatches 34 = .ok (.iconst 1, 1) := by decide +kernel
theorem dX10_areWatches_35 : decode cX10_areWatches 35 = .ok (.goto 4, 3) := by decide +kernel
theorem dX10_areWatches_38 : decode cX10_areWatches 38 = .ok (.iconst 0, 1) := by decide +kernel
theorem dX10_areWatches_39 : decode cX10_areWatches 39 = .ok (.istore_n 1, 1) := by decide +kernel
theorem dX10_areWatches_40 : decode cX10_areWatches 40 = .ok (.iinc 2 1, 3) := by decide +kernel
theorem dX10_areWatches_43 : decode cX10_areWatches 43 = .ok (.goto (-39), 3) := by decide +kernel
theorem dX10_areWatches_46 : decode cX10_areWatches 46 = .ok (.iload_n 1, 1) := by decide +kernel
theorem dX10_areWatches_47 : decode cX10_areWatches 47 = .ok (.ireturn, 1) := by decide +kernel
theorem dX10_text_0 : decode cX10_text 0 = .ok (.iconst 0, 1) := by decide +kernel
theorem dX10_text_1 : decode cX10_text 1 = .ok (.istore_n 1, 1) := by decide +kernel
theorem dX10_text_2 : decode cX10_text 2 = .ok (.aload_n 0, 1) := by decide +kernel
theorem dX10_text_3 : decode cX10_text 3 = .ok (.iconst 0, 1) := by decide +kernel
theorem dX10_text_4 : decode cX10_text 4 = .ok (.putfield 116, 3) := by decide +kernel
theorem dX10_text_7 : decode cX10_text 7 = .ok (.aload_n 0, 1) := by decide +kernel
theorem dX10_text_8 : decode cX10_text 8 = .ok (.iconst 0, 1) := by decide +kernel
theorem dX10_text_9 : decode cX10_text 9 = .ok (.putfield 125, 3) := by decide +kernel
theorem dX10_text_12 : decode cX10_text 12 = .ok (.aload_n 0, 1) := by decide +kernel
theorem dX10_text_13 : decode cX10_text 13 = .ok (.invokevirtual 62, 3) := by decide +kernel
theorem dX10_text_16 : decode cX10_text 16 = .ok (.aload_n 0, 1) := by decide +kernel
theorem dX10_text_17 : decode cX10_text 17 = .ok (.invokevirtual 161, 3) := by decide +kernel
theorem dX10_text_20 : decode cX10_text 20 = .ok (.aload_n 0, 1) := by decide +kernel
theorem dX10_text_21 : decode cX10_text 21 = .ok (.getfield 116, 3) := by decide +kernel
theorem dX10_text_24 : decode cX10_text 24 = .ok (.ifCond .ne 20, 3) := by decide +kernel
theorem dX10_text_27 : decode cX10_text 27 = .ok (.aload_n 0, 1) := by decide +kernel
theorem dX10_text_28 : decode cX10_text 28 = .ok (.getfield 140, 3) := by decide +kernel
theorem dX10_text_31 : decode cX10_text 31 = .ok (.ifCond .eq 13, 3) := by decide +kernel
theorem dX10_text_34 : decode cX10_text 34 = .ok (.aload_n 0, 1) := by decide +kernel
theorem dX10_text_35 : decode cX10_text 35 = .ok (.invokevirtual 187, 3) := by decide +kernel
theorem dX10_text_38 : decode cX10_text 38 = .ok (.iinc 1 1, 3) := by decide +kernel
theorem dX10_text_41 : decode cX10_text 41 = .ok (.goto (-21), 3) := by decide +kernel
theorem dX10_text_44 : decode cX10_text 44 = .ok (.aload_n 0, 1) := by decide +kernel
theorem dX10_text_45 : decode cX10_text 45 = .ok (.getfield 116, 3) := by decide +kernel
theorem dX10_text_48 : decode cX10_text 48 = .ok (.ifCond .ne 46, 3) := by decide +kernel
theorem dX10_text_51 : decode cX10_text 51 = .ok (.aload_n 0, 1) := by decide +kernel
theorem dX10_text_52 : decode cX10_text 52 = .ok (.aload_n 0, 1) := by decide +kernel
theorem dX10_text_53 : decode cX10_text 53 = .ok (.getfield 88, 3) := by decide +kernel
theorem dX10_text_56 : decode cX10_text 56 = .ok (.aload_n 0, 1) := by decide +kernel
theorem dX10_text_57 : decode cX10_text 57 = .ok (.getfield 68, 3) := by decide +kernel
theorem dX10_text_60 : decode cX10_text 60 = .ok (.if_icmp .ge 18, 3) := by decide +kernel
theorem dX10_text_63 : decode cX10_text 63 = .ok (.aload_n 0, 1) := by decide +kernel
theorem dX10_text_64 : decode cX10_text 64 = .ok (.getfield 91, 3) := by decide +kernel
theorem dX10_text_67 : decode cX10_text 67 = .ok (.aload_n 0, 1) := by decide +kernel
theorem dX10_text_68 : decode cX10_text 68 = .ok (.getfield 72, 3) := by decide +kernel
theorem dX10_text_71 : decode cX10_text 71 = .ok (.if_icmp .ge 7, 3) := by decide +kernel
theorem dX10_text_74 : decode cX10_text 74 = .ok (.iconst 1, 1) := by decide +kernel
theorem dX10_text_75 : decode cX10_text 75 = .ok (.goto 4, 3) := by decide +kernel
theorem dX10_text_78 : decode cX10_text 78 = .ok (.iconst 0, 1) := by decide +kernel
theorem dX10_text_79 : decode cX10_text 79 = .ok (.bipush 6, 2) := by decide +kernel
theorem dX10_text_81 : decode cX10_text 81 = .ok (.invokevirtual 154, 3) := by decide +kernel
theorem dX10_text_84 : decode cX10_text 84 = .ok (.aload_n 0, 1) := by decide +kernel
theorem dX10_text_85 : decode cX10_text 85 = .ok (.aload_n 0, 1) := by decide +kernel
theorem dX10_text_86 : decode cX10_text 86 = .ok (.invokevirtual 190, 3) := by decide +kernel
theorem dX10_text_89 : decode cX10_text 89 = .ok (.bipush 7, 2) := by decide +kernel
theorem dX10_text_91 : decode cX10_text 91 = .ok (.invokevirtual 154, 3) := by decide +kernel
theorem dX10_text_94 : decode cX10_text 94 = .ok (.aload_n 0, 1) := by decide +kernel
theorem dX10_text_95 : decode cX10_text 95 = .ok (.iconst 0, 1) := by decide +kernel
theorem dX10_text_96 : decode cX10_text 96 = .ok (.putfield 107, 3) := by decide +kernel
theorem dX10_text_99 : decode cX10_text 99 = .ok (.aload_n 0, 1) := by decide +kernel
theorem dX10_text_100 : decode cX10_text 100 = .ok (.getfield 116, 3) := by decide +kernel
theorem dX10_text_103 : decode cX10_text 103 = .ok (.ifCond .le 11, 3) := by decide +kernel
theorem dX10_text_106 : decode cX10_text 106 = .ok (.bipush (-10), 2) := by decide +kernel
theorem dX10_text_108 : decode cX10_text 108 = .ok (.aload_n 0, 1) := by decide +kernel
theorem dX10_text_109 : decode cX10_text 109 = .ok (.getfield 122, 3) := by decide +kernel
theorem dX10_text_112 : decode cX10_text 112 = .ok (.isub, 1) := by decide +kernel
theorem dX10_text_113 : decode cX10_text 113 = .ok (.ireturn, 1) := by decide +kernel
theorem dX10_text_114 : decode cX10_text 114 = .ok (.aload_n 0, 1) := by decide +kernel
theorem dX10_text_115 : decode cX10_text 115 = .ok (.invokevirtual 65, 3) := by decide +kernel
theorem dX10_text_118 : decode cX10_text 118 = .ok (.iload_n 1, 1) := by decide +kernel
theorem dX10_text_119 : decode cX10_text 119 = .ok (.ireturn, 1) := by decide +kernel
theorem dX10_fault_0 : decode cX10_fault 0 = .ok (.aload_n 0, 1) := by decide +kernel
theorem dX10_fault_1 : decode cX10_fault 1 = .ok (.getfield 116, 3) := by decide +kernel
theorem dX10_fault_4 : decode cX10_fault 4 = .ok (.ireturn, 1) := by decide +kernel
theorem dX10_isSister_0 : decode cX10_isSister 0 = .ok (.iload_n 1, 1) := by decide +kernel
theorem dX10_isSister_1 : decode cX10_isSister 1 = .ok (.i2l, 1) := by decide +kernel
theorem dX10_isSister_2 : decode cX10_isSister 2 = .ok (.lconst 0, 1) := by decide +kernel
theorem dX10_isSister_3 : decode cX10_isSister 3 = .ok (.aload_n 0, 1) := by decide +kernel
theorem dX10_isSister_4 : decode cX10_isSister 4 = .ok (.getfield 94, 3) := by decide +kernel
theorem dX10_isSister_7 : decode cX10_isSister 7 = .ok (.iconst 1, 1) := by decide +kernel
theorem dX10_isSister_8 : decode cX10_isSister 8 = .ok (.isub, 1) := by decide +kernel
theorem dX10_isSister_9 : decode cX10_isSister 9 = .ok (.i2l, 1) := by decide +kernel
theorem dX10_isSister_10 : decode cX10_isSister 10 = .ok (.invokestatic 112, 3) := by decide +kernel
theorem dX10_isSister_13 : decode cX10_isSister 13 = .ok (.ireturn, 1) := by decide +kernel
theorem dX10_isEye_0 : decode cX10_isEye 0 = .ok (.iload_n 1, 1) := by decide +kernel
theorem dX10_isEye_1 : decode cX10_isEye 1 = .ok (.i2l, 1) := by decide +kernel
theorem dX10_isEye_2 : decode cX10_isEye 2 = .ok (.lconst 0, 1) := by decide +kernel
theorem dX10_isEye_3 : decode cX10_isEye 3 = .ok (.iconst 2, 1) := by decide +kernel
theorem dX10_isEye_4 : decode cX10_isEye 4 = .ok (.aload_n 0, 1) := by decide +kernel
theorem dX10_isEye_5 : decode cX10_isEye 5 = .ok (.getfield 94, 3) := by decide +kernel
theorem dX10_isEye_8 : decode cX10_isEye 8 = .ok (.imul, 1) := by decide +kernel
theorem dX10_isEye_9 : decode cX10_isEye 9 = .ok (.iconst 1, 1) := by decide +kernel
theorem dX10_isEye_10 : decode cX10_isEye 10 = .ok (.isub, 1) := by decide +kernel
theorem dX10_isEye_11 : decode cX10_isEye 11 = .ok (.i2l, 1) := by decide +kernel
theorem dX10_isEye_12 : decode cX10_isEye 12 = .ok (.invokestatic 112, 3) := by decide +kernel
theorem dX10_isEye_15 : decode cX10_isEye 15 = .ok (.ireturn, 1) := by decide +kernel
theorem dX10_isSide_0 : decode cX10_isSide 0 = .ok (.iload_n 0, 1) := by decide +kernel
theorem dX10_isSide_1 : decode cX10_isSide 1 = .ok (.i2l, 1) := by decide +kernel
theorem dX10_isSide_2 : decode cX10_isSide 2 = .ok (.lconst 0, 1) := by decide +kernel
theorem dX10_isSide_3 : decode cX10_isSide 3 = .ok (.ldc2_w 194, 3) := by decide +kernel
theorem dX10_isSide_6 : decode cX10_isSide 6 = .ok (.invokestatic 112, 3) := by decide +kernel
theorem dX10_isSide_9 : decode cX10_isSide 9 = .ok (.ireturn, 1) := by decide +kernel
theorem dX10_isQuarter_0 : decode cX10_isQuarter 0 = .ok (.iload_n 1, 1) := by decide +kernel
theorem dX10_isQuarter_1 : decode cX10_isQuarter 1 = .ok (.i2l, 1) := by decide +kernel
theorem dX10_isQuarter_2 : decode cX10_isQuarter 2 = .ok (.lconst 0, 1) := by decide +kernel
theorem dX10_isQuarter_3 : decode cX10_isQuarter 3 = .ok (.aload_n 0, 1) := by decide +kernel
theorem dX10_isQuarter_4 : decode cX10_isQuarter 4 = .ok (.getfield 97, 3) := by decide +kernel
theorem dX10_isQuarter_7 : decode cX10_isQuarter 7 = .ok (.iconst 1, 1) := by decide +kernel
theorem dX10_isQuarter_8 : decode cX10_isQuarter 8 = .ok (.isub, 1) := by decide +kernel
theorem dX10_isQuarter_9 : decode cX10_isQuarter 9 = .ok (.i2l, 1) := by decide +kernel
theorem dX10_isQuarter_10 : decode cX10_isQuarter 10 = .ok (.invokestatic 112, 3) := by decide +kernel
theorem dX10_isQuarter_13 : decode cX10_isQuarter 13 = .ok (.ireturn, 1) := by decide +kernel
theorem dX10_isWatch_0 : decode cX10_isWatch 0 = .ok (.iload_n 1, 1) := by decide +kernel
theorem dX10_isWatch_1 : decode cX10_isWatch 1 = .ok (.i2l, 1) := by decide +kernel
theorem dX10_isWatch_2 : decode cX10_isWatch 2 = .ok (.lconst 0, 1) := by decide +kernel
theorem dX10_isWatch_3 : decode cX10_isWatch 3 = .ok (.aload_n 0, 1) := by decide +kernel
theorem dX10_isWatch_4 : decode cX10_isWatch 4 = .ok (.getfield 104, 3) := by decide +kernel
theorem dX10_isWatch_7 : decode cX10_isWatch 7 = .ok (.iconst 1, 1) := by decide +kernel
theorem dX10_isWatch_8 : decode cX10_isWatch 8 = .ok (.isub, 1) := by decide +kernel
theorem dX10_isWatch_9 : decode cX10_isWatch 9 = .ok (.i2l, 1) := by decide +kernel
theorem dX10_isWatch_10 : decode cX10_isWatch 10 = .ok (.invokestatic 112, 3) := by decide +kernel
theorem dX10_isWatch_13 : decode cX10_isWatch 13 = .ok (.ireturn, 1) := by decide +kernel
theorem dX10_isPart_0 : decode cX10_isPart 0 = .ok (.iload_n 0, 1) := by decide +kernel
theorem dX10_isPart_1 : decode cX10_isPart 1 = .ok (.i2l, 1) := by decide +kernel
theorem dX10_isPart_2 : decode cX10_isPart 2 = .ok (.lconst 0, 1) := by decide +kernel
theorem dX10_isPart_3 : decode cX10_isPart 3 = .ok (.lconst 1, 1) := by decide +kernel
theorem dX10_isPart_4 : decode cX10_isPart 4 = .ok (.invokestatic 112, 3) := by decide +kernel
theorem dX10_isPart_7 : decode cX10_isPart 7 = .ok (.ireturn, 1) := by decide +kernel
theorem dX10_isGlass_0 : decode cX10_isGlass 0 = .ok (.iload_n 1, 1) := by decide +kernel
theorem dX10_isGlass_1 : decode cX10_isGlass 1 = .ok (.iconst 2, 1) := by decide +kernel
theorem dX10_isGlass_2 : decode cX10_isGlass 2 = .ok (.irem, 1) := by decide +kernel
theorem dX10_isGlass_3 : decode cX10_isGlass 3 = .ok (.ifCond .ne 19, 3) := by decide +kernel
theorem dX10_isGlass_6 : decode cX10_isGlass 6 = .ok (.aload_n 0, 1) := by decide +kernel
theorem dX10_isGlass_7 : decode cX10_isGlass 7 = .ok (.getfield 17, 3) := by decide +kernel
theorem dX10_isGlass_10 : decode cX10_isGlass 10 = .ok (.iload_n 1, 1) := by decide +kernel
theorem dX10_isGlass_11 : decode cX10_isGlass 11 = .ok (.iconst 2, 1) := by decide +kernel
theorem dX10_isGlass_12 : decode cX10_isGlass 12 = .ok (.idiv, 1) := by decide +kernel
theorem dX10_isGlass_13 : decode cX10_isGlass 13 = .ok (.iaload, 1) := by decide +kernel
theorem dX10_isGlass_14 : decode cX10_isGlass 14 = .ok (.iconst 1, 1) := by decide +kernel
theorem dX10_isGlass_15 : decode cX10_isGlass 15 = .ok (.if_icmp .ne 7, 3) := by decide +kernel
theorem dX10_isGlass_18 : decode cX10_isGlass 18 = .ok (.iconst 1, 1) := by decide +kernel
theorem dX10_isGlass_19 : decode cX10_isGlass 19 = .ok (.goto 4, 3) := by decide +kernel
theorem dX10_isGlass_22 : decode cX10_isGlass 22 = .ok (.iconst 0, 1) := by decide +kernel
theorem dX10_isGlass_23 : decode cX10_isGlass 23 = .ok (.ireturn, 1) := by decide +kernel
theorem dX10_seenBy_0 : decode cX10_seenBy 0 = .ok (.aload_n 0, 1) := by decide +kernel
theorem dX10_seenBy_1 : decode cX10_seenBy 1 = .ok (.getfield 7, 3) := by decide +kernel
theorem dX10_seenBy_4 : decode cX10_seenBy 4 = .ok (.iconst 0, 1) := by decide +kernel
theorem dX10_seenBy_5 : decode cX10_seenBy 5 = .ok (.iload_n 1, 1) := by decide +kernel
theorem dX10_seenBy_6 : decode cX10_seenBy 6 = .ok (.iconst 2, 1) := by decide +kernel
theorem dX10_seenBy_7 : decode cX10_seenBy 7 = .ok (.idiv, 1) := by decide +kernel
theorem dX10_seenBy_8 : decode cX10_seenBy 8 = .ok (.iadd, 1) := by decide +kernel
theorem dX10_seenBy_9 : decode cX10_seenBy 9 = .ok (.iaload, 1) := by decide +kernel
theorem dX10_seenBy_10 : decode cX10_seenBy 10 = .ok (.istore_n 2, 1) := by decide +kernel
theorem dX10_seenBy_11 : decode cX10_seenBy 11 = .ok (.aload_n 0, 1) := by decide +kernel
theorem dX10_seenBy_12 : decode cX10_seenBy 12 = .ok (.getfield 20, 3) := by decide +kernel
theorem dX10_seenBy_15 : decode cX10_seenBy 15 = .ok (.iload_n 1, 1) := by decide +kernel
theorem dX10_seenBy_16 : decode cX10_seenBy 16 = .ok (.iaload, 1) := by decide +kernel
theorem dX10_seenBy_17 : decode cX10_seenBy 17 = .ok (.iload_n 2, 1) := by decide +kernel
theorem dX10_seenBy_18 : decode cX10_seenBy 18 = .ok (.ishl, 1) := by decide +kernel
theorem dX10_seenBy_19 : decode cX10_seenBy 19 = .ok (.aload_n 0, 1) := by decide +kernel
theorem dX10_seenBy_20 : decode cX10_seenBy 20 = .ok (.getfield 20, 3) := by decide +kernel
theorem dX10_seenBy_23 : decode cX10_seenBy 23 = .ok (.iload_n 1, 1) := by decide +kernel
theorem dX10_seenBy_24 : decode cX10_seenBy 24 = .ok (.iaload, 1) := by decide +kernel
theorem dX10_seenBy_25 : decode cX10_seenBy 25 = .ok (.iconst 4, 1) := by decide +kernel
theorem dX10_seenBy_26 : decode cX10_seenBy 26 = .ok (.iload_n 2, 1) := by decide +kernel
theorem dX10_seenBy_27 : decode cX10_seenBy 27 = .ok (.isub, 1) := by decide +kernel
theorem dX10_seenBy_28 : decode cX10_seenBy 28 = .ok (.ishr, 1) := by decide +kernel
theorem dX10_seenBy_29 : decode cX10_seenBy 29 = .ok (.ior, 1) := by decide +kernel
theorem dX10_seenBy_30 : decode cX10_seenBy 30 = .ok (.bipush 15, 2) := by decide +kernel
theorem dX10_seenBy_32 : decode cX10_seenBy 32 = .ok (.iand, 1) := by decide +kernel
theorem dX10_seenBy_33 : decode cX10_seenBy 33 = .ok (.ireturn, 1) := by decide +kernel
theorem dX10_rule_0 : decode cX10_rule 0 = .ok (.iload_n 1, 1) := by decide +kernel
theorem dX10_rule_1 : decode cX10_rule 1 = .ok (.ifCond .ne 10, 3) := by decide +kernel
theorem dX10_rule_4 : decode cX10_rule 4 = .ok (.aload_n 0, 1) := by decide +kernel
theorem dX10_rule_5 : decode cX10_rule 5 = .ok (.getfield 94, 3) := by decide +kernel
theorem dX10_rule_8 : decode cX10_rule 8 = .ok (.goto 16, 3) := by decide +kernel
theorem dX10_rule_11 : decode cX10_rule 11 = .ok (.iload_n 1, 1) := by decide +kernel
theorem dX10_rule_12 : decode cX10_rule 12 = .ok (.iconst 1, 1) := by decide +kernel
theorem dX10_rule_13 : decode cX10_rule 13 = .ok (.if_icmp .ne 10, 3) := by decide +kernel
theorem dX10_rule_16 : decode cX10_rule 16 = .ok (.aload_n 0, 1) := by decide +kernel
theorem dX10_rule_17 : decode cX10_rule 17 = .ok (.getfield 97, 3) := by decide +kernel
theorem dX10_rule_20 : decode cX10_rule 20 = .ok (.goto 4, 3) := by decide +kernel
theorem dX10_rule_23 : decode cX10_rule 23 = .ok (.iconst (-1), 1) := by decide +kernel
theorem dX10_rule_24 : decode cX10_rule 24 = .ok (.ireturn, 1) := by decide +kernel
theorem dX10_sister_0 : decode cX10_sister 0 = .ok (.aload_n 0, 1) := by decide +kernel
theorem dX10_sister_1 : decode cX10_sister 1 = .ok (.iload_n 1, 1) := by decide +kernel
theorem dX10_sister_2 : decode cX10_sister 2 = .ok (.invokevirtual 196, 3) := by decide +kernel
theorem dX10_sister_5 : decode cX10_sister 5 = .ok (.ifCond .eq 13, 3) := by decide +kernel
theorem dX10_sister_8 : decode cX10_sister 8 = .ok (.iload_n 2, 1) := by decide +kernel
theorem dX10_sister_9 : decode cX10_sister 9 = .ok (.i2l, 1) := by decide +kernel
theorem dX10_sister_10 : decode cX10_sister 10 = .ok (.lconst 0, 1) := by decide +kernel
theorem dX10_sister_11 : decode cX10_sister 11 = .ok (.lconst 1, 1) := by decide +kernel
theorem dX10_sister_12 : decode cX10_sister 12 = .ok (.invokestatic 112, 3) := by decide +kernel
theorem dX10_sister_15 : decode cX10_sister 15 = .ok (.ifCond .ne 7, 3) := by decide +kernel
theorem dX10_sister_18 : decode cX10_sister 18 = .ok (.iconst (-1), 1) := by decide +kernel
theorem dX10_sister_19 : decode cX10_sister 19 = .ok (.goto 24, 3) := by decide +kernel
theorem dX10_sister_22 : decode cX10_sister 22 = .ok (.iload_n 2, 1) := by decide +kernel
theorem dX10_sister_23 : decode cX10_sister 23 = .ok (.ifCond .ne 12, 3) := by decide +kernel
theorem dX10_sister_26 : decode cX10_sister 26 = .ok (.aload_n 0, 1) := by decide +kernel
theorem dX10_sister_27 : decode cX10_sister 27 = .ok (.getfield 17, 3) := by decide +kernel
theorem dX10_sister_30 : decode cX10_sister 30 = .ok (.iload_n 1, 1) := by decide +kernel
theorem dX10_sister_31 : decode cX10_sister 31 = .ok (.iaload, 1) := by decide +kernel
theorem dX10_sister_32 : decode cX10_sister 32 = .ok (.goto 11, 3) := by decide +kernel
theorem dX10_sister_35 : decode cX10_sister 35 = .ok (.aload_n 0, 1) := by decide +kernel
theorem dX10_sister_36 : decode cX10_sister 36 = .ok (.getfield 7, 3) := by decide +kernel
theorem dX10_sister_39 : decode cX10_sister 39 = .ok (.iconst 0, 1) := by decide +kernel
theorem dX10_sister_40 : decode cX10_sister 40 = .ok (.iload_n 1, 1) := by decide +kernel
theorem dX10_sister_41 : decode cX10_sister 41 = .ok (.iadd, 1) := by decide +kernel
theorem dX10_sister_42 : decode cX10_sister 42 = .ok (.iaload, 1) := by decide +kernel
theorem dX10_sister_43 : decode cX10_sister 43 = .ok (.ireturn, 1) := by decide +kernel
theorem dX10_eye_0 : decode cX10_eye 0 = .ok (.aload_n 0, 1) := by decide +kernel
theorem dX10_eye_1 : decode cX10_eye 1 = .ok (.iload_n 1, 1) := by decide +kernel
theorem dX10_eye_2 : decode cX10_eye 2 = .ok (.invokevirtual 200, 3) := by decide +kernel
theorem dX10_eye_5 : decode cX10_eye 5 = .ok (.ifCond .eq 13, 3) := by decide +kernel
theorem dX10_eye_8 : decode cX10_eye 8 = .ok (.iload_n 2, 1) := by decide +kernel
theorem dX10_eye_9 : decode cX10_eye 9 = .ok (.i2l, 1) := by decide +kernel
theorem dX10_eye_10 : decode cX10_eye 10 = .ok (.lconst 0, 1) := by decide +kernel
theorem dX10_eye_11 : decode cX10_eye 11 = .ok (.lconst 1, 1) := by decide +kernel
theorem dX10_eye_12 : decode cX10_eye 12 = .ok (.invokestatic 112, 3) := by decide +kernel
theorem dX10_eye_15 : decode cX10_eye 15 = .ok (.ifCond .ne 7, 3) := by decide +kernel
theorem dX10_eye_18 : decode cX10_eye 18 = .ok (.iconst (-1), 1) := by decide +kernel
theorem dX10_eye_19 : decode cX10_eye 19 = .ok (.goto 23, 3) := by decide +kernel
theorem dX10_eye_22 : decode cX10_eye 22 = .ok (.iload_n 2, 1) := by decide +kernel
theorem dX10_eye_23 : decode cX10_eye 23 = .ok (.ifCond .ne 11, 3) := by decide +kernel
theorem dX10_eye_26 : decode cX10_eye 26 = .ok (.aload_n 0, 1) := by decide +kernel
theorem dX10_eye_27 : decode cX10_eye 27 = .ok (.iload_n 1, 1) := by decide +kernel
theorem dX10_eye_28 : decode cX10_eye 28 = .ok (.invokevirtual 203, 3) := by decide +kernel
theorem dX10_eye_31 : decode cX10_eye 31 = .ok (.goto 11, 3) := by decide +kernel
theorem dX10_eye_34 : decode cX10_eye 34 = .ok (.aload_n 0, 1) := by decide +kernel
theorem dX10_eye_35 : decode cX10_eye 35 = .ok (.getfield 7, 3) := by decide +kernel
theorem dX10_eye_38 : decode cX10_eye 38 = .ok (.iconst 3, 1) := by decide +kernel
theorem dX10_eye_39 : decode cX10_eye 39 = .ok (.iload_n 1, 1) := by decide +kernel
theorem dX10_eye_40 : decode cX10_eye 40 = .ok (.iadd, 1) := by decide +kernel
theorem dX10_eye_41 : decode cX10_eye 41 = .ok (.iaload, 1) := by decide +kernel
theorem dX10_eye_42 : decode cX10_eye 42 = .ok (.ireturn, 1) := by decide +kernel
theorem dX10_neededAt_0 : decode cX10_neededAt 0 = .ok (.aload_n 0, 1) := by decide +kernel
theorem dX10_neededAt_1 : decode cX10_neededAt 1 = .ok (.getfield 7, 3) := by decide +kernel
theorem dX10_neededAt_4 : decode cX10_neededAt 4 = .ok (.bipush 9, 2) := by decide +kernel
theorem dX10_neededAt_6 : decode cX10_neededAt 6 = .ok (.iload_n 1, 1) := by decide +kernel
theorem dX10_neededAt_7 : decode cX10_neededAt 7 = .ok (.iadd, 1) := by decide +kernel
theorem dX10_neededAt_8 : decode cX10_neededAt 8 = .ok (.iaload, 1) := by decide +kernel
theorem dX10_neededAt_9 : decode cX10_neededAt 9 = .ok (.aload_n 0, 1) := by decide +kernel
theorem dX10_neededAt_10 : decode cX10_neededAt 10 = .ok (.getfield 7, 3) := by decide +kernel
theorem dX10_neededAt_13 : decode cX10_neededAt 13 = .ok (.bipush 13, 2) := by decide +kernel
theorem dX10_neededAt_15 : decode cX10_neededAt 15 = .ok (.iload_n 2, 1) := by decide +kernel
theorem dX10_neededAt_16 : decode cX10_neededAt 16 = .ok (.iadd, 1) := by decide +kernel
theorem dX10_neededAt_17 : decode cX10_neededAt 17 = .ok (.iaload, 1) := by decide +kernel
theorem dX10_neededAt_18 : decode cX10_neededAt 18 = .ok (.iload_n 1, 1) := by decide +kernel
theorem dX10_neededAt_19 : decode cX10_neededAt 19 = .ok (.ishr, 1) := by decide +kernel
theorem dX10_neededAt_20 : decode cX10_neededAt 20 = .ok (.iconst 1, 1) := by decide +kernel
theorem dX10_neededAt_21 : decode cX10_neededAt 21 = .ok (.iand, 1) := by decide +kernel
theorem dX10_neededAt_22 : decode cX10_neededAt 22 = .ok (.iadd, 1) := by decide +kernel
theorem dX10_neededAt_23 : decode cX10_neededAt 23 = .ok (.ireturn, 1) := by decide +kernel
theorem dX10_needed_0 : decode cX10_needed 0 = .ok (.iload_n 1, 1) := by decide +kernel
theorem dX10_needed_1 : decode cX10_needed 1 = .ok (.invokestatic 206, 3) := by decide +kernel
theorem dX10_needed_4 : decode cX10_needed 4 = .ok (.ifCond .eq 20, 3) := by decide +kernel
theorem dX10_needed_7 : decode cX10_needed 7 = .ok (.aload_n 0, 1) := by decide +kernel
theorem dX10_needed_8 : decode cX10_needed 8 = .ok (.iload_n 2, 1) := by decide +kernel
theorem dX10_needed_9 : decode cX10_needed 9 = .ok (.invokevirtual 209, 3) := by decide +kernel
theorem dX10_needed_12 : decode cX10_needed 12 = .ok (.ifCond .eq 12, 3) := by decide +kernel
theorem dX10_needed_15 : decode cX10_needed 15 = .ok (.aload_n 0, 1) := by decide +kernel
theorem dX10_needed_16 : decode cX10_needed 16 = .ok (.iload_n 1, 1) := by decide +kernel
theorem dX10_needed_17 : decode cX10_needed 17 = .ok (.iload_n 2, 1) := by decide +kernel
theorem dX10_needed_18 : decode cX10_needed 18 = .ok (.invokevirtual 212, 3) := by decide +kernel
theorem dX10_needed_21 : decode cX10_needed 21 = .ok (.goto 4, 3) := by decide +kernel
theorem dX10_needed_24 : decode cX10_needed 24 = .ok (.iconst (-1), 1) := by decide +kernel
theorem dX10_needed_25 : decode cX10_needed 25 = .ok (.ireturn, 1) := by decide +kernel
theorem dX10_watch_0 : decode cX10_watch 0 = .ok (.aload_n 0, 1) := by decide +kernel
theorem dX10_watch_1 : decode cX10_watch 1 = .ok (.iload_n 1, 1) := by decide +kernel
theorem dX10_watch_2 : decode cX10_watch 2 = .ok (.invokevirtual 209, 3) := by decide +kernel
theorem dX10_watch_5 : decode cX10_watch 5 = .ok (.ifCond .eq 15, 3) := by decide +kernel
theorem dX10_watch_8 : decode cX10_watch 8 = .ok (.aload_n 0, 1) := by decide +kernel
theorem dX10_watch_9 : decode cX10_watch 9 = .ok (.getfield 7, 3) := by decide +kernel
theorem dX10_watch_12 : decode cX10_watch 12 = .ok (.bipush 21, 2) := by decide +kernel
theorem dX10_watch_14 : decode cX10_watch 14 = .ok (.iload_n 1, 1) := by decide +kernel
theorem dX10_watch_15 : decode cX10_watch 15 = .ok (.iadd, 1) := by decide +kernel
theorem dX10_watch_16 : decode cX10_watch 16 = .ok (.iaload, 1) := by decide +kernel
theorem dX10_watch_17 : decode cX10_watch 17 = .ok (.goto 4, 3) := by decide +kernel
theorem dX10_watch_20 : decode cX10_watch 20 = .ok (.iconst (-1), 1) := by decide +kernel
theorem dX10_watch_21 : decode cX10_watch 21 = .ok (.ireturn, 1) := by decide +kernel
theorem dX10_tell_0 : decode cX10_tell 0 = .ok (.aload_n 0, 1) := by decide +kernel
theorem dX10_tell_1 : decode cX10_tell 1 = .ok (.iload_n 1, 1) := by decide +kernel
theorem dX10_tell_2 : decode cX10_tell 2 = .ok (.invokevirtual 209, 3) := by decide +kernel
theorem dX10_tell_5 : decode cX10_tell 5 = .ok (.ifCond .eq 11, 3) := by decide +kernel
theorem dX10_tell_8 : decode cX10_tell 8 = .ok (.aload_n 0, 1) := by decide +kernel
theorem dX10_tell_9 : decode cX10_tell 9 = .ok (.iload_n 2, 1) := by decide +kernel
theorem dX10_tell_10 : decode cX10_tell 10 = .ok (.invokevirtual 215, 3) := by decide +kernel
theorem dX10_tell_13 : decode cX10_tell 13 = .ok (.ifCond .ne 5, 3) := by decide +kernel
theorem dX10_tell_16 : decode cX10_tell 16 = .ok (.iconst (-1), 1) := by decide +kernel
theorem dX10_tell_17 : decode cX10_tell 17 = .ok (.ireturn, 1) := by decide +kernel
theorem dX10_tell_18 : decode cX10_tell 18 = .ok (.aload_n 0, 1) := by decide +kernel
theorem dX10_tell_19 : decode cX10_tell 19 = .ok (.getfield 7, 3) := by decide +kernel
theorem dX10_tell_22 : decode cX10_tell 22 = .ok (.bipush 21, 2) := by decide +kernel
theorem dX10_tell_24 : decode cX10_tell 24 = .ok (.iload_n 1, 1) := by decide +kernel
theorem dX10_tell_25 : decode cX10_tell 25 = .ok (.iadd, 1) := by decide +kernel
theorem dX10_tell_26 : decode cX10_tell 26 = .ok (.iaload, 1) := by decide +kernel
theorem dX10_tell_27 : decode cX10_tell 27 = .ok (.istore_n 3, 1) := by decide +kernel
theorem dX10_tell_28 : decode cX10_tell 28 = .ok (.aload_n 0, 1) := by decide +kernel
theorem dX10_tell_29 : decode cX10_tell 29 = .ok (.getfield 7, 3) := by decide +kernel
theorem dX10_tell_32 : decode cX10_tell 32 = .ok (.bipush 21, 2) := by decide +kernel
theorem dX10_tell_34 : decode cX10_tell 34 = .ok (.iload_n 1, 1) := by decide +kernel
theorem dX10_tell_35 : decode cX10_tell 35 = .ok (.iadd, 1) := by decide +kernel
theorem dX10_tell_36 : decode cX10_tell 36 = .ok (.iload_n 2, 1) := by decide +kernel
theorem dX10_tell_37 : decode cX10_tell 37 = .ok (.iastore, 1) := by decide +kernel
theorem dX10_tell_38 : decode cX10_tell 38 = .ok (.iload_n 3, 1) := by decide +kernel
theorem dX10_tell_39 : decode cX10_tell 39 = .ok (.ireturn, 1) := by decide +kernel
theorem dX10_need_0 : decode cX10_need 0 = .ok (.iload_n 1, 1) := by decide +kernel
theorem dX10_need_1 : decode cX10_need 1 = .ok (.invokestatic 206, 3) := by decide +kernel
theorem dX10_need_4 : decode cX10_need 4 = .ok (.ifCond .eq 15, 3) := by decide +kernel
theorem dX10_need_7 : decode cX10_need 7 = .ok (.iload_n 2, 1) := by decide +kernel
theorem dX10_need_8 : decode cX10_need 8 = .ok (.i2l, 1) := by decide +kernel
theorem dX10_need_9 : decode cX10_need 9 = .ok (.lconst 0, 1) := by decide +kernel
theorem dX10_need_10 : decode cX10_need 10 = .ok (.ldc2_w 218, 3) := by decide +kernel
theorem dX10_need_13 : decode cX10_need 13 = .ok (.invokestatic 112, 3) := by decide +kernel
theorem dX10_need_16 : decode cX10_need 16 = .ok (.ifCond .ne 5, 3) := by decide +kernel
theorem dX10_need_19 : decode cX10_need 19 = .ok (.iconst (-1), 1) := by decide +kernel
theorem dX10_need_20 : decode cX10_need 20 = .ok (.ireturn, 1) := by decide +kernel
theorem dX10_need_21 : decode cX10_need 21 = .ok (.aload_n 0, 1) := by decide +kernel
theorem dX10_need_22 : decode cX10_need 22 = .ok (.getfield 7, 3) := by decide +kernel
theorem dX10_need_25 : decode cX10_need 25 = .ok (.bipush 9, 2) := by decide +kernel
theorem dX10_need_27 : decode cX10_need 27 = .ok (.iload_n 1, 1) := by decide +kernel
theorem dX10_need_28 : decode cX10_need 28 = .ok (.iadd, 1) := by decide +kernel
theorem dX10_need_29 : decode cX10_need 29 = .ok (.iaload, 1) := by decide +kernel
theorem dX10_need_30 : decode cX10_need 30 = .ok (.istore_n 3, 1) := by decide +kernel
theorem dX10_need_31 : decode cX10_need 31 = .ok (.aload_n 0, 1) := by decide +kernel
theorem dX10_need_32 : decode cX10_need 32 = .ok (.getfield 7, 3) := by decide +kernel
theorem dX10_need_35 : decode cX10_need 35 = .ok (.bipush 9, 2) := by decide +kernel
theorem dX10_need_37 : decode cX10_need 37 = .ok (.iload_n 1, 1) := by decide +kernel
theorem dX10_need_38 : decode cX10_need 38 = .ok (.iadd, 1) := by decide +kernel
theorem dX10_need_39 : decode cX10_need 39 = .ok (.iload_n 2, 1) := by decide +kernel
theorem dX10_need_40 : decode cX10_need 40 = .ok (.iastore, 1) := by decide +kernel
theorem dX10_need_41 : decode cX10_need 41 = .ok (.iload_n 3, 1) := by decide +kernel
theorem dX10_need_42 : decode cX10_need 42 = .ok (.ireturn, 1) := by decide +kernel
theorem dX10_storm_0 : decode cX10_storm 0 = .ok (.aload_n 0, 1) := by decide +kernel
theorem dX10_storm_1 : decode cX10_storm 1 = .ok (.iload_n 1, 1) := by decide +kernel
theorem dX10_storm_2 : decode cX10_storm 2 = .ok (.invokevirtual 209, 3) := by decide +kernel
theorem dX10_storm_5 : decode cX10_storm 5 = .ok (.ifCond .eq 10, 3) := by decide +kernel
theorem dX10_storm_8 : decode cX10_storm 8 = .ok (.iload_n 2, 1) := by decide +kernel
theorem dX10_storm_9 : decode cX10_storm 9 = .ok (.invokestatic 206, 3) := by decide +kernel
theorem dX10_storm_12 : decode cX10_storm 12 = .ok (.ifCond .ne 5, 3) := by decide +kernel
theorem dX10_storm_15 : decode cX10_storm 15 = .ok (.iconst (-1), 1) := by decide +kernel
theorem dX10_storm_16 : decode cX10_storm 16 = .ok (.ireturn, 1) := by decide +kernel
theorem dX10_storm_17 : decode cX10_storm 17 = .ok (.aload_n 0, 1) := by decide +kernel
theorem dX10_storm_18 : decode cX10_storm 18 = .ok (.getfield 7, 3) := by decide +kernel
theorem dX10_storm_21 : decode cX10_storm 21 = .ok (.bipush 13, 2) := by decide +kernel
theorem dX10_storm_23 : decode cX10_storm 23 = .ok (.iload_n 1, 1) := by decide +kernel
theorem dX10_storm_24 : decode cX10_storm 24 = .ok (.iadd, 1) := by decide +kernel
theorem dX10_storm_25 : decode cX10_storm 25 = .ok (.iaload, 1) := by decide +kernel
theorem dX10_storm_26 : decode cX10_storm 26 = .ok (.iload_n 2, 1) := by decide +kernel
theorem dX10_storm_27 : decode cX10_storm 27 = .ok (.ishr, 1) := by decide +kernel
theorem dX10_storm_28 : decode cX10_storm 28 = .ok (.iconst 1, 1) := by decide +kernel
theorem dX10_storm_29 : decode cX10_storm 29 = .ok (.iand, 1) := by decide +kernel
theorem dX10_storm_30 : decode cX10_storm 30 = .ok (.istore 4, 2) := by decide +kernel
theorem dX10_storm_32 : decode cX10_storm 32 = .ok (.aload_n 0, 1) := by decide +kernel
theorem dX10_storm_33 : decode cX10_storm 33 = .ok (.getfield 7, 3) := by decide +kernel
theorem dX10_storm_36 : decode cX10_storm 36 = .ok (.bipush 13, 2) := by decide +kernel
theorem dX10_storm_38 : decode cX10_storm 38 = .ok (.iload_n 1, 1) := by decide +kernel
theorem dX10_storm_39 : decode cX10_storm 39 = .ok (.iadd, 1) := by decide +kernel
theorem dX10_storm_40 : decode cX10_storm 40 = .ok (.iload_n 3, 1) := by decide +kernel
theorem dX10_storm_41 : decode cX10_storm 41 = .ok (.ifCond .eq 19, 3) := by decide +kernel
theorem dX10_storm_44 : decode cX10_storm 44 = .ok (.aload_n 0, 1) := by decide +kernel
theorem dX10_storm_45 : decode cX10_storm 45 = .ok (.getfield 7, 3) := by decide +kernel
theorem dX10_storm_48 : decode cX10_storm 48 = .ok (.bipush 13, 2) := by decide +kernel
theorem dX10_storm_50 : decode cX10_storm 50 = .ok (.iload_n 1, 1) := by decide +kernel
theorem dX10_storm_51 : decode cX10_storm 51 = .ok (.iadd, 1) := by decide +kernel
theorem dX10_storm_52 : decode cX10_storm 52 = .ok (.iaload, 1) := by decide +kernel
theorem dX10_storm_53 : decode cX10_storm 53 = .ok (.iconst 1, 1) := by decide +kernel
theorem dX10_storm_54 : decode cX10_storm 54 = .ok (.iload_n 2, 1) := by decide +kernel
theorem dX10_storm_55 : decode cX10_storm 55 = .ok (.ishl, 1) := by decide +kernel
theorem dX10_storm_56 : decode cX10_storm 56 = .ok (.ior, 1) := by decide +kernel
theorem dX10_storm_57 : decode cX10_storm 57 = .ok (.goto 18, 3) := by decide +kernel
theorem dX10_storm_60 : decode cX10_storm 60 = .ok (.aload_n 0, 1) := by decide +kernel
theorem dX10_storm_61 : decode cX10_storm 61 = .ok (.getfield 7, 3) := by decide +kernel
theorem dX10_storm_64 : decode cX10_storm 64 = .ok (.bipush 13, 2) := by decide +kernel
theorem dX10_storm_66 : decode cX10_storm 66 = .ok (.iload_n 1, 1) := by decide +kernel
theorem dX10_storm_67 : decode cX10_storm 67 = .ok (.iadd, 1) := by decide +kernel
theorem dX10_storm_68 : decode cX10_storm 68 = .ok (.iaload, 1) := by decide +kernel
theorem dX10_storm_69 : decode cX10_storm 69 = .ok (.iconst 1, 1) := by decide +kernel
theorem dX10_storm_70 : decode cX10_storm 70 = .ok (.iload_n 2, 1) := by decide +kernel
theorem dX10_storm_71 : decode cX10_storm 71 = .ok (.ishl, 1) := by decide +kernel
theorem dX10_storm_72 : decode cX10_storm 72 = .ok (.iconst (-1), 1) := by decide +kernel
theorem dX10_storm_73 : decode cX10_storm 73 = .ok (.ixor, 1) := by decide +kernel
theorem dX10_storm_74 : decode cX10_storm 74 = .ok (.iand, 1) := by decide +kernel
theorem dX10_storm_75 : decode cX10_storm 75 = .ok (.iastore, 1) := by decide +kernel
theorem dX10_storm_76 : decode cX10_storm 76 = .ok (.iload 4, 2) := by decide +kernel
theorem dX10_storm_78 : decode cX10_storm 78 = .ok (.ireturn, 1) := by decide +kernel
theorem dX10_turn_0 : decode cX10_turn 0 = .ok (.aload_n 0, 1) := by decide +kernel
theorem dX10_turn_1 : decode cX10_turn 1 = .ok (.iload_n 1, 1) := by decide +kernel
theorem dX10_turn_2 : decode cX10_turn 2 = .ok (.invokevirtual 196, 3) := by decide +kernel
theorem dX10_turn_5 : decode cX10_turn 5 = .ok (.ifCond .eq 15, 3) := by decide +kernel
theorem dX10_turn_8 : decode cX10_turn 8 = .ok (.iload_n 2, 1) := by decide +kernel
theorem dX10_turn_9 : decode cX10_turn 9 = .ok (.i2l, 1) := by decide +kernel
theorem dX10_turn_10 : decode cX10_turn 10 = .ok (.lconst 0, 1) := by decide +kernel
theorem dX10_turn_11 : decode cX10_turn 11 = .ok (.ldc2_w 194, 3) := by decide +kernel
theorem dX10_turn_14 : decode cX10_turn 14 = .ok (.invokestatic 112, 3) := by decide +kernel
theorem dX10_turn_17 : decode cX10_turn 17 = .ok (.ifCond .ne 5, 3) := by decide +kernel
theorem dX10_turn_20 : decode cX10_turn 20 = .ok (.iconst (-1), 1) := by decide +kernel
theorem dX10_turn_21 : decode cX10_turn 21 = .ok (.ireturn, 1) := by decide +kernel
theorem dX10_turn_22 : decode cX10_turn 22 = .ok (.aload_n 0, 1) := by decide +kernel
theorem dX10_turn_23 : decode cX10_turn 23 = .ok (.getfield 7, 3) := by decide +kernel
theorem dX10_turn_26 : decode cX10_turn 26 = .ok (.iconst 0, 1) := by decide +kernel
theorem dX10_turn_27 : decode cX10_turn 27 = .ok (.iload_n 1, 1) := by decide +kernel
theorem dX10_turn_28 : decode cX10_turn 28 = .ok (.iadd, 1) := by decide +kernel
theorem dX10_turn_29 : decode cX10_turn 29 = .ok (.iaload, 1) := by decide +kernel
theorem dX10_turn_30 : decode cX10_turn 30 = .ok (.istore_n 3, 1) := by decide +kernel
theorem dX10_turn_31 : decode cX10_turn 31 = .ok (.aload_n 0, 1) := by decide +kernel
theorem dX10_turn_32 : decode cX10_turn 32 = .ok (.getfield 7, 3) := by decide +kernel
theorem dX10_turn_35 : decode cX10_turn 35 = .ok (.iconst 0, 1) := by decide +kernel
theorem dX10_turn_36 : decode cX10_turn 36 = .ok (.iload_n 1, 1) := by decide +kernel
theorem dX10_turn_37 : decode cX10_turn 37 = .ok (.iadd, 1) := by decide +kernel
theorem dX10_turn_38 : decode cX10_turn 38 = .ok (.iload_n 2, 1) := by decide +kernel
theorem dX10_turn_39 : decode cX10_turn 39 = .ok (.iastore, 1) := by decide +kernel
theorem dX10_turn_40 : decode cX10_turn 40 = .ok (.iload_n 3, 1) := by decide +kernel
theorem dX10_turn_41 : decode cX10_turn 41 = .ok (.ireturn, 1) := by decide +kernel
theorem dX10_tire_0 : decode cX10_tire 0 = .ok (.aload_n 0, 1) := by decide +kernel
theorem dX10_tire_1 : decode cX10_tire 1 = .ok (.iload_n 1, 1) := by decide +kernel
theorem dX10_tire_2 : decode cX10_tire 2 = .ok (.invokevirtual 200, 3) := by decide +kernel
theorem dX10_tire_5 : decode cX10_tire 5 = .ok (.ifCond .eq 23, 3) := by decide +kernel
theorem dX10_tire_8 : decode cX10_tire 8 = .ok (.iload_n 2, 1) := by decide +kernel
theorem dX10_tire_9 : decode cX10_tire 9 = .ok (.i2l, 1) := by decide +kernel
theorem dX10_tire_10 : decode cX10_tire 10 = .ok (.lconst 0, 1) := by decide +kernel
theorem dX10_tire_11 : decode cX10_tire 11 = .ok (.ldc2_w 220, 3) := by decide +kernel
theorem dX10_tire_14 : decode cX10_tire 14 = .ok (.invokestatic 112, 3) := by decide +kernel
theorem dX10_tire_17 : decode cX10_tire 17 = .ok (.ifCond .eq 11, 3) := by decide +kernel
theorem dX10_tire_20 : decode cX10_tire 20 = .ok (.aload_n 0, 1) := by decide +kernel
theorem dX10_tire_21 : decode cX10_tire 21 = .ok (.iload_n 1, 1) := by decide +kernel
theorem dX10_tire_22 : decode cX10_tire 22 = .ok (.invokevirtual 222, 3) := by decide +kernel
theorem dX10_tire_25 : decode cX10_tire 25 = .ok (.ifCond .eq 5, 3) := by decide +kernel
theorem dX10_tire_28 : decode cX10_tire 28 = .ok (.iconst (-1), 1) := by decide +kernel
theorem dX10_tire_29 : decode cX10_tire 29 = .ok (.ireturn, 1) := by decide +kernel
theorem dX10_tire_30 : decode cX10_tire 30 = .ok (.aload_n 0, 1) := by decide +kernel
theorem dX10_tire_31 : decode cX10_tire 31 = .ok (.getfield 7, 3) := by decide +kernel
theorem dX10_tire_34 : decode cX10_tire 34 = .ok (.iconst 3, 1) := by decide +kernel
theorem dX10_tire_35 : decode cX10_tire 35 = .ok (.iload_n 1, 1) := by decide +kernel
theorem dX10_tire_36 : decode cX10_tire 36 = .ok (.iadd, 1) := by decide +kernel
theorem dX10_tire_37 : decode cX10_tire 37 = .ok (.iaload, 1) := by decide +kernel
theorem dX10_tire_38 : decode cX10_tire 38 = .ok (.istore_n 3, 1) := by decide +kernel
theorem dX10_tire_39 : decode cX10_tire 39 = .ok (.aload_n 0, 1) := by decide +kernel
theorem dX10_tire_40 : decode cX10_tire 40 = .ok (.getfield 7, 3) := by decide +kernel
theorem dX10_tire_43 : decode cX10_tire 43 = .ok (.iconst 3, 1) := by decide +kernel
theorem dX10_tire_44 : decode cX10_tire 44 = .ok (.iload_n 1, 1) := by decide +kernel
theorem dX10_tire_45 : decode cX10_tire 45 = .ok (.iadd, 1) := by decide +kernel
theorem dX10_tire_46 : decode cX10_tire 46 = .ok (.iload_n 2, 1) := by decide +kernel
theorem dX10_tire_47 : decode cX10_tire 47 = .ok (.iastore, 1) := by decide +kernel
theorem dX10_tire_48 : decode cX10_tire 48 = .ok (.iload_n 3, 1) := by decide +kernel
theorem dX10_tire_49 : decode cX10_tire 49 = .ok (.ireturn, 1) := by decide +kernel
theorem dX10_isHere_0 : decode cX10_isHere 0 = .ok (.iload_n 1, 1) := by decide +kernel
theorem dX10_isHere_1 : decode cX10_isHere 1 = .ok (.iconst 2, 1) := by decide +kernel
theorem dX10_isHere_2 : decode cX10_isHere 2 = .ok (.idiv, 1) := by decide +kernel
theorem dX10_isHere_3 : decode cX10_isHere 3 = .ok (.aload_n 0, 1) := by decide +kernel
theorem dX10_isHere_4 : decode cX10_isHere 4 = .ok (.getfield 225, 3) := by decide +kernel
theorem dX10_isHere_7 : decode cX10_isHere 7 = .ok (.iconst 1, 1) := by decide +kernel
theorem dX10_isHere_8 : decode cX10_isHere 8 = .ok (.isub, 1) := by decide +kernel
theorem dX10_isHere_9 : decode cX10_isHere 9 = .ok (.if_icmp .eq 7, 3) := by decide +kernel
theorem dX10_isHere_12 : decode cX10_isHere 12 = .ok (.iconst 1, 1) := by decide +kernel
theorem dX10_isHere_13 : decode cX10_isHere 13 = .ok (.goto 4, 3) := by decide +kernel
theorem dX10_isHere_16 : decode cX10_isHere 16 = .ok (.iconst 0, 1) := by decide +kernel
theorem dX10_isHere_17 : decode cX10_isHere 17 = .ok (.ireturn, 1) := by decide +kernel
theorem dX10_shutBy_0 : decode cX10_shutBy 0 = .ok (.iconst 0, 1) := by decide +kernel
theorem dX10_shutBy_1 : decode cX10_shutBy 1 = .ok (.istore_n 2, 1) := by decide +kernel
theorem dX10_shutBy_2 : decode cX10_shutBy 2 = .ok (.iload_n 1, 1) := by decide +kernel
theorem dX10_shutBy_3 : decode cX10_shutBy 3 = .ok (.istore_n 3, 1) := by decide +kernel
theorem dX10_shutBy_4 : decode cX10_shutBy 4 = .ok (.iconst 0, 1) := by decide +kernel
theorem dX10_shutBy_5 : decode cX10_shutBy 5 = .ok (.istore 4, 2) := by decide +kernel
theorem dX10_shutBy_7 : decode cX10_shutBy 7 = .ok (.iload 4, 2) := by decide +kernel
theorem dX10_shutBy_9 : decode cX10_shutBy 9 = .ok (.aload_n 0, 1) := by decide +kernel
theorem dX10_shutBy_10 : decode cX10_shutBy 10 = .ok (.getfield 94, 3) := by decide +kernel
theorem dX10_shutBy_13 : decode cX10_shutBy 13 = .ok (.if_icmp .ge 38, 3) := by decide +kernel
theorem dX10_shutBy_16 : decode cX10_shutBy 16 = .ok (.iload_n 2, 1) := by decide +kernel
theorem dX10_shutBy_17 : decode cX10_shutBy 17 = .ok (.iload_n 3, 1) := by decide +kernel
theorem dX10_shutBy_18 : decode cX10_shutBy 18 = .ok (.iconst 3, 1) := by decide +kernel
theorem dX10_shutBy_19 : decode cX10_shutBy 19 = .ok (.irem, 1) := by decide +kernel
theorem dX10_shutBy_20 : decode cX10_shutBy 20 = .ok (.ifCond .ne 7, 3) := by decide +kernel
theorem dX10_shutBy_23 : decode cX10_shutBy 23 = .ok (.iconst 0, 1) := by decide +kernel
theorem dX10_shutBy_24 : decode cX10_shutBy 24 = .ok (.goto 15, 3) := by decide +kernel
theorem dX10_shutBy_27 : decode cX10_shutBy 27 = .ok (.iconst 1, 1) := by decide +kernel
theorem dX10_shutBy_28 : decode cX10_shutBy 28 = .ok (.iconst 2, 1) := by decide +kernel
theorem dX10_shutBy_29 : decode cX10_shutBy 29 = .ok (.iload 4, 2) := by decide +kernel
theorem dX10_shutBy_31 : decode cX10_shutBy 31 = .ok (.imul, 1) := by decide +kernel
theorem dX10_shutBy_32 : decode cX10_shutBy 32 = .ok (.iload_n 3, 1) := by decide +kernel
theorem dX10_shutBy_33 : decode cX10_shutBy 33 = .ok (.iconst 3, 1) := by decide +kernel
theorem dX10_shutBy_34 : decode cX10_shutBy 34 = .ok (.irem, 1) := by decide +kernel
theorem dX10_shutBy_35 : decode cX10_shutBy 35 = .ok (.iadd, 1) := by decide +kernel
theorem dX10_shutBy_36 : decode cX10_shutBy 36 = .ok (.iconst 1, 1) := by decide +kernel
theorem dX10_shutBy_37 : decode cX10_shutBy 37 = .ok (.isub, 1) := by decide +kernel
theorem dX10_shutBy_38 : decode cX10_shutBy 38 = .ok (.ishl, 1) := by decide +kernel
theorem dX10_shutBy_39 : decode cX10_shutBy 39 = .ok (.ior, 1) := by decide +kernel
theorem dX10_shutBy_40 : decode cX10_shutBy 40 = .ok (.istore_n 2, 1) := by decide +kernel
theorem dX10_shutBy_41 : decode cX10_shutBy 41 = .ok (.iload_n 3, 1) := by decide +kernel
theorem dX10_shutBy_42 : decode cX10_shutBy 42 = .ok (.iconst 3, 1) := by decide +kernel
theorem dX10_shutBy_43 : decode cX10_shutBy 43 = .ok (.idiv, 1) := by decide +kernel
theorem dX10_shutBy_44 : decode cX10_shutBy 44 = .ok (.istore_n 3, 1) := by decide +kernel
theorem dX10_shutBy_45 : decode cX10_shutBy 45 = .ok (.iinc 4 1, 3) := by decide +kernel
theorem dX10_shutBy_48 : decode cX10_shutBy 48 = .ok (.goto (-41), 3) := by decide +kernel
theorem dX10_shutBy_51 : decode cX10_shutBy 51 = .ok (.iload_n 2, 1) := by decide +kernel
theorem dX10_shutBy_52 : decode cX10_shutBy 52 = .ok (.ireturn, 1) := by decide +kernel
theorem dX10_countOf_0 : decode cX10_countOf 0 = .ok (.iconst 0, 1) := by decide +kernel
theorem dX10_countOf_1 : decode cX10_countOf 1 = .ok (.istore_n 3, 1) := by decide +kernel
theorem dX10_countOf_2 : decode cX10_countOf 2 = .ok (.iconst 0, 1) := by decide +kernel
theorem dX10_countOf_3 : decode cX10_countOf 3 = .ok (.istore 4, 2) := by decide +kernel
theorem dX10_countOf_5 : decode cX10_countOf 5 = .ok (.iload 4, 2) := by decide +kernel
theorem dX10_countOf_7 : decode cX10_countOf 7 = .ok (.iconst 2, 1) := by decide +kernel
theorem dX10_countOf_8 : decode cX10_countOf 8 = .ok (.aload_n 0, 1) := by decide +kernel
theorem dX10_countOf_9 : decode cX10_countOf 9 = .ok (.getfield 94, 3) := by decide +kernel
theorem dX10_countOf_12 : decode cX10_countOf 12 = .ok (.imul, 1) := by decide +kernel
theorem dX10_countOf_13 : decode cX10_countOf 13 = .ok (.if_icmp .ge 89, 3) := by decide +kernel
theorem dX10_countOf_16 : decode cX10_countOf 16 = .ok (.aload_n 0, 1) := by decide +kernel
theorem dX10_countOf_17 : decode cX10_countOf 17 = .ok (.iload 4, 2) := by decide +kernel
theorem dX10_countOf_19 : decode cX10_countOf 19 = .ok (.invokevirtual 228, 3) := by decide +kernel
theorem dX10_countOf_22 : decode cX10_countOf 22 = .ok (.ifCond .eq 21, 3) := by decide +kernel
theorem dX10_countOf_25 : decode cX10_countOf 25 = .ok (.aload_n 0, 1) := by decide +kernel
theorem dX10_countOf_26 : decode cX10_countOf 26 = .ok (.iload 4, 2) := by decide +kernel
theorem dX10_countOf_28 : decode cX10_countOf 28 = .ok (.invokevirtual 203, 3) := by decide +kernel
theorem dX10_countOf_31 : decode cX10_countOf 31 = .ok (.iload_n 1, 1) := by decide +kernel
theorem dX10_countOf_32 : decode cX10_countOf 32 = .ok (.ishr, 1) := by decide +kernel
theorem dX10_countOf_33 : decode cX10_countOf 33 = .ok (.iconst 1, 1) := by decide +kernel
theorem dX10_countOf_34 : decode cX10_countOf 34 = .ok (.iand, 1) := by decide +kernel
theorem dX10_countOf_35 : decode cX10_countOf 35 = .ok (.iconst 1, 1) := by decide +kernel
theorem dX10_countOf_36 : decode cX10_countOf 36 = .ok (.if_icmp .ne 7, 3) := by decide +kernel
theorem dX10_countOf_39 : decode cX10_countOf 39 = .ok (.iconst 1, 1) := by decide +kernel
theorem dX10_countOf_40 : decode cX10_countOf 40 = .ok (.goto 4, 3) := by decide +kernel
theorem dX10_countOf_43 : decode cX10_countOf 43 = .ok (.iconst 0, 1) := by decide +kernel
theorem dX10_countOf_44 : decode cX10_countOf 44 = .ok (.istore 5, 2) := by decide +kernel
theorem dX10_countOf_46 : decode cX10_countOf 46 = .ok (.iload_n 2, 1) := by decide +kernel
theorem dX10_countOf_47 : decode cX10_countOf 47 = .ok (.iload 4, 2) := by decide +kernel
theorem dX10_countOf_49 : decode cX10_countOf 49 = .ok (.ishr, 1) := by decide +kernel
theorem dX10_countOf_50 : decode cX10_countOf 50 = .ok (.iconst 1, 1) := by decide +kernel
theorem dX10_countOf_51 : decode cX10_countOf 51 = .ok (.iand, 1) := by decide +kernel
theorem dX10_countOf_52 : decode cX10_countOf 52 = .ok (.ifCond .ne 7, 3) := by decide +kernel
theorem dX10_countOf_55 : decode cX10_countOf 55 = .ok (.iconst 2, 1) := by decide +kernel
theorem dX10_countOf_56 : decode cX10_countOf 56 = .ok (.goto 24, 3) := by decide +kernel
theorem dX10_countOf_59 : decode cX10_countOf 59 = .ok (.aload_n 0, 1) := by decide +kernel
theorem dX10_countOf_60 : decode cX10_countOf 60 = .ok (.getfield 17, 3) := by decide +kernel
theorem dX10_countOf_63 : decode cX10_countOf 63 = .ok (.iload 4, 2) := by decide +kernel
theorem dX10_countOf_65 : decode cX10_countOf 65 = .ok (.iconst 2, 1) := by decide +kernel
theorem dX10_countOf_66 : decode cX10_countOf 66 = .ok (.idiv, 1) := by decide +kernel
theorem dX10_countOf_67 : decode cX10_countOf 67 = .ok (.iaload, 1) := by decide +kernel
theorem dX10_countOf_68 : decode cX10_countOf 68 = .ok (.iconst 3, 1) := by decide +kernel
theorem dX10_countOf_69 : decode cX10_countOf 69 = .ok (.if_icmp .ne 7, 3) := by decide +kernel
theorem dX10_countOf_72 : decode cX10_countOf 72 = .ok (.iconst 1, 1) := by decide +kernel
theorem dX10_countOf_73 : decode cX10_countOf 73 = .ok (.goto 4, 3) := by decide +kernel
theorem dX10_countOf_76 : decode cX10_countOf 76 = .ok (.iconst 0, 1) := by decide +kernel
theorem dX10_countOf_77 : decode cX10_countOf 77 = .ok (.invokestatic 231, 3) := by decide +kernel
theorem dX10_countOf_80 : decode cX10_countOf 80 = .ok (.istore 6, 2) := by decide +kernel
theorem dX10_countOf_82 : decode cX10_countOf 82 = .ok (.iload_n 3, 1) := by decide +kernel
theorem dX10_countOf_83 : decode cX10_countOf 83 = .ok (.iload 5, 2) := by decide +kernel
theorem dX10_countOf_85 : decode cX10_countOf 85 = .ok (.ifCond .eq 8, 3) := by decide +kernel
theorem dX10_countOf_88 : decode cX10_countOf 88 = .ok (.iload 6, 2) := by decide +kernel
theorem dX10_countOf_90 : decode cX10_countOf 90 = .ok (.goto 4, 3) := by decide +kernel
theorem dX10_countOf_93 : decode cX10_countOf 93 = .ok (.iconst 0, 1) := by decide +kernel
theorem dX10_countOf_94 : decode cX10_countOf 94 = .ok (.iadd, 1) := by decide +kernel
theorem dX10_countOf_95 : decode cX10_countOf 95 = .ok (.istore_n 3, 1) := by decide +kernel
theorem dX10_countOf_96 : decode cX10_countOf 96 = .ok (.iinc 4 1, 3) := by decide +kernel
theorem dX10_countOf_99 : decode cX10_countOf 99 = .ok (.goto (-94), 3) := by decide +kernel
theorem dX10_countOf_102 : decode cX10_countOf 102 = .ok (.iload_n 3, 1) := by decide +kernel
theorem dX10_countOf_103 : decode cX10_countOf 103 = .ok (.ireturn, 1) := by decide +kernel
theorem dX10_missedBy_0 : decode cX10_missedBy 0 = .ok (.iconst 0, 1) := by decide +kernel
theorem dX10_missedBy_1 : decode cX10_missedBy 1 = .ok (.istore_n 3, 1) := by decide +kernel
theorem dX10_missedBy_2 : decode cX10_missedBy 2 = .ok (.iconst 0, 1) := by decide +kernel
theorem dX10_missedBy_3 : decode cX10_missedBy 3 = .ok (.istore 4, 2) := by decide +kernel
theorem dX10_missedBy_5 : decode cX10_missedBy 5 = .ok (.iload 4, 2) := by decide +kernel
theorem dX10_missedBy_7 : decode cX10_missedBy 7 = .ok (.iconst 4, 1) := by decide +kernel
theorem dX10_missedBy_8 : decode cX10_missedBy 8 = .ok (.if_icmp .ge 42, 3) := by decide +kernel
theorem dX10_missedBy_11 : decode cX10_missedBy 11 = .ok (.iload_n 3, 1) := by decide +kernel
theorem dX10_missedBy_12 : decode cX10_missedBy 12 = .ok (.aload_n 0, 1) := by decide +kernel
theorem dX10_missedBy_13 : decode cX10_missedBy 13 = .ok (.iload 4, 2) := by decide +kernel
theorem dX10_missedBy_15 : decode cX10_missedBy 15 = .ok (.iload_n 2, 1) := by decide +kernel
theorem dX10_missedBy_16 : decode cX10_missedBy 16 = .ok (.invokevirtual 235, 3) := by decide +kernel
theorem dX10_missedBy_19 : decode cX10_missedBy 19 = .ok (.iconst 2, 1) := by decide +kernel
theorem dX10_missedBy_20 : decode cX10_missedBy 20 = .ok (.aload_n 0, 1) := by decide +kernel
theorem dX10_missedBy_21 : decode cX10_missedBy 21 = .ok (.iload 4, 2) := by decide +kernel
theorem dX10_missedBy_23 : decode cX10_missedBy 23 = .ok (.iload_n 1, 1) := by decide +kernel
theorem dX10_missedBy_24 : decode cX10_missedBy 24 = .ok (.invokevirtual 212, 3) := by decide +kernel
theorem dX10_missedBy_27 : decode cX10_missedBy 27 = .ok (.imul, 1) := by decide +kernel
theorem dX10_missedBy_28 : decode cX10_missedBy 28 = .ok (.if_icmp .ge 7, 3) := by decide +kernel
theorem dX10_missedBy_31 : decode cX10_missedBy 31 = .ok (.iconst 1, 1) := by decide +kernel
theorem dX10_missedBy_32 : decode cX10_missedBy 32 = .ok (.goto 4, 3) := by decide +kernel
theorem dX10_missedBy_35 : decode cX10_missedBy 35 = .ok (.iconst 0, 1) := by decide +kernel
theorem dX10_missedBy_36 : decode cX10_missedBy 36 = .ok (.invokestatic 231, 3) := by decide +kernel
theorem dX10_missedBy_39 : decode cX10_missedBy 39 = .ok (.iload 4, 2) := by decide +kernel
theorem dX10_missedBy_41 : decode cX10_missedBy 41 = .ok (.ishl, 1) := by decide +kernel
theorem dX10_missedBy_42 : decode cX10_missedBy 42 = .ok (.ior, 1) := by decide +kernel
theorem dX10_missedBy_43 : decode cX10_missedBy 43 = .ok (.istore_n 3, 1) := by decide +kernel
theorem dX10_missedBy_44 : decode cX10_missedBy 44 = .ok (.iinc 4 1, 3) := by decide +kernel
theorem dX10_missedBy_47 : decode cX10_missedBy 47 = .ok (.goto (-42), 3) := by decide +kernel
theorem dX10_missedBy_50 : decode cX10_missedBy 50 = .ok (.iload_n 3, 1) := by decide +kernel
theorem dX10_missedBy_51 : decode cX10_missedBy 51 = .ok (.ireturn, 1) := by decide +kernel
theorem dX10_isLawful_0 : decode cX10_isLawful 0 = .ok (.aload_n 0, 1) := by decide +kernel
theorem dX10_isLawful_1 : decode cX10_isLawful 1 = .ok (.iload_n 1, 1) := by decide +kernel
theorem dX10_isLawful_2 : decode cX10_isLawful 2 = .ok (.aload_n 0, 1) := by decide +kernel
theorem dX10_isLawful_3 : decode cX10_isLawful 3 = .ok (.iload_n 2, 1) := by decide +kernel
theorem dX10_isLawful_4 : decode cX10_isLawful 4 = .ok (.invokevirtual 238, 3) := by decide +kernel
theorem dX10_isLawful_7 : decode cX10_isLawful 7 = .ok (.invokevirtual 241, 3) := by decide +kernel
theorem dX10_isLawful_10 : decode cX10_isLawful 10 = .ok (.ifCond .ne 7, 3) := by decide +kernel
theorem dX10_isLawful_13 : decode cX10_isLawful 13 = .ok (.iconst 1, 1) := by decide +kernel
theorem dX10_isLawful_14 : decode cX10_isLawful 14 = .ok (.goto 4, 3) := by decide +kernel
theorem dX10_isLawful_17 : decode cX10_isLawful 17 = .ok (.iconst 0, 1) := by decide +kernel
theorem dX10_isLawful_18 : decode cX10_isLawful 18 = .ok (.ireturn, 1) := by decide +kernel
theorem dX10_bitsOf_0 : decode cX10_bitsOf 0 = .ok (.iconst 0, 1) := by decide +kernel
theorem dX10_bitsOf_1 : decode cX10_bitsOf 1 = .ok (.istore_n 1, 1) := by decide +kernel
theorem dX10_bitsOf_2 : decode cX10_bitsOf 2 = .ok (.iconst 0, 1) := by decide +kernel
theorem dX10_bitsOf_3 : decode cX10_bitsOf 3 = .ok (.istore_n 2, 1) := by decide +kernel
theorem dX10_bitsOf_4 : decode cX10_bitsOf 4 = .ok (.iload_n 2, 1) := by decide +kernel
theorem dX10_bitsOf_5 : decode cX10_bitsOf 5 = .ok (.bipush 6, 2) := by decide +kernel
theorem dX10_bitsOf_7 : decode cX10_bitsOf 7 = .ok (.if_icmp .ge 17, 3) := by decide +kernel
theorem dX10_bitsOf_10 : decode cX10_bitsOf 10 = .ok (.iload_n 1, 1) := by decide +kernel
theorem dX10_bitsOf_11 : decode cX10_bitsOf 11 = .ok (.iload_n 0, 1) := by decide +kernel
theorem dX10_bitsOf_12 : decode cX10_bitsOf 12 = .ok (.iload_n 2, 1) := by decide +kernel
theorem dX10_bitsOf_13 : decode cX10_bitsOf 13 = .ok (.ishr, 1) := by decide +kernel
theorem dX10_bitsOf_14 : decode cX10_bitsOf 14 = .ok (.iconst 1, 1) := by decide +kernel
theorem dX10_bitsOf_15 : decode cX10_bitsOf 15 = .ok (.iand, 1) := by decide +kernel
theorem dX10_bitsOf_16 : decode cX10_bitsOf 16 = .ok (.iadd, 1) := by decide +kernel
theorem dX10_bitsOf_17 : decode cX10_bitsOf 17 = .ok (.istore_n 1, 1) := by decide +kernel
theorem dX10_bitsOf_18 : decode cX10_bitsOf 18 = .ok (.iinc 2 1, 3) := by decide +kernel
theorem dX10_bitsOf_21 : decode cX10_bitsOf 21 = .ok (.goto (-17), 3) := by decide +kernel
theorem dX10_bitsOf_24 : decode cX10_bitsOf 24 = .ok (.iload_n 1, 1) := by decide +kernel
theorem dX10_bitsOf_25 : decode cX10_bitsOf 25 = .ok (.ireturn, 1) := by decide +kernel
theorem dX10_glassEyes_0 : decode cX10_glassEyes 0 = .ok (.iconst 0, 1) := by decide +kernel
theorem dX10_glassEyes_1 : decode cX10_glassEyes 1 = .ok (.istore_n 1, 1) := by decide +kernel
theorem dX10_glassEyes_2 : decode cX10_glassEyes 2 = .ok (.iconst 0, 1) := by decide +kernel
theorem dX10_glassEyes_3 : decode cX10_glassEyes 3 = .ok (.istore_n 2, 1) := by decide +kernel
theorem dX10_glassEyes_4 : decode cX10_glassEyes 4 = .ok (.iload_n 2, 1) := by decide +kernel
theorem dX10_glassEyes_5 : decode cX10_glassEyes 5 = .ok (.iconst 2, 1) := by decide +kernel
theorem dX10_glassEyes_6 : decode cX10_glassEyes 6 = .ok (.aload_n 0, 1) := by decide +kernel
theorem dX10_glassEyes_7 : decode cX10_glassEyes 7 = .ok (.getfield 94, 3) := by decide +kernel
theorem dX10_glassEyes_10 : decode cX10_glassEyes 10 = .ok (.imul, 1) := by decide +kernel
theorem dX10_glassEyes_11 : decode cX10_glassEyes 11 = .ok (.if_icmp .ge 22, 3) := by decide +kernel
theorem dX10_glassEyes_14 : decode cX10_glassEyes 14 = .ok (.iload_n 1, 1) := by decide +kernel
theorem dX10_glassEyes_15 : decode cX10_glassEyes 15 = .ok (.aload_n 0, 1) := by decide +kernel
theorem dX10_glassEyes_16 : decode cX10_glassEyes 16 = .ok (.iload_n 2, 1) := by decide +kernel
theorem dX10_glassEyes_17 : decode cX10_glassEyes 17 = .ok (.invokevirtual 222, 3) := by decide +kernel
theorem dX10_glassEyes_20 : decode cX10_glassEyes 20 = .ok (.invokestatic 231, 3) := by decide +kernel
theorem dX10_glassEyes_23 : decode cX10_glassEyes 23 = .ok (.iload_n 2, 1) := by decide +kernel
theorem dX10_glassEyes_24 : decode cX10_glassEyes 24 = .ok (.ishl, 1) := by decide +kernel
theorem dX10_glassEyes_25 : decode cX10_glassEyes 25 = .ok (.ior, 1) := by decide +kernel
theorem dX10_glassEyes_26 : decode cX10_glassEyes 26 = .ok (.istore_n 1, 1) := by decide +kernel
theorem dX10_glassEyes_27 : decode cX10_glassEyes 27 = .ok (.iinc 2 1, 3) := by decide +kernel
theorem dX10_glassEyes_30 : decode cX10_glassEyes 30 = .ok (.goto (-26), 3) := by decide +kernel
theorem dX10_glassEyes_33 : decode cX10_glassEyes 33 = .ok (.iload_n 1, 1) := by decide +kernel
theorem dX10_glassEyes_34 : decode cX10_glassEyes 34 = .ok (.ireturn, 1) := by decide +kernel
theorem dX10_sees_0 : decode cX10_sees 0 = .ok (.iload_n 1, 1) := by decide +kernel
theorem dX10_sees_1 : decode cX10_sees 1 = .ok (.invokestatic 206, 3) := by decide +kernel
theorem dX10_sees_4 : decode cX10_sees 4 = .ok (.ifCond .eq 24, 3) := by decide +kernel
theorem dX10_sees_7 : decode cX10_sees 7 = .ok (.aload_n 0, 1) := by decide +kernel
theorem dX10_sees_8 : decode cX10_sees 8 = .ok (.iload_n 2, 1) := by decide +kernel
theorem dX10_sees_9 : decode cX10_sees 9 = .ok (.invokevirtual 215, 3) := by decide +kernel
theorem dX10_sees_12 : decode cX10_sees 12 = .ok (.ifCond .eq 16, 3) := by decide +kernel
theorem dX10_sees_15 : decode cX10_sees 15 = .ok (.aload_n 0, 1) := by decide +kernel
theorem dX10_sees_16 : decode cX10_sees 16 = .ok (.iload_n 1, 1) := by decide +kernel
theorem dX10_sees_17 : decode cX10_sees 17 = .ok (.aload_n 0, 1) := by decide +kernel
theorem dX10_sees_18 : decode cX10_sees 18 = .ok (.iload_n 2, 1) := by decide +kernel
theorem dX10_sees_19 : decode cX10_sees 19 = .ok (.invokevirtual 238, 3) := by decide +kernel
theorem dX10_sees_22 : decode cX10_sees 22 = .ok (.invokevirtual 235, 3) := by decide +kernel
theorem dX10_sees_25 : decode cX10_sees 25 = .ok (.goto 4, 3) := by decide +kernel
theorem dX10_sees_28 : decode cX10_sees 28 = .ok (.iconst (-1), 1) := by decide +kernel
theorem dX10_sees_29 : decode cX10_sees 29 = .ok (.ireturn, 1) := by decide +kernel
theorem dX10_lawful_0 : decode cX10_lawful 0 = .ok (.aload_n 0, 1) := by decide +kernel
theorem dX10_lawful_1 : decode cX10_lawful 1 = .ok (.iload_n 1, 1) := by decide +kernel
theorem dX10_lawful_2 : decode cX10_lawful 2 = .ok (.invokevirtual 209, 3) := by decide +kernel
theorem dX10_lawful_5 : decode cX10_lawful 5 = .ok (.ifCond .eq 23, 3) := by decide +kernel
theorem dX10_lawful_8 : decode cX10_lawful 8 = .ok (.aload_n 0, 1) := by decide +kernel
theorem dX10_lawful_9 : decode cX10_lawful 9 = .ok (.iload_n 2, 1) := by decide +kernel
theorem dX10_lawful_10 : decode cX10_lawful 10 = .ok (.invokevirtual 215, 3) := by decide +kernel
theorem dX10_lawful_13 : decode cX10_lawful 13 = .ok (.ifCond .eq 15, 3) := by decide +kernel
theorem dX10_lawful_16 : decode cX10_lawful 16 = .ok (.aload_n 0, 1) := by decide +kernel
theorem dX10_lawful_17 : decode cX10_lawful 17 = .ok (.iload_n 1, 1) := by decide +kernel
theorem dX10_lawful_18 : decode cX10_lawful 18 = .ok (.iload_n 2, 1) := by decide +kernel
theorem dX10_lawful_19 : decode cX10_lawful 19 = .ok (.invokevirtual 244, 3) := by decide +kernel
theorem dX10_lawful_22 : decode cX10_lawful 22 = .ok (.invokestatic 231, 3) := by decide +kernel
theorem dX10_lawful_25 : decode cX10_lawful 25 = .ok (.goto 4, 3) := by decide +kernel
theorem dX10_lawful_28 : decode cX10_lawful 28 = .ok (.iconst (-1), 1) := by decide +kernel
theorem dX10_lawful_29 : decode cX10_lawful 29 = .ok (.ireturn, 1) := by decide +kernel
theorem dX10_asleep_0 : decode cX10_asleep 0 = .ok (.aload_n 0, 1) := by decide +kernel
theorem dX10_asleep_1 : decode cX10_asleep 1 = .ok (.iload_n 1, 1) := by decide +kernel
theorem dX10_asleep_2 : decode cX10_asleep 2 = .ok (.invokevirtual 209, 3) := by decide +kernel
theorem dX10_asleep_5 : decode cX10_asleep 5 = .ok (.ifCond .eq 10, 3) := by decide +kernel
theorem dX10_asleep_8 : decode cX10_asleep 8 = .ok (.iload_n 2, 1) := by decide +kernel
theorem dX10_asleep_9 : decode cX10_asleep 9 = .ok (.invokestatic 248, 3) := by decide +kernel
theorem dX10_asleep_12 : decode cX10_asleep 12 = .ok (.ifCond .ne 5, 3) := by decide +kernel
theorem dX10_asleep_15 : decode cX10_asleep 15 = .ok (.iconst (-1), 1) := by decide +kernel
theorem dX10_asleep_16 : decode cX10_asleep 16 = .ok (.ireturn, 1) := by decide +kernel
theorem dX10_asleep_17 : decode cX10_asleep 17 = .ok (.bipush (-4), 2) := by decide +kernel
theorem dX10_asleep_19 : decode cX10_asleep 19 = .ok (.istore_n 3, 1) := by decide +kernel
theorem dX10_asleep_20 : decode cX10_asleep 20 = .ok (.bipush (-4), 2) := by decide +kernel
theorem dX10_asleep_22 : decode cX10_asleep 22 = .ok (.istore 4, 2) := by decide +kernel
theorem dX10_asleep_24 : decode cX10_asleep 24 = .ok (.iconst 0, 1) := by decide +kernel
theorem dX10_asleep_25 : decode cX10_asleep 25 = .ok (.istore 5, 2) := by decide +kernel
theorem dX10_asleep_27 : decode cX10_asleep 27 = .ok (.iload 5, 2) := by decide +kernel
theorem dX10_asleep_29 : decode cX10_asleep 29 = .ok (.aload_n 0, 1) := by decide +kernel
theorem dX10_asleep_30 : decode cX10_asleep 30 = .ok (.getfield 104, 3) := by decide +kernel
theorem dX10_asleep_33 : decode cX10_asleep 33 = .ok (.if_icmp .ge 70, 3) := by decide +kernel
theorem dX10_asleep_36 : decode cX10_asleep 36 = .ok (.aload_n 0, 1) := by decide +kernel
theorem dX10_asleep_37 : decode cX10_asleep 37 = .ok (.iload_n 1, 1) := by decide +kernel
theorem dX10_asleep_38 : decode cX10_asleep 38 = .ok (.iload 5, 2) := by decide +kernel
theorem dX10_asleep_40 : decode cX10_asleep 40 = .ok (.invokevirtual 244, 3) := by decide +kernel
theorem dX10_asleep_43 : decode cX10_asleep 43 = .ok (.ifCond .eq 22, 3) := by decide +kernel
theorem dX10_asleep_46 : decode cX10_asleep 46 = .ok (.aload_n 0, 1) := by decide +kernel
theorem dX10_asleep_47 : decode cX10_asleep 47 = .ok (.iload 5, 2) := by decide +kernel
theorem dX10_asleep_49 : decode cX10_asleep 49 = .ok (.invokevirtual 238, 3) := by decide +kernel
theorem dX10_asleep_52 : decode cX10_asleep 52 = .ok (.aload_n 0, 1) := by decide +kernel
theorem dX10_asleep_53 : decode cX10_asleep 53 = .ok (.invokevirtual 251, 3) := by decide +kernel
theorem dX10_asleep_56 : decode cX10_asleep 56 = .ok (.iconst (-1), 1) := by decide +kernel
theorem dX10_asleep_57 : decode cX10_asleep 57 = .ok (.ixor, 1) := by decide +kernel
theorem dX10_asleep_58 : decode cX10_asleep 58 = .ok (.iand, 1) := by decide +kernel
theorem dX10_asleep_59 : decode cX10_asleep 59 = .ok (.invokestatic 254, 3) := by decide +kernel
theorem dX10_asleep_62 : decode cX10_asleep 62 = .ok (.goto 5, 3) := by decide +kernel
theorem dX10_asleep_65 : decode cX10_asleep 65 = .ok (.bipush (-4), 2) := by decide +kernel
theorem dX10_asleep_67 : decode cX10_asleep 67 = .ok (.istore 6, 2) := by decide +kernel
theorem dX10_asleep_69 : decode cX10_asleep 69 = .ok (.iload 6, 2) := by decide +kernel
theorem dX10_asleep_71 : decode cX10_asleep 71 = .ok (.iload_n 3, 1) := by decide +kernel
theorem dX10_asleep_72 : decode cX10_asleep 72 = .ok (.if_icmp .le 8, 3) := by decide +kernel
theorem dX10_asleep_75 : decode cX10_asleep 75 = .ok (.iload 5, 2) := by decide +kernel
theorem dX10_asleep_77 : decode cX10_asleep 77 = .ok (.goto 5, 3) := by decide +kernel
theorem dX10_asleep_80 : decode cX10_asleep 80 = .ok (.iload 4, 2) := by decide +kernel
theorem dX10_asleep_82 : decode cX10_asleep 82 = .ok (.istore 4, 2) := by decide +kernel
theorem dX10_asleep_84 : decode cX10_asleep 84 = .ok (.iload 6, 2) := by decide +kernel
theorem dX10_asleep_86 : decode cX10_asleep 86 = .ok (.iload_n 3, 1) := by decide +kernel
theorem dX10_asleep_87 : decode cX10_asleep 87 = .ok (.if_icmp .le 8, 3) := by decide +kernel
theorem dX10_asleep_90 : decode cX10_asleep 90 = .ok (.iload 6, 2) := by decide +kernel
theorem dX10_asleep_92 : decode cX10_asleep 92 = .ok (.goto 4, 3) := by decide +kernel
theorem dX10_asleep_95 : decode cX10_asleep 95 = .ok (.iload_n 3, 1) := by decide +kernel
theorem dX10_asleep_96 : decode cX10_asleep 96 = .ok (.istore_n 3, 1) := by decide +kernel
theorem dX10_asleep_97 : decode cX10_asleep 97 = .ok (.iinc 5 1, 3) := by decide +kernel
theorem dX10_asleep_100 : decode cX10_asleep 100 = .ok (.goto (-73), 3) := by decide +kernel
theorem dX10_asleep_103 : decode cX10_asleep 103 = .ok (.iload_n 2, 1) := by decide +kernel
theorem dX10_asleep_104 : decode cX10_asleep 104 = .ok (.ifCond .ne 7, 3) := by decide +kernel
theorem dX10_asleep_107 : decode cX10_asleep 107 = .ok (.iload_n 3, 1) := by decide +kernel
theorem dX10_asleep_108 : decode cX10_asleep 108 = .ok (.goto 5, 3) := by decide +kernel
theorem dX10_asleep_111 : decode cX10_asleep 111 = .ok (.iload 4, 2) := by decide +kernel
theorem dX10_asleep_113 : decode cX10_asleep 113 = .ok (.ireturn, 1) := by decide +kernel
theorem dX10_shutNow_0 : decode cX10_shutNow 0 = .ok (.aload_n 0, 1) := by decide +kernel
theorem dX10_shutNow_1 : decode cX10_shutNow 1 = .ok (.aload_n 0, 1) := by decide +kernel
theorem dX10_shutNow_2 : decode cX10_shutNow 2 = .ok (.getfield 7, 3) := by decide +kernel
theorem dX10_shutNow_5 : decode cX10_shutNow 5 = .ok (.bipush 21, 2) := by decide +kernel
theorem dX10_shutNow_7 : decode cX10_shutNow 7 = .ok (.iload_n 1, 1) := by decide +kernel
theorem dX10_shutNow_8 : decode cX10_shutNow 8 = .ok (.iadd, 1) := by decide +kernel
theorem dX10_shutNow_9 : decode cX10_shutNow 9 = .ok (.iaload, 1) := by decide +kernel
theorem dX10_shutNow_10 : decode cX10_shutNow 10 = .ok (.invokevirtual 238, 3) := by decide +kernel
theorem dX10_shutNow_13 : decode cX10_shutNow 13 = .ok (.istore_n 2, 1) := by decide +kernel
theorem dX10_shutNow_14 : decode cX10_shutNow 14 = .ok (.iconst 0, 1) := by decide +kernel
theorem dX10_shutNow_15 : decode cX10_shutNow 15 = .ok (.istore_n 3, 1) := by decide +kernel
theorem dX10_shutNow_16 : decode cX10_shutNow 16 = .ok (.iload_n 3, 1) := by decide +kernel
theorem dX10_shutNow_17 : decode cX10_shutNow 17 = .ok (.iconst 2, 1) := by decide +kernel
theorem dX10_shutNow_18 : decode cX10_shutNow 18 = .ok (.aload_n 0, 1) := by decide +kernel
theorem dX10_shutNow_19 : decode cX10_shutNow 19 = .ok (.getfield 94, 3) := by decide +kernel
theorem dX10_shutNow_22 : decode cX10_shutNow 22 = .ok (.imul, 1) := by decide +kernel
theorem dX10_shutNow_23 : decode cX10_shutNow 23 = .ok (.if_icmp .ge 33, 3) := by decide +kernel
theorem dX10_shutNow_26 : decode cX10_shutNow 26 = .ok (.iload_n 2, 1) := by decide +kernel
theorem dX10_shutNow_27 : decode cX10_shutNow 27 = .ok (.aload_n 0, 1) := by decide +kernel
theorem dX10_shutNow_28 : decode cX10_shutNow 28 = .ok (.getfield 35, 3) := by decide +kernel
theorem dX10_shutNow_31 : decode cX10_shutNow 31 = .ok (.iload_n 3, 1) := by decide +kernel
theorem dX10_shutNow_32 : decode cX10_shutNow 32 = .ok (.iaload, 1) := by decide +kernel
theorem dX10_shutNow_33 : decode cX10_shutNow 33 = .ok (.bipush 9, 2) := by decide +kernel
theorem dX10_shutNow_35 : decode cX10_shutNow 35 = .ok (.if_icmp .ne 7, 3) := by decide +kernel
theorem dX10_shutNow_38 : decode cX10_shutNow 38 = .ok (.iconst 1, 1) := by decide +kernel
theorem dX10_shutNow_39 : decode cX10_shutNow 39 = .ok (.goto 4, 3) := by decide +kernel
theorem dX10_shutNow_42 : decode cX10_shutNow 42 = .ok (.iconst 0, 1) := by decide +kernel
theorem dX10_shutNow_43 : decode cX10_shutNow 43 = .ok (.invokestatic 231, 3) := by decide +kernel
theorem dX10_shutNow_46 : decode cX10_shutNow 46 = .ok (.iload_n 3, 1) := by decide +kernel
theorem dX10_shutNow_47 : decode cX10_shutNow 47 = .ok (.ishl, 1) := by decide +kernel
theorem dX10_shutNow_48 : decode cX10_shutNow 48 = .ok (.ior, 1) := by decide +kernel
theorem dX10_shutNow_49 : decode cX10_shutNow 49 = .ok (.istore_n 2, 1) := by decide +kernel
theorem dX10_shutNow_50 : decode cX10_shutNow 50 = .ok (.iinc 3 1, 3) := by decide +kernel
theorem dX10_shutNow_53 : decode cX10_shutNow 53 = .ok (.goto (-37), 3) := by decide +kernel
theorem dX10_shutNow_56 : decode cX10_shutNow 56 = .ok (.iload_n 2, 1) := by decide +kernel
theorem dX10_shutNow_57 : decode cX10_shutNow 57 = .ok (.ireturn, 1) := by decide +kernel
theorem dX10_tiredThen_0 : decode cX10_tiredThen 0 = .ok (.aload_n 0, 1) := by decide +kernel
theorem dX10_tiredThen_1 : decode cX10_tiredThen 1 = .ok (.iload_n 1, 1) := by decide +kernel
theorem dX10_tiredThen_2 : decode cX10_tiredThen 2 = .ok (.invokevirtual 222, 3) := by decide +kernel
theorem dX10_tiredThen_5 : decode cX10_tiredThen 5 = .ok (.ifCond .eq 5, 3) := by decide +kernel
theorem dX10_tiredThen_8 : decode cX10_tiredThen 8 = .ok (.iconst 0, 1) := by decide +kernel
theorem dX10_tiredThen_9 : decode cX10_tiredThen 9 = .ok (.ireturn, 1) := by decide +kernel
theorem dX10_tiredThen_10 : decode cX10_tiredThen 10 = .ok (.iload_n 2, 1) := by decide +kernel
theorem dX10_tiredThen_11 : decode cX10_tiredThen 11 = .ok (.ifCond .eq 26, 3) := by decide +kernel
theorem dX10_tiredThen_14 : decode cX10_tiredThen 14 = .ok (.aload_n 0, 1) := by decide +kernel
theorem dX10_tiredThen_15 : decode cX10_tiredThen 15 = .ok (.getfield 35, 3) := by decide +kernel
theorem dX10_tiredThen_18 : decode cX10_tiredThen 18 = .ok (.iload_n 1, 1) := by decide +kernel
theorem dX10_tiredThen_19 : decode cX10_tiredThen 19 = .ok (.iaload, 1) := by decide +kernel
theorem dX10_tiredThen_20 : decode cX10_tiredThen 20 = .ok (.iconst 2, 1) := by decide +kernel
theorem dX10_tiredThen_21 : decode cX10_tiredThen 21 = .ok (.if_icmp .le 14, 3) := by decide +kernel
theorem dX10_tiredThen_24 : decode cX10_tiredThen 24 = .ok (.aload_n 0, 1) := by decide +kernel
theorem dX10_tiredThen_25 : decode cX10_tiredThen 25 = .ok (.getfield 35, 3) := by decide +kernel
theorem dX10_tiredThen_28 : decode cX10_tiredThen 28 = .ok (.iload_n 1, 1) := by decide +kernel
theorem dX10_tiredThen_29 : decode cX10_tiredThen 29 = .ok (.iaload, 1) := by decide +kernel
theorem dX10_tiredThen_30 : decode cX10_tiredThen 30 = .ok (.iconst 2, 1) := by decide +kernel
theorem dX10_tiredThen_31 : decode cX10_tiredThen 31 = .ok (.isub, 1) := by decide +kernel
theorem dX10_tiredThen_32 : decode cX10_tiredThen 32 = .ok (.goto 4, 3) := by decide +kernel
theorem dX10_tiredThen_35 : decode cX10_tiredThen 35 = .ok (.iconst 0, 1) := by decide +kernel
theorem dX10_tiredThen_36 : decode cX10_tiredThen 36 = .ok (.ireturn, 1) := by decide +kernel
theorem dX10_tiredThen_37 : decode cX10_tiredThen 37 = .ok (.aload_n 0, 1) := by decide +kernel
theorem dX10_tiredThen_38 : decode cX10_tiredThen 38 = .ok (.getfield 35, 3) := by decide +kernel
theorem dX10_tiredThen_41 : decode cX10_tiredThen 41 = .ok (.iload_n 1, 1) := by decide +kernel
theorem dX10_tiredThen_42 : decode cX10_tiredThen 42 = .ok (.iaload, 1) := by decide +kernel
theorem dX10_tiredThen_43 : decode cX10_tiredThen 43 = .ok (.aload_n 0, 1) := by decide +kernel
theorem dX10_tiredThen_44 : decode cX10_tiredThen 44 = .ok (.getfield 17, 3) := by decide +kernel
theorem dX10_tiredThen_47 : decode cX10_tiredThen 47 = .ok (.iload_n 1, 1) := by decide +kernel
theorem dX10_tiredThen_48 : decode cX10_tiredThen 48 = .ok (.iconst 2, 1) := by decide +kernel
theorem dX10_tiredThen_49 : decode cX10_tiredThen 49 = .ok (.idiv, 1) := by decide +kernel
theorem dX10_tiredThen_50 : decode cX10_tiredThen 50 = .ok (.iaload, 1) := by decide +kernel
theorem dX10_tiredThen_51 : decode cX10_tiredThen 51 = .ok (.iconst 2, 1) := by decide +kernel
theorem dX10_tiredThen_52 : decode cX10_tiredThen 52 = .ok (.if_icmp .ne 7, 3) := by decide +kernel
theorem dX10_tiredThen_55 : decode cX10_tiredThen 55 = .ok (.iconst 2, 1) := by decide +kernel
theorem dX10_tiredThen_56 : decode cX10_tiredThen 56 = .ok (.goto 4, 3) := by decide +kernel
theorem dX10_tiredThen_59 : decode cX10_tiredThen 59 = .ok (.iconst 1, 1) := by decide +kernel
theorem dX10_tiredThen_60 : decode cX10_tiredThen 60 = .ok (.iadd, 1) := by decide +kernel
theorem dX10_tiredThen_61 : decode cX10_tiredThen 61 = .ok (.istore_n 3, 1) := by decide +kernel
theorem dX10_tiredThen_62 : decode cX10_tiredThen 62 = .ok (.iload_n 3, 1) := by decide +kernel
theorem dX10_tiredThen_63 : decode cX10_tiredThen 63 = .ok (.bipush 9, 2) := by decide +kernel
theorem dX10_tiredThen_65 : decode cX10_tiredThen 65 = .ok (.if_icmp .le 8, 3) := by decide +kernel
theorem dX10_tiredThen_68 : decode cX10_tiredThen 68 = .ok (.bipush 9, 2) := by decide +kernel
theorem dX10_tiredThen_70 : decode cX10_tiredThen 70 = .ok (.goto 4, 3) := by decide +kernel
theorem dX10_tiredThen_73 : decode cX10_tiredThen 73 = .ok (.iload_n 3, 1) := by decide +kernel
theorem dX10_tiredThen_74 : decode cX10_tiredThen 74 = .ok (.ireturn, 1) := by decide +kernel
theorem dX10_goes_0 : decode cX10_goes 0 = .ok (.iconst 0, 1) := by decide +kernel
theorem dX10_goes_1 : decode cX10_goes 1 = .ok (.istore_n 2, 1) := by decide +kernel
theorem dX10_goes_2 : decode cX10_goes 2 = .ok (.iload_n 2, 1) := by decide +kernel
theorem dX10_goes_3 : decode cX10_goes 3 = .ok (.bipush 6, 2) := by decide +kernel
theorem dX10_goes_5 : decode cX10_goes 5 = .ok (.if_icmp .ge 23, 3) := by decide +kernel
theorem dX10_goes_8 : decode cX10_goes 8 = .ok (.aload_n 0, 1) := by decide +kernel
theorem dX10_goes_9 : decode cX10_goes 9 = .ok (.getfield 35, 3) := by decide +kernel
theorem dX10_goes_12 : decode cX10_goes 12 = .ok (.iload_n 2, 1) := by decide +kernel
theorem dX10_goes_13 : decode cX10_goes 13 = .ok (.aload_n 0, 1) := by decide +kernel
theorem dX10_goes_14 : decode cX10_goes 14 = .ok (.getfield 7, 3) := by decide +kernel
theorem dX10_goes_17 : decode cX10_goes 17 = .ok (.iconst 3, 1) := by decide +kernel
theorem dX10_goes_18 : decode cX10_goes 18 = .ok (.iload_n 2, 1) := by decide +kernel
theorem dX10_goes_19 : decode cX10_goes 19 = .ok (.iadd, 1) := by decide +kernel
theorem dX10_goes_20 : decode cX10_goes 20 = .ok (.iaload, 1) := by decide +kernel
theorem dX10_goes_21 : decode cX10_goes 21 = .ok (.iastore, 1) := by decide +kernel
theorem dX10_goes_22 : decode cX10_goes 22 = .ok (.iinc 2 1, 3) := by decide +kernel
theorem dX10_goes_25 : decode cX10_goes 25 = .ok (.goto (-23), 3) := by decide +kernel
theorem dX10_goes_28 : decode cX10_goes 28 = .ok (.iconst 0, 1) := by decide +kernel
theorem dX10_goes_29 : decode cX10_goes 29 = .ok (.istore_n 2, 1) := by decide +kernel
theorem dX10_goes_30 : decode cX10_goes 30 = .ok (.iload_n 2, 1) := by decide +kernel
theorem dX10_goes_31 : decode cX10_goes 31 = .ok (.iload_n 1, 1) := by decide +kernel
theorem dX10_goes_32 : decode cX10_goes 32 = .ok (.if_icmp .ge 63, 3) := by decide +kernel
theorem dX10_goes_35 : decode cX10_goes 35 = .ok (.aload_n 0, 1) := by decide +kernel
theorem dX10_goes_36 : decode cX10_goes 36 = .ok (.iload_n 2, 1) := by decide +kernel
theorem dX10_goes_37 : decode cX10_goes 37 = .ok (.invokevirtual 257, 3) := by decide +kernel
theorem dX10_goes_40 : decode cX10_goes 40 = .ok (.istore_n 3, 1) := by decide +kernel
theorem dX10_goes_41 : decode cX10_goes 41 = .ok (.iconst 0, 1) := by decide +kernel
theorem dX10_goes_42 : decode cX10_goes 42 = .ok (.istore 4, 2) := by decide +kernel
theorem dX10_goes_44 : decode cX10_goes 44 = .ok (.iload 4, 2) := by decide +kernel
theorem dX10_goes_46 : decode cX10_goes 46 = .ok (.iconst 2, 1) := by decide +kernel
theorem dX10_goes_47 : decode cX10_goes 47 = .ok (.aload_n 0, 1) := by decide +kernel
theorem dX10_goes_48 : decode cX10_goes 48 = .ok (.getfield 94, 3) := by decide +kernel
