theorem dX12_hears_12 : decode cX12_hears 12 = .ok (.iaload, 1) := by decide +kernel
theorem dX12_hears_13 : decode cX12_hears 13 = .ok (.irem, 1) := by decide +kernel
theorem dX12_hears_14 : decode cX12_hears 14 = .ok (.ifCond .eq 4, 3) := by decide +kernel
theorem dX12_hears_17 : decode cX12_hears 17 = .ok (.return_, 1) := by decide +kernel
theorem dX12_hears_18 : decode cX12_hears 18 = .ok (.iconst (-1), 1) := by decide +kernel
theorem dX12_hears_19 : decode cX12_hears 19 = .ok (.istore_n 1, 1) := by decide +kernel
theorem dX12_hears_20 : decode cX12_hears 20 = .ok (.iconst 0, 1) := by decide +kernel
theorem dX12_hears_21 : decode cX12_hears 21 = .ok (.istore_n 2, 1) := by decide +kernel
theorem dX12_hears_22 : decode cX12_hears 22 = .ok (.iload_n 2, 1) := by decide +kernel
theorem dX12_hears_23 : decode cX12_hears 23 = .ok (.aload_n 0, 1) := by decide +kernel
theorem dX12_hears_24 : decode cX12_hears 24 = .ok (.getfield 7, 3) := by decide +kernel
theorem dX12_hears_27 : decode cX12_hears 27 = .ok (.iconst 2, 1) := by decide +kernel
theorem dX12_hears_28 : decode cX12_hears 28 = .ok (.iaload, 1) := by decide +kernel
theorem dX12_hears_29 : decode cX12_hears 29 = .ok (.if_icmp .ge 81, 3) := by decide +kernel
theorem dX12_hears_32 : decode cX12_hears 32 = .ok (.aload_n 0, 1) := by decide +kernel
theorem dX12_hears_33 : decode cX12_hears 33 = .ok (.getfield 7, 3) := by decide +kernel
theorem dX12_hears_36 : decode cX12_hears 36 = .ok (.sipush 1310, 3) := by decide +kernel
theorem dX12_hears_39 : decode cX12_hears 39 = .ok (.iload_n 2, 1) := by decide +kernel
theorem dX12_hears_40 : decode cX12_hears 40 = .ok (.iadd, 1) := by decide +kernel
theorem dX12_hears_41 : decode cX12_hears 41 = .ok (.iaload, 1) := by decide +kernel
theorem dX12_hears_42 : decode cX12_hears 42 = .ok (.bipush 7, 2) := by decide +kernel
theorem dX12_hears_44 : decode cX12_hears 44 = .ok (.if_icmp .ne 20, 3) := by decide +kernel
theorem dX12_hears_47 : decode cX12_hears 47 = .ok (.aload_n 0, 1) := by decide +kernel
theorem dX12_hears_48 : decode cX12_hears 48 = .ok (.getfield 7, 3) := by decide +kernel
theorem dX12_hears_51 : decode cX12_hears 51 = .ok (.sipush 1760, 3) := by decide +kernel
theorem dX12_hears_54 : decode cX12_hears 54 = .ok (.iload_n 2, 1) := by decide +kernel
theorem dX12_hears_55 : decode cX12_hears 55 = .ok (.iadd, 1) := by decide +kernel
theorem dX12_hears_56 : decode cX12_hears 56 = .ok (.iaload, 1) := by decide +kernel
theorem dX12_hears_57 : decode cX12_hears 57 = .ok (.ifCond .ne 7, 3) := by decide +kernel
theorem dX12_hears_60 : decode cX12_hears 60 = .ok (.iconst 1, 1) := by decide +kernel
theorem dX12_hears_61 : decode cX12_hears 61 = .ok (.goto 4, 3) := by decide +kernel
theorem dX12_hears_64 : decode cX12_hears 64 = .ok (.iconst 0, 1) := by decide +kernel
theorem dX12_hears_65 : decode cX12_hears 65 = .ok (.istore_n 3, 1) := by decide +kernel
theorem dX12_hears_66 : decode cX12_hears 66 = .ok (.iload_n 3, 1) := by decide +kernel
theorem dX12_hears_67 : decode cX12_hears 67 = .ok (.ifCond .eq 35, 3) := by decide +kernel
theorem dX12_hears_70 : decode cX12_hears 70 = .ok (.iload_n 1, 1) := by decide +kernel
theorem dX12_hears_71 : decode cX12_hears 71 = .ok (.iconst (-1), 1) := by decide +kernel
theorem dX12_hears_72 : decode cX12_hears 72 = .ok (.if_icmp .eq 26, 3) := by decide +kernel
theorem dX12_hears_75 : decode cX12_hears 75 = .ok (.aload_n 0, 1) := by decide +kernel
theorem dX12_hears_76 : decode cX12_hears 76 = .ok (.getfield 7, 3) := by decide +kernel
theorem dX12_hears_79 : decode cX12_hears 79 = .ok (.sipush 1660, 3) := by decide +kernel
theorem dX12_hears_82 : decode cX12_hears 82 = .ok (.iload_n 2, 1) := by decide +kernel
theorem dX12_hears_83 : decode cX12_hears 83 = .ok (.iadd, 1) := by decide +kernel
theorem dX12_hears_84 : decode cX12_hears 84 = .ok (.iaload, 1) := by decide +kernel
theorem dX12_hears_85 : decode cX12_hears 85 = .ok (.aload_n 0, 1) := by decide +kernel
theorem dX12_hears_86 : decode cX12_hears 86 = .ok (.getfield 7, 3) := by decide +kernel
theorem dX12_hears_89 : decode cX12_hears 89 = .ok (.sipush 1660, 3) := by decide +kernel
theorem dX12_hears_92 : decode cX12_hears 92 = .ok (.iload_n 1, 1) := by decide +kernel
theorem dX12_hears_93 : decode cX12_hears 93 = .ok (.iadd, 1) := by decide +kernel
theorem dX12_hears_94 : decode cX12_hears 94 = .ok (.iaload, 1) := by decide +kernel
theorem dX12_hears_95 : decode cX12_hears 95 = .ok (.if_icmp .ge 7, 3) := by decide +kernel
theorem dX12_hears_98 : decode cX12_hears 98 = .ok (.iload_n 2, 1) := by decide +kernel
theorem dX12_hears_99 : decode cX12_hears 99 = .ok (.goto 4, 3) := by decide +kernel
theorem dX12_hears_102 : decode cX12_hears 102 = .ok (.iload_n 1, 1) := by decide +kernel
theorem dX12_hears_103 : decode cX12_hears 103 = .ok (.istore_n 1, 1) := by decide +kernel
theorem dX12_hears_104 : decode cX12_hears 104 = .ok (.iinc 2 1, 3) := by decide +kernel
theorem dX12_hears_107 : decode cX12_hears 107 = .ok (.goto (-85), 3) := by decide +kernel
theorem dX12_hears_110 : decode cX12_hears 110 = .ok (.iload_n 1, 1) := by decide +kernel
theorem dX12_hears_111 : decode cX12_hears 111 = .ok (.iconst (-1), 1) := by decide +kernel
theorem dX12_hears_112 : decode cX12_hears 112 = .ok (.if_icmp .eq 117, 3) := by decide +kernel
theorem dX12_hears_115 : decode cX12_hears 115 = .ok (.aload_n 0, 1) := by decide +kernel
theorem dX12_hears_116 : decode cX12_hears 116 = .ok (.getfield 7, 3) := by decide +kernel
theorem dX12_hears_119 : decode cX12_hears 119 = .ok (.sipush 1760, 3) := by decide +kernel
theorem dX12_hears_122 : decode cX12_hears 122 = .ok (.iload_n 1, 1) := by decide +kernel
theorem dX12_hears_123 : decode cX12_hears 123 = .ok (.iadd, 1) := by decide +kernel
theorem dX12_hears_124 : decode cX12_hears 124 = .ok (.iconst 1, 1) := by decide +kernel
theorem dX12_hears_125 : decode cX12_hears 125 = .ok (.iastore, 1) := by decide +kernel
theorem dX12_hears_126 : decode cX12_hears 126 = .ok (.aload_n 0, 1) := by decide +kernel
theorem dX12_hears_127 : decode cX12_hears 127 = .ok (.getfield 7, 3) := by decide +kernel
theorem dX12_hears_130 : decode cX12_hears 130 = .ok (.sipush 1810, 3) := by decide +kernel
theorem dX12_hears_133 : decode cX12_hears 133 = .ok (.iload_n 1, 1) := by decide +kernel
theorem dX12_hears_134 : decode cX12_hears 134 = .ok (.iadd, 1) := by decide +kernel
theorem dX12_hears_135 : decode cX12_hears 135 = .ok (.aload_n 0, 1) := by decide +kernel
theorem dX12_hears_136 : decode cX12_hears 136 = .ok (.getfield 7, 3) := by decide +kernel
theorem dX12_hears_139 : decode cX12_hears 139 = .ok (.iconst 0, 1) := by decide +kernel
theorem dX12_hears_140 : decode cX12_hears 140 = .ok (.iaload, 1) := by decide +kernel
theorem dX12_hears_141 : decode cX12_hears 141 = .ok (.iastore, 1) := by decide +kernel
theorem dX12_hears_142 : decode cX12_hears 142 = .ok (.aload_n 0, 1) := by decide +kernel
theorem dX12_hears_143 : decode cX12_hears 143 = .ok (.getfield 7, 3) := by decide +kernel
theorem dX12_hears_146 : decode cX12_hears 146 = .ok (.sipush 1860, 3) := by decide +kernel
theorem dX12_hears_149 : decode cX12_hears 149 = .ok (.iload_n 1, 1) := by decide +kernel
theorem dX12_hears_150 : decode cX12_hears 150 = .ok (.iadd, 1) := by decide +kernel
theorem dX12_hears_151 : decode cX12_hears 151 = .ok (.aload_n 0, 1) := by decide +kernel
theorem dX12_hears_152 : decode cX12_hears 152 = .ok (.getfield 7, 3) := by decide +kernel
theorem dX12_hears_155 : decode cX12_hears 155 = .ok (.sipush 1710, 3) := by decide +kernel
theorem dX12_hears_158 : decode cX12_hears 158 = .ok (.iload_n 1, 1) := by decide +kernel
theorem dX12_hears_159 : decode cX12_hears 159 = .ok (.iadd, 1) := by decide +kernel
theorem dX12_hears_160 : decode cX12_hears 160 = .ok (.iaload, 1) := by decide +kernel
theorem dX12_hears_161 : decode cX12_hears 161 = .ok (.bipush 50, 2) := by decide +kernel
theorem dX12_hears_163 : decode cX12_hears 163 = .ok (.if_icmp .le 7, 3) := by decide +kernel
theorem dX12_hears_166 : decode cX12_hears 166 = .ok (.iconst 1, 1) := by decide +kernel
theorem dX12_hears_167 : decode cX12_hears 167 = .ok (.goto 4, 3) := by decide +kernel
theorem dX12_hears_170 : decode cX12_hears 170 = .ok (.iconst 0, 1) := by decide +kernel
theorem dX12_hears_171 : decode cX12_hears 171 = .ok (.iastore, 1) := by decide +kernel
theorem dX12_hears_172 : decode cX12_hears 172 = .ok (.aload_n 0, 1) := by decide +kernel
theorem dX12_hears_173 : decode cX12_hears 173 = .ok (.getfield 7, 3) := by decide +kernel
theorem dX12_hears_176 : decode cX12_hears 176 = .ok (.sipush 1860, 3) := by decide +kernel
theorem dX12_hears_179 : decode cX12_hears 179 = .ok (.aload_n 0, 1) := by decide +kernel
theorem dX12_hears_180 : decode cX12_hears 180 = .ok (.getfield 7, 3) := by decide +kernel
theorem dX12_hears_183 : decode cX12_hears 183 = .ok (.sipush 1610, 3) := by decide +kernel
theorem dX12_hears_186 : decode cX12_hears 186 = .ok (.iload_n 1, 1) := by decide +kernel
theorem dX12_hears_187 : decode cX12_hears 187 = .ok (.iadd, 1) := by decide +kernel
theorem dX12_hears_188 : decode cX12_hears 188 = .ok (.iaload, 1) := by decide +kernel
theorem dX12_hears_189 : decode cX12_hears 189 = .ok (.iadd, 1) := by decide +kernel
theorem dX12_hears_190 : decode cX12_hears 190 = .ok (.aload_n 0, 1) := by decide +kernel
theorem dX12_hears_191 : decode cX12_hears 191 = .ok (.getfield 7, 3) := by decide +kernel
theorem dX12_hears_194 : decode cX12_hears 194 = .ok (.sipush 1710, 3) := by decide +kernel
theorem dX12_hears_197 : decode cX12_hears 197 = .ok (.iload_n 1, 1) := by decide +kernel
theorem dX12_hears_198 : decode cX12_hears 198 = .ok (.iadd, 1) := by decide +kernel
theorem dX12_hears_199 : decode cX12_hears 199 = .ok (.iaload, 1) := by decide +kernel
theorem dX12_hears_200 : decode cX12_hears 200 = .ok (.bipush 50, 2) := by decide +kernel
theorem dX12_hears_202 : decode cX12_hears 202 = .ok (.if_icmp .le 7, 3) := by decide +kernel
theorem dX12_hears_205 : decode cX12_hears 205 = .ok (.iconst 1, 1) := by decide +kernel
theorem dX12_hears_206 : decode cX12_hears 206 = .ok (.goto 22, 3) := by decide +kernel
theorem dX12_hears_209 : decode cX12_hears 209 = .ok (.aload_n 0, 1) := by decide +kernel
theorem dX12_hears_210 : decode cX12_hears 210 = .ok (.getfield 7, 3) := by decide +kernel
theorem dX12_hears_213 : decode cX12_hears 213 = .ok (.sipush 1860, 3) := by decide +kernel
theorem dX12_hears_216 : decode cX12_hears 216 = .ok (.aload_n 0, 1) := by decide +kernel
theorem dX12_hears_217 : decode cX12_hears 217 = .ok (.getfield 7, 3) := by decide +kernel
theorem dX12_hears_220 : decode cX12_hears 220 = .ok (.sipush 1610, 3) := by decide +kernel
theorem dX12_hears_223 : decode cX12_hears 223 = .ok (.iload_n 1, 1) := by decide +kernel
theorem dX12_hears_224 : decode cX12_hears 224 = .ok (.iadd, 1) := by decide +kernel
theorem dX12_hears_225 : decode cX12_hears 225 = .ok (.iaload, 1) := by decide +kernel
theorem dX12_hears_226 : decode cX12_hears 226 = .ok (.iadd, 1) := by decide +kernel
theorem dX12_hears_227 : decode cX12_hears 227 = .ok (.iaload, 1) := by decide +kernel
theorem dX12_hears_228 : decode cX12_hears 228 = .ok (.iastore, 1) := by decide +kernel
theorem dX12_hears_229 : decode cX12_hears 229 = .ok (.return_, 1) := by decide +kernel
theorem dX12_term_0 : decode cX12_term 0 = .ok (.iload_n 1, 1) := by decide +kernel
theorem dX12_term_1 : decode cX12_term 1 = .ok (.iconst 0, 1) := by decide +kernel
theorem dX12_term_2 : decode cX12_term 2 = .ok (.iconst 1, 1) := by decide +kernel
theorem dX12_term_3 : decode cX12_term 3 = .ok (.invokestatic 74, 3) := by decide +kernel
theorem dX12_term_6 : decode cX12_term 6 = .ok (.ifCond .ne 5, 3) := by decide +kernel
theorem dX12_term_9 : decode cX12_term 9 = .ok (.iconst (-1), 1) := by decide +kernel
theorem dX12_term_10 : decode cX12_term 10 = .ok (.ireturn, 1) := by decide +kernel
theorem dX12_term_11 : decode cX12_term 11 = .ok (.iload_n 1, 1) := by decide +kernel
theorem dX12_term_12 : decode cX12_term 12 = .ok (.ifCond .ne 16, 3) := by decide +kernel
theorem dX12_term_15 : decode cX12_term 15 = .ok (.iload_n 2, 1) := by decide +kernel
theorem dX12_term_16 : decode cX12_term 16 = .ok (.iconst 0, 1) := by decide +kernel
theorem dX12_term_17 : decode cX12_term 17 = .ok (.bipush 99, 2) := by decide +kernel
theorem dX12_term_19 : decode cX12_term 19 = .ok (.invokestatic 74, 3) := by decide +kernel
theorem dX12_term_22 : decode cX12_term 22 = .ok (.ifCond .ne 19, 3) := by decide +kernel
theorem dX12_term_25 : decode cX12_term 25 = .ok (.goto 13, 3) := by decide +kernel
theorem dX12_term_28 : decode cX12_term 28 = .ok (.iload_n 2, 1) := by decide +kernel
theorem dX12_term_29 : decode cX12_term 29 = .ok (.iconst 1, 1) := by decide +kernel
theorem dX12_term_30 : decode cX12_term 30 = .ok (.bipush 20, 2) := by decide +kernel
theorem dX12_term_32 : decode cX12_term 32 = .ok (.invokestatic 74, 3) := by decide +kernel
theorem dX12_term_35 : decode cX12_term 35 = .ok (.ifCond .ne 6, 3) := by decide +kernel
theorem dX12_term_38 : decode cX12_term 38 = .ok (.bipush (-2), 2) := by decide +kernel
theorem dX12_term_40 : decode cX12_term 40 = .ok (.ireturn, 1) := by decide +kernel
theorem dX12_term_41 : decode cX12_term 41 = .ok (.iload_n 1, 1) := by decide +kernel
theorem dX12_term_42 : decode cX12_term 42 = .ok (.ifCond .ne 8, 3) := by decide +kernel
theorem dX12_term_45 : decode cX12_term 45 = .ok (.bipush 12, 2) := by decide +kernel
theorem dX12_term_47 : decode cX12_term 47 = .ok (.goto 5, 3) := by decide +kernel
theorem dX12_term_50 : decode cX12_term 50 = .ok (.bipush 13, 2) := by decide +kernel
theorem dX12_term_52 : decode cX12_term 52 = .ok (.istore_n 3, 1) := by decide +kernel
theorem dX12_term_53 : decode cX12_term 53 = .ok (.aload_n 0, 1) := by decide +kernel
theorem dX12_term_54 : decode cX12_term 54 = .ok (.getfield 7, 3) := by decide +kernel
theorem dX12_term_57 : decode cX12_term 57 = .ok (.iload_n 3, 1) := by decide +kernel
theorem dX12_term_58 : decode cX12_term 58 = .ok (.iaload, 1) := by decide +kernel
theorem dX12_term_59 : decode cX12_term 59 = .ok (.istore 4, 2) := by decide +kernel
theorem dX12_term_61 : decode cX12_term 61 = .ok (.aload_n 0, 1) := by decide +kernel
theorem dX12_term_62 : decode cX12_term 62 = .ok (.getfield 7, 3) := by decide +kernel
theorem dX12_term_65 : decode cX12_term 65 = .ok (.iload_n 3, 1) := by decide +kernel
theorem dX12_term_66 : decode cX12_term 66 = .ok (.iload_n 2, 1) := by decide +kernel
theorem dX12_term_67 : decode cX12_term 67 = .ok (.iastore, 1) := by decide +kernel
theorem dX12_term_68 : decode cX12_term 68 = .ok (.iload 4, 2) := by decide +kernel
theorem dX12_term_70 : decode cX12_term 70 = .ok (.ireturn, 1) := by decide +kernel
theorem dX12_fall_0 : decode cX12_fall 0 = .ok (.aload_n 0, 1) := by decide +kernel
theorem dX12_fall_1 : decode cX12_fall 1 = .ok (.iload_n 1, 1) := by decide +kernel
theorem dX12_fall_2 : decode cX12_fall 2 = .ok (.bipush 6, 2) := by decide +kernel
theorem dX12_fall_4 : decode cX12_fall 4 = .ok (.invokevirtual 187, 3) := by decide +kernel
theorem dX12_fall_7 : decode cX12_fall 7 = .ok (.ifCond .eq 12, 3) := by decide +kernel
theorem dX12_fall_10 : decode cX12_fall 10 = .ok (.iload_n 2, 1) := by decide +kernel
theorem dX12_fall_11 : decode cX12_fall 11 = .ok (.iconst 0, 1) := by decide +kernel
theorem dX12_fall_12 : decode cX12_fall 12 = .ok (.iconst 3, 1) := by decide +kernel
theorem dX12_fall_13 : decode cX12_fall 13 = .ok (.invokestatic 74, 3) := by decide +kernel
theorem dX12_fall_16 : decode cX12_fall 16 = .ok (.ifCond .ne 5, 3) := by decide +kernel
theorem dX12_fall_19 : decode cX12_fall 19 = .ok (.iconst (-1), 1) := by decide +kernel
theorem dX12_fall_20 : decode cX12_fall 20 = .ok (.ireturn, 1) := by decide +kernel
theorem dX12_fall_21 : decode cX12_fall 21 = .ok (.aload_n 0, 1) := by decide +kernel
theorem dX12_fall_22 : decode cX12_fall 22 = .ok (.invokevirtual 169, 3) := by decide +kernel
theorem dX12_fall_25 : decode cX12_fall 25 = .ok (.iload_n 2, 1) := by decide +kernel
theorem dX12_fall_26 : decode cX12_fall 26 = .ok (.iconst 3, 1) := by decide +kernel
theorem dX12_fall_27 : decode cX12_fall 27 = .ok (.if_icmp .ge 51, 3) := by decide +kernel
theorem dX12_fall_30 : decode cX12_fall 30 = .ok (.iload_n 2, 1) := by decide +kernel
theorem dX12_fall_31 : decode cX12_fall 31 = .ok (.ifCond .ne 15, 3) := by decide +kernel
theorem dX12_fall_34 : decode cX12_fall 34 = .ok (.aload_n 0, 1) := by decide +kernel
theorem dX12_fall_35 : decode cX12_fall 35 = .ok (.getfield 31, 3) := by decide +kernel
theorem dX12_fall_38 : decode cX12_fall 38 = .ok (.iload_n 1, 1) := by decide +kernel
theorem dX12_fall_39 : decode cX12_fall 39 = .ok (.baload, 1) := by decide +kernel
theorem dX12_fall_40 : decode cX12_fall 40 = .ok (.ifCond .eq 36, 3) := by decide +kernel
theorem dX12_fall_43 : decode cX12_fall 43 = .ok (.goto 29, 3) := by decide +kernel
theorem dX12_fall_46 : decode cX12_fall 46 = .ok (.iload_n 2, 1) := by decide +kernel
theorem dX12_fall_47 : decode cX12_fall 47 = .ok (.iconst 1, 1) := by decide +kernel
theorem dX12_fall_48 : decode cX12_fall 48 = .ok (.if_icmp .ne 15, 3) := by decide +kernel
theorem dX12_fall_51 : decode cX12_fall 51 = .ok (.aload_n 0, 1) := by decide +kernel
theorem dX12_fall_52 : decode cX12_fall 52 = .ok (.getfield 34, 3) := by decide +kernel
theorem dX12_fall_55 : decode cX12_fall 55 = .ok (.iload_n 1, 1) := by decide +kernel
theorem dX12_fall_56 : decode cX12_fall 56 = .ok (.baload, 1) := by decide +kernel
theorem dX12_fall_57 : decode cX12_fall 57 = .ok (.ifCond .eq 19, 3) := by decide +kernel
theorem dX12_fall_60 : decode cX12_fall 60 = .ok (.goto 12, 3) := by decide +kernel
theorem dX12_fall_63 : decode cX12_fall 63 = .ok (.aload_n 0, 1) := by decide +kernel
theorem dX12_fall_64 : decode cX12_fall 64 = .ok (.getfield 37, 3) := by decide +kernel
theorem dX12_fall_67 : decode cX12_fall 67 = .ok (.iload_n 1, 1) := by decide +kernel
theorem dX12_fall_68 : decode cX12_fall 68 = .ok (.baload, 1) := by decide +kernel
theorem dX12_fall_69 : decode cX12_fall 69 = .ok (.ifCond .eq 7, 3) := by decide +kernel
theorem dX12_fall_72 : decode cX12_fall 72 = .ok (.iconst 1, 1) := by decide +kernel
theorem dX12_fall_73 : decode cX12_fall 73 = .ok (.goto 4, 3) := by decide +kernel
theorem dX12_fall_76 : decode cX12_fall 76 = .ok (.iconst 0, 1) := by decide +kernel
theorem dX12_fall_77 : decode cX12_fall 77 = .ok (.ireturn, 1) := by decide +kernel
theorem dX12_fall_78 : decode cX12_fall 78 = .ok (.iconst 0, 1) := by decide +kernel
theorem dX12_fall_79 : decode cX12_fall 79 = .ok (.istore_n 3, 1) := by decide +kernel
theorem dX12_fall_80 : decode cX12_fall 80 = .ok (.iload_n 3, 1) := by decide +kernel
theorem dX12_fall_81 : decode cX12_fall 81 = .ok (.bipush 50, 2) := by decide +kernel
theorem dX12_fall_83 : decode cX12_fall 83 = .ok (.if_icmp .ge 25, 3) := by decide +kernel
theorem dX12_fall_86 : decode cX12_fall 86 = .ok (.aload_n 0, 1) := by decide +kernel
theorem dX12_fall_87 : decode cX12_fall 87 = .ok (.getfield 40, 3) := by decide +kernel
theorem dX12_fall_90 : decode cX12_fall 90 = .ok (.iload_n 3, 1) := by decide +kernel
theorem dX12_fall_91 : decode cX12_fall 91 = .ok (.iload_n 3, 1) := by decide +kernel
theorem dX12_fall_92 : decode cX12_fall 92 = .ok (.iload_n 1, 1) := by decide +kernel
theorem dX12_fall_93 : decode cX12_fall 93 = .ok (.if_icmp .ne 7, 3) := by decide +kernel
theorem dX12_fall_96 : decode cX12_fall 96 = .ok (.iconst 1, 1) := by decide +kernel
theorem dX12_fall_97 : decode cX12_fall 97 = .ok (.goto 4, 3) := by decide +kernel
theorem dX12_fall_100 : decode cX12_fall 100 = .ok (.iconst 0, 1) := by decide +kernel
theorem dX12_fall_101 : decode cX12_fall 101 = .ok (.bastore, 1) := by decide +kernel
theorem dX12_fall_102 : decode cX12_fall 102 = .ok (.iinc 3 1, 3) := by decide +kernel
theorem dX12_fall_105 : decode cX12_fall 105 = .ok (.goto (-25), 3) := by decide +kernel
theorem dX12_fall_108 : decode cX12_fall 108 = .ok (.aload_n 0, 1) := by decide +kernel
theorem dX12_fall_109 : decode cX12_fall 109 = .ok (.aload_n 0, 1) := by decide +kernel
theorem dX12_fall_110 : decode cX12_fall 110 = .ok (.getfield 40, 3) := by decide +kernel
theorem dX12_fall_113 : decode cX12_fall 113 = .ok (.invokevirtual 193, 3) := by decide +kernel
theorem dX12_fall_116 : decode cX12_fall 116 = .ok (.iconst 0, 1) := by decide +kernel
theorem dX12_fall_117 : decode cX12_fall 117 = .ok (.istore_n 3, 1) := by decide +kernel
theorem dX12_fall_118 : decode cX12_fall 118 = .ok (.iconst 0, 1) := by decide +kernel
theorem dX12_fall_119 : decode cX12_fall 119 = .ok (.istore 4, 2) := by decide +kernel
theorem dX12_fall_121 : decode cX12_fall 121 = .ok (.iload 4, 2) := by decide +kernel
theorem dX12_fall_123 : decode cX12_fall 123 = .ok (.bipush 50, 2) := by decide +kernel
theorem dX12_fall_125 : decode cX12_fall 125 = .ok (.if_icmp .ge 37, 3) := by decide +kernel
theorem dX12_fall_128 : decode cX12_fall 128 = .ok (.iload_n 3, 1) := by decide +kernel
theorem dX12_fall_129 : decode cX12_fall 129 = .ok (.aload_n 0, 1) := by decide +kernel
theorem dX12_fall_130 : decode cX12_fall 130 = .ok (.getfield 40, 3) := by decide +kernel
theorem dX12_fall_133 : decode cX12_fall 133 = .ok (.iload 4, 2) := by decide +kernel
theorem dX12_fall_135 : decode cX12_fall 135 = .ok (.baload, 1) := by decide +kernel
theorem dX12_fall_136 : decode cX12_fall 136 = .ok (.ifCond .eq 17, 3) := by decide +kernel
theorem dX12_fall_139 : decode cX12_fall 139 = .ok (.aload_n 0, 1) := by decide +kernel
theorem dX12_fall_140 : decode cX12_fall 140 = .ok (.getfield 31, 3) := by decide +kernel
theorem dX12_fall_143 : decode cX12_fall 143 = .ok (.iload 4, 2) := by decide +kernel
theorem dX12_fall_145 : decode cX12_fall 145 = .ok (.baload, 1) := by decide +kernel
theorem dX12_fall_146 : decode cX12_fall 146 = .ok (.ifCond .ne 7, 3) := by decide +kernel
theorem dX12_fall_149 : decode cX12_fall 149 = .ok (.iconst 1, 1) := by decide +kernel
theorem dX12_fall_150 : decode cX12_fall 150 = .ok (.goto 4, 3) := by decide +kernel
theorem dX12_fall_153 : decode cX12_fall 153 = .ok (.iconst 0, 1) := by decide +kernel
theorem dX12_fall_154 : decode cX12_fall 154 = .ok (.iadd, 1) := by decide +kernel
theorem dX12_fall_155 : decode cX12_fall 155 = .ok (.istore_n 3, 1) := by decide +kernel
theorem dX12_fall_156 : decode cX12_fall 156 = .ok (.iinc 4 1, 3) := by decide +kernel
theorem dX12_fall_159 : decode cX12_fall 159 = .ok (.goto (-38), 3) := by decide +kernel
theorem dX12_fall_162 : decode cX12_fall 162 = .ok (.iload_n 3, 1) := by decide +kernel
theorem dX12_fall_163 : decode cX12_fall 163 = .ok (.ireturn, 1) := by decide +kernel
theorem dX12_late_0 : decode cX12_late 0 = .ok (.aload_n 0, 1) := by decide +kernel
theorem dX12_late_1 : decode cX12_late 1 = .ok (.iload_n 1, 1) := by decide +kernel
theorem dX12_late_2 : decode cX12_late 2 = .ok (.bipush 7, 2) := by decide +kernel
theorem dX12_late_4 : decode cX12_late 4 = .ok (.invokevirtual 187, 3) := by decide +kernel
theorem dX12_late_7 : decode cX12_late 7 = .ok (.ifCond .ne 5, 3) := by decide +kernel
theorem dX12_late_10 : decode cX12_late 10 = .ok (.iconst (-1), 1) := by decide +kernel
theorem dX12_late_11 : decode cX12_late 11 = .ok (.ireturn, 1) := by decide +kernel
theorem dX12_late_12 : decode cX12_late 12 = .ok (.iload_n 2, 1) := by decide +kernel
theorem dX12_late_13 : decode cX12_late 13 = .ok (.tableswitch 60 0 2 #[27, 38, 49], 27) := by decide +kernel
theorem dX12_late_40 : decode cX12_late 40 = .ok (.aload_n 0, 1) := by decide +kernel
theorem dX12_late_41 : decode cX12_late 41 = .ok (.getfield 7, 3) := by decide +kernel
theorem dX12_late_44 : decode cX12_late 44 = .ok (.sipush 1760, 3) := by decide +kernel
theorem dX12_late_47 : decode cX12_late 47 = .ok (.iload_n 1, 1) := by decide +kernel
theorem dX12_late_48 : decode cX12_late 48 = .ok (.iadd, 1) := by decide +kernel
theorem dX12_late_49 : decode cX12_late 49 = .ok (.iaload, 1) := by decide +kernel
theorem dX12_late_50 : decode cX12_late 50 = .ok (.ireturn, 1) := by decide +kernel
theorem dX12_late_51 : decode cX12_late 51 = .ok (.aload_n 0, 1) := by decide +kernel
theorem dX12_late_52 : decode cX12_late 52 = .ok (.getfield 7, 3) := by decide +kernel
theorem dX12_late_55 : decode cX12_late 55 = .ok (.sipush 1810, 3) := by decide +kernel
theorem dX12_late_58 : decode cX12_late 58 = .ok (.iload_n 1, 1) := by decide +kernel
theorem dX12_late_59 : decode cX12_late 59 = .ok (.iadd, 1) := by decide +kernel
theorem dX12_late_60 : decode cX12_late 60 = .ok (.iaload, 1) := by decide +kernel
theorem dX12_late_61 : decode cX12_late 61 = .ok (.ireturn, 1) := by decide +kernel
theorem dX12_late_62 : decode cX12_late 62 = .ok (.aload_n 0, 1) := by decide +kernel
theorem dX12_late_63 : decode cX12_late 63 = .ok (.getfield 7, 3) := by decide +kernel
theorem dX12_late_66 : decode cX12_late 66 = .ok (.sipush 1860, 3) := by decide +kernel
theorem dX12_late_69 : decode cX12_late 69 = .ok (.iload_n 1, 1) := by decide +kernel
theorem dX12_late_70 : decode cX12_late 70 = .ok (.iadd, 1) := by decide +kernel
theorem dX12_late_71 : decode cX12_late 71 = .ok (.iaload, 1) := by decide +kernel
theorem dX12_late_72 : decode cX12_late 72 = .ok (.ireturn, 1) := by decide +kernel
theorem dX12_late_73 : decode cX12_late 73 = .ok (.iconst (-1), 1) := by decide +kernel
theorem dX12_late_74 : decode cX12_late 74 = .ok (.ireturn, 1) := by decide +kernel
theorem dX12_roundsTo_0 : decode cX12_roundsTo 0 = .ok (.iconst 0, 1) := by decide +kernel
theorem dX12_roundsTo_1 : decode cX12_roundsTo 1 = .ok (.istore_n 2, 1) := by decide +kernel
theorem dX12_roundsTo_2 : decode cX12_roundsTo 2 = .ok (.iload_n 2, 1) := by decide +kernel
theorem dX12_roundsTo_3 : decode cX12_roundsTo 3 = .ok (.bipush 50, 2) := by decide +kernel
theorem dX12_roundsTo_5 : decode cX12_roundsTo 5 = .ok (.if_icmp .ge 26, 3) := by decide +kernel
theorem dX12_roundsTo_8 : decode cX12_roundsTo 8 = .ok (.aload_n 0, 1) := by decide +kernel
theorem dX12_roundsTo_9 : decode cX12_roundsTo 9 = .ok (.getfield 43, 3) := by decide +kernel
theorem dX12_roundsTo_12 : decode cX12_roundsTo 12 = .ok (.iload_n 2, 1) := by decide +kernel
theorem dX12_roundsTo_13 : decode cX12_roundsTo 13 = .ok (.iload_n 2, 1) := by decide +kernel
theorem dX12_roundsTo_14 : decode cX12_roundsTo 14 = .ok (.iload_n 1, 1) := by decide +kernel
theorem dX12_roundsTo_15 : decode cX12_roundsTo 15 = .ok (.if_icmp .ne 7, 3) := by decide +kernel
theorem dX12_roundsTo_18 : decode cX12_roundsTo 18 = .ok (.iconst 0, 1) := by decide +kernel
theorem dX12_roundsTo_19 : decode cX12_roundsTo 19 = .ok (.goto 5, 3) := by decide +kernel
theorem dX12_roundsTo_22 : decode cX12_roundsTo 22 = .ok (.bipush 99, 2) := by decide +kernel
theorem dX12_roundsTo_24 : decode cX12_roundsTo 24 = .ok (.iastore, 1) := by decide +kernel
theorem dX12_roundsTo_25 : decode cX12_roundsTo 25 = .ok (.iinc 2 1, 3) := by decide +kernel
theorem dX12_roundsTo_28 : decode cX12_roundsTo 28 = .ok (.goto (-26), 3) := by decide +kernel
theorem dX12_roundsTo_31 : decode cX12_roundsTo 31 = .ok (.iconst 1, 1) := by decide +kernel
theorem dX12_roundsTo_32 : decode cX12_roundsTo 32 = .ok (.istore_n 2, 1) := by decide +kernel
theorem dX12_roundsTo_33 : decode cX12_roundsTo 33 = .ok (.iload_n 2, 1) := by decide +kernel
theorem dX12_roundsTo_34 : decode cX12_roundsTo 34 = .ok (.ifCond .eq 93, 3) := by decide +kernel
theorem dX12_roundsTo_37 : decode cX12_roundsTo 37 = .ok (.iconst 0, 1) := by decide +kernel
theorem dX12_roundsTo_38 : decode cX12_roundsTo 38 = .ok (.istore_n 2, 1) := by decide +kernel
theorem dX12_roundsTo_39 : decode cX12_roundsTo 39 = .ok (.iload_n 1, 1) := by decide +kernel
theorem dX12_roundsTo_40 : decode cX12_roundsTo 40 = .ok (.iconst 1, 1) := by decide +kernel
theorem dX12_roundsTo_41 : decode cX12_roundsTo 41 = .ok (.iadd, 1) := by decide +kernel
theorem dX12_roundsTo_42 : decode cX12_roundsTo 42 = .ok (.istore_n 3, 1) := by decide +kernel
theorem dX12_roundsTo_43 : decode cX12_roundsTo 43 = .ok (.iload_n 3, 1) := by decide +kernel
theorem dX12_roundsTo_44 : decode cX12_roundsTo 44 = .ok (.aload_n 0, 1) := by decide +kernel
theorem dX12_roundsTo_45 : decode cX12_roundsTo 45 = .ok (.getfield 7, 3) := by decide +kernel
theorem dX12_roundsTo_48 : decode cX12_roundsTo 48 = .ok (.iconst 2, 1) := by decide +kernel
theorem dX12_roundsTo_49 : decode cX12_roundsTo 49 = .ok (.iaload, 1) := by decide +kernel
theorem dX12_roundsTo_50 : decode cX12_roundsTo 50 = .ok (.if_icmp .ge 74, 3) := by decide +kernel
theorem dX12_roundsTo_53 : decode cX12_roundsTo 53 = .ok (.iload_n 1, 1) := by decide +kernel
theorem dX12_roundsTo_54 : decode cX12_roundsTo 54 = .ok (.istore 4, 2) := by decide +kernel
theorem dX12_roundsTo_56 : decode cX12_roundsTo 56 = .ok (.iload 4, 2) := by decide +kernel
theorem dX12_roundsTo_58 : decode cX12_roundsTo 58 = .ok (.aload_n 0, 1) := by decide +kernel
theorem dX12_roundsTo_59 : decode cX12_roundsTo 59 = .ok (.getfield 7, 3) := by decide +kernel
theorem dX12_roundsTo_62 : decode cX12_roundsTo 62 = .ok (.iconst 2, 1) := by decide +kernel
theorem dX12_roundsTo_63 : decode cX12_roundsTo 63 = .ok (.iaload, 1) := by decide +kernel
theorem dX12_roundsTo_64 : decode cX12_roundsTo 64 = .ok (.if_icmp .ge 54, 3) := by decide +kernel
theorem dX12_roundsTo_67 : decode cX12_roundsTo 67 = .ok (.aload_n 0, 1) := by decide +kernel
theorem dX12_roundsTo_68 : decode cX12_roundsTo 68 = .ok (.iload_n 3, 1) := by decide +kernel
theorem dX12_roundsTo_69 : decode cX12_roundsTo 69 = .ok (.iload 4, 2) := by decide +kernel
theorem dX12_roundsTo_71 : decode cX12_roundsTo 71 = .ok (.invokevirtual 190, 3) := by decide +kernel
theorem dX12_roundsTo_74 : decode cX12_roundsTo 74 = .ok (.ifCond .eq 38, 3) := by decide +kernel
theorem dX12_roundsTo_77 : decode cX12_roundsTo 77 = .ok (.aload_n 0, 1) := by decide +kernel
theorem dX12_roundsTo_78 : decode cX12_roundsTo 78 = .ok (.getfield 43, 3) := by decide +kernel
theorem dX12_roundsTo_81 : decode cX12_roundsTo 81 = .ok (.iload 4, 2) := by decide +kernel
theorem dX12_roundsTo_83 : decode cX12_roundsTo 83 = .ok (.iaload, 1) := by decide +kernel
theorem dX12_roundsTo_84 : decode cX12_roundsTo 84 = .ok (.iconst 1, 1) := by decide +kernel
theorem dX12_roundsTo_85 : decode cX12_roundsTo 85 = .ok (.iadd, 1) := by decide +kernel
theorem dX12_roundsTo_86 : decode cX12_roundsTo 86 = .ok (.aload_n 0, 1) := by decide +kernel
theorem dX12_roundsTo_87 : decode cX12_roundsTo 87 = .ok (.getfield 43, 3) := by decide +kernel
theorem dX12_roundsTo_90 : decode cX12_roundsTo 90 = .ok (.iload_n 3, 1) := by decide +kernel
theorem dX12_roundsTo_91 : decode cX12_roundsTo 91 = .ok (.iaload, 1) := by decide +kernel
theorem dX12_roundsTo_92 : decode cX12_roundsTo 92 = .ok (.if_icmp .ge 20, 3) := by decide +kernel
theorem dX12_roundsTo_95 : decode cX12_roundsTo 95 = .ok (.aload_n 0, 1) := by decide +kernel
theorem dX12_roundsTo_96 : decode cX12_roundsTo 96 = .ok (.getfield 43, 3) := by decide +kernel
theorem dX12_roundsTo_99 : decode cX12_roundsTo 99 = .ok (.iload_n 3, 1) := by decide +kernel
theorem dX12_roundsTo_100 : decode cX12_roundsTo 100 = .ok (.aload_n 0, 1) := by decide +kernel
theorem dX12_roundsTo_101 : decode cX12_roundsTo 101 = .ok (.getfield 43, 3) := by decide +kernel
theorem dX12_roundsTo_104 : decode cX12_roundsTo 104 = .ok (.iload 4, 2) := by decide +kernel
theorem dX12_roundsTo_106 : decode cX12_roundsTo 106 = .ok (.iaload, 1) := by decide +kernel
theorem dX12_roundsTo_107 : decode cX12_roundsTo 107 = .ok (.iconst 1, 1) := by decide +kernel
theorem dX12_roundsTo_108 : decode cX12_roundsTo 108 = .ok (.iadd, 1) := by decide +kernel
theorem dX12_roundsTo_109 : decode cX12_roundsTo 109 = .ok (.iastore, 1) := by decide +kernel
theorem dX12_roundsTo_110 : decode cX12_roundsTo 110 = .ok (.iconst 1, 1) := by decide +kernel
theorem dX12_roundsTo_111 : decode cX12_roundsTo 111 = .ok (.istore_n 2, 1) := by decide +kernel
theorem dX12_roundsTo_112 : decode cX12_roundsTo 112 = .ok (.iinc 4 1, 3) := by decide +kernel
theorem dX12_roundsTo_115 : decode cX12_roundsTo 115 = .ok (.goto (-59), 3) := by decide +kernel
theorem dX12_roundsTo_118 : decode cX12_roundsTo 118 = .ok (.iinc 3 1, 3) := by decide +kernel
theorem dX12_roundsTo_121 : decode cX12_roundsTo 121 = .ok (.goto (-78), 3) := by decide +kernel
theorem dX12_roundsTo_124 : decode cX12_roundsTo 124 = .ok (.goto (-91), 3) := by decide +kernel
theorem dX12_roundsTo_127 : decode cX12_roundsTo 127 = .ok (.return_, 1) := by decide +kernel
theorem dX12_soonest_0 : decode cX12_soonest 0 = .ok (.iconst (-1), 1) := by decide +kernel
theorem dX12_soonest_1 : decode cX12_soonest 1 = .ok (.istore_n 3, 1) := by decide +kernel
theorem dX12_soonest_2 : decode cX12_soonest 2 = .ok (.aload_n 0, 1) := by decide +kernel
theorem dX12_soonest_3 : decode cX12_soonest 3 = .ok (.getfield 7, 3) := by decide +kernel
theorem dX12_soonest_6 : decode cX12_soonest 6 = .ok (.iconst 2, 1) := by decide +kernel
theorem dX12_soonest_7 : decode cX12_soonest 7 = .ok (.iaload, 1) := by decide +kernel
theorem dX12_soonest_8 : decode cX12_soonest 8 = .ok (.iconst 1, 1) := by decide +kernel
theorem dX12_soonest_9 : decode cX12_soonest 9 = .ok (.isub, 1) := by decide +kernel
theorem dX12_soonest_10 : decode cX12_soonest 10 = .ok (.istore 4, 2) := by decide +kernel
theorem dX12_soonest_12 : decode cX12_soonest 12 = .ok (.iload 4, 2) := by decide +kernel
theorem dX12_soonest_14 : decode cX12_soonest 14 = .ok (.iload_n 2, 1) := by decide +kernel
theorem dX12_soonest_15 : decode cX12_soonest 15 = .ok (.if_icmp .lt 82, 3) := by decide +kernel
theorem dX12_soonest_18 : decode cX12_soonest 18 = .ok (.aload_n 0, 1) := by decide +kernel
theorem dX12_soonest_19 : decode cX12_soonest 19 = .ok (.iload_n 1, 1) := by decide +kernel
theorem dX12_soonest_20 : decode cX12_soonest 20 = .ok (.iload 4, 2) := by decide +kernel
theorem dX12_soonest_22 : decode cX12_soonest 22 = .ok (.invokevirtual 190, 3) := by decide +kernel
theorem dX12_soonest_25 : decode cX12_soonest 25 = .ok (.ifCond .eq 30, 3) := by decide +kernel
theorem dX12_soonest_28 : decode cX12_soonest 28 = .ok (.aload_n 0, 1) := by decide +kernel
theorem dX12_soonest_29 : decode cX12_soonest 29 = .ok (.getfield 43, 3) := by decide +kernel
theorem dX12_soonest_32 : decode cX12_soonest 32 = .ok (.iload 4, 2) := by decide +kernel
theorem dX12_soonest_34 : decode cX12_soonest 34 = .ok (.iaload, 1) := by decide +kernel
theorem dX12_soonest_35 : decode cX12_soonest 35 = .ok (.bipush 99, 2) := by decide +kernel
theorem dX12_soonest_37 : decode cX12_soonest 37 = .ok (.if_icmp .ge 18, 3) := by decide +kernel
theorem dX12_soonest_40 : decode cX12_soonest 40 = .ok (.iload 4, 2) := by decide +kernel
theorem dX12_soonest_42 : decode cX12_soonest 42 = .ok (.iload_n 2, 1) := by decide +kernel
theorem dX12_soonest_43 : decode cX12_soonest 43 = .ok (.if_icmp .ne 8, 3) := by decide +kernel
theorem dX12_soonest_46 : decode cX12_soonest 46 = .ok (.iload_n 1, 1) := by decide +kernel
theorem dX12_soonest_47 : decode cX12_soonest 47 = .ok (.iload_n 2, 1) := by decide +kernel
theorem dX12_soonest_48 : decode cX12_soonest 48 = .ok (.if_icmp .eq 7, 3) := by decide +kernel
theorem dX12_soonest_51 : decode cX12_soonest 51 = .ok (.iconst 1, 1) := by decide +kernel
theorem dX12_soonest_52 : decode cX12_soonest 52 = .ok (.goto 4, 3) := by decide +kernel
theorem dX12_soonest_55 : decode cX12_soonest 55 = .ok (.iconst 0, 1) := by decide +kernel
theorem dX12_soonest_56 : decode cX12_soonest 56 = .ok (.istore 5, 2) := by decide +kernel
theorem dX12_soonest_58 : decode cX12_soonest 58 = .ok (.iload 5, 2) := by decide +kernel
theorem dX12_soonest_60 : decode cX12_soonest 60 = .ok (.ifCond .eq 29, 3) := by decide +kernel
theorem dX12_soonest_63 : decode cX12_soonest 63 = .ok (.iload_n 3, 1) := by decide +kernel
theorem dX12_soonest_64 : decode cX12_soonest 64 = .ok (.iconst (-1), 1) := by decide +kernel
theorem dX12_soonest_65 : decode cX12_soonest 65 = .ok (.if_icmp .eq 19, 3) := by decide +kernel
theorem dX12_soonest_68 : decode cX12_soonest 68 = .ok (.aload_n 0, 1) := by decide +kernel
theorem dX12_soonest_69 : decode cX12_soonest 69 = .ok (.getfield 43, 3) := by decide +kernel
theorem dX12_soonest_72 : decode cX12_soonest 72 = .ok (.iload 4, 2) := by decide +kernel
theorem dX12_soonest_74 : decode cX12_soonest 74 = .ok (.iaload, 1) := by decide +kernel
theorem dX12_soonest_75 : decode cX12_soonest 75 = .ok (.aload_n 0, 1) := by decide +kernel
theorem dX12_soonest_76 : decode cX12_soonest 76 = .ok (.getfield 43, 3) := by decide +kernel
theorem dX12_soonest_79 : decode cX12_soonest 79 = .ok (.iload_n 3, 1) := by decide +kernel
theorem dX12_soonest_80 : decode cX12_soonest 80 = .ok (.iaload, 1) := by decide +kernel
theorem dX12_soonest_81 : decode cX12_soonest 81 = .ok (.if_icmp .gt 8, 3) := by decide +kernel
theorem dX12_soonest_84 : decode cX12_soonest 84 = .ok (.iload 4, 2) := by decide +kernel
theorem dX12_soonest_86 : decode cX12_soonest 86 = .ok (.goto 4, 3) := by decide +kernel
theorem dX12_soonest_89 : decode cX12_soonest 89 = .ok (.iload_n 3, 1) := by decide +kernel
theorem dX12_soonest_90 : decode cX12_soonest 90 = .ok (.istore_n 3, 1) := by decide +kernel
theorem dX12_soonest_91 : decode cX12_soonest 91 = .ok (.iinc 4 (-1), 3) := by decide +kernel
theorem dX12_soonest_94 : decode cX12_soonest 94 = .ok (.goto (-82), 3) := by decide +kernel
theorem dX12_soonest_97 : decode cX12_soonest 97 = .ok (.iload_n 3, 1) := by decide +kernel
theorem dX12_soonest_98 : decode cX12_soonest 98 = .ok (.ireturn, 1) := by decide +kernel
theorem dX12_again_0 : decode cX12_again 0 = .ok (.iload_n 1, 1) := by decide +kernel
theorem dX12_again_1 : decode cX12_again 1 = .ok (.iconst (-1), 1) := by decide +kernel
theorem dX12_again_2 : decode cX12_again 2 = .ok (.if_icmp .ge 5, 3) := by decide +kernel
theorem dX12_again_5 : decode cX12_again 5 = .ok (.iconst (-1), 1) := by decide +kernel
theorem dX12_again_6 : decode cX12_again 6 = .ok (.ireturn, 1) := by decide +kernel
theorem dX12_again_7 : decode cX12_again 7 = .ok (.bipush 99, 2) := by decide +kernel
theorem dX12_again_9 : decode cX12_again 9 = .ok (.istore_n 2, 1) := by decide +kernel
theorem dX12_again_10 : decode cX12_again 10 = .ok (.iconst (-1), 1) := by decide +kernel
theorem dX12_again_11 : decode cX12_again 11 = .ok (.istore_n 3, 1) := by decide +kernel
theorem dX12_again_12 : decode cX12_again 12 = .ok (.iconst 0, 1) := by decide +kernel
theorem dX12_again_13 : decode cX12_again 13 = .ok (.istore 4, 2) := by decide +kernel
theorem dX12_again_15 : decode cX12_again 15 = .ok (.iload 4, 2) := by decide +kernel
theorem dX12_again_17 : decode cX12_again 17 = .ok (.aload_n 0, 1) := by decide +kernel
theorem dX12_again_18 : decode cX12_again 18 = .ok (.getfield 7, 3) := by decide +kernel
theorem dX12_again_21 : decode cX12_again 21 = .ok (.iconst 2, 1) := by decide +kernel
theorem dX12_again_22 : decode cX12_again 22 = .ok (.iaload, 1) := by decide +kernel
theorem dX12_again_23 : decode cX12_again 23 = .ok (.if_icmp .ge 57, 3) := by decide +kernel
theorem dX12_again_26 : decode cX12_again 26 = .ok (.aload_n 0, 1) := by decide +kernel
theorem dX12_again_27 : decode cX12_again 27 = .ok (.iload 4, 2) := by decide +kernel
theorem dX12_again_29 : decode cX12_again 29 = .ok (.invokevirtual 197, 3) := by decide +kernel
theorem dX12_again_32 : decode cX12_again 32 = .ok (.aload_n 0, 1) := by decide +kernel
theorem dX12_again_33 : decode cX12_again 33 = .ok (.iload 4, 2) := by decide +kernel
theorem dX12_again_35 : decode cX12_again 35 = .ok (.iload 4, 2) := by decide +kernel
theorem dX12_again_37 : decode cX12_again 37 = .ok (.invokevirtual 200, 3) := by decide +kernel
theorem dX12_again_40 : decode cX12_again 40 = .ok (.istore 5, 2) := by decide +kernel
theorem dX12_again_42 : decode cX12_again 42 = .ok (.iload 5, 2) := by decide +kernel
theorem dX12_again_44 : decode cX12_again 44 = .ok (.iconst (-1), 1) := by decide +kernel
theorem dX12_again_45 : decode cX12_again 45 = .ok (.if_icmp .eq 29, 3) := by decide +kernel
theorem dX12_again_48 : decode cX12_again 48 = .ok (.aload_n 0, 1) := by decide +kernel
theorem dX12_again_49 : decode cX12_again 49 = .ok (.getfield 43, 3) := by decide +kernel
theorem dX12_again_52 : decode cX12_again 52 = .ok (.iload 5, 2) := by decide +kernel
theorem dX12_again_54 : decode cX12_again 54 = .ok (.iaload, 1) := by decide +kernel
theorem dX12_again_55 : decode cX12_again 55 = .ok (.iconst 1, 1) := by decide +kernel
theorem dX12_again_56 : decode cX12_again 56 = .ok (.iadd, 1) := by decide +kernel
theorem dX12_again_57 : decode cX12_again 57 = .ok (.iload_n 2, 1) := by decide +kernel
theorem dX12_again_58 : decode cX12_again 58 = .ok (.if_icmp .ge 16, 3) := by decide +kernel
theorem dX12_again_61 : decode cX12_again 61 = .ok (.aload_n 0, 1) := by decide +kernel
theorem dX12_again_62 : decode cX12_again 62 = .ok (.getfield 43, 3) := by decide +kernel
theorem dX12_again_65 : decode cX12_again 65 = .ok (.iload 5, 2) := by decide +kernel
theorem dX12_again_67 : decode cX12_again 67 = .ok (.iaload, 1) := by decide +kernel
theorem dX12_again_68 : decode cX12_again 68 = .ok (.iconst 1, 1) := by decide +kernel
theorem dX12_again_69 : decode cX12_again 69 = .ok (.iadd, 1) := by decide +kernel
theorem dX12_again_70 : decode cX12_again 70 = .ok (.istore_n 2, 1) := by decide +kernel
theorem dX12_again_71 : decode cX12_again 71 = .ok (.iload 4, 2) := by decide +kernel
theorem dX12_again_73 : decode cX12_again 73 = .ok (.istore_n 3, 1) := by decide +kernel
theorem dX12_again_74 : decode cX12_again 74 = .ok (.iinc 4 1, 3) := by decide +kernel
theorem dX12_again_77 : decode cX12_again 77 = .ok (.goto (-62), 3) := by decide +kernel
theorem dX12_again_80 : decode cX12_again 80 = .ok (.iload_n 3, 1) := by decide +kernel
theorem dX12_again_81 : decode cX12_again 81 = .ok (.iconst (-1), 1) := by decide +kernel
theorem dX12_again_82 : decode cX12_again 82 = .ok (.if_icmp .ne 14, 3) := by decide +kernel
theorem dX12_again_85 : decode cX12_again 85 = .ok (.iload_n 1, 1) := by decide +kernel
theorem dX12_again_86 : decode cX12_again 86 = .ok (.iconst (-1), 1) := by decide +kernel
theorem dX12_again_87 : decode cX12_again 87 = .ok (.if_icmp .ne 7, 3) := by decide +kernel
theorem dX12_again_90 : decode cX12_again 90 = .ok (.iconst 0, 1) := by decide +kernel
theorem dX12_again_91 : decode cX12_again 91 = .ok (.goto 4, 3) := by decide +kernel
theorem dX12_again_94 : decode cX12_again 94 = .ok (.iconst (-1), 1) := by decide +kernel
theorem dX12_again_95 : decode cX12_again 95 = .ok (.ireturn, 1) := by decide +kernel
theorem dX12_again_96 : decode cX12_again 96 = .ok (.aload_n 0, 1) := by decide +kernel
theorem dX12_again_97 : decode cX12_again 97 = .ok (.iload_n 3, 1) := by decide +kernel
theorem dX12_again_98 : decode cX12_again 98 = .ok (.invokevirtual 197, 3) := by decide +kernel
theorem dX12_again_101 : decode cX12_again 101 = .ok (.iload_n 3, 1) := by decide +kernel
theorem dX12_again_102 : decode cX12_again 102 = .ok (.istore 4, 2) := by decide +kernel
theorem dX12_again_104 : decode cX12_again 104 = .ok (.iconst 0, 1) := by decide +kernel
theorem dX12_again_105 : decode cX12_again 105 = .ok (.istore 5, 2) := by decide +kernel
theorem dX12_again_107 : decode cX12_again 107 = .ok (.iload 5, 2) := by decide +kernel
theorem dX12_again_109 : decode cX12_again 109 = .ok (.iload_n 2, 1) := by decide +kernel
theorem dX12_again_110 : decode cX12_again 110 = .ok (.if_icmp .ge 27, 3) := by decide +kernel
theorem dX12_again_113 : decode cX12_again 113 = .ok (.aload_n 0, 1) := by decide +kernel
theorem dX12_again_114 : decode cX12_again 114 = .ok (.getfield 46, 3) := by decide +kernel
theorem dX12_again_117 : decode cX12_again 117 = .ok (.iload 5, 2) := by decide +kernel
theorem dX12_again_119 : decode cX12_again 119 = .ok (.iload 4, 2) := by decide +kernel
theorem dX12_again_121 : decode cX12_again 121 = .ok (.iastore, 1) := by decide +kernel
theorem dX12_again_122 : decode cX12_again 122 = .ok (.aload_n 0, 1) := by decide +kernel
theorem dX12_again_123 : decode cX12_again 123 = .ok (.iload 4, 2) := by decide +kernel
theorem dX12_again_125 : decode cX12_again 125 = .ok (.iload_n 3, 1) := by decide +kernel
theorem dX12_again_126 : decode cX12_again 126 = .ok (.invokevirtual 200, 3) := by decide +kernel
theorem dX12_again_129 : decode cX12_again 129 = .ok (.istore 4, 2) := by decide +kernel
theorem dX12_again_131 : decode cX12_again 131 = .ok (.iinc 5 1, 3) := by decide +kernel
theorem dX12_again_134 : decode cX12_again 134 = .ok (.goto (-27), 3) := by decide +kernel
theorem dX12_again_137 : decode cX12_again 137 = .ok (.iload_n 1, 1) := by decide +kernel
theorem dX12_again_138 : decode cX12_again 138 = .ok (.iconst (-1), 1) := by decide +kernel
theorem dX12_again_139 : decode cX12_again 139 = .ok (.if_icmp .ne 7, 3) := by decide +kernel
theorem dX12_again_142 : decode cX12_again 142 = .ok (.iload_n 2, 1) := by decide +kernel
theorem dX12_again_143 : decode cX12_again 143 = .ok (.goto 18, 3) := by decide +kernel
theorem dX12_again_146 : decode cX12_again 146 = .ok (.iload_n 1, 1) := by decide +kernel
theorem dX12_again_147 : decode cX12_again 147 = .ok (.iload_n 2, 1) := by decide +kernel
theorem dX12_again_148 : decode cX12_again 148 = .ok (.if_icmp .ge 12, 3) := by decide +kernel
theorem dX12_again_151 : decode cX12_again 151 = .ok (.aload_n 0, 1) := by decide +kernel
theorem dX12_again_152 : decode cX12_again 152 = .ok (.getfield 46, 3) := by decide +kernel
theorem dX12_again_155 : decode cX12_again 155 = .ok (.iload_n 1, 1) := by decide +kernel
theorem dX12_again_156 : decode cX12_again 156 = .ok (.iaload, 1) := by decide +kernel
theorem dX12_again_157 : decode cX12_again 157 = .ok (.goto 4, 3) := by decide +kernel
theorem dX12_again_160 : decode cX12_again 160 = .ok (.iconst (-1), 1) := by decide +kernel
theorem dX12_again_161 : decode cX12_again 161 = .ok (.ireturn, 1) := by decide +kernel
theorem dX12_binds_0 : decode cX12_binds 0 = .ok (.aload_n 0, 1) := by decide +kernel
theorem dX12_binds_1 : decode cX12_binds 1 = .ok (.getfield 7, 3) := by decide +kernel
theorem dX12_binds_4 : decode cX12_binds 4 = .ok (.sipush 1510, 3) := by decide +kernel
theorem dX12_binds_7 : decode cX12_binds 7 = .ok (.iload_n 1, 1) := by decide +kernel
theorem dX12_binds_8 : decode cX12_binds 8 = .ok (.iadd, 1) := by decide +kernel
theorem dX12_binds_9 : decode cX12_binds 9 = .ok (.iaload, 1) := by decide +kernel
theorem dX12_binds_10 : decode cX12_binds 10 = .ok (.istore_n 3, 1) := by decide +kernel
theorem dX12_binds_11 : decode cX12_binds 11 = .ok (.aload_n 0, 1) := by decide +kernel
theorem dX12_binds_12 : decode cX12_binds 12 = .ok (.getfield 7, 3) := by decide +kernel
theorem dX12_binds_15 : decode cX12_binds 15 = .ok (.sipush 1310, 3) := by decide +kernel
theorem dX12_binds_18 : decode cX12_binds 18 = .ok (.iload_n 1, 1) := by decide +kernel
theorem dX12_binds_19 : decode cX12_binds 19 = .ok (.iadd, 1) := by decide +kernel
theorem dX12_binds_20 : decode cX12_binds 20 = .ok (.iaload, 1) := by decide +kernel
theorem dX12_binds_21 : decode cX12_binds 21 = .ok (.tableswitch 58 2 7 #[39, 58, 45, 45, 58, 51], 39) := by decide +kernel
theorem dX12_binds_60 : decode cX12_binds 60 = .ok (.iload_n 2, 1) := by decide +kernel
theorem dX12_binds_61 : decode cX12_binds 61 = .ok (.iload_n 3, 1) := by decide +kernel
theorem dX12_binds_62 : decode cX12_binds 62 = .ok (.iadd, 1) := by decide +kernel
theorem dX12_binds_63 : decode cX12_binds 63 = .ok (.iconst 3, 1) := by decide +kernel
theorem dX12_binds_64 : decode cX12_binds 64 = .ok (.imul, 1) := by decide +kernel
theorem dX12_binds_65 : decode cX12_binds 65 = .ok (.ireturn, 1) := by decide +kernel
theorem dX12_binds_66 : decode cX12_binds 66 = .ok (.iload_n 2, 1) := by decide +kernel
theorem dX12_binds_67 : decode cX12_binds 67 = .ok (.iconst 5, 1) := by decide +kernel
theorem dX12_binds_68 : decode cX12_binds 68 = .ok (.iadd, 1) := by decide +kernel
theorem dX12_binds_69 : decode cX12_binds 69 = .ok (.iload_n 3, 1) := by decide +kernel
theorem dX12_binds_70 : decode cX12_binds 70 = .ok (.iadd, 1) := by decide +kernel
theorem dX12_binds_71 : decode cX12_binds 71 = .ok (.ireturn, 1) := by decide +kernel
theorem dX12_binds_72 : decode cX12_binds 72 = .ok (.iload_n 2, 1) := by decide +kernel
theorem dX12_binds_73 : decode cX12_binds 73 = .ok (.iload_n 3, 1) := by decide +kernel
theorem dX12_binds_74 : decode cX12_binds 74 = .ok (.iadd, 1) := by decide +kernel
theorem dX12_binds_75 : decode cX12_binds 75 = .ok (.bipush 9, 2) := by decide +kernel
theorem dX12_binds_77 : decode cX12_binds 77 = .ok (.ixor, 1) := by decide +kernel
theorem dX12_binds_78 : decode cX12_binds 78 = .ok (.ireturn, 1) := by decide +kernel
theorem dX12_binds_79 : decode cX12_binds 79 = .ok (.iload_n 2, 1) := by decide +kernel
theorem dX12_binds_80 : decode cX12_binds 80 = .ok (.iload_n 3, 1) := by decide +kernel
theorem dX12_binds_81 : decode cX12_binds 81 = .ok (.iadd, 1) := by decide +kernel
theorem dX12_binds_82 : decode cX12_binds 82 = .ok (.ireturn, 1) := by decide +kernel
theorem dX12_gives_0 : decode cX12_gives 0 = .ok (.aload_n 0, 1) := by decide +kernel
theorem dX12_gives_1 : decode cX12_gives 1 = .ok (.iload_n 1, 1) := by decide +kernel
theorem dX12_gives_2 : decode cX12_gives 2 = .ok (.iload_n 2, 1) := by decide +kernel
theorem dX12_gives_3 : decode cX12_gives 3 = .ok (.invokevirtual 203, 3) := by decide +kernel
theorem dX12_gives_6 : decode cX12_gives 6 = .ok (.aload_n 0, 1) := by decide +kernel
theorem dX12_gives_7 : decode cX12_gives 7 = .ok (.getfield 7, 3) := by decide +kernel
theorem dX12_gives_10 : decode cX12_gives 10 = .ok (.sipush 1360, 3) := by decide +kernel
theorem dX12_gives_13 : decode cX12_gives 13 = .ok (.iload_n 1, 1) := by decide +kernel
theorem dX12_gives_14 : decode cX12_gives 14 = .ok (.iadd, 1) := by decide +kernel
theorem dX12_gives_15 : decode cX12_gives 15 = .ok (.iaload, 1) := by decide +kernel
theorem dX12_gives_16 : decode cX12_gives 16 = .ok (.isub, 1) := by decide +kernel
theorem dX12_gives_17 : decode cX12_gives 17 = .ok (.istore_n 3, 1) := by decide +kernel
theorem dX12_gives_18 : decode cX12_gives 18 = .ok (.aload_n 0, 1) := by decide +kernel
theorem dX12_gives_19 : decode cX12_gives 19 = .ok (.getfield 7, 3) := by decide +kernel
theorem dX12_gives_22 : decode cX12_gives 22 = .ok (.sipush 1310, 3) := by decide +kernel
theorem dX12_gives_25 : decode cX12_gives 25 = .ok (.iload_n 1, 1) := by decide +kernel
theorem dX12_gives_26 : decode cX12_gives 26 = .ok (.iadd, 1) := by decide +kernel
theorem dX12_gives_27 : decode cX12_gives 27 = .ok (.iaload, 1) := by decide +kernel
theorem dX12_gives_28 : decode cX12_gives 28 = .ok (.istore 4, 2) := by decide +kernel
theorem dX12_gives_30 : decode cX12_gives 30 = .ok (.iload 4, 2) := by decide +kernel
theorem dX12_gives_32 : decode cX12_gives 32 = .ok (.iconst 4, 1) := by decide +kernel
theorem dX12_gives_33 : decode cX12_gives 33 = .ok (.if_icmp .ge 9, 3) := by decide +kernel
theorem dX12_gives_36 : decode cX12_gives 36 = .ok (.iload_n 3, 1) := by decide +kernel
theorem dX12_gives_37 : decode cX12_gives 37 = .ok (.iload_n 1, 1) := by decide +kernel
theorem dX12_gives_38 : decode cX12_gives 38 = .ok (.ixor, 1) := by decide +kernel
theorem dX12_gives_39 : decode cX12_gives 39 = .ok (.goto 15, 3) := by decide +kernel
theorem dX12_gives_42 : decode cX12_gives 42 = .ok (.iload 4, 2) := by decide +kernel
theorem dX12_gives_44 : decode cX12_gives 44 = .ok (.iconst 5, 1) := by decide +kernel
theorem dX12_gives_45 : decode cX12_gives 45 = .ok (.if_icmp .ne 8, 3) := by decide +kernel
theorem dX12_gives_48 : decode cX12_gives 48 = .ok (.iload_n 3, 1) := by decide +kernel
theorem dX12_gives_49 : decode cX12_gives 49 = .ok (.ineg, 1) := by decide +kernel
theorem dX12_gives_50 : decode cX12_gives 50 = .ok (.goto 4, 3) := by decide +kernel
theorem dX12_gives_53 : decode cX12_gives 53 = .ok (.iload_n 3, 1) := by decide +kernel
theorem dX12_gives_54 : decode cX12_gives 54 = .ok (.ireturn, 1) := by decide +kernel
theorem dX12_hangs_0 : decode cX12_hangs 0 = .ok (.aload_n 0, 1) := by decide +kernel
theorem dX12_hangs_1 : decode cX12_hangs 1 = .ok (.iload_n 1, 1) := by decide +kernel
theorem dX12_hangs_2 : decode cX12_hangs 2 = .ok (.iload_n 2, 1) := by decide +kernel
theorem dX12_hangs_3 : decode cX12_hangs 3 = .ok (.invokevirtual 206, 3) := by decide +kernel
theorem dX12_hangs_6 : decode cX12_hangs 6 = .ok (.iconst 2, 1) := by decide +kernel
theorem dX12_hangs_7 : decode cX12_hangs 7 = .ok (.imul, 1) := by decide +kernel
theorem dX12_hangs_8 : decode cX12_hangs 8 = .ok (.istore_n 3, 1) := by decide +kernel
theorem dX12_hangs_9 : decode cX12_hangs 9 = .ok (.aload_n 0, 1) := by decide +kernel
theorem dX12_hangs_10 : decode cX12_hangs 10 = .ok (.getfield 7, 3) := by decide +kernel
theorem dX12_hangs_13 : decode cX12_hangs 13 = .ok (.sipush 1310, 3) := by decide +kernel
theorem dX12_hangs_16 : decode cX12_hangs 16 = .ok (.iload_n 1, 1) := by decide +kernel
theorem dX12_hangs_17 : decode cX12_hangs 17 = .ok (.iadd, 1) := by decide +kernel
theorem dX12_hangs_18 : decode cX12_hangs 18 = .ok (.iaload, 1) := by decide +kernel
theorem dX12_hangs_19 : decode cX12_hangs 19 = .ok (.istore 4, 2) := by decide +kernel
theorem dX12_hangs_21 : decode cX12_hangs 21 = .ok (.iload 4, 2) := by decide +kernel
theorem dX12_hangs_23 : decode cX12_hangs 23 = .ok (.bipush 6, 2) := by decide +kernel
theorem dX12_hangs_25 : decode cX12_hangs 25 = .ok (.if_icmp .ne 12, 3) := by decide +kernel
theorem dX12_hangs_28 : decode cX12_hangs 28 = .ok (.aload_n 0, 1) := by decide +kernel
theorem dX12_hangs_29 : decode cX12_hangs 29 = .ok (.iload_n 1, 1) := by decide +kernel
theorem dX12_hangs_30 : decode cX12_hangs 30 = .ok (.iload_n 2, 1) := by decide +kernel
theorem dX12_hangs_31 : decode cX12_hangs 31 = .ok (.invokevirtual 203, 3) := by decide +kernel
theorem dX12_hangs_34 : decode cX12_hangs 34 = .ok (.iload_n 3, 1) := by decide +kernel
theorem dX12_hangs_35 : decode cX12_hangs 35 = .ok (.isub, 1) := by decide +kernel
theorem dX12_hangs_36 : decode cX12_hangs 36 = .ok (.ireturn, 1) := by decide +kernel
theorem dX12_hangs_37 : decode cX12_hangs 37 = .ok (.iload 4, 2) := by decide +kernel
theorem dX12_hangs_39 : decode cX12_hangs 39 = .ok (.bipush 7, 2) := by decide +kernel
theorem dX12_hangs_41 : decode cX12_hangs 41 = .ok (.if_icmp .ne 23, 3) := by decide +kernel
theorem dX12_hangs_44 : decode cX12_hangs 44 = .ok (.aload_n 0, 1) := by decide +kernel
theorem dX12_hangs_45 : decode cX12_hangs 45 = .ok (.iload_n 1, 1) := by decide +kernel
theorem dX12_hangs_46 : decode cX12_hangs 46 = .ok (.iload_n 2, 1) := by decide +kernel
theorem dX12_hangs_47 : decode cX12_hangs 47 = .ok (.iconst 1, 1) := by decide +kernel
theorem dX12_hangs_48 : decode cX12_hangs 48 = .ok (.isub, 1) := by decide +kernel
theorem dX12_hangs_49 : decode cX12_hangs 49 = .ok (.invokevirtual 203, 3) := by decide +kernel
theorem dX12_hangs_52 : decode cX12_hangs 52 = .ok (.aload_n 0, 1) := by decide +kernel
theorem dX12_hangs_53 : decode cX12_hangs 53 = .ok (.iload_n 1, 1) := by decide +kernel
theorem dX12_hangs_54 : decode cX12_hangs 54 = .ok (.iload_n 2, 1) := by decide +kernel
theorem dX12_hangs_55 : decode cX12_hangs 55 = .ok (.iconst 1, 1) := by decide +kernel
theorem dX12_hangs_56 : decode cX12_hangs 56 = .ok (.isub, 1) := by decide +kernel
theorem dX12_hangs_57 : decode cX12_hangs 57 = .ok (.invokevirtual 206, 3) := by decide +kernel
theorem dX12_hangs_60 : decode cX12_hangs 60 = .ok (.iconst 2, 1) := by decide +kernel
theorem dX12_hangs_61 : decode cX12_hangs 61 = .ok (.imul, 1) := by decide +kernel
theorem dX12_hangs_62 : decode cX12_hangs 62 = .ok (.isub, 1) := by decide +kernel
theorem dX12_hangs_63 : decode cX12_hangs 63 = .ok (.ireturn, 1) := by decide +kernel
theorem dX12_hangs_64 : decode cX12_hangs 64 = .ok (.iload 4, 2) := by decide +kernel
theorem dX12_hangs_66 : decode cX12_hangs 66 = .ok (.iconst 3, 1) := by decide +kernel
theorem dX12_hangs_67 : decode cX12_hangs 67 = .ok (.if_icmp .ne 14, 3) := by decide +kernel
theorem dX12_hangs_70 : decode cX12_hangs 70 = .ok (.iload_n 3, 1) := by decide +kernel
theorem dX12_hangs_71 : decode cX12_hangs 71 = .ok (.aload_n 0, 1) := by decide +kernel
theorem dX12_hangs_72 : decode cX12_hangs 72 = .ok (.iload_n 1, 1) := by decide +kernel
theorem dX12_hangs_73 : decode cX12_hangs 73 = .ok (.iconst 1, 1) := by decide +kernel
theorem dX12_hangs_74 : decode cX12_hangs 74 = .ok (.invokevirtual 206, 3) := by decide +kernel
theorem dX12_hangs_77 : decode cX12_hangs 77 = .ok (.iadd, 1) := by decide +kernel
theorem dX12_hangs_78 : decode cX12_hangs 78 = .ok (.goto 4, 3) := by decide +kernel
theorem dX12_hangs_81 : decode cX12_hangs 81 = .ok (.iload_n 3, 1) := by decide +kernel
theorem dX12_hangs_82 : decode cX12_hangs 82 = .ok (.ireturn, 1) := by decide +kernel
theorem dX12_act_0 : decode cX12_act 0 = .ok (.iload_n 1, 1) := by decide +kernel
theorem dX12_act_1 : decode cX12_act 1 = .ok (.iconst 0, 1) := by decide +kernel
theorem dX12_act_2 : decode cX12_act 2 = .ok (.aload_n 0, 1) := by decide +kernel
theorem dX12_act_3 : decode cX12_act 3 = .ok (.getfield 7, 3) := by decide +kernel
theorem dX12_act_6 : decode cX12_act 6 = .ok (.iconst 2, 1) := by decide +kernel
theorem dX12_act_7 : decode cX12_act 7 = .ok (.iaload, 1) := by decide +kernel
theorem dX12_act_8 : decode cX12_act 8 = .ok (.iconst 1, 1) := by decide +kernel
theorem dX12_act_9 : decode cX12_act 9 = .ok (.isub, 1) := by decide +kernel
theorem dX12_act_10 : decode cX12_act 10 = .ok (.invokestatic 74, 3) := by decide +kernel
theorem dX12_act_13 : decode cX12_act 13 = .ok (.ifCond .eq 12, 3) := by decide +kernel
theorem dX12_act_16 : decode cX12_act 16 = .ok (.iload_n 2, 1) := by decide +kernel
theorem dX12_act_17 : decode cX12_act 17 = .ok (.iconst 0, 1) := by decide +kernel
theorem dX12_act_18 : decode cX12_act 18 = .ok (.iconst 2, 1) := by decide +kernel
theorem dX12_act_19 : decode cX12_act 19 = .ok (.invokestatic 74, 3) := by decide +kernel
theorem dX12_act_22 : decode cX12_act 22 = .ok (.ifCond .ne 5, 3) := by decide +kernel
theorem dX12_act_25 : decode cX12_act 25 = .ok (.iconst 0, 1) := by decide +kernel
theorem dX12_act_26 : decode cX12_act 26 = .ok (.ireturn, 1) := by decide +kernel
theorem dX12_act_27 : decode cX12_act 27 = .ok (.iload_n 2, 1) := by decide +kernel
theorem dX12_act_28 : decode cX12_act 28 = .ok (.ifCond .ne 12, 3) := by decide +kernel
theorem dX12_act_31 : decode cX12_act 31 = .ok (.aload_n 0, 1) := by decide +kernel
theorem dX12_act_32 : decode cX12_act 32 = .ok (.iload_n 1, 1) := by decide +kernel
theorem dX12_act_33 : decode cX12_act 33 = .ok (.iload_n 3, 1) := by decide +kernel
theorem dX12_act_34 : decode cX12_act 34 = .ok (.invokevirtual 203, 3) := by decide +kernel
theorem dX12_act_37 : decode cX12_act 37 = .ok (.goto 23, 3) := by decide +kernel
theorem dX12_act_40 : decode cX12_act 40 = .ok (.iload_n 2, 1) := by decide +kernel
theorem dX12_act_41 : decode cX12_act 41 = .ok (.iconst 1, 1) := by decide +kernel
theorem dX12_act_42 : decode cX12_act 42 = .ok (.if_icmp .ne 12, 3) := by decide +kernel
theorem dX12_act_45 : decode cX12_act 45 = .ok (.aload_n 0, 1) := by decide +kernel
theorem dX12_act_46 : decode cX12_act 46 = .ok (.iload_n 1, 1) := by decide +kernel
theorem dX12_act_47 : decode cX12_act 47 = .ok (.iload_n 3, 1) := by decide +kernel
theorem dX12_act_48 : decode cX12_act 48 = .ok (.invokevirtual 206, 3) := by decide +kernel
theorem dX12_act_51 : decode cX12_act 51 = .ok (.goto 9, 3) := by decide +kernel
theorem dX12_act_54 : decode cX12_act 54 = .ok (.aload_n 0, 1) := by decide +kernel
theorem dX12_act_55 : decode cX12_act 55 = .ok (.iload_n 1, 1) := by decide +kernel
theorem dX12_act_56 : decode cX12_act 56 = .ok (.iload_n 3, 1) := by decide +kernel
theorem dX12_act_57 : decode cX12_act 57 = .ok (.invokevirtual 209, 3) := by decide +kernel
theorem dX12_act_60 : decode cX12_act 60 = .ok (.ireturn, 1) := by decide +kernel
theorem dX12_whose_0 : decode cX12_whose 0 = .ok (.iload_n 1, 1) := by decide +kernel
theorem dX12_whose_1 : decode cX12_whose 1 = .ok (.iconst 0, 1) := by decide +kernel
theorem dX12_whose_2 : decode cX12_whose 2 = .ok (.aload_n 0, 1) := by decide +kernel
theorem dX12_whose_3 : decode cX12_whose 3 = .ok (.getfield 7, 3) := by decide +kernel
theorem dX12_whose_6 : decode cX12_whose 6 = .ok (.iconst 2, 1) := by decide +kernel
theorem dX12_whose_7 : decode cX12_whose 7 = .ok (.iaload, 1) := by decide +kernel
theorem dX12_whose_8 : decode cX12_whose 8 = .ok (.iconst 1, 1) := by decide +kernel
theorem dX12_whose_9 : decode cX12_whose 9 = .ok (.isub, 1) := by decide +kernel
theorem dX12_whose_10 : decode cX12_whose 10 = .ok (.invokestatic 74, 3) := by decide +kernel
theorem dX12_whose_13 : decode cX12_whose 13 = .ok (.ifCond .eq 13, 3) := by decide +kernel
theorem dX12_whose_16 : decode cX12_whose 16 = .ok (.iload_n 2, 1) := by decide +kernel
theorem dX12_whose_17 : decode cX12_whose 17 = .ok (.iconst 0, 1) := by decide +kernel
theorem dX12_whose_18 : decode cX12_whose 18 = .ok (.bipush 7, 2) := by decide +kernel
theorem dX12_whose_20 : decode cX12_whose 20 = .ok (.invokestatic 74, 3) := by decide +kernel
theorem dX12_whose_23 : decode cX12_whose 23 = .ok (.ifCond .ne 5, 3) := by decide +kernel
theorem dX12_whose_26 : decode cX12_whose 26 = .ok (.iconst (-1), 1) := by decide +kernel
theorem dX12_whose_27 : decode cX12_whose 27 = .ok (.ireturn, 1) := by decide +kernel
theorem dX12_whose_28 : decode cX12_whose 28 = .ok (.aload_n 0, 1) := by decide +kernel
theorem dX12_whose_29 : decode cX12_whose 29 = .ok (.getfield 7, 3) := by decide +kernel
theorem dX12_whose_32 : decode cX12_whose 32 = .ok (.sipush 1310, 3) := by decide +kernel
theorem dX12_whose_35 : decode cX12_whose 35 = .ok (.iload_n 1, 1) := by decide +kernel
theorem dX12_whose_36 : decode cX12_whose 36 = .ok (.iadd, 1) := by decide +kernel
theorem dX12_whose_37 : decode cX12_whose 37 = .ok (.iaload, 1) := by decide +kernel
theorem dX12_whose_38 : decode cX12_whose 38 = .ok (.istore_n 3, 1) := by decide +kernel
theorem dX12_whose_39 : decode cX12_whose 39 = .ok (.iload_n 2, 1) := by decide +kernel
theorem dX12_whose_40 : decode cX12_whose 40 = .ok (.ifCond .eq 44, 3) := by decide +kernel
theorem dX12_whose_43 : decode cX12_whose 43 = .ok (.iload_n 2, 1) := by decide +kernel
theorem dX12_whose_44 : decode cX12_whose 44 = .ok (.iload_n 3, 1) := by decide +kernel
theorem dX12_whose_45 : decode cX12_whose 45 = .ok (.if_icmp .eq 39, 3) := by decide +kernel
theorem dX12_whose_48 : decode cX12_whose 48 = .ok (.iload_n 2, 1) := by decide +kernel
theorem dX12_whose_49 : decode cX12_whose 49 = .ok (.iconst 1, 1) := by decide +kernel
theorem dX12_whose_50 : decode cX12_whose 50 = .ok (.if_icmp .ne 12, 3) := by decide +kernel
theorem dX12_whose_53 : decode cX12_whose 53 = .ok (.iload_n 3, 1) := by decide +kernel
theorem dX12_whose_54 : decode cX12_whose 54 = .ok (.iconst 2, 1) := by decide +kernel
theorem dX12_whose_55 : decode cX12_whose 55 = .ok (.iconst 3, 1) := by decide +kernel
theorem dX12_whose_56 : decode cX12_whose 56 = .ok (.invokestatic 74, 3) := by decide +kernel
theorem dX12_whose_59 : decode cX12_whose 59 = .ok (.ifCond .ne 25, 3) := by decide +kernel
theorem dX12_whose_62 : decode cX12_whose 62 = .ok (.iload_n 2, 1) := by decide +kernel
theorem dX12_whose_63 : decode cX12_whose 63 = .ok (.iconst 4, 1) := by decide +kernel
theorem dX12_whose_64 : decode cX12_whose 64 = .ok (.if_icmp .ne 8, 3) := by decide +kernel
theorem dX12_whose_67 : decode cX12_whose 67 = .ok (.iload_n 3, 1) := by decide +kernel
theorem dX12_whose_68 : decode cX12_whose 68 = .ok (.iconst 5, 1) := by decide +kernel
theorem dX12_whose_69 : decode cX12_whose 69 = .ok (.if_icmp .eq 15, 3) := by decide +kernel
theorem dX12_whose_72 : decode cX12_whose 72 = .ok (.iload_n 2, 1) := by decide +kernel
theorem dX12_whose_73 : decode cX12_whose 73 = .ok (.bipush 6, 2) := by decide +kernel
theorem dX12_whose_75 : decode cX12_whose 75 = .ok (.if_icmp .ne 13, 3) := by decide +kernel
theorem dX12_whose_78 : decode cX12_whose 78 = .ok (.iload_n 3, 1) := by decide +kernel
theorem dX12_whose_79 : decode cX12_whose 79 = .ok (.bipush 7, 2) := by decide +kernel
theorem dX12_whose_81 : decode cX12_whose 81 = .ok (.if_icmp .ne 7, 3) := by decide +kernel
theorem dX12_whose_84 : decode cX12_whose 84 = .ok (.iconst 1, 1) := by decide +kernel
theorem dX12_whose_85 : decode cX12_whose 85 = .ok (.goto 4, 3) := by decide +kernel
theorem dX12_whose_88 : decode cX12_whose 88 = .ok (.iconst 0, 1) := by decide +kernel
theorem dX12_whose_89 : decode cX12_whose 89 = .ok (.istore 4, 2) := by decide +kernel
theorem dX12_whose_91 : decode cX12_whose 91 = .ok (.iload 4, 2) := by decide +kernel
theorem dX12_whose_93 : decode cX12_whose 93 = .ok (.ifCond .eq 16, 3) := by decide +kernel
theorem dX12_whose_96 : decode cX12_whose 96 = .ok (.aload_n 0, 1) := by decide +kernel
theorem dX12_whose_97 : decode cX12_whose 97 = .ok (.getfield 7, 3) := by decide +kernel
theorem dX12_whose_100 : decode cX12_whose 100 = .ok (.sipush 1510, 3) := by decide +kernel
theorem dX12_whose_103 : decode cX12_whose 103 = .ok (.iload_n 1, 1) := by decide +kernel
theorem dX12_whose_104 : decode cX12_whose 104 = .ok (.iadd, 1) := by decide +kernel
theorem dX12_whose_105 : decode cX12_whose 105 = .ok (.iaload, 1) := by decide +kernel
theorem dX12_whose_106 : decode cX12_whose 106 = .ok (.goto 5, 3) := by decide +kernel
theorem dX12_whose_109 : decode cX12_whose 109 = .ok (.bipush (-6), 2) := by decide +kernel
theorem dX12_whose_111 : decode cX12_whose 111 = .ok (.ireturn, 1) := by decide +kernel
theorem dX12_isShip_0 : decode cX12_isShip 0 = .ok (.iload_n 1, 1) := by decide +kernel
theorem dX12_isShip_1 : decode cX12_isShip 1 = .ok (.iconst 0, 1) := by decide +kernel
theorem dX12_isShip_2 : decode cX12_isShip 2 = .ok (.aload_n 0, 1) := by decide +kernel
theorem dX12_isShip_3 : decode cX12_isShip 3 = .ok (.getfield 7, 3) := by decide +kernel
theorem dX12_isShip_6 : decode cX12_isShip 6 = .ok (.iconst 3, 1) := by decide +kernel
theorem dX12_isShip_7 : decode cX12_isShip 7 = .ok (.iaload, 1) := by decide +kernel
theorem dX12_isShip_8 : decode cX12_isShip 8 = .ok (.iconst 1, 1) := by decide +kernel
theorem dX12_isShip_9 : decode cX12_isShip 9 = .ok (.isub, 1) := by decide +kernel
theorem dX12_isShip_10 : decode cX12_isShip 10 = .ok (.invokestatic 74, 3) := by decide +kernel
theorem dX12_isShip_13 : decode cX12_isShip 13 = .ok (.ireturn, 1) := by decide +kernel
theorem dX12_isGood_0 : decode cX12_isGood 0 = .ok (.iload_n 0, 1) := by decide +kernel
theorem dX12_isGood_1 : decode cX12_isGood 1 = .ok (.iconst 0, 1) := by decide +kernel
theorem dX12_isGood_2 : decode cX12_isGood 2 = .ok (.iconst 3, 1) := by decide +kernel
theorem dX12_isGood_3 : decode cX12_isGood 3 = .ok (.invokestatic 74, 3) := by decide +kernel
theorem dX12_isGood_6 : decode cX12_isGood 6 = .ok (.ireturn, 1) := by decide +kernel
theorem dX12_ship_0 : decode cX12_ship 0 = .ok (.iload_n 1, 1) := by decide +kernel
theorem dX12_ship_1 : decode cX12_ship 1 = .ok (.invokestatic 212, 3) := by decide +kernel
theorem dX12_ship_4 : decode cX12_ship 4 = .ok (.ifCond .ne 5, 3) := by decide +kernel
theorem dX12_ship_7 : decode cX12_ship 7 = .ok (.iconst (-1), 1) := by decide +kernel
theorem dX12_ship_8 : decode cX12_ship 8 = .ok (.ireturn, 1) := by decide +kernel
theorem dX12_ship_9 : decode cX12_ship 9 = .ok (.iload_n 2, 1) := by decide +kernel
theorem dX12_ship_10 : decode cX12_ship 10 = .ok (.iconst 1, 1) := by decide +kernel
theorem dX12_ship_11 : decode cX12_ship 11 = .ok (.sipush 999, 3) := by decide +kernel
theorem dX12_ship_14 : decode cX12_ship 14 = .ok (.invokestatic 74, 3) := by decide +kernel
theorem dX12_ship_17 : decode cX12_ship 17 = .ok (.ifCond .ne 6, 3) := by decide +kernel
theorem dX12_ship_20 : decode cX12_ship 20 = .ok (.bipush (-2), 2) := by decide +kernel
theorem dX12_ship_22 : decode cX12_ship 22 = .ok (.ireturn, 1) := by decide +kernel
theorem dX12_ship_23 : decode cX12_ship 23 = .ok (.aload_n 0, 1) := by decide +kernel
theorem dX12_ship_24 : decode cX12_ship 24 = .ok (.getfield 7, 3) := by decide +kernel
theorem dX12_ship_27 : decode cX12_ship 27 = .ok (.iconst 3, 1) := by decide +kernel
theorem dX12_ship_28 : decode cX12_ship 28 = .ok (.iaload, 1) := by decide +kernel
theorem dX12_ship_29 : decode cX12_ship 29 = .ok (.bipush 12, 2) := by decide +kernel
theorem dX12_ship_31 : decode cX12_ship 31 = .ok (.if_icmp .ne 6, 3) := by decide +kernel
theorem dX12_ship_34 : decode cX12_ship 34 = .ok (.bipush (-4), 2) := by decide +kernel
theorem dX12_ship_36 : decode cX12_ship 36 = .ok (.ireturn, 1) := by decide +kernel
theorem dX12_ship_37 : decode cX12_ship 37 = .ok (.aload_n 0, 1) := by decide +kernel
theorem dX12_ship_38 : decode cX12_ship 38 = .ok (.getfield 7, 3) := by decide +kernel
theorem dX12_ship_41 : decode cX12_ship 41 = .ok (.iconst 3, 1) := by decide +kernel
theorem dX12_ship_42 : decode cX12_ship 42 = .ok (.iaload, 1) := by decide +kernel
theorem dX12_ship_43 : decode cX12_ship 43 = .ok (.istore_n 3, 1) := by decide +kernel
theorem dX12_ship_44 : decode cX12_ship 44 = .ok (.aload_n 0, 1) := by decide +kernel
theorem dX12_ship_45 : decode cX12_ship 45 = .ok (.getfield 7, 3) := by decide +kernel
theorem dX12_ship_48 : decode cX12_ship 48 = .ok (.bipush 90, 2) := by decide +kernel
theorem dX12_ship_50 : decode cX12_ship 50 = .ok (.iload_n 3, 1) := by decide +kernel
theorem dX12_ship_51 : decode cX12_ship 51 = .ok (.iadd, 1) := by decide +kernel
theorem dX12_ship_52 : decode cX12_ship 52 = .ok (.iload_n 1, 1) := by decide +kernel
theorem dX12_ship_53 : decode cX12_ship 53 = .ok (.iastore, 1) := by decide +kernel
theorem dX12_ship_54 : decode cX12_ship 54 = .ok (.aload_n 0, 1) := by decide +kernel
theorem dX12_ship_55 : decode cX12_ship 55 = .ok (.getfield 7, 3) := by decide +kernel
theorem dX12_ship_58 : decode cX12_ship 58 = .ok (.bipush 102, 2) := by decide +kernel
theorem dX12_ship_60 : decode cX12_ship 60 = .ok (.iload_n 3, 1) := by decide +kernel
theorem dX12_ship_61 : decode cX12_ship 61 = .ok (.iadd, 1) := by decide +kernel
theorem dX12_ship_62 : decode cX12_ship 62 = .ok (.iload_n 2, 1) := by decide +kernel
theorem dX12_ship_63 : decode cX12_ship 63 = .ok (.iastore, 1) := by decide +kernel
theorem dX12_ship_64 : decode cX12_ship 64 = .ok (.aload_n 0, 1) := by decide +kernel
theorem dX12_ship_65 : decode cX12_ship 65 = .ok (.getfield 7, 3) := by decide +kernel
theorem dX12_ship_68 : decode cX12_ship 68 = .ok (.bipush 114, 2) := by decide +kernel
theorem dX12_ship_70 : decode cX12_ship 70 = .ok (.iload_n 3, 1) := by decide +kernel
theorem dX12_ship_71 : decode cX12_ship 71 = .ok (.iadd, 1) := by decide +kernel
theorem dX12_ship_72 : decode cX12_ship 72 = .ok (.bipush (-2), 2) := by decide +kernel
theorem dX12_ship_74 : decode cX12_ship 74 = .ok (.iastore, 1) := by decide +kernel
theorem dX12_ship_75 : decode cX12_ship 75 = .ok (.aload_n 0, 1) := by decide +kernel
theorem dX12_ship_76 : decode cX12_ship 76 = .ok (.getfield 7, 3) := by decide +kernel
theorem dX12_ship_79 : decode cX12_ship 79 = .ok (.iconst 3, 1) := by decide +kernel
theorem dX12_ship_80 : decode cX12_ship 80 = .ok (.dup2, 1) := by decide +kernel
theorem dX12_ship_81 : decode cX12_ship 81 = .ok (.iaload, 1) := by decide +kernel
theorem dX12_ship_82 : decode cX12_ship 82 = .ok (.iconst 1, 1) := by decide +kernel
theorem dX12_ship_83 : decode cX12_ship 83 = .ok (.iadd, 1) := by decide +kernel
theorem dX12_ship_84 : decode cX12_ship 84 = .ok (.iastore, 1) := by decide +kernel
theorem dX12_ship_85 : decode cX12_ship 85 = .ok (.iload_n 3, 1) := by decide +kernel
theorem dX12_ship_86 : decode cX12_ship 86 = .ok (.ireturn, 1) := by decide +kernel
theorem dX12_berth_0 : decode cX12_berth 0 = .ok (.aload_n 0, 1) := by decide +kernel
theorem dX12_berth_1 : decode cX12_berth 1 = .ok (.iload_n 1, 1) := by decide +kernel
theorem dX12_berth_2 : decode cX12_berth 2 = .ok (.invokevirtual 215, 3) := by decide +kernel
theorem dX12_berth_5 : decode cX12_berth 5 = .ok (.ifCond .eq 10, 3) := by decide +kernel
theorem dX12_berth_8 : decode cX12_berth 8 = .ok (.iload_n 2, 1) := by decide +kernel
theorem dX12_berth_9 : decode cX12_berth 9 = .ok (.invokestatic 78, 3) := by decide +kernel
theorem dX12_berth_12 : decode cX12_berth 12 = .ok (.ifCond .ne 5, 3) := by decide +kernel
theorem dX12_berth_15 : decode cX12_berth 15 = .ok (.iconst (-1), 1) := by decide +kernel
theorem dX12_berth_16 : decode cX12_berth 16 = .ok (.ireturn, 1) := by decide +kernel
theorem dX12_berth_17 : decode cX12_berth 17 = .ok (.aload_n 0, 1) := by decide +kernel
theorem dX12_berth_18 : decode cX12_berth 18 = .ok (.getfield 7, 3) := by decide +kernel
theorem dX12_berth_21 : decode cX12_berth 21 = .ok (.bipush 20, 2) := by decide +kernel
theorem dX12_berth_23 : decode cX12_berth 23 = .ok (.iload_n 2, 1) := by decide +kernel
theorem dX12_berth_24 : decode cX12_berth 24 = .ok (.iadd, 1) := by decide +kernel
theorem dX12_berth_25 : decode cX12_berth 25 = .ok (.iaload, 1) := by decide +kernel
theorem dX12_berth_26 : decode cX12_berth 26 = .ok (.iconst 1, 1) := by decide +kernel
theorem dX12_berth_27 : decode cX12_berth 27 = .ok (.iconst 2, 1) := by decide +kernel
theorem dX12_berth_28 : decode cX12_berth 28 = .ok (.invokestatic 74, 3) := by decide +kernel
theorem dX12_berth_31 : decode cX12_berth 31 = .ok (.ifCond .eq 21, 3) := by decide +kernel
theorem dX12_berth_34 : decode cX12_berth 34 = .ok (.aload_n 0, 1) := by decide +kernel
theorem dX12_berth_35 : decode cX12_berth 35 = .ok (.getfield 7, 3) := by decide +kernel
theorem dX12_berth_38 : decode cX12_berth 38 = .ok (.bipush 114, 2) := by decide +kernel
theorem dX12_berth_40 : decode cX12_berth 40 = .ok (.iload_n 1, 1) := by decide +kernel
theorem dX12_berth_41 : decode cX12_berth 41 = .ok (.iadd, 1) := by decide +kernel
theorem dX12_berth_42 : decode cX12_berth 42 = .ok (.iaload, 1) := by decide +kernel
theorem dX12_berth_43 : decode cX12_berth 43 = .ok (.bipush (-2), 2) := by decide +kernel
theorem dX12_berth_45 : decode cX12_berth 45 = .ok (.if_icmp .ne 7, 3) := by decide +kernel
theorem dX12_berth_48 : decode cX12_berth 48 = .ok (.iconst 1, 1) := by decide +kernel
theorem dX12_berth_49 : decode cX12_berth 49 = .ok (.goto 4, 3) := by decide +kernel
theorem dX12_berth_52 : decode cX12_berth 52 = .ok (.iconst 0, 1) := by decide +kernel
theorem dX12_berth_53 : decode cX12_berth 53 = .ok (.istore_n 3, 1) := by decide +kernel
theorem dX12_berth_54 : decode cX12_berth 54 = .ok (.iconst 0, 1) := by decide +kernel
theorem dX12_berth_55 : decode cX12_berth 55 = .ok (.istore 4, 2) := by decide +kernel
theorem dX12_berth_57 : decode cX12_berth 57 = .ok (.iload 4, 2) := by decide +kernel
theorem dX12_berth_59 : decode cX12_berth 59 = .ok (.aload_n 0, 1) := by decide +kernel
theorem dX12_berth_60 : decode cX12_berth 60 = .ok (.getfield 7, 3) := by decide +kernel
theorem dX12_berth_63 : decode cX12_berth 63 = .ok (.iconst 3, 1) := by decide +kernel
theorem dX12_berth_64 : decode cX12_berth 64 = .ok (.iaload, 1) := by decide +kernel
theorem dX12_berth_65 : decode cX12_berth 65 = .ok (.if_icmp .ge 33, 3) := by decide +kernel
theorem dX12_berth_68 : decode cX12_berth 68 = .ok (.iload_n 3, 1) := by decide +kernel
theorem dX12_berth_69 : decode cX12_berth 69 = .ok (.ifCond .eq 21, 3) := by decide +kernel
theorem dX12_berth_72 : decode cX12_berth 72 = .ok (.aload_n 0, 1) := by decide +kernel
theorem dX12_berth_73 : decode cX12_berth 73 = .ok (.getfield 7, 3) := by decide +kernel
theorem dX12_berth_76 : decode cX12_berth 76 = .ok (.bipush 114, 2) := by decide +kernel
theorem dX12_berth_78 : decode cX12_berth 78 = .ok (.iload 4, 2) := by decide +kernel
theorem dX12_berth_80 : decode cX12_berth 80 = .ok (.iadd, 1) := by decide +kernel
theorem dX12_berth_81 : decode cX12_berth 81 = .ok (.iaload, 1) := by decide +kernel
theorem dX12_berth_82 : decode cX12_berth 82 = .ok (.iload_n 2, 1) := by decide +kernel
theorem dX12_berth_83 : decode cX12_berth 83 = .ok (.if_icmp .eq 7, 3) := by decide +kernel
theorem dX12_berth_86 : decode cX12_berth 86 = .ok (.iconst 1, 1) := by decide +kernel
theorem dX12_berth_87 : decode cX12_berth 87 = .ok (.goto 4, 3) := by decide +kernel
theorem dX12_berth_90 : decode cX12_berth 90 = .ok (.iconst 0, 1) := by decide +kernel
theorem dX12_berth_91 : decode cX12_berth 91 = .ok (.istore_n 3, 1) := by decide +kernel
theorem dX12_berth_92 : decode cX12_berth 92 = .ok (.iinc 4 1, 3) := by decide +kernel
theorem dX12_berth_95 : decode cX12_berth 95 = .ok (.goto (-38), 3) := by decide +kernel
theorem dX12_berth_98 : decode cX12_berth 98 = .ok (.iload_n 3, 1) := by decide +kernel
theorem dX12_berth_99 : decode cX12_berth 99 = .ok (.ifCond .ne 6, 3) := by decide +kernel
theorem dX12_berth_102 : decode cX12_berth 102 = .ok (.bipush (-3), 2) := by decide +kernel
theorem dX12_berth_104 : decode cX12_berth 104 = .ok (.ireturn, 1) := by decide +kernel
theorem dX12_berth_105 : decode cX12_berth 105 = .ok (.aload_n 0, 1) := by decide +kernel
theorem dX12_berth_106 : decode cX12_berth 106 = .ok (.getfield 7, 3) := by decide +kernel
theorem dX12_berth_109 : decode cX12_berth 109 = .ok (.bipush 114, 2) := by decide +kernel
theorem dX12_berth_111 : decode cX12_berth 111 = .ok (.iload_n 1, 1) := by decide +kernel
theorem dX12_berth_112 : decode cX12_berth 112 = .ok (.iadd, 1) := by decide +kernel
theorem dX12_berth_113 : decode cX12_berth 113 = .ok (.iload_n 2, 1) := by decide +kernel
theorem dX12_berth_114 : decode cX12_berth 114 = .ok (.iastore, 1) := by decide +kernel
theorem dX12_berth_115 : decode cX12_berth 115 = .ok (.iconst 1, 1) := by decide +kernel
theorem dX12_berth_116 : decode cX12_berth 116 = .ok (.ireturn, 1) := by decide +kernel
theorem dX12_leave_0 : decode cX12_leave 0 = .ok (.aload_n 0, 1) := by decide +kernel
theorem dX12_leave_1 : decode cX12_leave 1 = .ok (.iload_n 1, 1) := by decide +kernel
theorem dX12_leave_2 : decode cX12_leave 2 = .ok (.invokevirtual 215, 3) := by decide +kernel
theorem dX12_leave_5 : decode cX12_leave 5 = .ok (.ifCond .eq 12, 3) := by decide +kernel
theorem dX12_leave_8 : decode cX12_leave 8 = .ok (.iload_n 2, 1) := by decide +kernel
theorem dX12_leave_9 : decode cX12_leave 9 = .ok (.iconst 0, 1) := by decide +kernel
theorem dX12_leave_10 : decode cX12_leave 10 = .ok (.iconst 2, 1) := by decide +kernel
theorem dX12_leave_11 : decode cX12_leave 11 = .ok (.invokestatic 74, 3) := by decide +kernel
theorem dX12_leave_14 : decode cX12_leave 14 = .ok (.ifCond .ne 5, 3) := by decide +kernel
theorem dX12_leave_17 : decode cX12_leave 17 = .ok (.iconst (-1), 1) := by decide +kernel
theorem dX12_leave_18 : decode cX12_leave 18 = .ok (.ireturn, 1) := by decide +kernel
theorem dX12_leave_19 : decode cX12_leave 19 = .ok (.aload_n 0, 1) := by decide +kernel
theorem dX12_leave_20 : decode cX12_leave 20 = .ok (.getfield 7, 3) := by decide +kernel
theorem dX12_leave_23 : decode cX12_leave 23 = .ok (.bipush 114, 2) := by decide +kernel
theorem dX12_leave_25 : decode cX12_leave 25 = .ok (.iload_n 1, 1) := by decide +kernel
theorem dX12_leave_26 : decode cX12_leave 26 = .ok (.iadd, 1) := by decide +kernel
theorem dX12_leave_27 : decode cX12_leave 27 = .ok (.iaload, 1) := by decide +kernel
theorem dX12_leave_28 : decode cX12_leave 28 = .ok (.istore_n 3, 1) := by decide +kernel
theorem dX12_leave_29 : decode cX12_leave 29 = .ok (.iload_n 3, 1) := by decide +kernel
theorem dX12_leave_30 : decode cX12_leave 30 = .ok (.bipush (-2), 2) := by decide +kernel
theorem dX12_leave_32 : decode cX12_leave 32 = .ok (.if_icmp .lt 13, 3) := by decide +kernel
theorem dX12_leave_35 : decode cX12_leave 35 = .ok (.iload_n 3, 1) := by decide +kernel
theorem dX12_leave_36 : decode cX12_leave 36 = .ok (.bipush (-2), 2) := by decide +kernel
theorem dX12_leave_38 : decode cX12_leave 38 = .ok (.if_icmp .ne 10, 3) := by decide +kernel
theorem dX12_leave_41 : decode cX12_leave 41 = .ok (.iload_n 2, 1) := by decide +kernel
theorem dX12_leave_42 : decode cX12_leave 42 = .ok (.ifCond .ne 6, 3) := by decide +kernel
theorem dX12_leave_45 : decode cX12_leave 45 = .ok (.bipush (-3), 2) := by decide +kernel
theorem dX12_leave_47 : decode cX12_leave 47 = .ok (.ireturn, 1) := by decide +kernel
theorem dX12_leave_48 : decode cX12_leave 48 = .ok (.aload_n 0, 1) := by decide +kernel
theorem dX12_leave_49 : decode cX12_leave 49 = .ok (.getfield 7, 3) := by decide +kernel
theorem dX12_leave_52 : decode cX12_leave 52 = .ok (.bipush 114, 2) := by decide +kernel
theorem dX12_leave_54 : decode cX12_leave 54 = .ok (.iload_n 1, 1) := by decide +kernel
theorem dX12_leave_55 : decode cX12_leave 55 = .ok (.iadd, 1) := by decide +kernel
theorem dX12_leave_56 : decode cX12_leave 56 = .ok (.bipush (-2), 2) := by decide +kernel
theorem dX12_leave_58 : decode cX12_leave 58 = .ok (.iload_n 2, 1) := by decide +kernel
theorem dX12_leave_59 : decode cX12_leave 59 = .ok (.isub, 1) := by decide +kernel
theorem dX12_leave_60 : decode cX12_leave 60 = .ok (.iastore, 1) := by decide +kernel
theorem dX12_leave_61 : decode cX12_leave 61 = .ok (.aload_n 0, 1) := by decide +kernel
theorem dX12_leave_62 : decode cX12_leave 62 = .ok (.getfield 7, 3) := by decide +kernel
theorem dX12_leave_65 : decode cX12_leave 65 = .ok (.bipush 102, 2) := by decide +kernel
theorem dX12_leave_67 : decode cX12_leave 67 = .ok (.iload_n 1, 1) := by decide +kernel
theorem dX12_leave_68 : decode cX12_leave 68 = .ok (.iadd, 1) := by decide +kernel
theorem dX12_leave_69 : decode cX12_leave 69 = .ok (.iaload, 1) := by decide +kernel
theorem dX12_leave_70 : decode cX12_leave 70 = .ok (.ireturn, 1) := by decide +kernel
theorem dX12_goods_0 : decode cX12_goods 0 = .ok (.aload_n 0, 1) := by decide +kernel
theorem dX12_goods_1 : decode cX12_goods 1 = .ok (.iload_n 1, 1) := by decide +kernel
theorem dX12_goods_2 : decode cX12_goods 2 = .ok (.invokevirtual 215, 3) := by decide +kernel
theorem dX12_goods_5 : decode cX12_goods 5 = .ok (.ifCond .ne 5, 3) := by decide +kernel
theorem dX12_goods_8 : decode cX12_goods 8 = .ok (.iconst (-1), 1) := by decide +kernel
theorem dX12_goods_9 : decode cX12_goods 9 = .ok (.ireturn, 1) := by decide +kernel
theorem dX12_goods_10 : decode cX12_goods 10 = .ok (.iload_n 2, 1) := by decide +kernel
theorem dX12_goods_11 : decode cX12_goods 11 = .ok (.iconst 1, 1) := by decide +kernel
theorem dX12_goods_12 : decode cX12_goods 12 = .ok (.sipush 999, 3) := by decide +kernel
theorem dX12_goods_15 : decode cX12_goods 15 = .ok (.invokestatic 74, 3) := by decide +kernel
theorem dX12_goods_18 : decode cX12_goods 18 = .ok (.ifCond .ne 6, 3) := by decide +kernel
theorem dX12_goods_21 : decode cX12_goods 21 = .ok (.bipush (-2), 2) := by decide +kernel
theorem dX12_goods_23 : decode cX12_goods 23 = .ok (.ireturn, 1) := by decide +kernel
theorem dX12_goods_24 : decode cX12_goods 24 = .ok (.aload_n 0, 1) := by decide +kernel
theorem dX12_goods_25 : decode cX12_goods 25 = .ok (.getfield 7, 3) := by decide +kernel
theorem dX12_goods_28 : decode cX12_goods 28 = .ok (.bipush 114, 2) := by decide +kernel
theorem dX12_goods_30 : decode cX12_goods 30 = .ok (.iload_n 1, 1) := by decide +kernel
theorem dX12_goods_31 : decode cX12_goods 31 = .ok (.iadd, 1) := by decide +kernel
theorem dX12_goods_32 : decode cX12_goods 32 = .ok (.iaload, 1) := by decide +kernel
theorem dX12_goods_33 : decode cX12_goods 33 = .ok (.ifCond .lt 16, 3) := by decide +kernel
theorem dX12_goods_36 : decode cX12_goods 36 = .ok (.aload_n 0, 1) := by decide +kernel
theorem dX12_goods_37 : decode cX12_goods 37 = .ok (.getfield 7, 3) := by decide +kernel
theorem dX12_goods_40 : decode cX12_goods 40 = .ok (.bipush 102, 2) := by decide +kernel
theorem dX12_goods_42 : decode cX12_goods 42 = .ok (.iload_n 1, 1) := by decide +kernel
theorem dX12_goods_43 : decode cX12_goods 43 = .ok (.iadd, 1) := by decide +kernel
theorem dX12_goods_44 : decode cX12_goods 44 = .ok (.iaload, 1) := by decide +kernel
theorem dX12_goods_45 : decode cX12_goods 45 = .ok (.iload_n 2, 1) := by decide +kernel
theorem dX12_goods_46 : decode cX12_goods 46 = .ok (.if_icmp .ge 6, 3) := by decide +kernel
theorem dX12_goods_49 : decode cX12_goods 49 = .ok (.bipush (-3), 2) := by decide +kernel
theorem dX12_goods_51 : decode cX12_goods 51 = .ok (.ireturn, 1) := by decide +kernel
theorem dX12_goods_52 : decode cX12_goods 52 = .ok (.aload_n 0, 1) := by decide +kernel
theorem dX12_goods_53 : decode cX12_goods 53 = .ok (.getfield 7, 3) := by decide +kernel
theorem dX12_goods_56 : decode cX12_goods 56 = .ok (.bipush 102, 2) := by decide +kernel
theorem dX12_goods_58 : decode cX12_goods 58 = .ok (.iload_n 1, 1) := by decide +kernel
theorem dX12_goods_59 : decode cX12_goods 59 = .ok (.iadd, 1) := by decide +kernel
theorem dX12_goods_60 : decode cX12_goods 60 = .ok (.dup2, 1) := by decide +kernel
theorem dX12_goods_61 : decode cX12_goods 61 = .ok (.iaload, 1) := by decide +kernel
theorem dX12_goods_62 : decode cX12_goods 62 = .ok (.iload_n 2, 1) := by decide +kernel
theorem dX12_goods_63 : decode cX12_goods 63 = .ok (.isub, 1) := by decide +kernel
theorem dX12_goods_64 : decode cX12_goods 64 = .ok (.iastore, 1) := by decide +kernel
theorem dX12_goods_65 : decode cX12_goods 65 = .ok (.aload_n 0, 1) := by decide +kernel
theorem dX12_goods_66 : decode cX12_goods 66 = .ok (.getfield 7, 3) := by decide +kernel
theorem dX12_goods_69 : decode cX12_goods 69 = .ok (.bipush 50, 2) := by decide +kernel
theorem dX12_goods_71 : decode cX12_goods 71 = .ok (.aload_n 0, 1) := by decide +kernel
theorem dX12_goods_72 : decode cX12_goods 72 = .ok (.getfield 7, 3) := by decide +kernel
theorem dX12_goods_75 : decode cX12_goods 75 = .ok (.bipush 90, 2) := by decide +kernel
theorem dX12_goods_77 : decode cX12_goods 77 = .ok (.iload_n 1, 1) := by decide +kernel
theorem dX12_goods_78 : decode cX12_goods 78 = .ok (.iadd, 1) := by decide +kernel
theorem dX12_goods_79 : decode cX12_goods 79 = .ok (.iaload, 1) := by decide +kernel
theorem dX12_goods_80 : decode cX12_goods 80 = .ok (.iadd, 1) := by decide +kernel
theorem dX12_goods_81 : decode cX12_goods 81 = .ok (.dup2, 1) := by decide +kernel
theorem dX12_goods_82 : decode cX12_goods 82 = .ok (.iaload, 1) := by decide +kernel
theorem dX12_goods_83 : decode cX12_goods 83 = .ok (.iload_n 2, 1) := by decide +kernel
theorem dX12_goods_84 : decode cX12_goods 84 = .ok (.iadd, 1) := by decide +kernel
theorem dX12_goods_85 : decode cX12_goods 85 = .ok (.iastore, 1) := by decide +kernel
theorem dX12_goods_86 : decode cX12_goods 86 = .ok (.aload_n 0, 1) := by decide +kernel
theorem dX12_goods_87 : decode cX12_goods 87 = .ok (.getfield 7, 3) := by decide +kernel
theorem dX12_goods_90 : decode cX12_goods 90 = .ok (.bipush 50, 2) := by decide +kernel
theorem dX12_goods_92 : decode cX12_goods 92 = .ok (.aload_n 0, 1) := by decide +kernel
theorem dX12_goods_93 : decode cX12_goods 93 = .ok (.getfield 7, 3) := by decide +kernel
theorem dX12_goods_96 : decode cX12_goods 96 = .ok (.bipush 90, 2) := by decide +kernel
theorem dX12_goods_98 : decode cX12_goods 98 = .ok (.iload_n 1, 1) := by decide +kernel
theorem dX12_goods_99 : decode cX12_goods 99 = .ok (.iadd, 1) := by decide +kernel
theorem dX12_goods_100 : decode cX12_goods 100 = .ok (.iaload, 1) := by decide +kernel
theorem dX12_goods_101 : decode cX12_goods 101 = .ok (.iadd, 1) := by decide +kernel
theorem dX12_goods_102 : decode cX12_goods 102 = .ok (.iaload, 1) := by decide +kernel
theorem dX12_goods_103 : decode cX12_goods 103 = .ok (.ireturn, 1) := by decide +kernel
theorem dX12_coin_0 : decode cX12_coin 0 = .ok (.iload_n 1, 1) := by decide +kernel
theorem dX12_coin_1 : decode cX12_coin 1 = .ok (.invokestatic 212, 3) := by decide +kernel
theorem dX12_coin_4 : decode cX12_coin 4 = .ok (.ifCond .ne 5, 3) := by decide +kernel
theorem dX12_coin_7 : decode cX12_coin 7 = .ok (.iconst (-1), 1) := by decide +kernel
theorem dX12_coin_8 : decode cX12_coin 8 = .ok (.ireturn, 1) := by decide +kernel
theorem dX12_coin_9 : decode cX12_coin 9 = .ok (.iload_n 2, 1) := by decide +kernel
theorem dX12_coin_10 : decode cX12_coin 10 = .ok (.iconst 1, 1) := by decide +kernel
theorem dX12_coin_11 : decode cX12_coin 11 = .ok (.sipush 999, 3) := by decide +kernel
theorem dX12_coin_14 : decode cX12_coin 14 = .ok (.invokestatic 74, 3) := by decide +kernel
theorem dX12_coin_17 : decode cX12_coin 17 = .ok (.ifCond .ne 6, 3) := by decide +kernel
theorem dX12_coin_20 : decode cX12_coin 20 = .ok (.bipush (-2), 2) := by decide +kernel
theorem dX12_coin_22 : decode cX12_coin 22 = .ok (.ireturn, 1) := by decide +kernel
theorem dX12_coin_23 : decode cX12_coin 23 = .ok (.aload_n 0, 1) := by decide +kernel
theorem dX12_coin_24 : decode cX12_coin 24 = .ok (.getfield 7, 3) := by decide +kernel
theorem dX12_coin_27 : decode cX12_coin 27 = .ok (.bipush 50, 2) := by decide +kernel
theorem dX12_coin_29 : decode cX12_coin 29 = .ok (.iload_n 1, 1) := by decide +kernel
theorem dX12_coin_30 : decode cX12_coin 30 = .ok (.iadd, 1) := by decide +kernel
theorem dX12_coin_31 : decode cX12_coin 31 = .ok (.iaload, 1) := by decide +kernel
theorem dX12_coin_32 : decode cX12_coin 32 = .ok (.iload_n 2, 1) := by decide +kernel
theorem dX12_coin_33 : decode cX12_coin 33 = .ok (.if_icmp .ge 6, 3) := by decide +kernel
theorem dX12_coin_36 : decode cX12_coin 36 = .ok (.bipush (-3), 2) := by decide +kernel
theorem dX12_coin_38 : decode cX12_coin 38 = .ok (.ireturn, 1) := by decide +kernel
theorem dX12_coin_39 : decode cX12_coin 39 = .ok (.aload_n 0, 1) := by decide +kernel
theorem dX12_coin_40 : decode cX12_coin 40 = .ok (.getfield 7, 3) := by decide +kernel
theorem dX12_coin_43 : decode cX12_coin 43 = .ok (.bipush 50, 2) := by decide +kernel
theorem dX12_coin_45 : decode cX12_coin 45 = .ok (.iload_n 1, 1) := by decide +kernel
theorem dX12_coin_46 : decode cX12_coin 46 = .ok (.iadd, 1) := by decide +kernel
theorem dX12_coin_47 : decode cX12_coin 47 = .ok (.dup2, 1) := by decide +kernel
theorem dX12_coin_48 : decode cX12_coin 48 = .ok (.iaload, 1) := by decide +kernel
theorem dX12_coin_49 : decode cX12_coin 49 = .ok (.iload_n 2, 1) := by decide +kernel
theorem dX12_coin_50 : decode cX12_coin 50 = .ok (.isub, 1) := by decide +kernel
theorem dX12_coin_51 : decode cX12_coin 51 = .ok (.iastore, 1) := by decide +kernel
theorem dX12_coin_52 : decode cX12_coin 52 = .ok (.aload_n 0, 1) := by decide +kernel
theorem dX12_coin_53 : decode cX12_coin 53 = .ok (.getfield 7, 3) := by decide +kernel
theorem dX12_coin_56 : decode cX12_coin 56 = .ok (.iload_n 3, 1) := by decide +kernel
theorem dX12_coin_57 : decode cX12_coin 57 = .ok (.ifCond .eq 8, 3) := by decide +kernel
theorem dX12_coin_60 : decode cX12_coin 60 = .ok (.bipush 58, 2) := by decide +kernel
theorem dX12_coin_62 : decode cX12_coin 62 = .ok (.goto 5, 3) := by decide +kernel
theorem dX12_coin_65 : decode cX12_coin 65 = .ok (.bipush 54, 2) := by decide +kernel
theorem dX12_coin_67 : decode cX12_coin 67 = .ok (.iload_n 1, 1) := by decide +kernel
theorem dX12_coin_68 : decode cX12_coin 68 = .ok (.iadd, 1) := by decide +kernel
theorem dX12_coin_69 : decode cX12_coin 69 = .ok (.dup2, 1) := by decide +kernel
theorem dX12_coin_70 : decode cX12_coin 70 = .ok (.iaload, 1) := by decide +kernel
theorem dX12_coin_71 : decode cX12_coin 71 = .ok (.iload_n 2, 1) := by decide +kernel
theorem dX12_coin_72 : decode cX12_coin 72 = .ok (.iadd, 1) := by decide +kernel
theorem dX12_coin_73 : decode cX12_coin 73 = .ok (.iastore, 1) := by decide +kernel
theorem dX12_coin_74 : decode cX12_coin 74 = .ok (.aload_n 0, 1) := by decide +kernel
theorem dX12_coin_75 : decode cX12_coin 75 = .ok (.getfield 7, 3) := by decide +kernel
theorem dX12_coin_78 : decode cX12_coin 78 = .ok (.iconst 4, 1) := by decide +kernel
theorem dX12_coin_79 : decode cX12_coin 79 = .ok (.dup2, 1) := by decide +kernel
theorem dX12_coin_80 : decode cX12_coin 80 = .ok (.iaload, 1) := by decide +kernel
theorem dX12_coin_81 : decode cX12_coin 81 = .ok (.iload_n 3, 1) := by decide +kernel
theorem dX12_coin_82 : decode cX12_coin 82 = .ok (.ifCond .eq 7, 3) := by decide +kernel
theorem dX12_coin_85 : decode cX12_coin 85 = .ok (.iconst 0, 1) := by decide +kernel
theorem dX12_coin_86 : decode cX12_coin 86 = .ok (.goto 14, 3) := by decide +kernel
theorem dX12_coin_89 : decode cX12_coin 89 = .ok (.iload_n 2, 1) := by decide +kernel
theorem dX12_coin_90 : decode cX12_coin 90 = .ok (.aload_n 0, 1) := by decide +kernel
theorem dX12_coin_91 : decode cX12_coin 91 = .ok (.getfield 7, 3) := by decide +kernel
theorem dX12_coin_94 : decode cX12_coin 94 = .ok (.bipush 62, 2) := by decide +kernel
theorem dX12_coin_96 : decode cX12_coin 96 = .ok (.iload_n 1, 1) := by decide +kernel
theorem dX12_coin_97 : decode cX12_coin 97 = .ok (.iadd, 1) := by decide +kernel
theorem dX12_coin_98 : decode cX12_coin 98 = .ok (.iaload, 1) := by decide +kernel
theorem dX12_coin_99 : decode cX12_coin 99 = .ok (.imul, 1) := by decide +kernel
theorem dX12_coin_100 : decode cX12_coin 100 = .ok (.iadd, 1) := by decide +kernel
theorem dX12_coin_101 : decode cX12_coin 101 = .ok (.iastore, 1) := by decide +kernel
theorem dX12_coin_102 : decode cX12_coin 102 = .ok (.aload_n 0, 1) := by decide +kernel
theorem dX12_coin_103 : decode cX12_coin 103 = .ok (.getfield 7, 3) := by decide +kernel
theorem dX12_coin_106 : decode cX12_coin 106 = .ok (.iconst 4, 1) := by decide +kernel
theorem dX12_coin_107 : decode cX12_coin 107 = .ok (.iaload, 1) := by decide +kernel
theorem dX12_coin_108 : decode cX12_coin 108 = .ok (.ireturn, 1) := by decide +kernel
theorem dX12_tariff_0 : decode cX12_tariff 0 = .ok (.iload_n 1, 1) := by decide +kernel
theorem dX12_tariff_1 : decode cX12_tariff 1 = .ok (.iconst 0, 1) := by decide +kernel
theorem dX12_tariff_2 : decode cX12_tariff 2 = .ok (.iconst 1, 1) := by decide +kernel
theorem dX12_tariff_3 : decode cX12_tariff 3 = .ok (.invokestatic 74, 3) := by decide +kernel
theorem dX12_tariff_6 : decode cX12_tariff 6 = .ok (.ifCond .eq 20, 3) := by decide +kernel
theorem dX12_tariff_9 : decode cX12_tariff 9 = .ok (.iload_n 2, 1) := by decide +kernel
theorem dX12_tariff_10 : decode cX12_tariff 10 = .ok (.iconst 0, 1) := by decide +kernel
theorem dX12_tariff_11 : decode cX12_tariff 11 = .ok (.iload_n 1, 1) := by decide +kernel
theorem dX12_tariff_12 : decode cX12_tariff 12 = .ok (.ifCond .ne 7, 3) := by decide +kernel
theorem dX12_tariff_15 : decode cX12_tariff 15 = .ok (.iconst 3, 1) := by decide +kernel
theorem dX12_tariff_16 : decode cX12_tariff 16 = .ok (.goto 4, 3) := by decide +kernel
theorem dX12_tariff_19 : decode cX12_tariff 19 = .ok (.iconst 2, 1) := by decide +kernel
theorem dX12_tariff_20 : decode cX12_tariff 20 = .ok (.invokestatic 74, 3) := by decide +kernel
theorem dX12_tariff_23 : decode cX12_tariff 23 = .ok (.ifCond .ne 5, 3) := by decide +kernel
theorem dX12_tariff_26 : decode cX12_tariff 26 = .ok (.iconst (-1), 1) := by decide +kernel
theorem dX12_tariff_27 : decode cX12_tariff 27 = .ok (.ireturn, 1) := by decide +kernel
theorem dX12_tariff_28 : decode cX12_tariff 28 = .ok (.iload_n 3, 1) := by decide +kernel
theorem dX12_tariff_29 : decode cX12_tariff 29 = .ok (.iconst 0, 1) := by decide +kernel
theorem dX12_tariff_30 : decode cX12_tariff 30 = .ok (.bipush 99, 2) := by decide +kernel
theorem dX12_tariff_32 : decode cX12_tariff 32 = .ok (.invokestatic 74, 3) := by decide +kernel
theorem dX12_tariff_35 : decode cX12_tariff 35 = .ok (.ifCond .ne 6, 3) := by decide +kernel
theorem dX12_tariff_38 : decode cX12_tariff 38 = .ok (.bipush (-2), 2) := by decide +kernel
theorem dX12_tariff_40 : decode cX12_tariff 40 = .ok (.ireturn, 1) := by decide +kernel
theorem dX12_tariff_41 : decode cX12_tariff 41 = .ok (.iload_n 1, 1) := by decide +kernel
theorem dX12_tariff_42 : decode cX12_tariff 42 = .ok (.ifCond .ne 10, 3) := by decide +kernel
theorem dX12_tariff_45 : decode cX12_tariff 45 = .ok (.bipush 62, 2) := by decide +kernel
theorem dX12_tariff_47 : decode cX12_tariff 47 = .ok (.iload_n 2, 1) := by decide +kernel
theorem dX12_tariff_48 : decode cX12_tariff 48 = .ok (.iadd, 1) := by decide +kernel
theorem dX12_tariff_49 : decode cX12_tariff 49 = .ok (.goto 7, 3) := by decide +kernel
theorem dX12_tariff_52 : decode cX12_tariff 52 = .ok (.bipush 66, 2) := by decide +kernel
theorem dX12_tariff_54 : decode cX12_tariff 54 = .ok (.iload_n 2, 1) := by decide +kernel
theorem dX12_tariff_55 : decode cX12_tariff 55 = .ok (.iadd, 1) := by decide +kernel
theorem dX12_tariff_56 : decode cX12_tariff 56 = .ok (.istore 4, 2) := by decide +kernel
theorem dX12_tariff_58 : decode cX12_tariff 58 = .ok (.aload_n 0, 1) := by decide +kernel
theorem dX12_tariff_59 : decode cX12_tariff 59 = .ok (.getfield 7, 3) := by decide +kernel
theorem dX12_tariff_62 : decode cX12_tariff 62 = .ok (.iload 4, 2) := by decide +kernel
theorem dX12_tariff_64 : decode cX12_tariff 64 = .ok (.iaload, 1) := by decide +kernel
theorem dX12_tariff_65 : decode cX12_tariff 65 = .ok (.istore 5, 2) := by decide +kernel
theorem dX12_tariff_67 : decode cX12_tariff 67 = .ok (.aload_n 0, 1) := by decide +kernel
theorem dX12_tariff_68 : decode cX12_tariff 68 = .ok (.getfield 7, 3) := by decide +kernel
