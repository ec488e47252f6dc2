theorem dX12_tariff_71 : decode cX12_tariff 71 = .ok (.iload 4, 2) := by decide +kernel
theorem dX12_tariff_73 : decode cX12_tariff 73 = .ok (.iload_n 3, 1) := by decide +kernel
theorem dX12_tariff_74 : decode cX12_tariff 74 = .ok (.iastore, 1) := by decide +kernel
theorem dX12_tariff_75 : decode cX12_tariff 75 = .ok (.iload 5, 2) := by decide +kernel
theorem dX12_tariff_77 : decode cX12_tariff 77 = .ok (.ireturn, 1) := by decide +kernel
theorem dX12_share_0 : decode cX12_share 0 = .ok (.aload_n 0, 1) := by decide +kernel
theorem dX12_share_1 : decode cX12_share 1 = .ok (.getfield 7, 3) := by decide +kernel
theorem dX12_share_4 : decode cX12_share 4 = .ok (.iconst 4, 1) := by decide +kernel
theorem dX12_share_5 : decode cX12_share 5 = .ok (.iaload, 1) := by decide +kernel
theorem dX12_share_6 : decode cX12_share 6 = .ok (.istore_n 1, 1) := by decide +kernel
theorem dX12_share_7 : decode cX12_share 7 = .ok (.aload_n 0, 1) := by decide +kernel
theorem dX12_share_8 : decode cX12_share 8 = .ok (.getfield 7, 3) := by decide +kernel
theorem dX12_share_11 : decode cX12_share 11 = .ok (.bipush 66, 2) := by decide +kernel
theorem dX12_share_13 : decode cX12_share 13 = .ok (.iaload, 1) := by decide +kernel
theorem dX12_share_14 : decode cX12_share 14 = .ok (.aload_n 0, 1) := by decide +kernel
theorem dX12_share_15 : decode cX12_share 15 = .ok (.getfield 7, 3) := by decide +kernel
theorem dX12_share_18 : decode cX12_share 18 = .ok (.bipush 67, 2) := by decide +kernel
theorem dX12_share_20 : decode cX12_share 20 = .ok (.iaload, 1) := by decide +kernel
theorem dX12_share_21 : decode cX12_share 21 = .ok (.iadd, 1) := by decide +kernel
theorem dX12_share_22 : decode cX12_share 22 = .ok (.aload_n 0, 1) := by decide +kernel
theorem dX12_share_23 : decode cX12_share 23 = .ok (.getfield 7, 3) := by decide +kernel
theorem dX12_share_26 : decode cX12_share 26 = .ok (.bipush 68, 2) := by decide +kernel
theorem dX12_share_28 : decode cX12_share 28 = .ok (.iaload, 1) := by decide +kernel
theorem dX12_share_29 : decode cX12_share 29 = .ok (.iadd, 1) := by decide +kernel
theorem dX12_share_30 : decode cX12_share 30 = .ok (.istore_n 2, 1) := by decide +kernel
theorem dX12_share_31 : decode cX12_share 31 = .ok (.iload_n 1, 1) := by decide +kernel
theorem dX12_share_32 : decode cX12_share 32 = .ok (.istore_n 3, 1) := by decide +kernel
theorem dX12_share_33 : decode cX12_share 33 = .ok (.iconst 0, 1) := by decide +kernel
theorem dX12_share_34 : decode cX12_share 34 = .ok (.istore 4, 2) := by decide +kernel
theorem dX12_share_36 : decode cX12_share 36 = .ok (.iload 4, 2) := by decide +kernel
theorem dX12_share_38 : decode cX12_share 38 = .ok (.iconst 3, 1) := by decide +kernel
theorem dX12_share_39 : decode cX12_share 39 = .ok (.if_icmp .ge 90, 3) := by decide +kernel
theorem dX12_share_42 : decode cX12_share 42 = .ok (.iload_n 2, 1) := by decide +kernel
theorem dX12_share_43 : decode cX12_share 43 = .ok (.ifCond .ne 7, 3) := by decide +kernel
theorem dX12_share_46 : decode cX12_share 46 = .ok (.lconst 1, 1) := by decide +kernel
theorem dX12_share_47 : decode cX12_share 47 = .ok (.goto 14, 3) := by decide +kernel
theorem dX12_share_50 : decode cX12_share 50 = .ok (.aload_n 0, 1) := by decide +kernel
theorem dX12_share_51 : decode cX12_share 51 = .ok (.getfield 7, 3) := by decide +kernel
theorem dX12_share_54 : decode cX12_share 54 = .ok (.bipush 66, 2) := by decide +kernel
theorem dX12_share_56 : decode cX12_share 56 = .ok (.iload 4, 2) := by decide +kernel
theorem dX12_share_58 : decode cX12_share 58 = .ok (.iadd, 1) := by decide +kernel
theorem dX12_share_59 : decode cX12_share 59 = .ok (.iaload, 1) := by decide +kernel
theorem dX12_share_60 : decode cX12_share 60 = .ok (.i2l, 1) := by decide +kernel
theorem dX12_share_61 : decode cX12_share 61 = .ok (.lstore 5, 2) := by decide +kernel
theorem dX12_share_63 : decode cX12_share 63 = .ok (.iload_n 2, 1) := by decide +kernel
theorem dX12_share_64 : decode cX12_share 64 = .ok (.ifCond .ne 9, 3) := by decide +kernel
theorem dX12_share_67 : decode cX12_share 67 = .ok (.ldc2_w 218, 3) := by decide +kernel
theorem dX12_share_70 : decode cX12_share 70 = .ok (.goto 5, 3) := by decide +kernel
theorem dX12_share_73 : decode cX12_share 73 = .ok (.iload_n 2, 1) := by decide +kernel
theorem dX12_share_74 : decode cX12_share 74 = .ok (.i2l, 1) := by decide +kernel
theorem dX12_share_75 : decode cX12_share 75 = .ok (.lstore 7, 2) := by decide +kernel
theorem dX12_share_77 : decode cX12_share 77 = .ok (.iload_n 1, 1) := by decide +kernel
theorem dX12_share_78 : decode cX12_share 78 = .ok (.i2l, 1) := by decide +kernel
theorem dX12_share_79 : decode cX12_share 79 = .ok (.lload 5, 2) := by decide +kernel
theorem dX12_share_81 : decode cX12_share 81 = .ok (.lmul, 1) := by decide +kernel
theorem dX12_share_82 : decode cX12_share 82 = .ok (.lload 7, 2) := by decide +kernel
theorem dX12_share_84 : decode cX12_share 84 = .ok (.ldiv, 1) := by decide +kernel
theorem dX12_share_85 : decode cX12_share 85 = .ok (.l2i, 1) := by decide +kernel
theorem dX12_share_86 : decode cX12_share 86 = .ok (.istore 9, 2) := by decide +kernel
theorem dX12_share_88 : decode cX12_share 88 = .ok (.aload_n 0, 1) := by decide +kernel
theorem dX12_share_89 : decode cX12_share 89 = .ok (.getfield 49, 3) := by decide +kernel
theorem dX12_share_92 : decode cX12_share 92 = .ok (.iload 4, 2) := by decide +kernel
theorem dX12_share_94 : decode cX12_share 94 = .ok (.iload_n 1, 1) := by decide +kernel
theorem dX12_share_95 : decode cX12_share 95 = .ok (.i2l, 1) := by decide +kernel
theorem dX12_share_96 : decode cX12_share 96 = .ok (.lload 5, 2) := by decide +kernel
theorem dX12_share_98 : decode cX12_share 98 = .ok (.lmul, 1) := by decide +kernel
theorem dX12_share_99 : decode cX12_share 99 = .ok (.lload 7, 2) := by decide +kernel
theorem dX12_share_101 : decode cX12_share 101 = .ok (.lrem, 1) := by decide +kernel
theorem dX12_share_102 : decode cX12_share 102 = .ok (.lastore, 1) := by decide +kernel
theorem dX12_share_103 : decode cX12_share 103 = .ok (.aload_n 0, 1) := by decide +kernel
theorem dX12_share_104 : decode cX12_share 104 = .ok (.getfield 7, 3) := by decide +kernel
theorem dX12_share_107 : decode cX12_share 107 = .ok (.bipush 69, 2) := by decide +kernel
theorem dX12_share_109 : decode cX12_share 109 = .ok (.iload 4, 2) := by decide +kernel
theorem dX12_share_111 : decode cX12_share 111 = .ok (.iadd, 1) := by decide +kernel
theorem dX12_share_112 : decode cX12_share 112 = .ok (.dup2, 1) := by decide +kernel
theorem dX12_share_113 : decode cX12_share 113 = .ok (.iaload, 1) := by decide +kernel
theorem dX12_share_114 : decode cX12_share 114 = .ok (.iload 9, 2) := by decide +kernel
theorem dX12_share_116 : decode cX12_share 116 = .ok (.iadd, 1) := by decide +kernel
theorem dX12_share_117 : decode cX12_share 117 = .ok (.iastore, 1) := by decide +kernel
theorem dX12_share_118 : decode cX12_share 118 = .ok (.iload_n 3, 1) := by decide +kernel
theorem dX12_share_119 : decode cX12_share 119 = .ok (.iload 9, 2) := by decide +kernel
theorem dX12_share_121 : decode cX12_share 121 = .ok (.isub, 1) := by decide +kernel
theorem dX12_share_122 : decode cX12_share 122 = .ok (.istore_n 3, 1) := by decide +kernel
theorem dX12_share_123 : decode cX12_share 123 = .ok (.iinc 4 1, 3) := by decide +kernel
theorem dX12_share_126 : decode cX12_share 126 = .ok (.goto (-90), 3) := by decide +kernel
theorem dX12_share_129 : decode cX12_share 129 = .ok (.iload_n 3, 1) := by decide +kernel
theorem dX12_share_130 : decode cX12_share 130 = .ok (.ifCond .le 81, 3) := by decide +kernel
theorem dX12_share_133 : decode cX12_share 133 = .ok (.aload_n 0, 1) := by decide +kernel
theorem dX12_share_134 : decode cX12_share 134 = .ok (.getfield 49, 3) := by decide +kernel
theorem dX12_share_137 : decode cX12_share 137 = .ok (.iconst 1, 1) := by decide +kernel
theorem dX12_share_138 : decode cX12_share 138 = .ok (.laload, 1) := by decide +kernel
theorem dX12_share_139 : decode cX12_share 139 = .ok (.aload_n 0, 1) := by decide +kernel
theorem dX12_share_140 : decode cX12_share 140 = .ok (.getfield 49, 3) := by decide +kernel
theorem dX12_share_143 : decode cX12_share 143 = .ok (.iconst 0, 1) := by decide +kernel
theorem dX12_share_144 : decode cX12_share 144 = .ok (.laload, 1) := by decide +kernel
theorem dX12_share_145 : decode cX12_share 145 = .ok (.lcmp, 1) := by decide +kernel
theorem dX12_share_146 : decode cX12_share 146 = .ok (.ifCond .le 7, 3) := by decide +kernel
theorem dX12_share_149 : decode cX12_share 149 = .ok (.iconst 1, 1) := by decide +kernel
theorem dX12_share_150 : decode cX12_share 150 = .ok (.goto 4, 3) := by decide +kernel
theorem dX12_share_153 : decode cX12_share 153 = .ok (.iconst 0, 1) := by decide +kernel
theorem dX12_share_154 : decode cX12_share 154 = .ok (.istore 4, 2) := by decide +kernel
theorem dX12_share_156 : decode cX12_share 156 = .ok (.aload_n 0, 1) := by decide +kernel
theorem dX12_share_157 : decode cX12_share 157 = .ok (.getfield 49, 3) := by decide +kernel
theorem dX12_share_160 : decode cX12_share 160 = .ok (.iconst 2, 1) := by decide +kernel
theorem dX12_share_161 : decode cX12_share 161 = .ok (.laload, 1) := by decide +kernel
theorem dX12_share_162 : decode cX12_share 162 = .ok (.aload_n 0, 1) := by decide +kernel
theorem dX12_share_163 : decode cX12_share 163 = .ok (.getfield 49, 3) := by decide +kernel
theorem dX12_share_166 : decode cX12_share 166 = .ok (.iload 4, 2) := by decide +kernel
theorem dX12_share_168 : decode cX12_share 168 = .ok (.laload, 1) := by decide +kernel
theorem dX12_share_169 : decode cX12_share 169 = .ok (.lcmp, 1) := by decide +kernel
theorem dX12_share_170 : decode cX12_share 170 = .ok (.ifCond .le 7, 3) := by decide +kernel
theorem dX12_share_173 : decode cX12_share 173 = .ok (.iconst 2, 1) := by decide +kernel
theorem dX12_share_174 : decode cX12_share 174 = .ok (.goto 5, 3) := by decide +kernel
theorem dX12_share_177 : decode cX12_share 177 = .ok (.iload 4, 2) := by decide +kernel
theorem dX12_share_179 : decode cX12_share 179 = .ok (.istore 4, 2) := by decide +kernel
theorem dX12_share_181 : decode cX12_share 181 = .ok (.aload_n 0, 1) := by decide +kernel
theorem dX12_share_182 : decode cX12_share 182 = .ok (.getfield 7, 3) := by decide +kernel
theorem dX12_share_185 : decode cX12_share 185 = .ok (.bipush 69, 2) := by decide +kernel
theorem dX12_share_187 : decode cX12_share 187 = .ok (.iload 4, 2) := by decide +kernel
theorem dX12_share_189 : decode cX12_share 189 = .ok (.iadd, 1) := by decide +kernel
theorem dX12_share_190 : decode cX12_share 190 = .ok (.dup2, 1) := by decide +kernel
theorem dX12_share_191 : decode cX12_share 191 = .ok (.iaload, 1) := by decide +kernel
theorem dX12_share_192 : decode cX12_share 192 = .ok (.iconst 1, 1) := by decide +kernel
theorem dX12_share_193 : decode cX12_share 193 = .ok (.iadd, 1) := by decide +kernel
theorem dX12_share_194 : decode cX12_share 194 = .ok (.iastore, 1) := by decide +kernel
theorem dX12_share_195 : decode cX12_share 195 = .ok (.aload_n 0, 1) := by decide +kernel
theorem dX12_share_196 : decode cX12_share 196 = .ok (.getfield 49, 3) := by decide +kernel
theorem dX12_share_199 : decode cX12_share 199 = .ok (.iload 4, 2) := by decide +kernel
theorem dX12_share_201 : decode cX12_share 201 = .ok (.ldc2_w 220, 3) := by decide +kernel
theorem dX12_share_204 : decode cX12_share 204 = .ok (.lastore, 1) := by decide +kernel
theorem dX12_share_205 : decode cX12_share 205 = .ok (.iinc 3 (-1), 3) := by decide +kernel
theorem dX12_share_208 : decode cX12_share 208 = .ok (.goto (-79), 3) := by decide +kernel
theorem dX12_share_211 : decode cX12_share 211 = .ok (.aload_n 0, 1) := by decide +kernel
theorem dX12_share_212 : decode cX12_share 212 = .ok (.getfield 7, 3) := by decide +kernel
theorem dX12_share_215 : decode cX12_share 215 = .ok (.iconst 4, 1) := by decide +kernel
theorem dX12_share_216 : decode cX12_share 216 = .ok (.iconst 0, 1) := by decide +kernel
theorem dX12_share_217 : decode cX12_share 217 = .ok (.iastore, 1) := by decide +kernel
theorem dX12_share_218 : decode cX12_share 218 = .ok (.iload_n 1, 1) := by decide +kernel
theorem dX12_share_219 : decode cX12_share 219 = .ok (.ireturn, 1) := by decide +kernel
theorem dX12_whole_0 : decode cX12_whole 0 = .ok (.iload_n 1, 1) := by decide +kernel
theorem dX12_whole_1 : decode cX12_whole 1 = .ok (.tableswitch 175 0 5 #[39, 63, 85, 107, 129, 152], 39) := by decide +kernel
theorem dX12_whole_40 : decode cX12_whole 40 = .ok (.iload_n 2, 1) := by decide +kernel
theorem dX12_whole_41 : decode cX12_whole 41 = .ok (.iconst 0, 1) := by decide +kernel
theorem dX12_whole_42 : decode cX12_whole 42 = .ok (.iconst 2, 1) := by decide +kernel
theorem dX12_whole_43 : decode cX12_whole 43 = .ok (.invokestatic 74, 3) := by decide +kernel
theorem dX12_whole_46 : decode cX12_whole 46 = .ok (.ifCond .eq 15, 3) := by decide +kernel
theorem dX12_whole_49 : decode cX12_whole 49 = .ok (.aload_n 0, 1) := by decide +kernel
theorem dX12_whole_50 : decode cX12_whole 50 = .ok (.getfield 7, 3) := by decide +kernel
theorem dX12_whole_53 : decode cX12_whole 53 = .ok (.bipush 69, 2) := by decide +kernel
theorem dX12_whole_55 : decode cX12_whole 55 = .ok (.iload_n 2, 1) := by decide +kernel
theorem dX12_whole_56 : decode cX12_whole 56 = .ok (.iadd, 1) := by decide +kernel
theorem dX12_whole_57 : decode cX12_whole 57 = .ok (.iaload, 1) := by decide +kernel
theorem dX12_whole_58 : decode cX12_whole 58 = .ok (.goto 5, 3) := by decide +kernel
theorem dX12_whole_61 : decode cX12_whole 61 = .ok (.bipush (-5), 2) := by decide +kernel
theorem dX12_whole_63 : decode cX12_whole 63 = .ok (.ireturn, 1) := by decide +kernel
theorem dX12_whole_64 : decode cX12_whole 64 = .ok (.iload_n 2, 1) := by decide +kernel
theorem dX12_whole_65 : decode cX12_whole 65 = .ok (.invokestatic 212, 3) := by decide +kernel
theorem dX12_whole_68 : decode cX12_whole 68 = .ok (.ifCond .eq 15, 3) := by decide +kernel
theorem dX12_whole_71 : decode cX12_whole 71 = .ok (.aload_n 0, 1) := by decide +kernel
theorem dX12_whole_72 : decode cX12_whole 72 = .ok (.getfield 7, 3) := by decide +kernel
theorem dX12_whole_75 : decode cX12_whole 75 = .ok (.bipush 50, 2) := by decide +kernel
theorem dX12_whole_77 : decode cX12_whole 77 = .ok (.iload_n 2, 1) := by decide +kernel
theorem dX12_whole_78 : decode cX12_whole 78 = .ok (.iadd, 1) := by decide +kernel
theorem dX12_whole_79 : decode cX12_whole 79 = .ok (.iaload, 1) := by decide +kernel
theorem dX12_whole_80 : decode cX12_whole 80 = .ok (.goto 5, 3) := by decide +kernel
theorem dX12_whole_83 : decode cX12_whole 83 = .ok (.bipush (-5), 2) := by decide +kernel
theorem dX12_whole_85 : decode cX12_whole 85 = .ok (.ireturn, 1) := by decide +kernel
theorem dX12_whole_86 : decode cX12_whole 86 = .ok (.iload_n 2, 1) := by decide +kernel
theorem dX12_whole_87 : decode cX12_whole 87 = .ok (.invokestatic 212, 3) := by decide +kernel
theorem dX12_whole_90 : decode cX12_whole 90 = .ok (.ifCond .eq 15, 3) := by decide +kernel
theorem dX12_whole_93 : decode cX12_whole 93 = .ok (.aload_n 0, 1) := by decide +kernel
theorem dX12_whole_94 : decode cX12_whole 94 = .ok (.getfield 7, 3) := by decide +kernel
theorem dX12_whole_97 : decode cX12_whole 97 = .ok (.bipush 54, 2) := by decide +kernel
theorem dX12_whole_99 : decode cX12_whole 99 = .ok (.iload_n 2, 1) := by decide +kernel
theorem dX12_whole_100 : decode cX12_whole 100 = .ok (.iadd, 1) := by decide +kernel
theorem dX12_whole_101 : decode cX12_whole 101 = .ok (.iaload, 1) := by decide +kernel
theorem dX12_whole_102 : decode cX12_whole 102 = .ok (.goto 5, 3) := by decide +kernel
theorem dX12_whole_105 : decode cX12_whole 105 = .ok (.bipush (-5), 2) := by decide +kernel
theorem dX12_whole_107 : decode cX12_whole 107 = .ok (.ireturn, 1) := by decide +kernel
theorem dX12_whole_108 : decode cX12_whole 108 = .ok (.iload_n 2, 1) := by decide +kernel
theorem dX12_whole_109 : decode cX12_whole 109 = .ok (.invokestatic 212, 3) := by decide +kernel
theorem dX12_whole_112 : decode cX12_whole 112 = .ok (.ifCond .eq 15, 3) := by decide +kernel
theorem dX12_whole_115 : decode cX12_whole 115 = .ok (.aload_n 0, 1) := by decide +kernel
theorem dX12_whole_116 : decode cX12_whole 116 = .ok (.getfield 7, 3) := by decide +kernel
theorem dX12_whole_119 : decode cX12_whole 119 = .ok (.bipush 58, 2) := by decide +kernel
theorem dX12_whole_121 : decode cX12_whole 121 = .ok (.iload_n 2, 1) := by decide +kernel
theorem dX12_whole_122 : decode cX12_whole 122 = .ok (.iadd, 1) := by decide +kernel
theorem dX12_whole_123 : decode cX12_whole 123 = .ok (.iaload, 1) := by decide +kernel
theorem dX12_whole_124 : decode cX12_whole 124 = .ok (.goto 5, 3) := by decide +kernel
theorem dX12_whole_127 : decode cX12_whole 127 = .ok (.bipush (-5), 2) := by decide +kernel
theorem dX12_whole_129 : decode cX12_whole 129 = .ok (.ireturn, 1) := by decide +kernel
theorem dX12_whole_130 : decode cX12_whole 130 = .ok (.aload_n 0, 1) := by decide +kernel
theorem dX12_whole_131 : decode cX12_whole 131 = .ok (.iload_n 2, 1) := by decide +kernel
theorem dX12_whole_132 : decode cX12_whole 132 = .ok (.invokevirtual 215, 3) := by decide +kernel
theorem dX12_whole_135 : decode cX12_whole 135 = .ok (.ifCond .eq 15, 3) := by decide +kernel
theorem dX12_whole_138 : decode cX12_whole 138 = .ok (.aload_n 0, 1) := by decide +kernel
theorem dX12_whole_139 : decode cX12_whole 139 = .ok (.getfield 7, 3) := by decide +kernel
theorem dX12_whole_142 : decode cX12_whole 142 = .ok (.bipush 102, 2) := by decide +kernel
theorem dX12_whole_144 : decode cX12_whole 144 = .ok (.iload_n 2, 1) := by decide +kernel
theorem dX12_whole_145 : decode cX12_whole 145 = .ok (.iadd, 1) := by decide +kernel
theorem dX12_whole_146 : decode cX12_whole 146 = .ok (.iaload, 1) := by decide +kernel
theorem dX12_whole_147 : decode cX12_whole 147 = .ok (.goto 5, 3) := by decide +kernel
theorem dX12_whole_150 : decode cX12_whole 150 = .ok (.bipush (-5), 2) := by decide +kernel
theorem dX12_whole_152 : decode cX12_whole 152 = .ok (.ireturn, 1) := by decide +kernel
theorem dX12_whole_153 : decode cX12_whole 153 = .ok (.aload_n 0, 1) := by decide +kernel
theorem dX12_whole_154 : decode cX12_whole 154 = .ok (.iload_n 2, 1) := by decide +kernel
theorem dX12_whole_155 : decode cX12_whole 155 = .ok (.invokevirtual 215, 3) := by decide +kernel
theorem dX12_whole_158 : decode cX12_whole 158 = .ok (.ifCond .eq 15, 3) := by decide +kernel
theorem dX12_whole_161 : decode cX12_whole 161 = .ok (.aload_n 0, 1) := by decide +kernel
theorem dX12_whole_162 : decode cX12_whole 162 = .ok (.getfield 7, 3) := by decide +kernel
theorem dX12_whole_165 : decode cX12_whole 165 = .ok (.bipush 114, 2) := by decide +kernel
theorem dX12_whole_167 : decode cX12_whole 167 = .ok (.iload_n 2, 1) := by decide +kernel
theorem dX12_whole_168 : decode cX12_whole 168 = .ok (.iadd, 1) := by decide +kernel
theorem dX12_whole_169 : decode cX12_whole 169 = .ok (.iaload, 1) := by decide +kernel
theorem dX12_whole_170 : decode cX12_whole 170 = .ok (.goto 5, 3) := by decide +kernel
theorem dX12_whole_173 : decode cX12_whole 173 = .ok (.bipush (-5), 2) := by decide +kernel
theorem dX12_whole_175 : decode cX12_whole 175 = .ok (.ireturn, 1) := by decide +kernel
theorem dX12_whole_176 : decode cX12_whole 176 = .ok (.bipush (-5), 2) := by decide +kernel
theorem dX12_whole_178 : decode cX12_whole 178 = .ok (.ireturn, 1) := by decide +kernel
theorem dX12_isFirm_0 : decode cX12_isFirm 0 = .ok (.iload_n 1, 1) := by decide +kernel
theorem dX12_isFirm_1 : decode cX12_isFirm 1 = .ok (.iconst 0, 1) := by decide +kernel
theorem dX12_isFirm_2 : decode cX12_isFirm 2 = .ok (.aload_n 0, 1) := by decide +kernel
theorem dX12_isFirm_3 : decode cX12_isFirm 3 = .ok (.getfield 7, 3) := by decide +kernel
theorem dX12_isFirm_6 : decode cX12_isFirm 6 = .ok (.iconst 5, 1) := by decide +kernel
theorem dX12_isFirm_7 : decode cX12_isFirm 7 = .ok (.iaload, 1) := by decide +kernel
theorem dX12_isFirm_8 : decode cX12_isFirm 8 = .ok (.iconst 1, 1) := by decide +kernel
theorem dX12_isFirm_9 : decode cX12_isFirm 9 = .ok (.isub, 1) := by decide +kernel
theorem dX12_isFirm_10 : decode cX12_isFirm 10 = .ok (.invokestatic 74, 3) := by decide +kernel
theorem dX12_isFirm_13 : decode cX12_isFirm 13 = .ok (.ireturn, 1) := by decide +kernel
theorem dX12_firm_0 : decode cX12_firm 0 = .ok (.iload_n 1, 1) := by decide +kernel
theorem dX12_firm_1 : decode cX12_firm 1 = .ok (.iconst 0, 1) := by decide +kernel
theorem dX12_firm_2 : decode cX12_firm 2 = .ok (.iconst 2, 1) := by decide +kernel
theorem dX12_firm_3 : decode cX12_firm 3 = .ok (.invokestatic 74, 3) := by decide +kernel
theorem dX12_firm_6 : decode cX12_firm 6 = .ok (.ifCond .eq 16, 3) := by decide +kernel
theorem dX12_firm_9 : decode cX12_firm 9 = .ok (.iload_n 2, 1) := by decide +kernel
theorem dX12_firm_10 : decode cX12_firm 10 = .ok (.iconst (-1), 1) := by decide +kernel
theorem dX12_firm_11 : decode cX12_firm 11 = .ok (.if_icmp .eq 13, 3) := by decide +kernel
theorem dX12_firm_14 : decode cX12_firm 14 = .ok (.aload_n 0, 1) := by decide +kernel
theorem dX12_firm_15 : decode cX12_firm 15 = .ok (.iload_n 2, 1) := by decide +kernel
theorem dX12_firm_16 : decode cX12_firm 16 = .ok (.invokevirtual 222, 3) := by decide +kernel
theorem dX12_firm_19 : decode cX12_firm 19 = .ok (.ifCond .ne 5, 3) := by decide +kernel
theorem dX12_firm_22 : decode cX12_firm 22 = .ok (.iconst (-1), 1) := by decide +kernel
theorem dX12_firm_23 : decode cX12_firm 23 = .ok (.ireturn, 1) := by decide +kernel
theorem dX12_firm_24 : decode cX12_firm 24 = .ok (.aload_n 0, 1) := by decide +kernel
theorem dX12_firm_25 : decode cX12_firm 25 = .ok (.getfield 7, 3) := by decide +kernel
theorem dX12_firm_28 : decode cX12_firm 28 = .ok (.iconst 5, 1) := by decide +kernel
theorem dX12_firm_29 : decode cX12_firm 29 = .ok (.iaload, 1) := by decide +kernel
theorem dX12_firm_30 : decode cX12_firm 30 = .ok (.bipush 10, 2) := by decide +kernel
theorem dX12_firm_32 : decode cX12_firm 32 = .ok (.if_icmp .ne 6, 3) := by decide +kernel
theorem dX12_firm_35 : decode cX12_firm 35 = .ok (.bipush (-4), 2) := by decide +kernel
theorem dX12_firm_37 : decode cX12_firm 37 = .ok (.ireturn, 1) := by decide +kernel
theorem dX12_firm_38 : decode cX12_firm 38 = .ok (.aload_n 0, 1) := by decide +kernel
theorem dX12_firm_39 : decode cX12_firm 39 = .ok (.getfield 7, 3) := by decide +kernel
theorem dX12_firm_42 : decode cX12_firm 42 = .ok (.sipush 130, 3) := by decide +kernel
theorem dX12_firm_45 : decode cX12_firm 45 = .ok (.aload_n 0, 1) := by decide +kernel
theorem dX12_firm_46 : decode cX12_firm 46 = .ok (.getfield 7, 3) := by decide +kernel
theorem dX12_firm_49 : decode cX12_firm 49 = .ok (.iconst 5, 1) := by decide +kernel
theorem dX12_firm_50 : decode cX12_firm 50 = .ok (.iaload, 1) := by decide +kernel
theorem dX12_firm_51 : decode cX12_firm 51 = .ok (.iadd, 1) := by decide +kernel
theorem dX12_firm_52 : decode cX12_firm 52 = .ok (.iload_n 1, 1) := by decide +kernel
theorem dX12_firm_53 : decode cX12_firm 53 = .ok (.iastore, 1) := by decide +kernel
theorem dX12_firm_54 : decode cX12_firm 54 = .ok (.aload_n 0, 1) := by decide +kernel
theorem dX12_firm_55 : decode cX12_firm 55 = .ok (.getfield 7, 3) := by decide +kernel
theorem dX12_firm_58 : decode cX12_firm 58 = .ok (.sipush 140, 3) := by decide +kernel
theorem dX12_firm_61 : decode cX12_firm 61 = .ok (.aload_n 0, 1) := by decide +kernel
theorem dX12_firm_62 : decode cX12_firm 62 = .ok (.getfield 7, 3) := by decide +kernel
theorem dX12_firm_65 : decode cX12_firm 65 = .ok (.iconst 5, 1) := by decide +kernel
theorem dX12_firm_66 : decode cX12_firm 66 = .ok (.iaload, 1) := by decide +kernel
theorem dX12_firm_67 : decode cX12_firm 67 = .ok (.iadd, 1) := by decide +kernel
theorem dX12_firm_68 : decode cX12_firm 68 = .ok (.iload_n 2, 1) := by decide +kernel
theorem dX12_firm_69 : decode cX12_firm 69 = .ok (.iastore, 1) := by decide +kernel
theorem dX12_firm_70 : decode cX12_firm 70 = .ok (.aload_n 0, 1) := by decide +kernel
theorem dX12_firm_71 : decode cX12_firm 71 = .ok (.getfield 7, 3) := by decide +kernel
theorem dX12_firm_74 : decode cX12_firm 74 = .ok (.iconst 5, 1) := by decide +kernel
theorem dX12_firm_75 : decode cX12_firm 75 = .ok (.dup2, 1) := by decide +kernel
theorem dX12_firm_76 : decode cX12_firm 76 = .ok (.iaload, 1) := by decide +kernel
theorem dX12_firm_77 : decode cX12_firm 77 = .ok (.iconst 1, 1) := by decide +kernel
theorem dX12_firm_78 : decode cX12_firm 78 = .ok (.iadd, 1) := by decide +kernel
theorem dX12_firm_79 : decode cX12_firm 79 = .ok (.iastore, 1) := by decide +kernel
theorem dX12_firm_80 : decode cX12_firm 80 = .ok (.aload_n 0, 1) := by decide +kernel
theorem dX12_firm_81 : decode cX12_firm 81 = .ok (.getfield 7, 3) := by decide +kernel
theorem dX12_firm_84 : decode cX12_firm 84 = .ok (.iconst 5, 1) := by decide +kernel
theorem dX12_firm_85 : decode cX12_firm 85 = .ok (.iaload, 1) := by decide +kernel
theorem dX12_firm_86 : decode cX12_firm 86 = .ok (.iconst 1, 1) := by decide +kernel
theorem dX12_firm_87 : decode cX12_firm 87 = .ok (.isub, 1) := by decide +kernel
theorem dX12_firm_88 : decode cX12_firm 88 = .ok (.ireturn, 1) := by decide +kernel
theorem dX12_used_0 : decode cX12_used 0 = .ok (.aload_n 0, 1) := by decide +kernel
theorem dX12_used_1 : decode cX12_used 1 = .ok (.iload_n 1, 1) := by decide +kernel
theorem dX12_used_2 : decode cX12_used 2 = .ok (.invokevirtual 222, 3) := by decide +kernel
theorem dX12_used_5 : decode cX12_used 5 = .ok (.ifCond .ne 5, 3) := by decide +kernel
theorem dX12_used_8 : decode cX12_used 8 = .ok (.iconst (-1), 1) := by decide +kernel
theorem dX12_used_9 : decode cX12_used 9 = .ok (.ireturn, 1) := by decide +kernel
theorem dX12_used_10 : decode cX12_used 10 = .ok (.iload_n 2, 1) := by decide +kernel
theorem dX12_used_11 : decode cX12_used 11 = .ok (.iconst 1, 1) := by decide +kernel
theorem dX12_used_12 : decode cX12_used 12 = .ok (.sipush 999, 3) := by decide +kernel
theorem dX12_used_15 : decode cX12_used 15 = .ok (.invokestatic 74, 3) := by decide +kernel
theorem dX12_used_18 : decode cX12_used 18 = .ok (.ifCond .ne 6, 3) := by decide +kernel
theorem dX12_used_21 : decode cX12_used 21 = .ok (.bipush (-2), 2) := by decide +kernel
theorem dX12_used_23 : decode cX12_used 23 = .ok (.ireturn, 1) := by decide +kernel
theorem dX12_used_24 : decode cX12_used 24 = .ok (.aload_n 0, 1) := by decide +kernel
theorem dX12_used_25 : decode cX12_used 25 = .ok (.getfield 7, 3) := by decide +kernel
theorem dX12_used_28 : decode cX12_used 28 = .ok (.bipush 11, 2) := by decide +kernel
theorem dX12_used_30 : decode cX12_used 30 = .ok (.iaload, 1) := by decide +kernel
theorem dX12_used_31 : decode cX12_used 31 = .ok (.bipush 40, 2) := by decide +kernel
theorem dX12_used_33 : decode cX12_used 33 = .ok (.if_icmp .ne 6, 3) := by decide +kernel
theorem dX12_used_36 : decode cX12_used 36 = .ok (.bipush (-4), 2) := by decide +kernel
theorem dX12_used_38 : decode cX12_used 38 = .ok (.ireturn, 1) := by decide +kernel
theorem dX12_used_39 : decode cX12_used 39 = .ok (.aload_n 0, 1) := by decide +kernel
theorem dX12_used_40 : decode cX12_used 40 = .ok (.getfield 7, 3) := by decide +kernel
theorem dX12_used_43 : decode cX12_used 43 = .ok (.sipush 150, 3) := by decide +kernel
theorem dX12_used_46 : decode cX12_used 46 = .ok (.aload_n 0, 1) := by decide +kernel
theorem dX12_used_47 : decode cX12_used 47 = .ok (.getfield 7, 3) := by decide +kernel
theorem dX12_used_50 : decode cX12_used 50 = .ok (.bipush 11, 2) := by decide +kernel
theorem dX12_used_52 : decode cX12_used 52 = .ok (.iaload, 1) := by decide +kernel
theorem dX12_used_53 : decode cX12_used 53 = .ok (.iadd, 1) := by decide +kernel
theorem dX12_used_54 : decode cX12_used 54 = .ok (.iload_n 1, 1) := by decide +kernel
theorem dX12_used_55 : decode cX12_used 55 = .ok (.iastore, 1) := by decide +kernel
theorem dX12_used_56 : decode cX12_used 56 = .ok (.aload_n 0, 1) := by decide +kernel
theorem dX12_used_57 : decode cX12_used 57 = .ok (.getfield 7, 3) := by decide +kernel
theorem dX12_used_60 : decode cX12_used 60 = .ok (.sipush 190, 3) := by decide +kernel
theorem dX12_used_63 : decode cX12_used 63 = .ok (.aload_n 0, 1) := by decide +kernel
theorem dX12_used_64 : decode cX12_used 64 = .ok (.getfield 7, 3) := by decide +kernel
theorem dX12_used_67 : decode cX12_used 67 = .ok (.bipush 11, 2) := by decide +kernel
theorem dX12_used_69 : decode cX12_used 69 = .ok (.iaload, 1) := by decide +kernel
theorem dX12_used_70 : decode cX12_used 70 = .ok (.iadd, 1) := by decide +kernel
theorem dX12_used_71 : decode cX12_used 71 = .ok (.iload_n 2, 1) := by decide +kernel
theorem dX12_used_72 : decode cX12_used 72 = .ok (.iastore, 1) := by decide +kernel
theorem dX12_used_73 : decode cX12_used 73 = .ok (.aload_n 0, 1) := by decide +kernel
theorem dX12_used_74 : decode cX12_used 74 = .ok (.getfield 7, 3) := by decide +kernel
theorem dX12_used_77 : decode cX12_used 77 = .ok (.bipush 11, 2) := by decide +kernel
theorem dX12_used_79 : decode cX12_used 79 = .ok (.dup2, 1) := by decide +kernel
theorem dX12_used_80 : decode cX12_used 80 = .ok (.iaload, 1) := by decide +kernel
theorem dX12_used_81 : decode cX12_used 81 = .ok (.iconst 1, 1) := by decide +kernel
theorem dX12_used_82 : decode cX12_used 82 = .ok (.iadd, 1) := by decide +kernel
theorem dX12_used_83 : decode cX12_used 83 = .ok (.iastore, 1) := by decide +kernel
theorem dX12_used_84 : decode cX12_used 84 = .ok (.aload_n 0, 1) := by decide +kernel
theorem dX12_used_85 : decode cX12_used 85 = .ok (.getfield 7, 3) := by decide +kernel
theorem dX12_used_88 : decode cX12_used 88 = .ok (.bipush 11, 2) := by decide +kernel
theorem dX12_used_90 : decode cX12_used 90 = .ok (.iaload, 1) := by decide +kernel
theorem dX12_used_91 : decode cX12_used 91 = .ok (.ireturn, 1) := by decide +kernel
theorem dX12_isUnder_0 : decode cX12_isUnder 0 = .ok (.iload_n 1, 1) := by decide +kernel
theorem dX12_isUnder_1 : decode cX12_isUnder 1 = .ok (.istore_n 3, 1) := by decide +kernel
theorem dX12_isUnder_2 : decode cX12_isUnder 2 = .ok (.iload_n 3, 1) := by decide +kernel
theorem dX12_isUnder_3 : decode cX12_isUnder 3 = .ok (.iconst (-1), 1) := by decide +kernel
theorem dX12_isUnder_4 : decode cX12_isUnder 4 = .ok (.if_icmp .eq 22, 3) := by decide +kernel
theorem dX12_isUnder_7 : decode cX12_isUnder 7 = .ok (.iload_n 3, 1) := by decide +kernel
theorem dX12_isUnder_8 : decode cX12_isUnder 8 = .ok (.iload_n 2, 1) := by decide +kernel
theorem dX12_isUnder_9 : decode cX12_isUnder 9 = .ok (.if_icmp .eq 17, 3) := by decide +kernel
theorem dX12_isUnder_12 : decode cX12_isUnder 12 = .ok (.aload_n 0, 1) := by decide +kernel
theorem dX12_isUnder_13 : decode cX12_isUnder 13 = .ok (.getfield 7, 3) := by decide +kernel
theorem dX12_isUnder_16 : decode cX12_isUnder 16 = .ok (.sipush 140, 3) := by decide +kernel
theorem dX12_isUnder_19 : decode cX12_isUnder 19 = .ok (.iload_n 3, 1) := by decide +kernel
theorem dX12_isUnder_20 : decode cX12_isUnder 20 = .ok (.iadd, 1) := by decide +kernel
theorem dX12_isUnder_21 : decode cX12_isUnder 21 = .ok (.iaload, 1) := by decide +kernel
theorem dX12_isUnder_22 : decode cX12_isUnder 22 = .ok (.istore_n 3, 1) := by decide +kernel
theorem dX12_isUnder_23 : decode cX12_isUnder 23 = .ok (.goto (-21), 3) := by decide +kernel
theorem dX12_isUnder_26 : decode cX12_isUnder 26 = .ok (.iload_n 3, 1) := by decide +kernel
theorem dX12_isUnder_27 : decode cX12_isUnder 27 = .ok (.iload_n 2, 1) := by decide +kernel
theorem dX12_isUnder_28 : decode cX12_isUnder 28 = .ok (.if_icmp .ne 7, 3) := by decide +kernel
theorem dX12_isUnder_31 : decode cX12_isUnder 31 = .ok (.iconst 1, 1) := by decide +kernel
theorem dX12_isUnder_32 : decode cX12_isUnder 32 = .ok (.goto 4, 3) := by decide +kernel
theorem dX12_isUnder_35 : decode cX12_isUnder 35 = .ok (.iconst 0, 1) := by decide +kernel
theorem dX12_isUnder_36 : decode cX12_isUnder 36 = .ok (.ireturn, 1) := by decide +kernel
theorem dX12_left_0 : decode cX12_left 0 = .ok (.iload_n 1, 1) := by decide +kernel
theorem dX12_left_1 : decode cX12_left 1 = .ok (.iconst 0, 1) := by decide +kernel
theorem dX12_left_2 : decode cX12_left 2 = .ok (.iconst 2, 1) := by decide +kernel
theorem dX12_left_3 : decode cX12_left 3 = .ok (.invokestatic 74, 3) := by decide +kernel
theorem dX12_left_6 : decode cX12_left 6 = .ok (.ifCond .eq 27, 3) := by decide +kernel
theorem dX12_left_9 : decode cX12_left 9 = .ok (.iload_n 1, 1) := by decide +kernel
theorem dX12_left_10 : decode cX12_left 10 = .ok (.ifCond .ne 14, 3) := by decide +kernel
theorem dX12_left_13 : decode cX12_left 13 = .ok (.aload_n 0, 1) := by decide +kernel
theorem dX12_left_14 : decode cX12_left 14 = .ok (.iload_n 2, 1) := by decide +kernel
theorem dX12_left_15 : decode cX12_left 15 = .ok (.invokevirtual 222, 3) := by decide +kernel
theorem dX12_left_18 : decode cX12_left 18 = .ok (.ifCond .ne 17, 3) := by decide +kernel
theorem dX12_left_21 : decode cX12_left 21 = .ok (.goto 12, 3) := by decide +kernel
theorem dX12_left_24 : decode cX12_left 24 = .ok (.iload_n 2, 1) := by decide +kernel
theorem dX12_left_25 : decode cX12_left 25 = .ok (.iconst 0, 1) := by decide +kernel
theorem dX12_left_26 : decode cX12_left 26 = .ok (.iconst 2, 1) := by decide +kernel
theorem dX12_left_27 : decode cX12_left 27 = .ok (.invokestatic 74, 3) := by decide +kernel
theorem dX12_left_30 : decode cX12_left 30 = .ok (.ifCond .ne 5, 3) := by decide +kernel
theorem dX12_left_33 : decode cX12_left 33 = .ok (.iconst (-1), 1) := by decide +kernel
theorem dX12_left_34 : decode cX12_left 34 = .ok (.ireturn, 1) := by decide +kernel
theorem dX12_left_35 : decode cX12_left 35 = .ok (.iconst 0, 1) := by decide +kernel
theorem dX12_left_36 : decode cX12_left 36 = .ok (.istore_n 3, 1) := by decide +kernel
theorem dX12_left_37 : decode cX12_left 37 = .ok (.bipush (-5), 2) := by decide +kernel
theorem dX12_left_39 : decode cX12_left 39 = .ok (.istore 4, 2) := by decide +kernel
theorem dX12_left_41 : decode cX12_left 41 = .ok (.iconst 0, 1) := by decide +kernel
theorem dX12_left_42 : decode cX12_left 42 = .ok (.istore 5, 2) := by decide +kernel
theorem dX12_left_44 : decode cX12_left 44 = .ok (.iload 5, 2) := by decide +kernel
theorem dX12_left_46 : decode cX12_left 46 = .ok (.aload_n 0, 1) := by decide +kernel
theorem dX12_left_47 : decode cX12_left 47 = .ok (.getfield 7, 3) := by decide +kernel
theorem dX12_left_50 : decode cX12_left 50 = .ok (.bipush 11, 2) := by decide +kernel
theorem dX12_left_52 : decode cX12_left 52 = .ok (.iaload, 1) := by decide +kernel
theorem dX12_left_53 : decode cX12_left 53 = .ok (.if_icmp .ge 125, 3) := by decide +kernel
theorem dX12_left_56 : decode cX12_left 56 = .ok (.iload_n 1, 1) := by decide +kernel
theorem dX12_left_57 : decode cX12_left 57 = .ok (.ifCond .ne 22, 3) := by decide +kernel
theorem dX12_left_60 : decode cX12_left 60 = .ok (.aload_n 0, 1) := by decide +kernel
theorem dX12_left_61 : decode cX12_left 61 = .ok (.aload_n 0, 1) := by decide +kernel
theorem dX12_left_62 : decode cX12_left 62 = .ok (.getfield 7, 3) := by decide +kernel
theorem dX12_left_65 : decode cX12_left 65 = .ok (.sipush 150, 3) := by decide +kernel
theorem dX12_left_68 : decode cX12_left 68 = .ok (.iload 5, 2) := by decide +kernel
theorem dX12_left_70 : decode cX12_left 70 = .ok (.iadd, 1) := by decide +kernel
theorem dX12_left_71 : decode cX12_left 71 = .ok (.iaload, 1) := by decide +kernel
theorem dX12_left_72 : decode cX12_left 72 = .ok (.iload_n 2, 1) := by decide +kernel
theorem dX12_left_73 : decode cX12_left 73 = .ok (.invokevirtual 225, 3) := by decide +kernel
theorem dX12_left_76 : decode cX12_left 76 = .ok (.goto 32, 3) := by decide +kernel
theorem dX12_left_79 : decode cX12_left 79 = .ok (.aload_n 0, 1) := by decide +kernel
theorem dX12_left_80 : decode cX12_left 80 = .ok (.getfield 7, 3) := by decide +kernel
theorem dX12_left_83 : decode cX12_left 83 = .ok (.sipush 130, 3) := by decide +kernel
theorem dX12_left_86 : decode cX12_left 86 = .ok (.aload_n 0, 1) := by decide +kernel
theorem dX12_left_87 : decode cX12_left 87 = .ok (.getfield 7, 3) := by decide +kernel
theorem dX12_left_90 : decode cX12_left 90 = .ok (.sipush 150, 3) := by decide +kernel
theorem dX12_left_93 : decode cX12_left 93 = .ok (.iload 5, 2) := by decide +kernel
theorem dX12_left_95 : decode cX12_left 95 = .ok (.iadd, 1) := by decide +kernel
theorem dX12_left_96 : decode cX12_left 96 = .ok (.iaload, 1) := by decide +kernel
theorem dX12_left_97 : decode cX12_left 97 = .ok (.iadd, 1) := by decide +kernel
theorem dX12_left_98 : decode cX12_left 98 = .ok (.iaload, 1) := by decide +kernel
theorem dX12_left_99 : decode cX12_left 99 = .ok (.iload_n 2, 1) := by decide +kernel
theorem dX12_left_100 : decode cX12_left 100 = .ok (.if_icmp .ne 7, 3) := by decide +kernel
theorem dX12_left_103 : decode cX12_left 103 = .ok (.iconst 1, 1) := by decide +kernel
theorem dX12_left_104 : decode cX12_left 104 = .ok (.goto 4, 3) := by decide +kernel
theorem dX12_left_107 : decode cX12_left 107 = .ok (.iconst 0, 1) := by decide +kernel
theorem dX12_left_108 : decode cX12_left 108 = .ok (.istore 6, 2) := by decide +kernel
theorem dX12_left_110 : decode cX12_left 110 = .ok (.iload_n 3, 1) := by decide +kernel
theorem dX12_left_111 : decode cX12_left 111 = .ok (.iload 6, 2) := by decide +kernel
theorem dX12_left_113 : decode cX12_left 113 = .ok (.ifCond .eq 17, 3) := by decide +kernel
theorem dX12_left_116 : decode cX12_left 116 = .ok (.aload_n 0, 1) := by decide +kernel
theorem dX12_left_117 : decode cX12_left 117 = .ok (.getfield 7, 3) := by decide +kernel
theorem dX12_left_120 : decode cX12_left 120 = .ok (.sipush 190, 3) := by decide +kernel
theorem dX12_left_123 : decode cX12_left 123 = .ok (.iload 5, 2) := by decide +kernel
theorem dX12_left_125 : decode cX12_left 125 = .ok (.iadd, 1) := by decide +kernel
theorem dX12_left_126 : decode cX12_left 126 = .ok (.iaload, 1) := by decide +kernel
theorem dX12_left_127 : decode cX12_left 127 = .ok (.goto 4, 3) := by decide +kernel
theorem dX12_left_130 : decode cX12_left 130 = .ok (.iconst 0, 1) := by decide +kernel
theorem dX12_left_131 : decode cX12_left 131 = .ok (.iadd, 1) := by decide +kernel
theorem dX12_left_132 : decode cX12_left 132 = .ok (.istore_n 3, 1) := by decide +kernel
theorem dX12_left_133 : decode cX12_left 133 = .ok (.iload 6, 2) := by decide +kernel
theorem dX12_left_135 : decode cX12_left 135 = .ok (.ifCond .eq 33, 3) := by decide +kernel
theorem dX12_left_138 : decode cX12_left 138 = .ok (.iload_n 1, 1) := by decide +kernel
theorem dX12_left_139 : decode cX12_left 139 = .ok (.iconst 2, 1) := by decide +kernel
theorem dX12_left_140 : decode cX12_left 140 = .ok (.if_icmp .ne 28, 3) := by decide +kernel
theorem dX12_left_143 : decode cX12_left 143 = .ok (.iload 4, 2) := by decide +kernel
theorem dX12_left_145 : decode cX12_left 145 = .ok (.bipush (-5), 2) := by decide +kernel
theorem dX12_left_147 : decode cX12_left 147 = .ok (.if_icmp .ne 21, 3) := by decide +kernel
theorem dX12_left_150 : decode cX12_left 150 = .ok (.iload_n 3, 1) := by decide +kernel
theorem dX12_left_151 : decode cX12_left 151 = .ok (.aload_n 0, 1) := by decide +kernel
theorem dX12_left_152 : decode cX12_left 152 = .ok (.getfield 7, 3) := by decide +kernel
theorem dX12_left_155 : decode cX12_left 155 = .ok (.bipush 72, 2) := by decide +kernel
theorem dX12_left_157 : decode cX12_left 157 = .ok (.iload_n 2, 1) := by decide +kernel
theorem dX12_left_158 : decode cX12_left 158 = .ok (.iadd, 1) := by decide +kernel
theorem dX12_left_159 : decode cX12_left 159 = .ok (.iaload, 1) := by decide +kernel
theorem dX12_left_160 : decode cX12_left 160 = .ok (.if_icmp .le 8, 3) := by decide +kernel
theorem dX12_left_163 : decode cX12_left 163 = .ok (.iload 5, 2) := by decide +kernel
theorem dX12_left_165 : decode cX12_left 165 = .ok (.goto 5, 3) := by decide +kernel
theorem dX12_left_168 : decode cX12_left 168 = .ok (.iload 4, 2) := by decide +kernel
theorem dX12_left_170 : decode cX12_left 170 = .ok (.istore 4, 2) := by decide +kernel
theorem dX12_left_172 : decode cX12_left 172 = .ok (.iinc 5 1, 3) := by decide +kernel
theorem dX12_left_175 : decode cX12_left 175 = .ok (.goto (-131), 3) := by decide +kernel
theorem dX12_left_178 : decode cX12_left 178 = .ok (.iload_n 1, 1) := by decide +kernel
theorem dX12_left_179 : decode cX12_left 179 = .ok (.ifCond .ne 7, 3) := by decide +kernel
theorem dX12_left_182 : decode cX12_left 182 = .ok (.iload_n 3, 1) := by decide +kernel
theorem dX12_left_183 : decode cX12_left 183 = .ok (.goto 24, 3) := by decide +kernel
theorem dX12_left_186 : decode cX12_left 186 = .ok (.iload_n 1, 1) := by decide +kernel
theorem dX12_left_187 : decode cX12_left 187 = .ok (.iconst 1, 1) := by decide +kernel
theorem dX12_left_188 : decode cX12_left 188 = .ok (.if_icmp .ne 17, 3) := by decide +kernel
theorem dX12_left_191 : decode cX12_left 191 = .ok (.aload_n 0, 1) := by decide +kernel
theorem dX12_left_192 : decode cX12_left 192 = .ok (.getfield 7, 3) := by decide +kernel
theorem dX12_left_195 : decode cX12_left 195 = .ok (.bipush 72, 2) := by decide +kernel
theorem dX12_left_197 : decode cX12_left 197 = .ok (.iload_n 2, 1) := by decide +kernel
theorem dX12_left_198 : decode cX12_left 198 = .ok (.iadd, 1) := by decide +kernel
theorem dX12_left_199 : decode cX12_left 199 = .ok (.iaload, 1) := by decide +kernel
theorem dX12_left_200 : decode cX12_left 200 = .ok (.iload_n 3, 1) := by decide +kernel
theorem dX12_left_201 : decode cX12_left 201 = .ok (.isub, 1) := by decide +kernel
theorem dX12_left_202 : decode cX12_left 202 = .ok (.goto 5, 3) := by decide +kernel
theorem dX12_left_205 : decode cX12_left 205 = .ok (.iload 4, 2) := by decide +kernel
theorem dX12_left_207 : decode cX12_left 207 = .ok (.ireturn, 1) := by decide +kernel
theorem dX12_isHour_0 : decode cX12_isHour 0 = .ok (.iload_n 0, 1) := by decide +kernel
theorem dX12_isHour_1 : decode cX12_isHour 1 = .ok (.iconst 0, 1) := by decide +kernel
theorem dX12_isHour_2 : decode cX12_isHour 2 = .ok (.bipush 23, 2) := by decide +kernel
theorem dX12_isHour_4 : decode cX12_isHour 4 = .ok (.invokestatic 74, 3) := by decide +kernel
theorem dX12_isHour_7 : decode cX12_isHour 7 = .ok (.ireturn, 1) := by decide +kernel
theorem dX12_door_0 : decode cX12_door 0 = .ok (.iload_n 1, 1) := by decide +kernel
theorem dX12_door_1 : decode cX12_door 1 = .ok (.invokestatic 78, 3) := by decide +kernel
theorem dX12_door_4 : decode cX12_door 4 = .ok (.ifCond .ne 5, 3) := by decide +kernel
theorem dX12_door_7 : decode cX12_door 7 = .ok (.iconst (-1), 1) := by decide +kernel
theorem dX12_door_8 : decode cX12_door 8 = .ok (.ireturn, 1) := by decide +kernel
theorem dX12_door_9 : decode cX12_door 9 = .ok (.iload_n 2, 1) := by decide +kernel
theorem dX12_door_10 : decode cX12_door 10 = .ok (.invokestatic 228, 3) := by decide +kernel
theorem dX12_door_13 : decode cX12_door 13 = .ok (.ifCond .eq 13, 3) := by decide +kernel
theorem dX12_door_16 : decode cX12_door 16 = .ok (.iload_n 3, 1) := by decide +kernel
theorem dX12_door_17 : decode cX12_door 17 = .ok (.iload_n 2, 1) := by decide +kernel
theorem dX12_door_18 : decode cX12_door 18 = .ok (.bipush 23, 2) := by decide +kernel
theorem dX12_door_20 : decode cX12_door 20 = .ok (.invokestatic 74, 3) := by decide +kernel
theorem dX12_door_23 : decode cX12_door 23 = .ok (.ifCond .ne 6, 3) := by decide +kernel
theorem dX12_door_26 : decode cX12_door 26 = .ok (.bipush (-2), 2) := by decide +kernel
theorem dX12_door_28 : decode cX12_door 28 = .ok (.ireturn, 1) := by decide +kernel
theorem dX12_door_29 : decode cX12_door 29 = .ok (.aload_n 0, 1) := by decide +kernel
theorem dX12_door_30 : decode cX12_door 30 = .ok (.getfield 7, 3) := by decide +kernel
theorem dX12_door_33 : decode cX12_door 33 = .ok (.bipush 20, 2) := by decide +kernel
theorem dX12_door_35 : decode cX12_door 35 = .ok (.iload_n 1, 1) := by decide +kernel
theorem dX12_door_36 : decode cX12_door 36 = .ok (.iadd, 1) := by decide +kernel
theorem dX12_door_37 : decode cX12_door 37 = .ok (.iaload, 1) := by decide +kernel
theorem dX12_door_38 : decode cX12_door 38 = .ok (.iconst 4, 1) := by decide +kernel
theorem dX12_door_39 : decode cX12_door 39 = .ok (.if_icmp .eq 6, 3) := by decide +kernel
theorem dX12_door_42 : decode cX12_door 42 = .ok (.bipush (-3), 2) := by decide +kernel
theorem dX12_door_44 : decode cX12_door 44 = .ok (.ireturn, 1) := by decide +kernel
theorem dX12_door_45 : decode cX12_door 45 = .ok (.aload_n 0, 1) := by decide +kernel
theorem dX12_door_46 : decode cX12_door 46 = .ok (.getfield 7, 3) := by decide +kernel
theorem dX12_door_49 : decode cX12_door 49 = .ok (.bipush 6, 2) := by decide +kernel
theorem dX12_door_51 : decode cX12_door 51 = .ok (.iaload, 1) := by decide +kernel
theorem dX12_door_52 : decode cX12_door 52 = .ok (.bipush 6, 2) := by decide +kernel
theorem dX12_door_54 : decode cX12_door 54 = .ok (.if_icmp .ne 6, 3) := by decide +kernel
theorem dX12_door_57 : decode cX12_door 57 = .ok (.bipush (-4), 2) := by decide +kernel
theorem dX12_door_59 : decode cX12_door 59 = .ok (.ireturn, 1) := by decide +kernel
theorem dX12_door_60 : decode cX12_door 60 = .ok (.aload_n 0, 1) := by decide +kernel
theorem dX12_door_61 : decode cX12_door 61 = .ok (.getfield 7, 3) := by decide +kernel
theorem dX12_door_64 : decode cX12_door 64 = .ok (.sipush 230, 3) := by decide +kernel
theorem dX12_door_67 : decode cX12_door 67 = .ok (.aload_n 0, 1) := by decide +kernel
theorem dX12_door_68 : decode cX12_door 68 = .ok (.getfield 7, 3) := by decide +kernel
theorem dX12_door_71 : decode cX12_door 71 = .ok (.bipush 6, 2) := by decide +kernel
theorem dX12_door_73 : decode cX12_door 73 = .ok (.iaload, 1) := by decide +kernel
theorem dX12_door_74 : decode cX12_door 74 = .ok (.iadd, 1) := by decide +kernel
theorem dX12_door_75 : decode cX12_door 75 = .ok (.iload_n 1, 1) := by decide +kernel
theorem dX12_door_76 : decode cX12_door 76 = .ok (.iastore, 1) := by decide +kernel
theorem dX12_door_77 : decode cX12_door 77 = .ok (.aload_n 0, 1) := by decide +kernel
theorem dX12_door_78 : decode cX12_door 78 = .ok (.getfield 7, 3) := by decide +kernel
theorem dX12_door_81 : decode cX12_door 81 = .ok (.sipush 236, 3) := by decide +kernel
theorem dX12_door_84 : decode cX12_door 84 = .ok (.aload_n 0, 1) := by decide +kernel
theorem dX12_door_85 : decode cX12_door 85 = .ok (.getfield 7, 3) := by decide +kernel
theorem dX12_door_88 : decode cX12_door 88 = .ok (.bipush 6, 2) := by decide +kernel
theorem dX12_door_90 : decode cX12_door 90 = .ok (.iaload, 1) := by decide +kernel
theorem dX12_door_91 : decode cX12_door 91 = .ok (.iadd, 1) := by decide +kernel
theorem dX12_door_92 : decode cX12_door 92 = .ok (.iload_n 2, 1) := by decide +kernel
theorem dX12_door_93 : decode cX12_door 93 = .ok (.iastore, 1) := by decide +kernel
theorem dX12_door_94 : decode cX12_door 94 = .ok (.aload_n 0, 1) := by decide +kernel
theorem dX12_door_95 : decode cX12_door 95 = .ok (.getfield 7, 3) := by decide +kernel
theorem dX12_door_98 : decode cX12_door 98 = .ok (.sipush 242, 3) := by decide +kernel
theorem dX12_door_101 : decode cX12_door 101 = .ok (.aload_n 0, 1) := by decide +kernel
theorem dX12_door_102 : decode cX12_door 102 = .ok (.getfield 7, 3) := by decide +kernel
theorem dX12_door_105 : decode cX12_door 105 = .ok (.bipush 6, 2) := by decide +kernel
theorem dX12_door_107 : decode cX12_door 107 = .ok (.iaload, 1) := by decide +kernel
theorem dX12_door_108 : decode cX12_door 108 = .ok (.iadd, 1) := by decide +kernel
theorem dX12_door_109 : decode cX12_door 109 = .ok (.iload_n 3, 1) := by decide +kernel
theorem dX12_door_110 : decode cX12_door 110 = .ok (.iastore, 1) := by decide +kernel
theorem dX12_door_111 : decode cX12_door 111 = .ok (.aload_n 0, 1) := by decide +kernel
theorem dX12_door_112 : decode cX12_door 112 = .ok (.getfield 7, 3) := by decide +kernel
theorem dX12_door_115 : decode cX12_door 115 = .ok (.bipush 6, 2) := by decide +kernel
theorem dX12_door_117 : decode cX12_door 117 = .ok (.dup2, 1) := by decide +kernel
theorem dX12_door_118 : decode cX12_door 118 = .ok (.iaload, 1) := by decide +kernel
theorem dX12_door_119 : decode cX12_door 119 = .ok (.iconst 1, 1) := by decide +kernel
theorem dX12_door_120 : decode cX12_door 120 = .ok (.iadd, 1) := by decide +kernel
theorem dX12_door_121 : decode cX12_door 121 = .ok (.iastore, 1) := by decide +kernel
theorem dX12_door_122 : decode cX12_door 122 = .ok (.aload_n 0, 1) := by decide +kernel
theorem dX12_door_123 : decode cX12_door 123 = .ok (.dup, 1) := by decide +kernel
theorem dX12_door_124 : decode cX12_door 124 = .ok (.getfield 65, 3) := by decide +kernel
theorem dX12_door_127 : decode cX12_door 127 = .ok (.iconst 1, 1) := by decide +kernel
theorem dX12_door_128 : decode cX12_door 128 = .ok (.iadd, 1) := by decide +kernel
theorem dX12_door_129 : decode cX12_door 129 = .ok (.putfield 65, 3) := by decide +kernel
theorem dX12_door_132 : decode cX12_door 132 = .ok (.aload_n 0, 1) := by decide +kernel
theorem dX12_door_133 : decode cX12_door 133 = .ok (.getfield 7, 3) := by decide +kernel
theorem dX12_door_136 : decode cX12_door 136 = .ok (.bipush 6, 2) := by decide +kernel
theorem dX12_door_138 : decode cX12_door 138 = .ok (.iaload, 1) := by decide +kernel
theorem dX12_door_139 : decode cX12_door 139 = .ok (.iconst 1, 1) := by decide +kernel
theorem dX12_door_140 : decode cX12_door 140 = .ok (.isub, 1) := by decide +kernel
theorem dX12_door_141 : decode cX12_door 141 = .ok (.ireturn, 1) := by decide +kernel
theorem dX12_isPerson_0 : decode cX12_isPerson 0 = .ok (.iload_n 0, 1) := by decide +kernel
theorem dX12_isPerson_1 : decode cX12_isPerson 1 = .ok (.iconst 0, 1) := by decide +kernel
theorem dX12_isPerson_2 : decode cX12_isPerson 2 = .ok (.bipush 7, 2) := by decide +kernel
theorem dX12_isPerson_4 : decode cX12_isPerson 4 = .ok (.invokestatic 74, 3) := by decide +kernel
theorem dX12_isPerson_7 : decode cX12_isPerson 7 = .ok (.ireturn, 1) := by decide +kernel
theorem dX12_seen_0 : decode cX12_seen 0 = .ok (.iload_n 1, 1) := by decide +kernel
theorem dX12_seen_1 : decode cX12_seen 1 = .ok (.invokestatic 231, 3) := by decide +kernel
theorem dX12_seen_4 : decode cX12_seen 4 = .ok (.ifCond .eq 10, 3) := by decide +kernel
theorem dX12_seen_7 : decode cX12_seen 7 = .ok (.iload_n 2, 1) := by decide +kernel
theorem dX12_seen_8 : decode cX12_seen 8 = .ok (.invokestatic 78, 3) := by decide +kernel
theorem dX12_seen_11 : decode cX12_seen 11 = .ok (.ifCond .ne 5, 3) := by decide +kernel
theorem dX12_seen_14 : decode cX12_seen 14 = .ok (.iconst (-1), 1) := by decide +kernel
theorem dX12_seen_15 : decode cX12_seen 15 = .ok (.ireturn, 1) := by decide +kernel
theorem dX12_seen_16 : decode cX12_seen 16 = .ok (.iload_n 3, 1) := by decide +kernel
theorem dX12_seen_17 : decode cX12_seen 17 = .ok (.invokestatic 228, 3) := by decide +kernel
theorem dX12_seen_20 : decode cX12_seen 20 = .ok (.ifCond .ne 6, 3) := by decide +kernel
theorem dX12_seen_23 : decode cX12_seen 23 = .ok (.bipush (-2), 2) := by decide +kernel
theorem dX12_seen_25 : decode cX12_seen 25 = .ok (.ireturn, 1) := by decide +kernel
theorem dX12_seen_26 : decode cX12_seen 26 = .ok (.aload_n 0, 1) := by decide +kernel
theorem dX12_seen_27 : decode cX12_seen 27 = .ok (.getfield 7, 3) := by decide +kernel
theorem dX12_seen_30 : decode cX12_seen 30 = .ok (.bipush 20, 2) := by decide +kernel
theorem dX12_seen_32 : decode cX12_seen 32 = .ok (.iload_n 2, 1) := by decide +kernel
theorem dX12_seen_33 : decode cX12_seen 33 = .ok (.iadd, 1) := by decide +kernel
theorem dX12_seen_34 : decode cX12_seen 34 = .ok (.iaload, 1) := by decide +kernel
theorem dX12_seen_35 : decode cX12_seen 35 = .ok (.iconst 5, 1) := by decide +kernel
theorem dX12_seen_36 : decode cX12_seen 36 = .ok (.if_icmp .eq 7, 3) := by decide +kernel
theorem dX12_seen_39 : decode cX12_seen 39 = .ok (.iconst 1, 1) := by decide +kernel
theorem dX12_seen_40 : decode cX12_seen 40 = .ok (.goto 4, 3) := by decide +kernel
theorem dX12_seen_43 : decode cX12_seen 43 = .ok (.iconst 0, 1) := by decide +kernel
theorem dX12_seen_44 : decode cX12_seen 44 = .ok (.istore 4, 2) := by decide +kernel
theorem dX12_seen_46 : decode cX12_seen 46 = .ok (.iconst 0, 1) := by decide +kernel
theorem dX12_seen_47 : decode cX12_seen 47 = .ok (.istore 5, 2) := by decide +kernel
theorem dX12_seen_49 : decode cX12_seen 49 = .ok (.iconst 0, 1) := by decide +kernel
theorem dX12_seen_50 : decode cX12_seen 50 = .ok (.istore 6, 2) := by decide +kernel
theorem dX12_seen_52 : decode cX12_seen 52 = .ok (.iload 6, 2) := by decide +kernel
theorem dX12_seen_54 : decode cX12_seen 54 = .ok (.aload_n 0, 1) := by decide +kernel
theorem dX12_seen_55 : decode cX12_seen 55 = .ok (.getfield 7, 3) := by decide +kernel
theorem dX12_seen_58 : decode cX12_seen 58 = .ok (.sipush 250, 3) := by decide +kernel
theorem dX12_seen_61 : decode cX12_seen 61 = .ok (.iload_n 1, 1) := by decide +kernel
theorem dX12_seen_62 : decode cX12_seen 62 = .ok (.iadd, 1) := by decide +kernel
theorem dX12_seen_63 : decode cX12_seen 63 = .ok (.iaload, 1) := by decide +kernel
theorem dX12_seen_64 : decode cX12_seen 64 = .ok (.if_icmp .ge 90, 3) := by decide +kernel
theorem dX12_seen_67 : decode cX12_seen 67 = .ok (.aload_n 0, 1) := by decide +kernel
theorem dX12_seen_68 : decode cX12_seen 68 = .ok (.getfield 7, 3) := by decide +kernel
theorem dX12_seen_71 : decode cX12_seen 71 = .ok (.sipush 356, 3) := by decide +kernel
theorem dX12_seen_74 : decode cX12_seen 74 = .ok (.bipush 12, 2) := by decide +kernel
theorem dX12_seen_76 : decode cX12_seen 76 = .ok (.iload_n 1, 1) := by decide +kernel
theorem dX12_seen_77 : decode cX12_seen 77 = .ok (.imul, 1) := by decide +kernel
theorem dX12_seen_78 : decode cX12_seen 78 = .ok (.iadd, 1) := by decide +kernel
theorem dX12_seen_79 : decode cX12_seen 79 = .ok (.iload 6, 2) := by decide +kernel
theorem dX12_seen_81 : decode cX12_seen 81 = .ok (.iadd, 1) := by decide +kernel
theorem dX12_seen_82 : decode cX12_seen 82 = .ok (.iaload, 1) := by decide +kernel
theorem dX12_seen_83 : decode cX12_seen 83 = .ok (.iload_n 3, 1) := by decide +kernel
theorem dX12_seen_84 : decode cX12_seen 84 = .ok (.if_icmp .ne 7, 3) := by decide +kernel
theorem dX12_seen_87 : decode cX12_seen 87 = .ok (.iconst 1, 1) := by decide +kernel
theorem dX12_seen_88 : decode cX12_seen 88 = .ok (.goto 4, 3) := by decide +kernel
theorem dX12_seen_91 : decode cX12_seen 91 = .ok (.iconst 0, 1) := by decide +kernel
theorem dX12_seen_92 : decode cX12_seen 92 = .ok (.istore 7, 2) := by decide +kernel
theorem dX12_seen_94 : decode cX12_seen 94 = .ok (.iload 4, 2) := by decide +kernel
theorem dX12_seen_96 : decode cX12_seen 96 = .ok (.ifCond .eq 32, 3) := by decide +kernel
theorem dX12_seen_99 : decode cX12_seen 99 = .ok (.iload 7, 2) := by decide +kernel
theorem dX12_seen_101 : decode cX12_seen 101 = .ok (.ifCond .eq 23, 3) := by decide +kernel
theorem dX12_seen_104 : decode cX12_seen 104 = .ok (.aload_n 0, 1) := by decide +kernel
theorem dX12_seen_105 : decode cX12_seen 105 = .ok (.getfield 7, 3) := by decide +kernel
theorem dX12_seen_108 : decode cX12_seen 108 = .ok (.sipush 260, 3) := by decide +kernel
theorem dX12_seen_111 : decode cX12_seen 111 = .ok (.bipush 12, 2) := by decide +kernel
theorem dX12_seen_113 : decode cX12_seen 113 = .ok (.iload_n 1, 1) := by decide +kernel
theorem dX12_seen_114 : decode cX12_seen 114 = .ok (.imul, 1) := by decide +kernel
theorem dX12_seen_115 : decode cX12_seen 115 = .ok (.iadd, 1) := by decide +kernel
theorem dX12_seen_116 : decode cX12_seen 116 = .ok (.iload 6, 2) := by decide +kernel
theorem dX12_seen_118 : decode cX12_seen 118 = .ok (.iadd, 1) := by decide +kernel
theorem dX12_seen_119 : decode cX12_seen 119 = .ok (.iaload, 1) := by decide +kernel
theorem dX12_seen_120 : decode cX12_seen 120 = .ok (.iload_n 2, 1) := by decide +kernel
theorem dX12_seen_121 : decode cX12_seen 121 = .ok (.if_icmp .ne 7, 3) := by decide +kernel
theorem dX12_seen_124 : decode cX12_seen 124 = .ok (.iconst 1, 1) := by decide +kernel
theorem dX12_seen_125 : decode cX12_seen 125 = .ok (.goto 4, 3) := by decide +kernel
theorem dX12_seen_128 : decode cX12_seen 128 = .ok (.iconst 0, 1) := by decide +kernel
theorem dX12_seen_129 : decode cX12_seen 129 = .ok (.istore 4, 2) := by decide +kernel
theorem dX12_seen_131 : decode cX12_seen 131 = .ok (.iload 5, 2) := by decide +kernel
theorem dX12_seen_133 : decode cX12_seen 133 = .ok (.ifCond .ne 8, 3) := by decide +kernel
theorem dX12_seen_136 : decode cX12_seen 136 = .ok (.iload 7, 2) := by decide +kernel
theorem dX12_seen_138 : decode cX12_seen 138 = .ok (.ifCond .eq 7, 3) := by decide +kernel
theorem dX12_seen_141 : decode cX12_seen 141 = .ok (.iconst 1, 1) := by decide +kernel
theorem dX12_seen_142 : decode cX12_seen 142 = .ok (.goto 4, 3) := by decide +kernel
theorem dX12_seen_145 : decode cX12_seen 145 = .ok (.iconst 0, 1) := by decide +kernel
theorem dX12_seen_146 : decode cX12_seen 146 = .ok (.istore 5, 2) := by decide +kernel
theorem dX12_seen_148 : decode cX12_seen 148 = .ok (.iinc 6 1, 3) := by decide +kernel
theorem dX12_seen_151 : decode cX12_seen 151 = .ok (.goto (-99), 3) := by decide +kernel
theorem dX12_seen_154 : decode cX12_seen 154 = .ok (.iload 4, 2) := by decide +kernel
theorem dX12_seen_156 : decode cX12_seen 156 = .ok (.ifCond .ne 6, 3) := by decide +kernel
theorem dX12_seen_159 : decode cX12_seen 159 = .ok (.bipush (-3), 2) := by decide +kernel
theorem dX12_seen_161 : decode cX12_seen 161 = .ok (.ireturn, 1) := by decide +kernel
theorem dX12_seen_162 : decode cX12_seen 162 = .ok (.iload 5, 2) := by decide +kernel
theorem dX12_seen_164 : decode cX12_seen 164 = .ok (.ifCond .eq 14, 3) := by decide +kernel
theorem dX12_seen_167 : decode cX12_seen 167 = .ok (.aload_n 0, 1) := by decide +kernel
theorem dX12_seen_168 : decode cX12_seen 168 = .ok (.getfield 7, 3) := by decide +kernel
theorem dX12_seen_171 : decode cX12_seen 171 = .ok (.sipush 250, 3) := by decide +kernel
theorem dX12_seen_174 : decode cX12_seen 174 = .ok (.iload_n 1, 1) := by decide +kernel
theorem dX12_seen_175 : decode cX12_seen 175 = .ok (.iadd, 1) := by decide +kernel
theorem dX12_seen_176 : decode cX12_seen 176 = .ok (.iaload, 1) := by decide +kernel
theorem dX12_seen_177 : decode cX12_seen 177 = .ok (.ireturn, 1) := by decide +kernel
theorem dX12_seen_178 : decode cX12_seen 178 = .ok (.aload_n 0, 1) := by decide +kernel
theorem dX12_seen_179 : decode cX12_seen 179 = .ok (.getfield 7, 3) := by decide +kernel
theorem dX12_seen_182 : decode cX12_seen 182 = .ok (.sipush 250, 3) := by decide +kernel
theorem dX12_seen_185 : decode cX12_seen 185 = .ok (.iload_n 1, 1) := by decide +kernel
theorem dX12_seen_186 : decode cX12_seen 186 = .ok (.iadd, 1) := by decide +kernel
theorem dX12_seen_187 : decode cX12_seen 187 = .ok (.iaload, 1) := by decide +kernel
theorem dX12_seen_188 : decode cX12_seen 188 = .ok (.bipush 12, 2) := by decide +kernel
theorem dX12_seen_190 : decode cX12_seen 190 = .ok (.if_icmp .ne 6, 3) := by decide +kernel
theorem dX12_seen_193 : decode cX12_seen 193 = .ok (.bipush (-4), 2) := by decide +kernel
theorem dX12_seen_195 : decode cX12_seen 195 = .ok (.ireturn, 1) := by decide +kernel
theorem dX12_seen_196 : decode cX12_seen 196 = .ok (.aload_n 0, 1) := by decide +kernel
theorem dX12_seen_197 : decode cX12_seen 197 = .ok (.getfield 7, 3) := by decide +kernel
theorem dX12_seen_200 : decode cX12_seen 200 = .ok (.sipush 260, 3) := by decide +kernel
theorem dX12_seen_203 : decode cX12_seen 203 = .ok (.bipush 12, 2) := by decide +kernel
theorem dX12_seen_205 : decode cX12_seen 205 = .ok (.iload_n 1, 1) := by decide +kernel
theorem dX12_seen_206 : decode cX12_seen 206 = .ok (.imul, 1) := by decide +kernel
theorem dX12_seen_207 : decode cX12_seen 207 = .ok (.iadd, 1) := by decide +kernel
theorem dX12_seen_208 : decode cX12_seen 208 = .ok (.aload_n 0, 1) := by decide +kernel
theorem dX12_seen_209 : decode cX12_seen 209 = .ok (.getfield 7, 3) := by decide +kernel
theorem dX12_seen_212 : decode cX12_seen 212 = .ok (.sipush 250, 3) := by decide +kernel
theorem dX12_seen_215 : decode cX12_seen 215 = .ok (.iload_n 1, 1) := by decide +kernel
theorem dX12_seen_216 : decode cX12_seen 216 = .ok (.iadd, 1) := by decide +kernel
theorem dX12_seen_217 : decode cX12_seen 217 = .ok (.iaload, 1) := by decide +kernel
theorem dX12_seen_218 : decode cX12_seen 218 = .ok (.iadd, 1) := by decide +kernel
theorem dX12_seen_219 : decode cX12_seen 219 = .ok (.iload_n 2, 1) := by decide +kernel
theorem dX12_seen_220 : decode cX12_seen 220 = .ok (.iastore, 1) := by decide +kernel
theorem dX12_seen_221 : decode cX12_seen 221 = .ok (.aload_n 0, 1) := by decide +kernel
theorem dX12_seen_222 : decode cX12_seen 222 = .ok (.getfield 7, 3) := by decide +kernel
theorem dX12_seen_225 : decode cX12_seen 225 = .ok (.sipush 356, 3) := by decide +kernel
theorem dX12_seen_228 : decode cX12_seen 228 = .ok (.bipush 12, 2) := by decide +kernel
theorem dX12_seen_230 : decode cX12_seen 230 = .ok (.iload_n 1, 1) := by decide +kernel
theorem dX12_seen_231 : decode cX12_seen 231 = .ok (.imul, 1) := by decide +kernel
theorem dX12_seen_232 : decode cX12_seen 232 = .ok (.iadd, 1) := by decide +kernel
theorem dX12_seen_233 : decode cX12_seen 233 = .ok (.aload_n 0, 1) := by decide +kernel
theorem dX12_seen_234 : decode cX12_seen 234 = .ok (.getfield 7, 3) := by decide +kernel
theorem dX12_seen_237 : decode cX12_seen 237 = .ok (.sipush 250, 3) := by decide +kernel
theorem dX12_seen_240 : decode cX12_seen 240 = .ok (.iload_n 1, 1) := by decide +kernel
theorem dX12_seen_241 : decode cX12_seen 241 = .ok (.iadd, 1) := by decide +kernel
theorem dX12_seen_242 : decode cX12_seen 242 = .ok (.iaload, 1) := by decide +kernel
theorem dX12_seen_243 : decode cX12_seen 243 = .ok (.iadd, 1) := by decide +kernel
theorem dX12_seen_244 : decode cX12_seen 244 = .ok (.iload_n 3, 1) := by decide +kernel
theorem dX12_seen_245 : decode cX12_seen 245 = .ok (.iastore, 1) := by decide +kernel
theorem dX12_seen_246 : decode cX12_seen 246 = .ok (.aload_n 0, 1) := by decide +kernel
theorem dX12_seen_247 : decode cX12_seen 247 = .ok (.getfield 7, 3) := by decide +kernel
theorem dX12_seen_250 : decode cX12_seen 250 = .ok (.sipush 250, 3) := by decide +kernel
theorem dX12_seen_253 : decode cX12_seen 253 = .ok (.iload_n 1, 1) := by decide +kernel
theorem dX12_seen_254 : decode cX12_seen 254 = .ok (.iadd, 1) := by decide +kernel
theorem dX12_seen_255 : decode cX12_seen 255 = .ok (.dup2, 1) := by decide +kernel
theorem dX12_seen_256 : decode cX12_seen 256 = .ok (.iaload, 1) := by decide +kernel
theorem dX12_seen_257 : decode cX12_seen 257 = .ok (.iconst 1, 1) := by decide +kernel
theorem dX12_seen_258 : decode cX12_seen 258 = .ok (.iadd, 1) := by decide +kernel
theorem dX12_seen_259 : decode cX12_seen 259 = .ok (.iastore, 1) := by decide +kernel
theorem dX12_seen_260 : decode cX12_seen 260 = .ok (.aload_n 0, 1) := by decide +kernel
theorem dX12_seen_261 : decode cX12_seen 261 = .ok (.dup, 1) := by decide +kernel
theorem dX12_seen_262 : decode cX12_seen 262 = .ok (.getfield 65, 3) := by decide +kernel
theorem dX12_seen_265 : decode cX12_seen 265 = .ok (.iconst 1, 1) := by decide +kernel
theorem dX12_seen_266 : decode cX12_seen 266 = .ok (.iadd, 1) := by decide +kernel
theorem dX12_seen_267 : decode cX12_seen 267 = .ok (.putfield 65, 3) := by decide +kernel
theorem dX12_seen_270 : decode cX12_seen 270 = .ok (.aload_n 0, 1) := by decide +kernel
theorem dX12_seen_271 : decode cX12_seen 271 = .ok (.getfield 7, 3) := by decide +kernel
theorem dX12_seen_274 : decode cX12_seen 274 = .ok (.sipush 250, 3) := by decide +kernel
theorem dX12_seen_277 : decode cX12_seen 277 = .ok (.iload_n 1, 1) := by decide +kernel
theorem dX12_seen_278 : decode cX12_seen 278 = .ok (.iadd, 1) := by decide +kernel
theorem dX12_seen_279 : decode cX12_seen 279 = .ok (.iaload, 1) := by decide +kernel
theorem dX12_seen_280 : decode cX12_seen 280 = .ok (.ireturn, 1) := by decide +kernel
theorem dX12_canBe_0 : decode cX12_canBe 0 = .ok (.aload_n 0, 1) := by decide +kernel
theorem dX12_canBe_1 : decode cX12_canBe 1 = .ok (.getfield 7, 3) := by decide +kernel
theorem dX12_canBe_4 : decode cX12_canBe 4 = .ok (.bipush 20, 2) := by decide +kernel
theorem dX12_canBe_6 : decode cX12_canBe 6 = .ok (.iload_n 2, 1) := by decide +kernel
theorem dX12_canBe_7 : decode cX12_canBe 7 = .ok (.iadd, 1) := by decide +kernel
theorem dX12_canBe_8 : decode cX12_canBe 8 = .ok (.iaload, 1) := by decide +kernel
theorem dX12_canBe_9 : decode cX12_canBe 9 = .ok (.iconst 5, 1) := by decide +kernel
theorem dX12_canBe_10 : decode cX12_canBe 10 = .ok (.if_icmp .eq 7, 3) := by decide +kernel
theorem dX12_canBe_13 : decode cX12_canBe 13 = .ok (.iconst 1, 1) := by decide +kernel
theorem dX12_canBe_14 : decode cX12_canBe 14 = .ok (.goto 4, 3) := by decide +kernel
theorem dX12_canBe_17 : decode cX12_canBe 17 = .ok (.iconst 0, 1) := by decide +kernel
theorem dX12_canBe_18 : decode cX12_canBe 18 = .ok (.istore 4, 2) := by decide +kernel
theorem dX12_canBe_20 : decode cX12_canBe 20 = .ok (.iconst 0, 1) := by decide +kernel
theorem dX12_canBe_21 : decode cX12_canBe 21 = .ok (.istore 5, 2) := by decide +kernel
theorem dX12_canBe_23 : decode cX12_canBe 23 = .ok (.iload 5, 2) := by decide +kernel
theorem dX12_canBe_25 : decode cX12_canBe 25 = .ok (.aload_n 0, 1) := by decide +kernel
theorem dX12_canBe_26 : decode cX12_canBe 26 = .ok (.getfield 7, 3) := by decide +kernel
theorem dX12_canBe_29 : decode cX12_canBe 29 = .ok (.sipush 250, 3) := by decide +kernel
theorem dX12_canBe_32 : decode cX12_canBe 32 = .ok (.iload_n 1, 1) := by decide +kernel
theorem dX12_canBe_33 : decode cX12_canBe 33 = .ok (.iadd, 1) := by decide +kernel
theorem dX12_canBe_34 : decode cX12_canBe 34 = .ok (.iaload, 1) := by decide +kernel
theorem dX12_canBe_35 : decode cX12_canBe 35 = .ok (.if_icmp .ge 61, 3) := by decide +kernel
theorem dX12_canBe_38 : decode cX12_canBe 38 = .ok (.iload 4, 2) := by decide +kernel
theorem dX12_canBe_40 : decode cX12_canBe 40 = .ok (.ifCond .eq 47, 3) := by decide +kernel
theorem dX12_canBe_43 : decode cX12_canBe 43 = .ok (.aload_n 0, 1) := by decide +kernel
theorem dX12_canBe_44 : decode cX12_canBe 44 = .ok (.getfield 7, 3) := by decide +kernel
theorem dX12_canBe_47 : decode cX12_canBe 47 = .ok (.sipush 356, 3) := by decide +kernel
theorem dX12_canBe_50 : decode cX12_canBe 50 = .ok (.bipush 12, 2) := by decide +kernel
theorem dX12_canBe_52 : decode cX12_canBe 52 = .ok (.iload_n 1, 1) := by decide +kernel
theorem dX12_canBe_53 : decode cX12_canBe 53 = .ok (.imul, 1) := by decide +kernel
theorem dX12_canBe_54 : decode cX12_canBe 54 = .ok (.iadd, 1) := by decide +kernel
theorem dX12_canBe_55 : decode cX12_canBe 55 = .ok (.iload 5, 2) := by decide +kernel
theorem dX12_canBe_57 : decode cX12_canBe 57 = .ok (.iadd, 1) := by decide +kernel
theorem dX12_canBe_58 : decode cX12_canBe 58 = .ok (.iaload, 1) := by decide +kernel
theorem dX12_canBe_59 : decode cX12_canBe 59 = .ok (.iload_n 3, 1) := by decide +kernel
theorem dX12_canBe_60 : decode cX12_canBe 60 = .ok (.if_icmp .ne 23, 3) := by decide +kernel
theorem dX12_canBe_63 : decode cX12_canBe 63 = .ok (.aload_n 0, 1) := by decide +kernel
theorem dX12_canBe_64 : decode cX12_canBe 64 = .ok (.getfield 7, 3) := by decide +kernel
theorem dX12_canBe_67 : decode cX12_canBe 67 = .ok (.sipush 260, 3) := by decide +kernel
theorem dX12_canBe_70 : decode cX12_canBe 70 = .ok (.bipush 12, 2) := by decide +kernel
theorem dX12_canBe_72 : decode cX12_canBe 72 = .ok (.iload_n 1, 1) := by decide +kernel
theorem dX12_canBe_73 : decode cX12_canBe 73 = .ok (.imul, 1) := by decide +kernel
theorem dX12_canBe_74 : decode cX12_canBe 74 = .ok (.iadd, 1) := by decide +kernel
theorem dX12_canBe_75 : decode cX12_canBe 75 = .ok (.iload 5, 2) := by decide +kernel
theorem dX12_canBe_77 : decode cX12_canBe 77 = .ok (.iadd, 1) := by decide +kernel
theorem dX12_canBe_78 : decode cX12_canBe 78 = .ok (.iaload, 1) := by decide +kernel
theorem dX12_canBe_79 : decode cX12_canBe 79 = .ok (.iload_n 2, 1) := by decide +kernel
theorem dX12_canBe_80 : decode cX12_canBe 80 = .ok (.if_icmp .ne 7, 3) := by decide +kernel
theorem dX12_canBe_83 : decode cX12_canBe 83 = .ok (.iconst 1, 1) := by decide +kernel
theorem dX12_canBe_84 : decode cX12_canBe 84 = .ok (.goto 4, 3) := by decide +kernel
theorem dX12_canBe_87 : decode cX12_canBe 87 = .ok (.iconst 0, 1) := by decide +kernel
theorem dX12_canBe_88 : decode cX12_canBe 88 = .ok (.istore 4, 2) := by decide +kernel
theorem dX12_canBe_90 : decode cX12_canBe 90 = .ok (.iinc 5 1, 3) := by decide +kernel
theorem dX12_canBe_93 : decode cX12_canBe 93 = .ok (.goto (-70), 3) := by decide +kernel
theorem dX12_canBe_96 : decode cX12_canBe 96 = .ok (.iload 4, 2) := by decide +kernel
theorem dX12_canBe_98 : decode cX12_canBe 98 = .ok (.ireturn, 1) := by decide +kernel
theorem dX12_walks_0 : decode cX12_walks 0 = .ok (.aload_n 0, 1) := by decide +kernel
theorem dX12_walks_1 : decode cX12_walks 1 = .ok (.getfield 62, 3) := by decide +kernel
theorem dX12_walks_4 : decode cX12_walks 4 = .ok (.iload_n 1, 1) := by decide +kernel
theorem dX12_walks_5 : decode cX12_walks 5 = .ok (.iaload, 1) := by decide +kernel
theorem dX12_walks_6 : decode cX12_walks 6 = .ok (.aload_n 0, 1) := by decide +kernel
theorem dX12_walks_7 : decode cX12_walks 7 = .ok (.getfield 65, 3) := by decide +kernel
theorem dX12_walks_10 : decode cX12_walks 10 = .ok (.if_icmp .ne 4, 3) := by decide +kernel
theorem dX12_walks_13 : decode cX12_walks 13 = .ok (.return_, 1) := by decide +kernel
theorem dX12_walks_14 : decode cX12_walks 14 = .ok (.aload_n 0, 1) := by decide +kernel
theorem dX12_walks_15 : decode cX12_walks 15 = .ok (.getfield 62, 3) := by decide +kernel
theorem dX12_walks_18 : decode cX12_walks 18 = .ok (.iload_n 1, 1) := by decide +kernel
theorem dX12_walks_19 : decode cX12_walks 19 = .ok (.aload_n 0, 1) := by decide +kernel
theorem dX12_walks_20 : decode cX12_walks 20 = .ok (.getfield 65, 3) := by decide +kernel
theorem dX12_walks_23 : decode cX12_walks 23 = .ok (.iastore, 1) := by decide +kernel
theorem dX12_walks_24 : decode cX12_walks 24 = .ok (.iconst 0, 1) := by decide +kernel
theorem dX12_walks_25 : decode cX12_walks 25 = .ok (.istore_n 2, 1) := by decide +kernel
theorem dX12_walks_26 : decode cX12_walks 26 = .ok (.iload_n 2, 1) := by decide +kernel
theorem dX12_walks_27 : decode cX12_walks 27 = .ok (.sipush 1920, 3) := by decide +kernel
theorem dX12_walks_30 : decode cX12_walks 30 = .ok (.if_icmp .ge 27, 3) := by decide +kernel
theorem dX12_walks_33 : decode cX12_walks 33 = .ok (.aload_n 0, 1) := by decide +kernel
theorem dX12_walks_34 : decode cX12_walks 34 = .ok (.getfield 53, 3) := by decide +kernel
theorem dX12_walks_37 : decode cX12_walks 37 = .ok (.iload_n 2, 1) := by decide +kernel
theorem dX12_walks_38 : decode cX12_walks 38 = .ok (.iload_n 2, 1) := by decide +kernel
theorem dX12_walks_39 : decode cX12_walks 39 = .ok (.bipush 64, 2) := by decide +kernel
theorem dX12_walks_41 : decode cX12_walks 41 = .ok (.irem, 1) := by decide +kernel
theorem dX12_walks_42 : decode cX12_walks 42 = .ok (.ifCond .ne 7, 3) := by decide +kernel
theorem dX12_walks_45 : decode cX12_walks 45 = .ok (.iconst 1, 1) := by decide +kernel
theorem dX12_walks_46 : decode cX12_walks 46 = .ok (.goto 4, 3) := by decide +kernel
theorem dX12_walks_49 : decode cX12_walks 49 = .ok (.iconst 0, 1) := by decide +kernel
theorem dX12_walks_50 : decode cX12_walks 50 = .ok (.bastore, 1) := by decide +kernel
theorem dX12_walks_51 : decode cX12_walks 51 = .ok (.iinc 2 1, 3) := by decide +kernel
theorem dX12_walks_54 : decode cX12_walks 54 = .ok (.goto (-28), 3) := by decide +kernel
theorem dX12_walks_57 : decode cX12_walks 57 = .ok (.iconst 0, 1) := by decide +kernel
theorem dX12_walks_58 : decode cX12_walks 58 = .ok (.istore_n 2, 1) := by decide +kernel
theorem dX12_walks_59 : decode cX12_walks 59 = .ok (.iload_n 2, 1) := by decide +kernel
theorem dX12_walks_60 : decode cX12_walks 60 = .ok (.bipush 24, 2) := by decide +kernel
theorem dX12_walks_62 : decode cX12_walks 62 = .ok (.if_icmp .ge 383, 3) := by decide +kernel
theorem dX12_walks_65 : decode cX12_walks 65 = .ok (.iconst 0, 1) := by decide +kernel
theorem dX12_walks_66 : decode cX12_walks 66 = .ok (.istore_n 3, 1) := by decide +kernel
theorem dX12_walks_67 : decode cX12_walks 67 = .ok (.iload_n 3, 1) := by decide +kernel
theorem dX12_walks_68 : decode cX12_walks 68 = .ok (.bipush 30, 2) := by decide +kernel
theorem dX12_walks_70 : decode cX12_walks 70 = .ok (.if_icmp .ge 182, 3) := by decide +kernel
theorem dX12_walks_73 : decode cX12_walks 73 = .ok (.aload_n 0, 1) := by decide +kernel
theorem dX12_walks_74 : decode cX12_walks 74 = .ok (.iload_n 1, 1) := by decide +kernel
theorem dX12_walks_75 : decode cX12_walks 75 = .ok (.iload_n 3, 1) := by decide +kernel
theorem dX12_walks_76 : decode cX12_walks 76 = .ok (.iload_n 2, 1) := by decide +kernel
theorem dX12_walks_77 : decode cX12_walks 77 = .ok (.invokevirtual 234, 3) := by decide +kernel
theorem dX12_walks_80 : decode cX12_walks 80 = .ok (.istore 4, 2) := by decide +kernel
theorem dX12_walks_82 : decode cX12_walks 82 = .ok (.iconst 0, 1) := by decide +kernel
theorem dX12_walks_83 : decode cX12_walks 83 = .ok (.istore 5, 2) := by decide +kernel
theorem dX12_walks_85 : decode cX12_walks 85 = .ok (.iload 5, 2) := by decide +kernel
theorem dX12_walks_87 : decode cX12_walks 87 = .ok (.iconst 1, 1) := by decide +kernel
theorem dX12_walks_88 : decode cX12_walks 88 = .ok (.aload_n 0, 1) := by decide +kernel
theorem dX12_walks_89 : decode cX12_walks 89 = .ok (.getfield 7, 3) := by decide +kernel
theorem dX12_walks_92 : decode cX12_walks 92 = .ok (.bipush 6, 2) := by decide +kernel
theorem dX12_walks_94 : decode cX12_walks 94 = .ok (.iaload, 1) := by decide +kernel
theorem dX12_walks_95 : decode cX12_walks 95 = .ok (.ishl, 1) := by decide +kernel
theorem dX12_walks_96 : decode cX12_walks 96 = .ok (.if_icmp .ge 150, 3) := by decide +kernel
theorem dX12_walks_99 : decode cX12_walks 99 = .ok (.aload_n 0, 1) := by decide +kernel
theorem dX12_walks_100 : decode cX12_walks 100 = .ok (.getfield 53, 3) := by decide +kernel
theorem dX12_walks_103 : decode cX12_walks 103 = .ok (.bipush 64, 2) := by decide +kernel
theorem dX12_walks_105 : decode cX12_walks 105 = .ok (.iload_n 3, 1) := by decide +kernel
theorem dX12_walks_106 : decode cX12_walks 106 = .ok (.imul, 1) := by decide +kernel
theorem dX12_walks_107 : decode cX12_walks 107 = .ok (.iload 5, 2) := by decide +kernel
theorem dX12_walks_109 : decode cX12_walks 109 = .ok (.iadd, 1) := by decide +kernel
theorem dX12_walks_110 : decode cX12_walks 110 = .ok (.baload, 1) := by decide +kernel
theorem dX12_walks_111 : decode cX12_walks 111 = .ok (.istore 6, 2) := by decide +kernel
theorem dX12_walks_113 : decode cX12_walks 113 = .ok (.iconst 0, 1) := by decide +kernel
theorem dX12_walks_114 : decode cX12_walks 114 = .ok (.istore 7, 2) := by decide +kernel
theorem dX12_walks_116 : decode cX12_walks 116 = .ok (.iload 7, 2) := by decide +kernel
theorem dX12_walks_118 : decode cX12_walks 118 = .ok (.iconst 4, 1) := by decide +kernel
theorem dX12_walks_119 : decode cX12_walks 119 = .ok (.if_icmp .ge 94, 3) := by decide +kernel
theorem dX12_walks_122 : decode cX12_walks 122 = .ok (.iload_n 2, 1) := by decide +kernel
theorem dX12_walks_123 : decode cX12_walks 123 = .ok (.ifCond .le 90, 3) := by decide +kernel
theorem dX12_walks_126 : decode cX12_walks 126 = .ok (.iload 6, 2) := by decide +kernel
theorem dX12_walks_128 : decode cX12_walks 128 = .ok (.ifCond .ne 85, 3) := by decide +kernel
theorem dX12_walks_131 : decode cX12_walks 131 = .ok (.iload_n 3, 1) := by decide +kernel
theorem dX12_walks_132 : decode cX12_walks 132 = .ok (.iload 7, 2) := by decide +kernel
theorem dX12_walks_134 : decode cX12_walks 134 = .ok (.ifCond .ne 7, 3) := by decide +kernel
theorem dX12_walks_137 : decode cX12_walks 137 = .ok (.iconst 1, 1) := by decide +kernel
theorem dX12_walks_138 : decode cX12_walks 138 = .ok (.goto 26, 3) := by decide +kernel
theorem dX12_walks_141 : decode cX12_walks 141 = .ok (.iload 7, 2) := by decide +kernel
theorem dX12_walks_143 : decode cX12_walks 143 = .ok (.iconst 1, 1) := by decide +kernel
theorem dX12_walks_144 : decode cX12_walks 144 = .ok (.if_icmp .ne 7, 3) := by decide +kernel
theorem dX12_walks_147 : decode cX12_walks 147 = .ok (.iconst (-1), 1) := by decide +kernel
theorem dX12_walks_148 : decode cX12_walks 148 = .ok (.goto 16, 3) := by decide +kernel
theorem dX12_walks_151 : decode cX12_walks 151 = .ok (.iload 7, 2) := by decide +kernel
theorem dX12_walks_153 : decode cX12_walks 153 = .ok (.iconst 2, 1) := by decide +kernel
theorem dX12_walks_154 : decode cX12_walks 154 = .ok (.if_icmp .ne 8, 3) := by decide +kernel
theorem dX12_walks_157 : decode cX12_walks 157 = .ok (.bipush 6, 2) := by decide +kernel
theorem dX12_walks_159 : decode cX12_walks 159 = .ok (.goto 5, 3) := by decide +kernel
theorem dX12_walks_162 : decode cX12_walks 162 = .ok (.bipush (-6), 2) := by decide +kernel
theorem dX12_walks_164 : decode cX12_walks 164 = .ok (.iadd, 1) := by decide +kernel
theorem dX12_walks_165 : decode cX12_walks 165 = .ok (.istore 8, 2) := by decide +kernel
theorem dX12_walks_167 : decode cX12_walks 167 = .ok (.iload 8, 2) := by decide +kernel
theorem dX12_walks_169 : decode cX12_walks 169 = .ok (.invokestatic 78, 3) := by decide +kernel
theorem dX12_walks_172 : decode cX12_walks 172 = .ok (.ifCond .eq 32, 3) := by decide +kernel
theorem dX12_walks_175 : decode cX12_walks 175 = .ok (.iload_n 3, 1) := by decide +kernel
theorem dX12_walks_176 : decode cX12_walks 176 = .ok (.iload 8, 2) := by decide +kernel
theorem dX12_walks_178 : decode cX12_walks 178 = .ok (.invokestatic 82, 3) := by decide +kernel
theorem dX12_walks_181 : decode cX12_walks 181 = .ok (.ifCond .eq 23, 3) := by decide +kernel
theorem dX12_walks_184 : decode cX12_walks 184 = .ok (.aload_n 0, 1) := by decide +kernel
theorem dX12_walks_185 : decode cX12_walks 185 = .ok (.getfield 53, 3) := by decide +kernel
theorem dX12_walks_188 : decode cX12_walks 188 = .ok (.bipush 64, 2) := by decide +kernel
theorem dX12_walks_190 : decode cX12_walks 190 = .ok (.iload 8, 2) := by decide +kernel
theorem dX12_walks_192 : decode cX12_walks 192 = .ok (.imul, 1) := by decide +kernel
theorem dX12_walks_193 : decode cX12_walks 193 = .ok (.iload 5, 2) := by decide +kernel
theorem dX12_walks_195 : decode cX12_walks 195 = .ok (.iadd, 1) := by decide +kernel
theorem dX12_walks_196 : decode cX12_walks 196 = .ok (.baload, 1) := by decide +kernel
theorem dX12_walks_197 : decode cX12_walks 197 = .ok (.ifCond .eq 7, 3) := by decide +kernel
theorem dX12_walks_200 : decode cX12_walks 200 = .ok (.iconst 1, 1) := by decide +kernel
theorem dX12_walks_201 : decode cX12_walks 201 = .ok (.goto 4, 3) := by decide +kernel
theorem dX12_walks_204 : decode cX12_walks 204 = .ok (.iconst 0, 1) := by decide +kernel
theorem dX12_walks_205 : decode cX12_walks 205 = .ok (.istore 6, 2) := by decide +kernel
theorem dX12_walks_207 : decode cX12_walks 207 = .ok (.iinc 7 1, 3) := by decide +kernel
theorem dX12_walks_210 : decode cX12_walks 210 = .ok (.goto (-94), 3) := by decide +kernel
theorem dX12_walks_213 : decode cX12_walks 213 = .ok (.aload_n 0, 1) := by decide +kernel
theorem dX12_walks_214 : decode cX12_walks 214 = .ok (.getfield 56, 3) := by decide +kernel
theorem dX12_walks_217 : decode cX12_walks 217 = .ok (.bipush 64, 2) := by decide +kernel
theorem dX12_walks_219 : decode cX12_walks 219 = .ok (.iload_n 3, 1) := by decide +kernel
theorem dX12_walks_220 : decode cX12_walks 220 = .ok (.imul, 1) := by decide +kernel
theorem dX12_walks_221 : decode cX12_walks 221 = .ok (.iload 5, 2) := by decide +kernel
theorem dX12_walks_223 : decode cX12_walks 223 = .ok (.iadd, 1) := by decide +kernel
theorem dX12_walks_224 : decode cX12_walks 224 = .ok (.iload 6, 2) := by decide +kernel
theorem dX12_walks_226 : decode cX12_walks 226 = .ok (.ifCond .eq 12, 3) := by decide +kernel
theorem dX12_walks_229 : decode cX12_walks 229 = .ok (.iload 4, 2) := by decide +kernel
theorem dX12_walks_231 : decode cX12_walks 231 = .ok (.ifCond .eq 7, 3) := by decide +kernel
theorem dX12_walks_234 : decode cX12_walks 234 = .ok (.iconst 1, 1) := by decide +kernel
theorem dX12_walks_235 : decode cX12_walks 235 = .ok (.goto 4, 3) := by decide +kernel
theorem dX12_walks_238 : decode cX12_walks 238 = .ok (.iconst 0, 1) := by decide +kernel
theorem dX12_walks_239 : decode cX12_walks 239 = .ok (.bastore, 1) := by decide +kernel
theorem dX12_walks_240 : decode cX12_walks 240 = .ok (.iinc 5 1, 3) := by decide +kernel
theorem dX12_walks_243 : decode cX12_walks 243 = .ok (.goto (-158), 3) := by decide +kernel
theorem dX12_walks_246 : decode cX12_walks 246 = .ok (.iinc 3 1, 3) := by decide +kernel
theorem dX12_walks_249 : decode cX12_walks 249 = .ok (.goto (-182), 3) := by decide +kernel
theorem dX12_walks_252 : decode cX12_walks 252 = .ok (.iconst 0, 1) := by decide +kernel
theorem dX12_walks_253 : decode cX12_walks 253 = .ok (.istore_n 3, 1) := by decide +kernel
theorem dX12_walks_254 : decode cX12_walks 254 = .ok (.iload_n 3, 1) := by decide +kernel
theorem dX12_walks_255 : decode cX12_walks 255 = .ok (.bipush 30, 2) := by decide +kernel
theorem dX12_walks_257 : decode cX12_walks 257 = .ok (.if_icmp .ge 182, 3) := by decide +kernel
theorem dX12_walks_260 : decode cX12_walks 260 = .ok (.iconst 0, 1) := by decide +kernel
theorem dX12_walks_261 : decode cX12_walks 261 = .ok (.istore 4, 2) := by decide +kernel
theorem dX12_walks_263 : decode cX12_walks 263 = .ok (.iload 4, 2) := by decide +kernel
theorem dX12_walks_265 : decode cX12_walks 265 = .ok (.iconst 1, 1) := by decide +kernel
theorem dX12_walks_266 : decode cX12_walks 266 = .ok (.aload_n 0, 1) := by decide +kernel
theorem dX12_walks_267 : decode cX12_walks 267 = .ok (.getfield 7, 3) := by decide +kernel
theorem dX12_walks_270 : decode cX12_walks 270 = .ok (.bipush 6, 2) := by decide +kernel
theorem dX12_walks_272 : decode cX12_walks 272 = .ok (.iaload, 1) := by decide +kernel
theorem dX12_walks_273 : decode cX12_walks 273 = .ok (.ishl, 1) := by decide +kernel
theorem dX12_walks_274 : decode cX12_walks 274 = .ok (.if_icmp .ge 159, 3) := by decide +kernel
theorem dX12_walks_277 : decode cX12_walks 277 = .ok (.aload_n 0, 1) := by decide +kernel
theorem dX12_walks_278 : decode cX12_walks 278 = .ok (.getfield 56, 3) := by decide +kernel
theorem dX12_walks_281 : decode cX12_walks 281 = .ok (.bipush 64, 2) := by decide +kernel
theorem dX12_walks_283 : decode cX12_walks 283 = .ok (.iload_n 3, 1) := by decide +kernel
theorem dX12_walks_284 : decode cX12_walks 284 = .ok (.imul, 1) := by decide +kernel
theorem dX12_walks_285 : decode cX12_walks 285 = .ok (.iload 4, 2) := by decide +kernel
theorem dX12_walks_287 : decode cX12_walks 287 = .ok (.iadd, 1) := by decide +kernel
theorem dX12_walks_288 : decode cX12_walks 288 = .ok (.baload, 1) := by decide +kernel
theorem dX12_walks_289 : decode cX12_walks 289 = .ok (.istore 5, 2) := by decide +kernel
theorem dX12_walks_291 : decode cX12_walks 291 = .ok (.iconst 0, 1) := by decide +kernel
theorem dX12_walks_292 : decode cX12_walks 292 = .ok (.istore 6, 2) := by decide +kernel
theorem dX12_walks_294 : decode cX12_walks 294 = .ok (.iload 6, 2) := by decide +kernel
theorem dX12_walks_296 : decode cX12_walks 296 = .ok (.aload_n 0, 1) := by decide +kernel
theorem dX12_walks_297 : decode cX12_walks 297 = .ok (.getfield 7, 3) := by decide +kernel
theorem dX12_walks_300 : decode cX12_walks 300 = .ok (.bipush 6, 2) := by decide +kernel
theorem dX12_walks_302 : decode cX12_walks 302 = .ok (.iaload, 1) := by decide +kernel
theorem dX12_walks_303 : decode cX12_walks 303 = .ok (.if_icmp .ge 110, 3) := by decide +kernel
theorem dX12_walks_306 : decode cX12_walks 306 = .ok (.iload 5, 2) := by decide +kernel
theorem dX12_walks_308 : decode cX12_walks 308 = .ok (.ifCond .ne 105, 3) := by decide +kernel
theorem dX12_walks_311 : decode cX12_walks 311 = .ok (.iload 4, 2) := by decide +kernel
theorem dX12_walks_313 : decode cX12_walks 313 = .ok (.iload 6, 2) := by decide +kernel
theorem dX12_walks_315 : decode cX12_walks 315 = .ok (.ishr, 1) := by decide +kernel
theorem dX12_walks_316 : decode cX12_walks 316 = .ok (.iconst 1, 1) := by decide +kernel
theorem dX12_walks_317 : decode cX12_walks 317 = .ok (.iand, 1) := by decide +kernel
theorem dX12_walks_318 : decode cX12_walks 318 = .ok (.iconst 1, 1) := by decide +kernel
theorem dX12_walks_319 : decode cX12_walks 319 = .ok (.if_icmp .ne 51, 3) := by decide +kernel
theorem dX12_walks_322 : decode cX12_walks 322 = .ok (.aload_n 0, 1) := by decide +kernel
theorem dX12_walks_323 : decode cX12_walks 323 = .ok (.getfield 7, 3) := by decide +kernel
theorem dX12_walks_326 : decode cX12_walks 326 = .ok (.sipush 230, 3) := by decide +kernel
theorem dX12_walks_329 : decode cX12_walks 329 = .ok (.iload 6, 2) := by decide +kernel
theorem dX12_walks_331 : decode cX12_walks 331 = .ok (.iadd, 1) := by decide +kernel
theorem dX12_walks_332 : decode cX12_walks 332 = .ok (.iaload, 1) := by decide +kernel
theorem dX12_walks_333 : decode cX12_walks 333 = .ok (.iload_n 3, 1) := by decide +kernel
theorem dX12_walks_334 : decode cX12_walks 334 = .ok (.if_icmp .ne 36, 3) := by decide +kernel
theorem dX12_walks_337 : decode cX12_walks 337 = .ok (.iload_n 2, 1) := by decide +kernel
theorem dX12_walks_338 : decode cX12_walks 338 = .ok (.aload_n 0, 1) := by decide +kernel
theorem dX12_walks_339 : decode cX12_walks 339 = .ok (.getfield 7, 3) := by decide +kernel
theorem dX12_walks_342 : decode cX12_walks 342 = .ok (.sipush 236, 3) := by decide +kernel
theorem dX12_walks_345 : decode cX12_walks 345 = .ok (.iload 6, 2) := by decide +kernel
theorem dX12_walks_347 : decode cX12_walks 347 = .ok (.iadd, 1) := by decide +kernel
theorem dX12_walks_348 : decode cX12_walks 348 = .ok (.iaload, 1) := by decide +kernel
theorem dX12_walks_349 : decode cX12_walks 349 = .ok (.aload_n 0, 1) := by decide +kernel
theorem dX12_walks_350 : decode cX12_walks 350 = .ok (.getfield 7, 3) := by decide +kernel
theorem dX12_walks_353 : decode cX12_walks 353 = .ok (.sipush 242, 3) := by decide +kernel
theorem dX12_walks_356 : decode cX12_walks 356 = .ok (.iload 6, 2) := by decide +kernel
theorem dX12_walks_358 : decode cX12_walks 358 = .ok (.iadd, 1) := by decide +kernel
theorem dX12_walks_359 : decode cX12_walks 359 = .ok (.iaload, 1) := by decide +kernel
theorem dX12_walks_360 : decode cX12_walks 360 = .ok (.invokestatic 74, 3) := by decide +kernel
theorem dX12_walks_363 : decode cX12_walks 363 = .ok (.ifCond .eq 7, 3) := by decide +kernel
theorem dX12_walks_366 : decode cX12_walks 366 = .ok (.iconst 1, 1) := by decide +kernel
theorem dX12_walks_367 : decode cX12_walks 367 = .ok (.goto 4, 3) := by decide +kernel
theorem dX12_walks_370 : decode cX12_walks 370 = .ok (.iconst 0, 1) := by decide +kernel
theorem dX12_walks_371 : decode cX12_walks 371 = .ok (.istore 7, 2) := by decide +kernel
theorem dX12_walks_373 : decode cX12_walks 373 = .ok (.iload 7, 2) := by decide +kernel
theorem dX12_walks_375 : decode cX12_walks 375 = .ok (.ifCond .eq 29, 3) := by decide +kernel
theorem dX12_walks_378 : decode cX12_walks 378 = .ok (.aload_n 0, 1) := by decide +kernel
theorem dX12_walks_379 : decode cX12_walks 379 = .ok (.getfield 56, 3) := by decide +kernel
theorem dX12_walks_382 : decode cX12_walks 382 = .ok (.bipush 64, 2) := by decide +kernel
theorem dX12_walks_384 : decode cX12_walks 384 = .ok (.iload_n 3, 1) := by decide +kernel
theorem dX12_walks_385 : decode cX12_walks 385 = .ok (.imul, 1) := by decide +kernel
theorem dX12_walks_386 : decode cX12_walks 386 = .ok (.iload 4, 2) := by decide +kernel
theorem dX12_walks_388 : decode cX12_walks 388 = .ok (.iconst 1, 1) := by decide +kernel
theorem dX12_walks_389 : decode cX12_walks 389 = .ok (.iload 6, 2) := by decide +kernel
theorem dX12_walks_391 : decode cX12_walks 391 = .ok (.ishl, 1) := by decide +kernel
theorem dX12_walks_392 : decode cX12_walks 392 = .ok (.iconst (-1), 1) := by decide +kernel
theorem dX12_walks_393 : decode cX12_walks 393 = .ok (.ixor, 1) := by decide +kernel
theorem dX12_walks_394 : decode cX12_walks 394 = .ok (.iand, 1) := by decide +kernel
theorem dX12_walks_395 : decode cX12_walks 395 = .ok (.iadd, 1) := by decide +kernel
theorem dX12_walks_396 : decode cX12_walks 396 = .ok (.baload, 1) := by decide +kernel
theorem dX12_walks_397 : decode cX12_walks 397 = .ok (.ifCond .eq 7, 3) := by decide +kernel
theorem dX12_walks_400 : decode cX12_walks 400 = .ok (.iconst 1, 1) := by decide +kernel
theorem dX12_walks_401 : decode cX12_walks 401 = .ok (.goto 4, 3) := by decide +kernel
theorem dX12_walks_404 : decode cX12_walks 404 = .ok (.iconst 0, 1) := by decide +kernel
theorem dX12_walks_405 : decode cX12_walks 405 = .ok (.istore 5, 2) := by decide +kernel
theorem dX12_walks_407 : decode cX12_walks 407 = .ok (.iinc 6 1, 3) := by decide +kernel
theorem dX12_walks_410 : decode cX12_walks 410 = .ok (.goto (-116), 3) := by decide +kernel
theorem dX12_walks_413 : decode cX12_walks 413 = .ok (.aload_n 0, 1) := by decide +kernel
theorem dX12_walks_414 : decode cX12_walks 414 = .ok (.getfield 53, 3) := by decide +kernel
theorem dX12_walks_417 : decode cX12_walks 417 = .ok (.bipush 64, 2) := by decide +kernel
theorem dX12_walks_419 : decode cX12_walks 419 = .ok (.iload_n 3, 1) := by decide +kernel
theorem dX12_walks_420 : decode cX12_walks 420 = .ok (.imul, 1) := by decide +kernel
theorem dX12_walks_421 : decode cX12_walks 421 = .ok (.iload 4, 2) := by decide +kernel
theorem dX12_walks_423 : decode cX12_walks 423 = .ok (.iadd, 1) := by decide +kernel
theorem dX12_walks_424 : decode cX12_walks 424 = .ok (.iload 5, 2) := by decide +kernel
theorem dX12_walks_426 : decode cX12_walks 426 = .ok (.bastore, 1) := by decide +kernel
theorem dX12_walks_427 : decode cX12_walks 427 = .ok (.iinc 4 1, 3) := by decide +kernel
theorem dX12_walks_430 : decode cX12_walks 430 = .ok (.goto (-167), 3) := by decide +kernel
theorem dX12_walks_433 : decode cX12_walks 433 = .ok (.iinc 3 1, 3) := by decide +kernel
theorem dX12_walks_436 : decode cX12_walks 436 = .ok (.goto (-182), 3) := by decide +kernel
theorem dX12_walks_439 : decode cX12_walks 439 = .ok (.iinc 2 1, 3) := by decide +kernel
theorem dX12_walks_442 : decode cX12_walks 442 = .ok (.goto (-383), 3) := by decide +kernel
theorem dX12_walks_445 : decode cX12_walks 445 = .ok (.iconst 0, 1) := by decide +kernel
theorem dX12_walks_446 : decode cX12_walks 446 = .ok (.istore_n 2, 1) := by decide +kernel
theorem dX12_walks_447 : decode cX12_walks 447 = .ok (.iload_n 2, 1) := by decide +kernel
theorem dX12_walks_448 : decode cX12_walks 448 = .ok (.bipush 64, 2) := by decide +kernel
theorem dX12_walks_450 : decode cX12_walks 450 = .ok (.if_icmp .ge 15, 3) := by decide +kernel
theorem dX12_walks_453 : decode cX12_walks 453 = .ok (.aload_n 0, 1) := by decide +kernel
theorem dX12_walks_454 : decode cX12_walks 454 = .ok (.iload_n 1, 1) := by decide +kernel
theorem dX12_walks_455 : decode cX12_walks 455 = .ok (.iload_n 2, 1) := by decide +kernel
theorem dX12_walks_456 : decode cX12_walks 456 = .ok (.invokevirtual 237, 3) := by decide +kernel
theorem dX12_walks_459 : decode cX12_walks 459 = .ok (.iinc 2 1, 3) := by decide +kernel
theorem dX12_walks_462 : decode cX12_walks 462 = .ok (.goto (-15), 3) := by decide +kernel
theorem dX12_walks_465 : decode cX12_walks 465 = .ok (.return_, 1) := by decide +kernel
theorem dX12_finds__0 : decode cX12_finds_ 0 = .ok (.iconst 0, 1) := by decide +kernel
theorem dX12_finds__1 : decode cX12_finds_ 1 = .ok (.istore_n 3, 1) := by decide +kernel
theorem dX12_finds__2 : decode cX12_finds_ 2 = .ok (.iconst 0, 1) := by decide +kernel
theorem dX12_finds__3 : decode cX12_finds_ 3 = .ok (.istore 4, 2) := by decide +kernel
theorem dX12_finds__5 : decode cX12_finds_ 5 = .ok (.iload 4, 2) := by decide +kernel
theorem dX12_finds__7 : decode cX12_finds_ 7 = .ok (.bipush 30, 2) := by decide +kernel
theorem dX12_finds__9 : decode cX12_finds_ 9 = .ok (.if_icmp .ge 34, 3) := by decide +kernel
theorem dX12_finds__12 : decode cX12_finds_ 12 = .ok (.iload_n 3, 1) := by decide +kernel
theorem dX12_finds__13 : decode cX12_finds_ 13 = .ok (.ifCond .ne 18, 3) := by decide +kernel
theorem dX12_finds__16 : decode cX12_finds_ 16 = .ok (.aload_n 0, 1) := by decide +kernel
theorem dX12_finds__17 : decode cX12_finds_ 17 = .ok (.getfield 53, 3) := by decide +kernel
theorem dX12_finds__20 : decode cX12_finds_ 20 = .ok (.bipush 64, 2) := by decide +kernel
theorem dX12_finds__22 : decode cX12_finds_ 22 = .ok (.iload 4, 2) := by decide +kernel
theorem dX12_finds__24 : decode cX12_finds_ 24 = .ok (.imul, 1) := by decide +kernel
theorem dX12_finds__25 : decode cX12_finds_ 25 = .ok (.iload_n 2, 1) := by decide +kernel
theorem dX12_finds__26 : decode cX12_finds_ 26 = .ok (.iadd, 1) := by decide +kernel
theorem dX12_finds__27 : decode cX12_finds_ 27 = .ok (.baload, 1) := by decide +kernel
theorem dX12_finds__28 : decode cX12_finds_ 28 = .ok (.ifCond .eq 7, 3) := by decide +kernel
theorem dX12_finds__31 : decode cX12_finds_ 31 = .ok (.iconst 1, 1) := by decide +kernel
theorem dX12_finds__32 : decode cX12_finds_ 32 = .ok (.goto 4, 3) := by decide +kernel
theorem dX12_finds__35 : decode cX12_finds_ 35 = .ok (.iconst 0, 1) := by decide +kernel
theorem dX12_finds__36 : decode cX12_finds_ 36 = .ok (.istore_n 3, 1) := by decide +kernel
theorem dX12_finds__37 : decode cX12_finds_ 37 = .ok (.iinc 4 1, 3) := by decide +kernel
theorem dX12_finds__40 : decode cX12_finds_ 40 = .ok (.goto (-35), 3) := by decide +kernel
theorem dX12_finds__43 : decode cX12_finds_ 43 = .ok (.aload_n 0, 1) := by decide +kernel
theorem dX12_finds__44 : decode cX12_finds_ 44 = .ok (.getfield 59, 3) := by decide +kernel
theorem dX12_finds__47 : decode cX12_finds_ 47 = .ok (.bipush 64, 2) := by decide +kernel
theorem dX12_finds__49 : decode cX12_finds_ 49 = .ok (.iload_n 1, 1) := by decide +kernel
theorem dX12_finds__50 : decode cX12_finds_ 50 = .ok (.imul, 1) := by decide +kernel
theorem dX12_finds__51 : decode cX12_finds_ 51 = .ok (.iload_n 2, 1) := by decide +kernel
theorem dX12_finds__52 : decode cX12_finds_ 52 = .ok (.iadd, 1) := by decide +kernel
theorem dX12_finds__53 : decode cX12_finds_ 53 = .ok (.iload_n 3, 1) := by decide +kernel
theorem dX12_finds__54 : decode cX12_finds_ 54 = .ok (.bastore, 1) := by decide +kernel
theorem dX12_finds__55 : decode cX12_finds_ 55 = .ok (.return_, 1) := by decide +kernel
theorem dX12_who_0 : decode cX12_who 0 = .ok (.iload_n 1, 1) := by decide +kernel
theorem dX12_who_1 : decode cX12_who 1 = .ok (.invokestatic 231, 3) := by decide +kernel
theorem dX12_who_4 : decode cX12_who 4 = .ok (.ifCond .ne 5, 3) := by decide +kernel
theorem dX12_who_7 : decode cX12_who 7 = .ok (.iconst (-1), 1) := by decide +kernel
theorem dX12_who_8 : decode cX12_who 8 = .ok (.ireturn, 1) := by decide +kernel
theorem dX12_who_9 : decode cX12_who 9 = .ok (.iload_n 2, 1) := by decide +kernel
theorem dX12_who_10 : decode cX12_who 10 = .ok (.iconst 0, 1) := by decide +kernel
theorem dX12_who_11 : decode cX12_who 11 = .ok (.iconst 1, 1) := by decide +kernel
theorem dX12_who_12 : decode cX12_who 12 = .ok (.aload_n 0, 1) := by decide +kernel
theorem dX12_who_13 : decode cX12_who 13 = .ok (.getfield 7, 3) := by decide +kernel
theorem dX12_who_16 : decode cX12_who 16 = .ok (.bipush 6, 2) := by decide +kernel
theorem dX12_who_18 : decode cX12_who 18 = .ok (.iaload, 1) := by decide +kernel
theorem dX12_who_19 : decode cX12_who 19 = .ok (.ishl, 1) := by decide +kernel
theorem dX12_who_20 : decode cX12_who 20 = .ok (.iconst 1, 1) := by decide +kernel
theorem dX12_who_21 : decode cX12_who 21 = .ok (.isub, 1) := by decide +kernel
theorem dX12_who_22 : decode cX12_who 22 = .ok (.invokestatic 74, 3) := by decide +kernel
theorem dX12_who_25 : decode cX12_who 25 = .ok (.ifCond .ne 6, 3) := by decide +kernel
theorem dX12_who_28 : decode cX12_who 28 = .ok (.bipush (-2), 2) := by decide +kernel
theorem dX12_who_30 : decode cX12_who 30 = .ok (.ireturn, 1) := by decide +kernel
theorem dX12_who_31 : decode cX12_who 31 = .ok (.aload_n 0, 1) := by decide +kernel
theorem dX12_who_32 : decode cX12_who 32 = .ok (.iload_n 1, 1) := by decide +kernel
theorem dX12_who_33 : decode cX12_who 33 = .ok (.invokevirtual 240, 3) := by decide +kernel
theorem dX12_who_36 : decode cX12_who 36 = .ok (.aload_n 0, 1) := by decide +kernel
theorem dX12_who_37 : decode cX12_who 37 = .ok (.getfield 59, 3) := by decide +kernel
theorem dX12_who_40 : decode cX12_who 40 = .ok (.bipush 64, 2) := by decide +kernel
theorem dX12_who_42 : decode cX12_who 42 = .ok (.iload_n 1, 1) := by decide +kernel
