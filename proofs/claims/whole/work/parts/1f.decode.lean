theorem dX11_copyRow__1 : decode cX11_copyRow_ 1 = .ok (.iconst 0, 1) := by decide +kernel
theorem dX11_copyRow__2 : decode cX11_copyRow_ 2 = .ok (.aload_n 1, 1) := by decide +kernel
theorem dX11_copyRow__3 : decode cX11_copyRow_ 3 = .ok (.iconst 0, 1) := by decide +kernel
theorem dX11_copyRow__4 : decode cX11_copyRow_ 4 = .ok (.aload_n 0, 1) := by decide +kernel
theorem dX11_copyRow__5 : decode cX11_copyRow_ 5 = .ok (.arraylength, 1) := by decide +kernel
theorem dX11_copyRow__6 : decode cX11_copyRow_ 6 = .ok (.aload_n 1, 1) := by decide +kernel
theorem dX11_copyRow__7 : decode cX11_copyRow_ 7 = .ok (.arraylength, 1) := by decide +kernel
theorem dX11_copyRow__8 : decode cX11_copyRow_ 8 = .ok (.invokestatic 468, 3) := by decide +kernel
theorem dX11_copyRow__11 : decode cX11_copyRow_ 11 = .ok (.invokestatic 473, 3) := by decide +kernel
theorem dX11_copyRow__14 : decode cX11_copyRow_ 14 = .ok (.return_, 1) := by decide +kernel
theorem dX12_init_0 : decode cX12_init 0 = .ok (.aload_n 0, 1) := by decide +kernel
theorem dX12_init_1 : decode cX12_init 1 = .ok (.invokespecial 1, 3) := by decide +kernel
theorem dX12_init_4 : decode cX12_init 4 = .ok (.aload_n 0, 1) := by decide +kernel
theorem dX12_init_5 : decode cX12_init 5 = .ok (.sipush 6700, 3) := by decide +kernel
theorem dX12_init_8 : decode cX12_init 8 = .ok (.newarray .int, 2) := by decide +kernel
theorem dX12_init_10 : decode cX12_init 10 = .ok (.putfield 7, 3) := by decide +kernel
theorem dX12_init_13 : decode cX12_init 13 = .ok (.aload_n 0, 1) := by decide +kernel
theorem dX12_init_14 : decode cX12_init 14 = .ok (.sipush 6700, 3) := by decide +kernel
theorem dX12_init_17 : decode cX12_init 17 = .ok (.newarray .int, 2) := by decide +kernel
theorem dX12_init_19 : decode cX12_init 19 = .ok (.putfield 13, 3) := by decide +kernel
theorem dX12_init_22 : decode cX12_init 22 = .ok (.aload_n 0, 1) := by decide +kernel
theorem dX12_init_23 : decode cX12_init 23 = .ok (.bipush 30, 2) := by decide +kernel
theorem dX12_init_25 : decode cX12_init 25 = .ok (.newarray .int, 2) := by decide +kernel
theorem dX12_init_27 : decode cX12_init 27 = .ok (.putfield 16, 3) := by decide +kernel
theorem dX12_init_30 : decode cX12_init 30 = .ok (.aload_n 0, 1) := by decide +kernel
theorem dX12_init_31 : decode cX12_init 31 = .ok (.ldc 19, 2) := by decide +kernel
theorem dX12_init_33 : decode cX12_init 33 = .ok (.newarray .boolean, 2) := by decide +kernel
theorem dX12_init_35 : decode cX12_init 35 = .ok (.putfield 20, 3) := by decide +kernel
theorem dX12_init_38 : decode cX12_init 38 = .ok (.aload_n 0, 1) := by decide +kernel
theorem dX12_init_39 : decode cX12_init 39 = .ok (.bipush 16, 2) := by decide +kernel
theorem dX12_init_41 : decode cX12_init 41 = .ok (.newarray .int, 2) := by decide +kernel
theorem dX12_init_43 : decode cX12_init 43 = .ok (.putfield 24, 3) := by decide +kernel
theorem dX12_init_46 : decode cX12_init 46 = .ok (.aload_n 0, 1) := by decide +kernel
theorem dX12_init_47 : decode cX12_init 47 = .ok (.iconst 1, 1) := by decide +kernel
theorem dX12_init_48 : decode cX12_init 48 = .ok (.putfield 27, 3) := by decide +kernel
theorem dX12_init_51 : decode cX12_init 51 = .ok (.aload_n 0, 1) := by decide +kernel
theorem dX12_init_52 : decode cX12_init 52 = .ok (.bipush 50, 2) := by decide +kernel
theorem dX12_init_54 : decode cX12_init 54 = .ok (.newarray .boolean, 2) := by decide +kernel
theorem dX12_init_56 : decode cX12_init 56 = .ok (.putfield 31, 3) := by decide +kernel
theorem dX12_init_59 : decode cX12_init 59 = .ok (.aload_n 0, 1) := by decide +kernel
theorem dX12_init_60 : decode cX12_init 60 = .ok (.bipush 50, 2) := by decide +kernel
theorem dX12_init_62 : decode cX12_init 62 = .ok (.newarray .boolean, 2) := by decide +kernel
theorem dX12_init_64 : decode cX12_init 64 = .ok (.putfield 34, 3) := by decide +kernel
theorem dX12_init_67 : decode cX12_init 67 = .ok (.aload_n 0, 1) := by decide +kernel
theorem dX12_init_68 : decode cX12_init 68 = .ok (.bipush 50, 2) := by decide +kernel
theorem dX12_init_70 : decode cX12_init 70 = .ok (.newarray .boolean, 2) := by decide +kernel
theorem dX12_init_72 : decode cX12_init 72 = .ok (.putfield 37, 3) := by decide +kernel
theorem dX12_init_75 : decode cX12_init 75 = .ok (.aload_n 0, 1) := by decide +kernel
theorem dX12_init_76 : decode cX12_init 76 = .ok (.bipush 50, 2) := by decide +kernel
theorem dX12_init_78 : decode cX12_init 78 = .ok (.newarray .boolean, 2) := by decide +kernel
theorem dX12_init_80 : decode cX12_init 80 = .ok (.putfield 40, 3) := by decide +kernel
theorem dX12_init_83 : decode cX12_init 83 = .ok (.aload_n 0, 1) := by decide +kernel
theorem dX12_init_84 : decode cX12_init 84 = .ok (.bipush 50, 2) := by decide +kernel
theorem dX12_init_86 : decode cX12_init 86 = .ok (.newarray .int, 2) := by decide +kernel
theorem dX12_init_88 : decode cX12_init 88 = .ok (.putfield 43, 3) := by decide +kernel
theorem dX12_init_91 : decode cX12_init 91 = .ok (.aload_n 0, 1) := by decide +kernel
theorem dX12_init_92 : decode cX12_init 92 = .ok (.bipush 50, 2) := by decide +kernel
theorem dX12_init_94 : decode cX12_init 94 = .ok (.newarray .int, 2) := by decide +kernel
theorem dX12_init_96 : decode cX12_init 96 = .ok (.putfield 46, 3) := by decide +kernel
theorem dX12_init_99 : decode cX12_init 99 = .ok (.aload_n 0, 1) := by decide +kernel
theorem dX12_init_100 : decode cX12_init 100 = .ok (.iconst 3, 1) := by decide +kernel
theorem dX12_init_101 : decode cX12_init 101 = .ok (.newarray .long, 2) := by decide +kernel
theorem dX12_init_103 : decode cX12_init 103 = .ok (.putfield 49, 3) := by decide +kernel
theorem dX12_init_106 : decode cX12_init 106 = .ok (.aload_n 0, 1) := by decide +kernel
theorem dX12_init_107 : decode cX12_init 107 = .ok (.sipush 1920, 3) := by decide +kernel
theorem dX12_init_110 : decode cX12_init 110 = .ok (.newarray .boolean, 2) := by decide +kernel
theorem dX12_init_112 : decode cX12_init 112 = .ok (.putfield 53, 3) := by decide +kernel
theorem dX12_init_115 : decode cX12_init 115 = .ok (.aload_n 0, 1) := by decide +kernel
theorem dX12_init_116 : decode cX12_init 116 = .ok (.sipush 1920, 3) := by decide +kernel
theorem dX12_init_119 : decode cX12_init 119 = .ok (.newarray .boolean, 2) := by decide +kernel
theorem dX12_init_121 : decode cX12_init 121 = .ok (.putfield 56, 3) := by decide +kernel
theorem dX12_init_124 : decode cX12_init 124 = .ok (.aload_n 0, 1) := by decide +kernel
theorem dX12_init_125 : decode cX12_init 125 = .ok (.sipush 512, 3) := by decide +kernel
theorem dX12_init_128 : decode cX12_init 128 = .ok (.newarray .boolean, 2) := by decide +kernel
theorem dX12_init_130 : decode cX12_init 130 = .ok (.putfield 59, 3) := by decide +kernel
theorem dX12_init_133 : decode cX12_init 133 = .ok (.aload_n 0, 1) := by decide +kernel
theorem dX12_init_134 : decode cX12_init 134 = .ok (.bipush 8, 2) := by decide +kernel
theorem dX12_init_136 : decode cX12_init 136 = .ok (.newarray .int, 2) := by decide +kernel
theorem dX12_init_138 : decode cX12_init 138 = .ok (.putfield 62, 3) := by decide +kernel
theorem dX12_init_141 : decode cX12_init 141 = .ok (.aload_n 0, 1) := by decide +kernel
theorem dX12_init_142 : decode cX12_init 142 = .ok (.iconst 1, 1) := by decide +kernel
theorem dX12_init_143 : decode cX12_init 143 = .ok (.putfield 65, 3) := by decide +kernel
theorem dX12_init_146 : decode cX12_init 146 = .ok (.aload_n 0, 1) := by decide +kernel
theorem dX12_init_147 : decode cX12_init 147 = .ok (.bipush 6, 2) := by decide +kernel
theorem dX12_init_149 : decode cX12_init 149 = .ok (.newarray .int, 2) := by decide +kernel
theorem dX12_init_151 : decode cX12_init 151 = .ok (.putfield 68, 3) := by decide +kernel
theorem dX12_init_154 : decode cX12_init 154 = .ok (.aload_n 0, 1) := by decide +kernel
theorem dX12_init_155 : decode cX12_init 155 = .ok (.getfield 7, 3) := by decide +kernel
theorem dX12_init_158 : decode cX12_init 158 = .ok (.bipush 12, 2) := by decide +kernel
theorem dX12_init_160 : decode cX12_init 160 = .ok (.bipush 30, 2) := by decide +kernel
theorem dX12_init_162 : decode cX12_init 162 = .ok (.iastore, 1) := by decide +kernel
theorem dX12_init_163 : decode cX12_init 163 = .ok (.aload_n 0, 1) := by decide +kernel
theorem dX12_init_164 : decode cX12_init 164 = .ok (.getfield 7, 3) := by decide +kernel
theorem dX12_init_167 : decode cX12_init 167 = .ok (.bipush 13, 2) := by decide +kernel
theorem dX12_init_169 : decode cX12_init 169 = .ok (.bipush 7, 2) := by decide +kernel
theorem dX12_init_171 : decode cX12_init 171 = .ok (.iastore, 1) := by decide +kernel
theorem dX12_init_172 : decode cX12_init 172 = .ok (.iconst 0, 1) := by decide +kernel
theorem dX12_init_173 : decode cX12_init 173 = .ok (.istore_n 1, 1) := by decide +kernel
theorem dX12_init_174 : decode cX12_init 174 = .ok (.iload_n 1, 1) := by decide +kernel
theorem dX12_init_175 : decode cX12_init 175 = .ok (.iconst 4, 1) := by decide +kernel
theorem dX12_init_176 : decode cX12_init 176 = .ok (.if_icmp .ge 20, 3) := by decide +kernel
theorem dX12_init_179 : decode cX12_init 179 = .ok (.aload_n 0, 1) := by decide +kernel
theorem dX12_init_180 : decode cX12_init 180 = .ok (.getfield 7, 3) := by decide +kernel
theorem dX12_init_183 : decode cX12_init 183 = .ok (.bipush 62, 2) := by decide +kernel
theorem dX12_init_185 : decode cX12_init 185 = .ok (.iload_n 1, 1) := by decide +kernel
theorem dX12_init_186 : decode cX12_init 186 = .ok (.iadd, 1) := by decide +kernel
theorem dX12_init_187 : decode cX12_init 187 = .ok (.bipush 10, 2) := by decide +kernel
theorem dX12_init_189 : decode cX12_init 189 = .ok (.iastore, 1) := by decide +kernel
theorem dX12_init_190 : decode cX12_init 190 = .ok (.iinc 1 1, 3) := by decide +kernel
theorem dX12_init_193 : decode cX12_init 193 = .ok (.goto (-19), 3) := by decide +kernel
theorem dX12_init_196 : decode cX12_init 196 = .ok (.iconst 0, 1) := by decide +kernel
theorem dX12_init_197 : decode cX12_init 197 = .ok (.istore_n 1, 1) := by decide +kernel
theorem dX12_init_198 : decode cX12_init 198 = .ok (.iload_n 1, 1) := by decide +kernel
theorem dX12_init_199 : decode cX12_init 199 = .ok (.iconst 3, 1) := by decide +kernel
theorem dX12_init_200 : decode cX12_init 200 = .ok (.if_icmp .ge 19, 3) := by decide +kernel
theorem dX12_init_203 : decode cX12_init 203 = .ok (.aload_n 0, 1) := by decide +kernel
theorem dX12_init_204 : decode cX12_init 204 = .ok (.getfield 7, 3) := by decide +kernel
theorem dX12_init_207 : decode cX12_init 207 = .ok (.bipush 66, 2) := by decide +kernel
theorem dX12_init_209 : decode cX12_init 209 = .ok (.iload_n 1, 1) := by decide +kernel
theorem dX12_init_210 : decode cX12_init 210 = .ok (.iadd, 1) := by decide +kernel
theorem dX12_init_211 : decode cX12_init 211 = .ok (.iconst 1, 1) := by decide +kernel
theorem dX12_init_212 : decode cX12_init 212 = .ok (.iastore, 1) := by decide +kernel
theorem dX12_init_213 : decode cX12_init 213 = .ok (.iinc 1 1, 3) := by decide +kernel
theorem dX12_init_216 : decode cX12_init 216 = .ok (.goto (-18), 3) := by decide +kernel
theorem dX12_init_219 : decode cX12_init 219 = .ok (.return_, 1) := by decide +kernel
theorem dX12_in_0 : decode cX12_in 0 = .ok (.iload_n 0, 1) := by decide +kernel
theorem dX12_in_1 : decode cX12_in 1 = .ok (.iload_n 1, 1) := by decide +kernel
theorem dX12_in_2 : decode cX12_in 2 = .ok (.if_icmp .lt 12, 3) := by decide +kernel
theorem dX12_in_5 : decode cX12_in 5 = .ok (.iload_n 0, 1) := by decide +kernel
theorem dX12_in_6 : decode cX12_in 6 = .ok (.iload_n 2, 1) := by decide +kernel
theorem dX12_in_7 : decode cX12_in 7 = .ok (.if_icmp .gt 7, 3) := by decide +kernel
theorem dX12_in_10 : decode cX12_in 10 = .ok (.iconst 1, 1) := by decide +kernel
theorem dX12_in_11 : decode cX12_in 11 = .ok (.goto 4, 3) := by decide +kernel
theorem dX12_in_14 : decode cX12_in 14 = .ok (.iconst 0, 1) := by decide +kernel
theorem dX12_in_15 : decode cX12_in 15 = .ok (.ireturn, 1) := by decide +kernel
theorem dX12_isSpot_0 : decode cX12_isSpot 0 = .ok (.iload_n 0, 1) := by decide +kernel
theorem dX12_isSpot_1 : decode cX12_isSpot 1 = .ok (.iconst 0, 1) := by decide +kernel
theorem dX12_isSpot_2 : decode cX12_isSpot 2 = .ok (.bipush 29, 2) := by decide +kernel
theorem dX12_isSpot_4 : decode cX12_isSpot 4 = .ok (.invokestatic 74, 3) := by decide +kernel
theorem dX12_isSpot_7 : decode cX12_isSpot 7 = .ok (.ireturn, 1) := by decide +kernel
theorem dX12_isDay_0 : decode cX12_isDay 0 = .ok (.iload_n 0, 1) := by decide +kernel
theorem dX12_isDay_1 : decode cX12_isDay 1 = .ok (.iconst 0, 1) := by decide +kernel
theorem dX12_isDay_2 : decode cX12_isDay 2 = .ok (.sipush 999, 3) := by decide +kernel
theorem dX12_isDay_5 : decode cX12_isDay 5 = .ok (.invokestatic 74, 3) := by decide +kernel
theorem dX12_isDay_8 : decode cX12_isDay 8 = .ok (.ireturn, 1) := by decide +kernel
theorem dX12_yard_0 : decode cX12_yard 0 = .ok (.iload_n 1, 1) := by decide +kernel
theorem dX12_yard_1 : decode cX12_yard 1 = .ok (.invokestatic 78, 3) := by decide +kernel
theorem dX12_yard_4 : decode cX12_yard 4 = .ok (.ifCond .ne 5, 3) := by decide +kernel
theorem dX12_yard_7 : decode cX12_yard 7 = .ok (.iconst (-1), 1) := by decide +kernel
theorem dX12_yard_8 : decode cX12_yard 8 = .ok (.ireturn, 1) := by decide +kernel
theorem dX12_yard_9 : decode cX12_yard 9 = .ok (.iload_n 2, 1) := by decide +kernel
theorem dX12_yard_10 : decode cX12_yard 10 = .ok (.iconst 0, 1) := by decide +kernel
theorem dX12_yard_11 : decode cX12_yard 11 = .ok (.iconst 5, 1) := by decide +kernel
theorem dX12_yard_12 : decode cX12_yard 12 = .ok (.invokestatic 74, 3) := by decide +kernel
theorem dX12_yard_15 : decode cX12_yard 15 = .ok (.ifCond .ne 6, 3) := by decide +kernel
theorem dX12_yard_18 : decode cX12_yard 18 = .ok (.bipush (-2), 2) := by decide +kernel
theorem dX12_yard_20 : decode cX12_yard 20 = .ok (.ireturn, 1) := by decide +kernel
theorem dX12_yard_21 : decode cX12_yard 21 = .ok (.iconst 1, 1) := by decide +kernel
theorem dX12_yard_22 : decode cX12_yard 22 = .ok (.istore_n 3, 1) := by decide +kernel
theorem dX12_yard_23 : decode cX12_yard 23 = .ok (.iconst 0, 1) := by decide +kernel
theorem dX12_yard_24 : decode cX12_yard 24 = .ok (.istore 4, 2) := by decide +kernel
theorem dX12_yard_26 : decode cX12_yard 26 = .ok (.iload 4, 2) := by decide +kernel
theorem dX12_yard_28 : decode cX12_yard 28 = .ok (.aload_n 0, 1) := by decide +kernel
theorem dX12_yard_29 : decode cX12_yard 29 = .ok (.getfield 7, 3) := by decide +kernel
theorem dX12_yard_32 : decode cX12_yard 32 = .ok (.iconst 3, 1) := by decide +kernel
theorem dX12_yard_33 : decode cX12_yard 33 = .ok (.iaload, 1) := by decide +kernel
theorem dX12_yard_34 : decode cX12_yard 34 = .ok (.if_icmp .ge 33, 3) := by decide +kernel
theorem dX12_yard_37 : decode cX12_yard 37 = .ok (.iload_n 3, 1) := by decide +kernel
theorem dX12_yard_38 : decode cX12_yard 38 = .ok (.ifCond .eq 21, 3) := by decide +kernel
theorem dX12_yard_41 : decode cX12_yard 41 = .ok (.aload_n 0, 1) := by decide +kernel
theorem dX12_yard_42 : decode cX12_yard 42 = .ok (.getfield 7, 3) := by decide +kernel
theorem dX12_yard_45 : decode cX12_yard 45 = .ok (.bipush 114, 2) := by decide +kernel
theorem dX12_yard_47 : decode cX12_yard 47 = .ok (.iload 4, 2) := by decide +kernel
theorem dX12_yard_49 : decode cX12_yard 49 = .ok (.iadd, 1) := by decide +kernel
theorem dX12_yard_50 : decode cX12_yard 50 = .ok (.iaload, 1) := by decide +kernel
theorem dX12_yard_51 : decode cX12_yard 51 = .ok (.iload_n 1, 1) := by decide +kernel
theorem dX12_yard_52 : decode cX12_yard 52 = .ok (.if_icmp .eq 7, 3) := by decide +kernel
theorem dX12_yard_55 : decode cX12_yard 55 = .ok (.iconst 1, 1) := by decide +kernel
theorem dX12_yard_56 : decode cX12_yard 56 = .ok (.goto 4, 3) := by decide +kernel
theorem dX12_yard_59 : decode cX12_yard 59 = .ok (.iconst 0, 1) := by decide +kernel
theorem dX12_yard_60 : decode cX12_yard 60 = .ok (.istore_n 3, 1) := by decide +kernel
theorem dX12_yard_61 : decode cX12_yard 61 = .ok (.iinc 4 1, 3) := by decide +kernel
theorem dX12_yard_64 : decode cX12_yard 64 = .ok (.goto (-38), 3) := by decide +kernel
theorem dX12_yard_67 : decode cX12_yard 67 = .ok (.iconst 0, 1) := by decide +kernel
theorem dX12_yard_68 : decode cX12_yard 68 = .ok (.istore 4, 2) := by decide +kernel
theorem dX12_yard_70 : decode cX12_yard 70 = .ok (.iload 4, 2) := by decide +kernel
theorem dX12_yard_72 : decode cX12_yard 72 = .ok (.aload_n 0, 1) := by decide +kernel
theorem dX12_yard_73 : decode cX12_yard 73 = .ok (.getfield 7, 3) := by decide +kernel
theorem dX12_yard_76 : decode cX12_yard 76 = .ok (.bipush 6, 2) := by decide +kernel
theorem dX12_yard_78 : decode cX12_yard 78 = .ok (.iaload, 1) := by decide +kernel
theorem dX12_yard_79 : decode cX12_yard 79 = .ok (.if_icmp .ge 34, 3) := by decide +kernel
theorem dX12_yard_82 : decode cX12_yard 82 = .ok (.iload_n 3, 1) := by decide +kernel
theorem dX12_yard_83 : decode cX12_yard 83 = .ok (.ifCond .eq 22, 3) := by decide +kernel
theorem dX12_yard_86 : decode cX12_yard 86 = .ok (.aload_n 0, 1) := by decide +kernel
theorem dX12_yard_87 : decode cX12_yard 87 = .ok (.getfield 7, 3) := by decide +kernel
theorem dX12_yard_90 : decode cX12_yard 90 = .ok (.sipush 230, 3) := by decide +kernel
theorem dX12_yard_93 : decode cX12_yard 93 = .ok (.iload 4, 2) := by decide +kernel
theorem dX12_yard_95 : decode cX12_yard 95 = .ok (.iadd, 1) := by decide +kernel
theorem dX12_yard_96 : decode cX12_yard 96 = .ok (.iaload, 1) := by decide +kernel
theorem dX12_yard_97 : decode cX12_yard 97 = .ok (.iload_n 1, 1) := by decide +kernel
theorem dX12_yard_98 : decode cX12_yard 98 = .ok (.if_icmp .eq 7, 3) := by decide +kernel
theorem dX12_yard_101 : decode cX12_yard 101 = .ok (.iconst 1, 1) := by decide +kernel
theorem dX12_yard_102 : decode cX12_yard 102 = .ok (.goto 4, 3) := by decide +kernel
theorem dX12_yard_105 : decode cX12_yard 105 = .ok (.iconst 0, 1) := by decide +kernel
theorem dX12_yard_106 : decode cX12_yard 106 = .ok (.istore_n 3, 1) := by decide +kernel
theorem dX12_yard_107 : decode cX12_yard 107 = .ok (.iinc 4 1, 3) := by decide +kernel
theorem dX12_yard_110 : decode cX12_yard 110 = .ok (.goto (-40), 3) := by decide +kernel
theorem dX12_yard_113 : decode cX12_yard 113 = .ok (.iload_n 3, 1) := by decide +kernel
theorem dX12_yard_114 : decode cX12_yard 114 = .ok (.ifCond .ne 6, 3) := by decide +kernel
theorem dX12_yard_117 : decode cX12_yard 117 = .ok (.bipush (-3), 2) := by decide +kernel
theorem dX12_yard_119 : decode cX12_yard 119 = .ok (.ireturn, 1) := by decide +kernel
theorem dX12_yard_120 : decode cX12_yard 120 = .ok (.aload_n 0, 1) := by decide +kernel
theorem dX12_yard_121 : decode cX12_yard 121 = .ok (.getfield 7, 3) := by decide +kernel
theorem dX12_yard_124 : decode cX12_yard 124 = .ok (.bipush 20, 2) := by decide +kernel
theorem dX12_yard_126 : decode cX12_yard 126 = .ok (.iload_n 1, 1) := by decide +kernel
theorem dX12_yard_127 : decode cX12_yard 127 = .ok (.iadd, 1) := by decide +kernel
theorem dX12_yard_128 : decode cX12_yard 128 = .ok (.iaload, 1) := by decide +kernel
theorem dX12_yard_129 : decode cX12_yard 129 = .ok (.istore 4, 2) := by decide +kernel
theorem dX12_yard_131 : decode cX12_yard 131 = .ok (.aload_n 0, 1) := by decide +kernel
theorem dX12_yard_132 : decode cX12_yard 132 = .ok (.getfield 7, 3) := by decide +kernel
theorem dX12_yard_135 : decode cX12_yard 135 = .ok (.bipush 20, 2) := by decide +kernel
theorem dX12_yard_137 : decode cX12_yard 137 = .ok (.iload_n 1, 1) := by decide +kernel
theorem dX12_yard_138 : decode cX12_yard 138 = .ok (.iadd, 1) := by decide +kernel
theorem dX12_yard_139 : decode cX12_yard 139 = .ok (.iload_n 2, 1) := by decide +kernel
theorem dX12_yard_140 : decode cX12_yard 140 = .ok (.iastore, 1) := by decide +kernel
theorem dX12_yard_141 : decode cX12_yard 141 = .ok (.aload_n 0, 1) := by decide +kernel
theorem dX12_yard_142 : decode cX12_yard 142 = .ok (.dup, 1) := by decide +kernel
theorem dX12_yard_143 : decode cX12_yard 143 = .ok (.getfield 27, 3) := by decide +kernel
theorem dX12_yard_146 : decode cX12_yard 146 = .ok (.iconst 1, 1) := by decide +kernel
theorem dX12_yard_147 : decode cX12_yard 147 = .ok (.iadd, 1) := by decide +kernel
theorem dX12_yard_148 : decode cX12_yard 148 = .ok (.putfield 27, 3) := by decide +kernel
theorem dX12_yard_151 : decode cX12_yard 151 = .ok (.aload_n 0, 1) := by decide +kernel
theorem dX12_yard_152 : decode cX12_yard 152 = .ok (.dup, 1) := by decide +kernel
theorem dX12_yard_153 : decode cX12_yard 153 = .ok (.getfield 65, 3) := by decide +kernel
theorem dX12_yard_156 : decode cX12_yard 156 = .ok (.iconst 1, 1) := by decide +kernel
theorem dX12_yard_157 : decode cX12_yard 157 = .ok (.iadd, 1) := by decide +kernel
theorem dX12_yard_158 : decode cX12_yard 158 = .ok (.putfield 65, 3) := by decide +kernel
theorem dX12_yard_161 : decode cX12_yard 161 = .ok (.iload 4, 2) := by decide +kernel
theorem dX12_yard_163 : decode cX12_yard 163 = .ok (.ireturn, 1) := by decide +kernel
theorem dX12_areBeside_0 : decode cX12_areBeside 0 = .ok (.iload_n 0, 1) := by decide +kernel
theorem dX12_areBeside_1 : decode cX12_areBeside 1 = .ok (.bipush 6, 2) := by decide +kernel
theorem dX12_areBeside_3 : decode cX12_areBeside 3 = .ok (.irem, 1) := by decide +kernel
theorem dX12_areBeside_4 : decode cX12_areBeside 4 = .ok (.iload_n 1, 1) := by decide +kernel
theorem dX12_areBeside_5 : decode cX12_areBeside 5 = .ok (.bipush 6, 2) := by decide +kernel
theorem dX12_areBeside_7 : decode cX12_areBeside 7 = .ok (.irem, 1) := by decide +kernel
theorem dX12_areBeside_8 : decode cX12_areBeside 8 = .ok (.isub, 1) := by decide +kernel
theorem dX12_areBeside_9 : decode cX12_areBeside 9 = .ok (.istore_n 2, 1) := by decide +kernel
theorem dX12_areBeside_10 : decode cX12_areBeside 10 = .ok (.iload_n 0, 1) := by decide +kernel
theorem dX12_areBeside_11 : decode cX12_areBeside 11 = .ok (.bipush 6, 2) := by decide +kernel
theorem dX12_areBeside_13 : decode cX12_areBeside 13 = .ok (.idiv, 1) := by decide +kernel
theorem dX12_areBeside_14 : decode cX12_areBeside 14 = .ok (.iload_n 1, 1) := by decide +kernel
theorem dX12_areBeside_15 : decode cX12_areBeside 15 = .ok (.bipush 6, 2) := by decide +kernel
theorem dX12_areBeside_17 : decode cX12_areBeside 17 = .ok (.idiv, 1) := by decide +kernel
theorem dX12_areBeside_18 : decode cX12_areBeside 18 = .ok (.isub, 1) := by decide +kernel
theorem dX12_areBeside_19 : decode cX12_areBeside 19 = .ok (.istore_n 3, 1) := by decide +kernel
theorem dX12_areBeside_20 : decode cX12_areBeside 20 = .ok (.iload_n 2, 1) := by decide +kernel
theorem dX12_areBeside_21 : decode cX12_areBeside 21 = .ok (.iload_n 2, 1) := by decide +kernel
theorem dX12_areBeside_22 : decode cX12_areBeside 22 = .ok (.imul, 1) := by decide +kernel
theorem dX12_areBeside_23 : decode cX12_areBeside 23 = .ok (.iload_n 3, 1) := by decide +kernel
theorem dX12_areBeside_24 : decode cX12_areBeside 24 = .ok (.iload_n 3, 1) := by decide +kernel
theorem dX12_areBeside_25 : decode cX12_areBeside 25 = .ok (.imul, 1) := by decide +kernel
theorem dX12_areBeside_26 : decode cX12_areBeside 26 = .ok (.iadd, 1) := by decide +kernel
theorem dX12_areBeside_27 : decode cX12_areBeside 27 = .ok (.iconst 1, 1) := by decide +kernel
theorem dX12_areBeside_28 : decode cX12_areBeside 28 = .ok (.if_icmp .ne 7, 3) := by decide +kernel
theorem dX12_areBeside_31 : decode cX12_areBeside 31 = .ok (.iconst 1, 1) := by decide +kernel
theorem dX12_areBeside_32 : decode cX12_areBeside 32 = .ok (.goto 4, 3) := by decide +kernel
theorem dX12_areBeside_35 : decode cX12_areBeside 35 = .ok (.iconst 0, 1) := by decide +kernel
theorem dX12_areBeside_36 : decode cX12_areBeside 36 = .ok (.ireturn, 1) := by decide +kernel
theorem dX12_farOf_0 : decode cX12_farOf 0 = .ok (.iconst 0, 1) := by decide +kernel
theorem dX12_farOf_1 : decode cX12_farOf 1 = .ok (.istore_n 3, 1) := by decide +kernel
theorem dX12_farOf_2 : decode cX12_farOf 2 = .ok (.iload_n 3, 1) := by decide +kernel
theorem dX12_farOf_3 : decode cX12_farOf 3 = .ok (.bipush 30, 2) := by decide +kernel
theorem dX12_farOf_5 : decode cX12_farOf 5 = .ok (.if_icmp .ge 26, 3) := by decide +kernel
theorem dX12_farOf_8 : decode cX12_farOf 8 = .ok (.aload_n 0, 1) := by decide +kernel
theorem dX12_farOf_9 : decode cX12_farOf 9 = .ok (.getfield 16, 3) := by decide +kernel
theorem dX12_farOf_12 : decode cX12_farOf 12 = .ok (.iload_n 3, 1) := by decide +kernel
theorem dX12_farOf_13 : decode cX12_farOf 13 = .ok (.iload_n 3, 1) := by decide +kernel
theorem dX12_farOf_14 : decode cX12_farOf 14 = .ok (.iload_n 1, 1) := by decide +kernel
theorem dX12_farOf_15 : decode cX12_farOf 15 = .ok (.if_icmp .ne 7, 3) := by decide +kernel
theorem dX12_farOf_18 : decode cX12_farOf 18 = .ok (.iconst 0, 1) := by decide +kernel
theorem dX12_farOf_19 : decode cX12_farOf 19 = .ok (.goto 5, 3) := by decide +kernel
theorem dX12_farOf_22 : decode cX12_farOf 22 = .ok (.bipush 99, 2) := by decide +kernel
theorem dX12_farOf_24 : decode cX12_farOf 24 = .ok (.iastore, 1) := by decide +kernel
theorem dX12_farOf_25 : decode cX12_farOf 25 = .ok (.iinc 3 1, 3) := by decide +kernel
theorem dX12_farOf_28 : decode cX12_farOf 28 = .ok (.goto (-26), 3) := by decide +kernel
theorem dX12_farOf_31 : decode cX12_farOf 31 = .ok (.aload_n 0, 1) := by decide +kernel
theorem dX12_farOf_32 : decode cX12_farOf 32 = .ok (.getfield 7, 3) := by decide +kernel
theorem dX12_farOf_35 : decode cX12_farOf 35 = .ok (.bipush 20, 2) := by decide +kernel
theorem dX12_farOf_37 : decode cX12_farOf 37 = .ok (.iload_n 1, 1) := by decide +kernel
theorem dX12_farOf_38 : decode cX12_farOf 38 = .ok (.iadd, 1) := by decide +kernel
theorem dX12_farOf_39 : decode cX12_farOf 39 = .ok (.iaload, 1) := by decide +kernel
theorem dX12_farOf_40 : decode cX12_farOf 40 = .ok (.iconst 5, 1) := by decide +kernel
theorem dX12_farOf_41 : decode cX12_farOf 41 = .ok (.if_icmp .eq 7, 3) := by decide +kernel
theorem dX12_farOf_44 : decode cX12_farOf 44 = .ok (.iconst 1, 1) := by decide +kernel
theorem dX12_farOf_45 : decode cX12_farOf 45 = .ok (.goto 4, 3) := by decide +kernel
theorem dX12_farOf_48 : decode cX12_farOf 48 = .ok (.iconst 0, 1) := by decide +kernel
theorem dX12_farOf_49 : decode cX12_farOf 49 = .ok (.istore_n 3, 1) := by decide +kernel
theorem dX12_farOf_50 : decode cX12_farOf 50 = .ok (.iload_n 3, 1) := by decide +kernel
theorem dX12_farOf_51 : decode cX12_farOf 51 = .ok (.ifCond .eq 101, 3) := by decide +kernel
theorem dX12_farOf_54 : decode cX12_farOf 54 = .ok (.iconst 0, 1) := by decide +kernel
theorem dX12_farOf_55 : decode cX12_farOf 55 = .ok (.istore_n 3, 1) := by decide +kernel
theorem dX12_farOf_56 : decode cX12_farOf 56 = .ok (.iconst 0, 1) := by decide +kernel
theorem dX12_farOf_57 : decode cX12_farOf 57 = .ok (.istore 4, 2) := by decide +kernel
theorem dX12_farOf_59 : decode cX12_farOf 59 = .ok (.iload 4, 2) := by decide +kernel
theorem dX12_farOf_61 : decode cX12_farOf 61 = .ok (.bipush 30, 2) := by decide +kernel
theorem dX12_farOf_63 : decode cX12_farOf 63 = .ok (.if_icmp .ge 86, 3) := by decide +kernel
theorem dX12_farOf_66 : decode cX12_farOf 66 = .ok (.iconst 0, 1) := by decide +kernel
theorem dX12_farOf_67 : decode cX12_farOf 67 = .ok (.istore 5, 2) := by decide +kernel
theorem dX12_farOf_69 : decode cX12_farOf 69 = .ok (.iload 5, 2) := by decide +kernel
theorem dX12_farOf_71 : decode cX12_farOf 71 = .ok (.bipush 30, 2) := by decide +kernel
theorem dX12_farOf_73 : decode cX12_farOf 73 = .ok (.if_icmp .ge 70, 3) := by decide +kernel
theorem dX12_farOf_76 : decode cX12_farOf 76 = .ok (.iload 4, 2) := by decide +kernel
theorem dX12_farOf_78 : decode cX12_farOf 78 = .ok (.iload 5, 2) := by decide +kernel
theorem dX12_farOf_80 : decode cX12_farOf 80 = .ok (.invokestatic 82, 3) := by decide +kernel
theorem dX12_farOf_83 : decode cX12_farOf 83 = .ok (.ifCond .eq 54, 3) := by decide +kernel
theorem dX12_farOf_86 : decode cX12_farOf 86 = .ok (.aload_n 0, 1) := by decide +kernel
theorem dX12_farOf_87 : decode cX12_farOf 87 = .ok (.getfield 7, 3) := by decide +kernel
theorem dX12_farOf_90 : decode cX12_farOf 90 = .ok (.bipush 20, 2) := by decide +kernel
theorem dX12_farOf_92 : decode cX12_farOf 92 = .ok (.iload 5, 2) := by decide +kernel
theorem dX12_farOf_94 : decode cX12_farOf 94 = .ok (.iadd, 1) := by decide +kernel
theorem dX12_farOf_95 : decode cX12_farOf 95 = .ok (.iaload, 1) := by decide +kernel
theorem dX12_farOf_96 : decode cX12_farOf 96 = .ok (.iconst 5, 1) := by decide +kernel
theorem dX12_farOf_97 : decode cX12_farOf 97 = .ok (.if_icmp .eq 40, 3) := by decide +kernel
theorem dX12_farOf_100 : decode cX12_farOf 100 = .ok (.aload_n 0, 1) := by decide +kernel
theorem dX12_farOf_101 : decode cX12_farOf 101 = .ok (.getfield 16, 3) := by decide +kernel
theorem dX12_farOf_104 : decode cX12_farOf 104 = .ok (.iload 4, 2) := by decide +kernel
theorem dX12_farOf_106 : decode cX12_farOf 106 = .ok (.iaload, 1) := by decide +kernel
theorem dX12_farOf_107 : decode cX12_farOf 107 = .ok (.iconst 1, 1) := by decide +kernel
theorem dX12_farOf_108 : decode cX12_farOf 108 = .ok (.iadd, 1) := by decide +kernel
theorem dX12_farOf_109 : decode cX12_farOf 109 = .ok (.aload_n 0, 1) := by decide +kernel
theorem dX12_farOf_110 : decode cX12_farOf 110 = .ok (.getfield 16, 3) := by decide +kernel
theorem dX12_farOf_113 : decode cX12_farOf 113 = .ok (.iload 5, 2) := by decide +kernel
theorem dX12_farOf_115 : decode cX12_farOf 115 = .ok (.iaload, 1) := by decide +kernel
theorem dX12_farOf_116 : decode cX12_farOf 116 = .ok (.if_icmp .ge 21, 3) := by decide +kernel
theorem dX12_farOf_119 : decode cX12_farOf 119 = .ok (.aload_n 0, 1) := by decide +kernel
theorem dX12_farOf_120 : decode cX12_farOf 120 = .ok (.getfield 16, 3) := by decide +kernel
theorem dX12_farOf_123 : decode cX12_farOf 123 = .ok (.iload 5, 2) := by decide +kernel
theorem dX12_farOf_125 : decode cX12_farOf 125 = .ok (.aload_n 0, 1) := by decide +kernel
theorem dX12_farOf_126 : decode cX12_farOf 126 = .ok (.getfield 16, 3) := by decide +kernel
theorem dX12_farOf_129 : decode cX12_farOf 129 = .ok (.iload 4, 2) := by decide +kernel
theorem dX12_farOf_131 : decode cX12_farOf 131 = .ok (.iaload, 1) := by decide +kernel
theorem dX12_farOf_132 : decode cX12_farOf 132 = .ok (.iconst 1, 1) := by decide +kernel
theorem dX12_farOf_133 : decode cX12_farOf 133 = .ok (.iadd, 1) := by decide +kernel
theorem dX12_farOf_134 : decode cX12_farOf 134 = .ok (.iastore, 1) := by decide +kernel
theorem dX12_farOf_135 : decode cX12_farOf 135 = .ok (.iconst 1, 1) := by decide +kernel
theorem dX12_farOf_136 : decode cX12_farOf 136 = .ok (.istore_n 3, 1) := by decide +kernel
theorem dX12_farOf_137 : decode cX12_farOf 137 = .ok (.iinc 5 1, 3) := by decide +kernel
theorem dX12_farOf_140 : decode cX12_farOf 140 = .ok (.goto (-71), 3) := by decide +kernel
theorem dX12_farOf_143 : decode cX12_farOf 143 = .ok (.iinc 4 1, 3) := by decide +kernel
theorem dX12_farOf_146 : decode cX12_farOf 146 = .ok (.goto (-87), 3) := by decide +kernel
theorem dX12_farOf_149 : decode cX12_farOf 149 = .ok (.goto (-99), 3) := by decide +kernel
theorem dX12_farOf_152 : decode cX12_farOf 152 = .ok (.aload_n 0, 1) := by decide +kernel
theorem dX12_farOf_153 : decode cX12_farOf 153 = .ok (.getfield 16, 3) := by decide +kernel
theorem dX12_farOf_156 : decode cX12_farOf 156 = .ok (.iload_n 2, 1) := by decide +kernel
theorem dX12_farOf_157 : decode cX12_farOf 157 = .ok (.iaload, 1) := by decide +kernel
theorem dX12_farOf_158 : decode cX12_farOf 158 = .ok (.ireturn, 1) := by decide +kernel
theorem dX12_line_0 : decode cX12_line 0 = .ok (.iload_n 1, 1) := by decide +kernel
theorem dX12_line_1 : decode cX12_line 1 = .ok (.invokestatic 78, 3) := by decide +kernel
theorem dX12_line_4 : decode cX12_line 4 = .ok (.ifCond .eq 19, 3) := by decide +kernel
theorem dX12_line_7 : decode cX12_line 7 = .ok (.iload_n 2, 1) := by decide +kernel
theorem dX12_line_8 : decode cX12_line 8 = .ok (.invokestatic 78, 3) := by decide +kernel
theorem dX12_line_11 : decode cX12_line 11 = .ok (.ifCond .eq 12, 3) := by decide +kernel
theorem dX12_line_14 : decode cX12_line 14 = .ok (.aload_n 0, 1) := by decide +kernel
theorem dX12_line_15 : decode cX12_line 15 = .ok (.iload_n 1, 1) := by decide +kernel
theorem dX12_line_16 : decode cX12_line 16 = .ok (.iload_n 2, 1) := by decide +kernel
theorem dX12_line_17 : decode cX12_line 17 = .ok (.invokevirtual 86, 3) := by decide +kernel
theorem dX12_line_20 : decode cX12_line 20 = .ok (.goto 4, 3) := by decide +kernel
theorem dX12_line_23 : decode cX12_line 23 = .ok (.iconst (-1), 1) := by decide +kernel
theorem dX12_line_24 : decode cX12_line 24 = .ok (.ireturn, 1) := by decide +kernel
theorem dX12_day_0 : decode cX12_day 0 = .ok (.iload_n 1, 1) := by decide +kernel
theorem dX12_day_1 : decode cX12_day 1 = .ok (.iconst 1, 1) := by decide +kernel
theorem dX12_day_2 : decode cX12_day 2 = .ok (.bipush 50, 2) := by decide +kernel
theorem dX12_day_4 : decode cX12_day 4 = .ok (.invokestatic 74, 3) := by decide +kernel
theorem dX12_day_7 : decode cX12_day 7 = .ok (.ifCond .eq 17, 3) := by decide +kernel
theorem dX12_day_10 : decode cX12_day 10 = .ok (.aload_n 0, 1) := by decide +kernel
theorem dX12_day_11 : decode cX12_day 11 = .ok (.getfield 7, 3) := by decide +kernel
theorem dX12_day_14 : decode cX12_day 14 = .ok (.iconst 0, 1) := by decide +kernel
theorem dX12_day_15 : decode cX12_day 15 = .ok (.iaload, 1) := by decide +kernel
theorem dX12_day_16 : decode cX12_day 16 = .ok (.iload_n 1, 1) := by decide +kernel
theorem dX12_day_17 : decode cX12_day 17 = .ok (.iadd, 1) := by decide +kernel
theorem dX12_day_18 : decode cX12_day 18 = .ok (.sipush 999, 3) := by decide +kernel
theorem dX12_day_21 : decode cX12_day 21 = .ok (.if_icmp .le 6, 3) := by decide +kernel
theorem dX12_day_24 : decode cX12_day 24 = .ok (.bipush (-2), 2) := by decide +kernel
theorem dX12_day_26 : decode cX12_day 26 = .ok (.ireturn, 1) := by decide +kernel
theorem dX12_day_27 : decode cX12_day 27 = .ok (.iconst 0, 1) := by decide +kernel
theorem dX12_day_28 : decode cX12_day 28 = .ok (.istore_n 2, 1) := by decide +kernel
theorem dX12_day_29 : decode cX12_day 29 = .ok (.iload_n 2, 1) := by decide +kernel
theorem dX12_day_30 : decode cX12_day 30 = .ok (.iload_n 1, 1) := by decide +kernel
theorem dX12_day_31 : decode cX12_day 31 = .ok (.if_icmp .ge 23, 3) := by decide +kernel
theorem dX12_day_34 : decode cX12_day 34 = .ok (.aload_n 0, 1) := by decide +kernel
theorem dX12_day_35 : decode cX12_day 35 = .ok (.invokevirtual 90, 3) := by decide +kernel
theorem dX12_day_38 : decode cX12_day 38 = .ok (.aload_n 0, 1) := by decide +kernel
theorem dX12_day_39 : decode cX12_day 39 = .ok (.getfield 7, 3) := by decide +kernel
theorem dX12_day_42 : decode cX12_day 42 = .ok (.iconst 0, 1) := by decide +kernel
theorem dX12_day_43 : decode cX12_day 43 = .ok (.dup2, 1) := by decide +kernel
theorem dX12_day_44 : decode cX12_day 44 = .ok (.iaload, 1) := by decide +kernel
theorem dX12_day_45 : decode cX12_day 45 = .ok (.iconst 1, 1) := by decide +kernel
theorem dX12_day_46 : decode cX12_day 46 = .ok (.iadd, 1) := by decide +kernel
theorem dX12_day_47 : decode cX12_day 47 = .ok (.iastore, 1) := by decide +kernel
theorem dX12_day_48 : decode cX12_day 48 = .ok (.iinc 2 1, 3) := by decide +kernel
theorem dX12_day_51 : decode cX12_day 51 = .ok (.goto (-22), 3) := by decide +kernel
theorem dX12_day_54 : decode cX12_day 54 = .ok (.aload_n 0, 1) := by decide +kernel
theorem dX12_day_55 : decode cX12_day 55 = .ok (.getfield 7, 3) := by decide +kernel
theorem dX12_day_58 : decode cX12_day 58 = .ok (.iconst 0, 1) := by decide +kernel
theorem dX12_day_59 : decode cX12_day 59 = .ok (.iaload, 1) := by decide +kernel
theorem dX12_day_60 : decode cX12_day 60 = .ok (.ireturn, 1) := by decide +kernel
theorem dX12_feed_0 : decode cX12_feed 0 = .ok (.iload_n 3, 1) := by decide +kernel
theorem dX12_feed_1 : decode cX12_feed 1 = .ok (.iconst 1, 1) := by decide +kernel
theorem dX12_feed_2 : decode cX12_feed 2 = .ok (.bipush 8, 2) := by decide +kernel
theorem dX12_feed_4 : decode cX12_feed 4 = .ok (.invokestatic 74, 3) := by decide +kernel
theorem dX12_feed_7 : decode cX12_feed 7 = .ok (.ifCond .ne 6, 3) := by decide +kernel
theorem dX12_feed_10 : decode cX12_feed 10 = .ok (.bipush (-2), 2) := by decide +kernel
theorem dX12_feed_12 : decode cX12_feed 12 = .ok (.ireturn, 1) := by decide +kernel
theorem dX12_feed_13 : decode cX12_feed 13 = .ok (.aload_n 0, 1) := by decide +kernel
theorem dX12_feed_14 : decode cX12_feed 14 = .ok (.getfield 7, 3) := by decide +kernel
theorem dX12_feed_17 : decode cX12_feed 17 = .ok (.bipush 10, 2) := by decide +kernel
theorem dX12_feed_19 : decode cX12_feed 19 = .ok (.iaload, 1) := by decide +kernel
theorem dX12_feed_20 : decode cX12_feed 20 = .ok (.iload_n 3, 1) := by decide +kernel
theorem dX12_feed_21 : decode cX12_feed 21 = .ok (.iadd, 1) := by decide +kernel
theorem dX12_feed_22 : decode cX12_feed 22 = .ok (.bipush 120, 2) := by decide +kernel
theorem dX12_feed_24 : decode cX12_feed 24 = .ok (.if_icmp .le 6, 3) := by decide +kernel
theorem dX12_feed_27 : decode cX12_feed 27 = .ok (.bipush (-4), 2) := by decide +kernel
theorem dX12_feed_29 : decode cX12_feed 29 = .ok (.ireturn, 1) := by decide +kernel
theorem dX12_feed_30 : decode cX12_feed 30 = .ok (.iload_n 3, 1) := by decide +kernel
theorem dX12_feed_31 : decode cX12_feed 31 = .ok (.iconst 1, 1) := by decide +kernel
theorem dX12_feed_32 : decode cX12_feed 32 = .ok (.isub, 1) := by decide +kernel
theorem dX12_feed_33 : decode cX12_feed 33 = .ok (.istore 4, 2) := by decide +kernel
theorem dX12_feed_35 : decode cX12_feed 35 = .ok (.iload 4, 2) := by decide +kernel
theorem dX12_feed_37 : decode cX12_feed 37 = .ok (.ifCond .lt 48, 3) := by decide +kernel
theorem dX12_feed_40 : decode cX12_feed 40 = .ok (.aload_n 0, 1) := by decide +kernel
theorem dX12_feed_41 : decode cX12_feed 41 = .ok (.getfield 7, 3) := by decide +kernel
theorem dX12_feed_44 : decode cX12_feed 44 = .ok (.sipush 1190, 3) := by decide +kernel
theorem dX12_feed_47 : decode cX12_feed 47 = .ok (.aload_n 0, 1) := by decide +kernel
theorem dX12_feed_48 : decode cX12_feed 48 = .ok (.getfield 7, 3) := by decide +kernel
theorem dX12_feed_51 : decode cX12_feed 51 = .ok (.bipush 10, 2) := by decide +kernel
theorem dX12_feed_53 : decode cX12_feed 53 = .ok (.iaload, 1) := by decide +kernel
theorem dX12_feed_54 : decode cX12_feed 54 = .ok (.iadd, 1) := by decide +kernel
theorem dX12_feed_55 : decode cX12_feed 55 = .ok (.lload_n 1, 1) := by decide +kernel
theorem dX12_feed_56 : decode cX12_feed 56 = .ok (.bipush 8, 2) := by decide +kernel
theorem dX12_feed_58 : decode cX12_feed 58 = .ok (.iload 4, 2) := by decide +kernel
theorem dX12_feed_60 : decode cX12_feed 60 = .ok (.imul, 1) := by decide +kernel
theorem dX12_feed_61 : decode cX12_feed 61 = .ok (.lshr, 1) := by decide +kernel
theorem dX12_feed_62 : decode cX12_feed 62 = .ok (.ldc2_w 93, 3) := by decide +kernel
theorem dX12_feed_65 : decode cX12_feed 65 = .ok (.land, 1) := by decide +kernel
theorem dX12_feed_66 : decode cX12_feed 66 = .ok (.l2i, 1) := by decide +kernel
theorem dX12_feed_67 : decode cX12_feed 67 = .ok (.iastore, 1) := by decide +kernel
theorem dX12_feed_68 : decode cX12_feed 68 = .ok (.aload_n 0, 1) := by decide +kernel
theorem dX12_feed_69 : decode cX12_feed 69 = .ok (.getfield 7, 3) := by decide +kernel
theorem dX12_feed_72 : decode cX12_feed 72 = .ok (.bipush 10, 2) := by decide +kernel
theorem dX12_feed_74 : decode cX12_feed 74 = .ok (.dup2, 1) := by decide +kernel
theorem dX12_feed_75 : decode cX12_feed 75 = .ok (.iaload, 1) := by decide +kernel
theorem dX12_feed_76 : decode cX12_feed 76 = .ok (.iconst 1, 1) := by decide +kernel
theorem dX12_feed_77 : decode cX12_feed 77 = .ok (.iadd, 1) := by decide +kernel
theorem dX12_feed_78 : decode cX12_feed 78 = .ok (.iastore, 1) := by decide +kernel
theorem dX12_feed_79 : decode cX12_feed 79 = .ok (.iinc 4 (-1), 3) := by decide +kernel
theorem dX12_feed_82 : decode cX12_feed 82 = .ok (.goto (-47), 3) := by decide +kernel
theorem dX12_feed_85 : decode cX12_feed 85 = .ok (.aload_n 0, 1) := by decide +kernel
theorem dX12_feed_86 : decode cX12_feed 86 = .ok (.getfield 7, 3) := by decide +kernel
theorem dX12_feed_89 : decode cX12_feed 89 = .ok (.bipush 10, 2) := by decide +kernel
theorem dX12_feed_91 : decode cX12_feed 91 = .ok (.iaload, 1) := by decide +kernel
theorem dX12_feed_92 : decode cX12_feed 92 = .ok (.ireturn, 1) := by decide +kernel
theorem dX12_here_0 : decode cX12_here 0 = .ok (.aload_n 0, 1) := by decide +kernel
theorem dX12_here_1 : decode cX12_here 1 = .ok (.getfield 95, 3) := by decide +kernel
theorem dX12_here_4 : decode cX12_here 4 = .ok (.aload_n 0, 1) := by decide +kernel
theorem dX12_here_5 : decode cX12_here 5 = .ok (.getfield 7, 3) := by decide +kernel
theorem dX12_here_8 : decode cX12_here 8 = .ok (.sipush 4450, 3) := by decide +kernel
theorem dX12_here_11 : decode cX12_here 11 = .ok (.aload_n 0, 1) := by decide +kernel
theorem dX12_here_12 : decode cX12_here 12 = .ok (.getfield 98, 3) := by decide +kernel
theorem dX12_here_15 : decode cX12_here 15 = .ok (.iadd, 1) := by decide +kernel
theorem dX12_here_16 : decode cX12_here 16 = .ok (.iaload, 1) := by decide +kernel
theorem dX12_here_17 : decode cX12_here 17 = .ok (.if_icmp .ge 27, 3) := by decide +kernel
theorem dX12_here_20 : decode cX12_here 20 = .ok (.aload_n 0, 1) := by decide +kernel
theorem dX12_here_21 : decode cX12_here 21 = .ok (.getfield 7, 3) := by decide +kernel
theorem dX12_here_24 : decode cX12_here 24 = .ok (.sipush 4750, 3) := by decide +kernel
theorem dX12_here_27 : decode cX12_here 27 = .ok (.bipush 120, 2) := by decide +kernel
theorem dX12_here_29 : decode cX12_here 29 = .ok (.aload_n 0, 1) := by decide +kernel
theorem dX12_here_30 : decode cX12_here 30 = .ok (.getfield 98, 3) := by decide +kernel
theorem dX12_here_33 : decode cX12_here 33 = .ok (.imul, 1) := by decide +kernel
theorem dX12_here_34 : decode cX12_here 34 = .ok (.iadd, 1) := by decide +kernel
theorem dX12_here_35 : decode cX12_here 35 = .ok (.aload_n 0, 1) := by decide +kernel
theorem dX12_here_36 : decode cX12_here 36 = .ok (.getfield 95, 3) := by decide +kernel
theorem dX12_here_39 : decode cX12_here 39 = .ok (.iadd, 1) := by decide +kernel
theorem dX12_here_40 : decode cX12_here 40 = .ok (.iaload, 1) := by decide +kernel
theorem dX12_here_41 : decode cX12_here 41 = .ok (.goto 4, 3) := by decide +kernel
theorem dX12_here_44 : decode cX12_here 44 = .ok (.iconst (-1), 1) := by decide +kernel
theorem dX12_here_45 : decode cX12_here 45 = .ok (.ireturn, 1) := by decide +kernel
theorem dX12_must_0 : decode cX12_must 0 = .ok (.aload_n 0, 1) := by decide +kernel
theorem dX12_must_1 : decode cX12_must 1 = .ok (.aload_n 0, 1) := by decide +kernel
theorem dX12_must_2 : decode cX12_must 2 = .ok (.getfield 101, 3) := by decide +kernel
theorem dX12_must_5 : decode cX12_must 5 = .ok (.ifCond .ne 11, 3) := by decide +kernel
theorem dX12_must_8 : decode cX12_must 8 = .ok (.aload_n 0, 1) := by decide +kernel
theorem dX12_must_9 : decode cX12_must 9 = .ok (.invokevirtual 105, 3) := by decide +kernel
theorem dX12_must_12 : decode cX12_must 12 = .ok (.iload_n 1, 1) := by decide +kernel
theorem dX12_must_13 : decode cX12_must 13 = .ok (.if_icmp .eq 7, 3) := by decide +kernel
theorem dX12_must_16 : decode cX12_must 16 = .ok (.iconst 1, 1) := by decide +kernel
theorem dX12_must_17 : decode cX12_must 17 = .ok (.goto 4, 3) := by decide +kernel
theorem dX12_must_20 : decode cX12_must 20 = .ok (.iconst 0, 1) := by decide +kernel
theorem dX12_must_21 : decode cX12_must 21 = .ok (.putfield 101, 3) := by decide +kernel
theorem dX12_must_24 : decode cX12_must 24 = .ok (.aload_n 0, 1) := by decide +kernel
theorem dX12_must_25 : decode cX12_must 25 = .ok (.dup, 1) := by decide +kernel
theorem dX12_must_26 : decode cX12_must 26 = .ok (.getfield 95, 3) := by decide +kernel
theorem dX12_must_29 : decode cX12_must 29 = .ok (.aload_n 0, 1) := by decide +kernel
theorem dX12_must_30 : decode cX12_must 30 = .ok (.getfield 101, 3) := by decide +kernel
theorem dX12_must_33 : decode cX12_must 33 = .ok (.ifCond .eq 7, 3) := by decide +kernel
theorem dX12_must_36 : decode cX12_must 36 = .ok (.iconst 0, 1) := by decide +kernel
theorem dX12_must_37 : decode cX12_must 37 = .ok (.goto 4, 3) := by decide +kernel
theorem dX12_must_40 : decode cX12_must 40 = .ok (.iconst 1, 1) := by decide +kernel
theorem dX12_must_41 : decode cX12_must 41 = .ok (.iadd, 1) := by decide +kernel
theorem dX12_must_42 : decode cX12_must 42 = .ok (.putfield 95, 3) := by decide +kernel
theorem dX12_must_45 : decode cX12_must 45 = .ok (.return_, 1) := by decide +kernel
theorem dX12_number_0 : decode cX12_number 0 = .ok (.aload_n 0, 1) := by decide +kernel
theorem dX12_number_1 : decode cX12_number 1 = .ok (.aload_n 0, 1) := by decide +kernel
theorem dX12_number_2 : decode cX12_number 2 = .ok (.getfield 101, 3) := by decide +kernel
theorem dX12_number_5 : decode cX12_number 5 = .ok (.ifCond .ne 17, 3) := by decide +kernel
theorem dX12_number_8 : decode cX12_number 8 = .ok (.aload_n 0, 1) := by decide +kernel
theorem dX12_number_9 : decode cX12_number 9 = .ok (.invokevirtual 105, 3) := by decide +kernel
theorem dX12_number_12 : decode cX12_number 12 = .ok (.bipush 48, 2) := by decide +kernel
theorem dX12_number_14 : decode cX12_number 14 = .ok (.bipush 57, 2) := by decide +kernel
theorem dX12_number_16 : decode cX12_number 16 = .ok (.invokestatic 74, 3) := by decide +kernel
theorem dX12_number_19 : decode cX12_number 19 = .ok (.ifCond .ne 7, 3) := by decide +kernel
theorem dX12_number_22 : decode cX12_number 22 = .ok (.iconst 1, 1) := by decide +kernel
theorem dX12_number_23 : decode cX12_number 23 = .ok (.goto 4, 3) := by decide +kernel
theorem dX12_number_26 : decode cX12_number 26 = .ok (.iconst 0, 1) := by decide +kernel
theorem dX12_number_27 : decode cX12_number 27 = .ok (.putfield 101, 3) := by decide +kernel
theorem dX12_number_30 : decode cX12_number 30 = .ok (.iconst 0, 1) := by decide +kernel
theorem dX12_number_31 : decode cX12_number 31 = .ok (.istore_n 1, 1) := by decide +kernel
theorem dX12_number_32 : decode cX12_number 32 = .ok (.iconst 0, 1) := by decide +kernel
theorem dX12_number_33 : decode cX12_number 33 = .ok (.istore_n 2, 1) := by decide +kernel
theorem dX12_number_34 : decode cX12_number 34 = .ok (.iload_n 2, 1) := by decide +kernel
theorem dX12_number_35 : decode cX12_number 35 = .ok (.iconst 2, 1) := by decide +kernel
theorem dX12_number_36 : decode cX12_number 36 = .ok (.if_icmp .ge 61, 3) := by decide +kernel
theorem dX12_number_39 : decode cX12_number 39 = .ok (.aload_n 0, 1) := by decide +kernel
theorem dX12_number_40 : decode cX12_number 40 = .ok (.getfield 101, 3) := by decide +kernel
theorem dX12_number_43 : decode cX12_number 43 = .ok (.ifCond .ne 54, 3) := by decide +kernel
theorem dX12_number_46 : decode cX12_number 46 = .ok (.aload_n 0, 1) := by decide +kernel
theorem dX12_number_47 : decode cX12_number 47 = .ok (.invokevirtual 105, 3) := by decide +kernel
theorem dX12_number_50 : decode cX12_number 50 = .ok (.bipush 48, 2) := by decide +kernel
theorem dX12_number_52 : decode cX12_number 52 = .ok (.bipush 57, 2) := by decide +kernel
theorem dX12_number_54 : decode cX12_number 54 = .ok (.invokestatic 74, 3) := by decide +kernel
theorem dX12_number_57 : decode cX12_number 57 = .ok (.ifCond .eq 40, 3) := by decide +kernel
theorem dX12_number_60 : decode cX12_number 60 = .ok (.iload_n 2, 1) := by decide +kernel
theorem dX12_number_61 : decode cX12_number 61 = .ok (.ifCond .eq 7, 3) := by decide +kernel
theorem dX12_number_64 : decode cX12_number 64 = .ok (.iload_n 1, 1) := by decide +kernel
theorem dX12_number_65 : decode cX12_number 65 = .ok (.ifCond .le 32, 3) := by decide +kernel
theorem dX12_number_68 : decode cX12_number 68 = .ok (.bipush 10, 2) := by decide +kernel
theorem dX12_number_70 : decode cX12_number 70 = .ok (.iload_n 1, 1) := by decide +kernel
theorem dX12_number_71 : decode cX12_number 71 = .ok (.imul, 1) := by decide +kernel
theorem dX12_number_72 : decode cX12_number 72 = .ok (.aload_n 0, 1) := by decide +kernel
theorem dX12_number_73 : decode cX12_number 73 = .ok (.invokevirtual 105, 3) := by decide +kernel
theorem dX12_number_76 : decode cX12_number 76 = .ok (.iadd, 1) := by decide +kernel
theorem dX12_number_77 : decode cX12_number 77 = .ok (.bipush 48, 2) := by decide +kernel
theorem dX12_number_79 : decode cX12_number 79 = .ok (.isub, 1) := by decide +kernel
theorem dX12_number_80 : decode cX12_number 80 = .ok (.istore_n 1, 1) := by decide +kernel
theorem dX12_number_81 : decode cX12_number 81 = .ok (.aload_n 0, 1) := by decide +kernel
theorem dX12_number_82 : decode cX12_number 82 = .ok (.dup, 1) := by decide +kernel
theorem dX12_number_83 : decode cX12_number 83 = .ok (.getfield 95, 3) := by decide +kernel
theorem dX12_number_86 : decode cX12_number 86 = .ok (.iconst 1, 1) := by decide +kernel
theorem dX12_number_87 : decode cX12_number 87 = .ok (.iadd, 1) := by decide +kernel
theorem dX12_number_88 : decode cX12_number 88 = .ok (.putfield 95, 3) := by decide +kernel
theorem dX12_number_91 : decode cX12_number 91 = .ok (.iinc 2 1, 3) := by decide +kernel
theorem dX12_number_94 : decode cX12_number 94 = .ok (.goto (-60), 3) := by decide +kernel
theorem dX12_number_97 : decode cX12_number 97 = .ok (.iload_n 1, 1) := by decide +kernel
theorem dX12_number_98 : decode cX12_number 98 = .ok (.ireturn, 1) := by decide +kernel
theorem dX12_sideOf_0 : decode cX12_sideOf 0 = .ok (.iload_n 0, 1) := by decide +kernel
theorem dX12_sideOf_1 : decode cX12_sideOf 1 = .ok (.sipush 3600, 3) := by decide +kernel
theorem dX12_sideOf_4 : decode cX12_sideOf 4 = .ok (.idiv, 1) := by decide +kernel
theorem dX12_sideOf_5 : decode cX12_sideOf 5 = .ok (.ireturn, 1) := by decide +kernel
theorem dX12_spotOf_0 : decode cX12_spotOf 0 = .ok (.iload_n 0, 1) := by decide +kernel
theorem dX12_spotOf_1 : decode cX12_spotOf 1 = .ok (.bipush 120, 2) := by decide +kernel
theorem dX12_spotOf_3 : decode cX12_spotOf 3 = .ok (.idiv, 1) := by decide +kernel
theorem dX12_spotOf_4 : decode cX12_spotOf 4 = .ok (.bipush 30, 2) := by decide +kernel
theorem dX12_spotOf_6 : decode cX12_spotOf 6 = .ok (.irem, 1) := by decide +kernel
theorem dX12_spotOf_7 : decode cX12_spotOf 7 = .ok (.ireturn, 1) := by decide +kernel
theorem dX12_matterOf_0 : decode cX12_matterOf 0 = .ok (.iload_n 0, 1) := by decide +kernel
theorem dX12_matterOf_1 : decode cX12_matterOf 1 = .ok (.bipush 24, 2) := by decide +kernel
theorem dX12_matterOf_3 : decode cX12_matterOf 3 = .ok (.idiv, 1) := by decide +kernel
theorem dX12_matterOf_4 : decode cX12_matterOf 4 = .ok (.iconst 5, 1) := by decide +kernel
theorem dX12_matterOf_5 : decode cX12_matterOf 5 = .ok (.irem, 1) := by decide +kernel
theorem dX12_matterOf_6 : decode cX12_matterOf 6 = .ok (.ireturn, 1) := by decide +kernel
theorem dX12_hourOf_0 : decode cX12_hourOf 0 = .ok (.iload_n 0, 1) := by decide +kernel
theorem dX12_hourOf_1 : decode cX12_hourOf 1 = .ok (.bipush 24, 2) := by decide +kernel
theorem dX12_hourOf_3 : decode cX12_hourOf 3 = .ok (.irem, 1) := by decide +kernel
theorem dX12_hourOf_4 : decode cX12_hourOf 4 = .ok (.ireturn, 1) := by decide +kernel
theorem dX12_factor_0 : decode cX12_factor 0 = .ok (.aload_n 0, 1) := by decide +kernel
theorem dX12_factor_1 : decode cX12_factor 1 = .ok (.getfield 101, 3) := by decide +kernel
theorem dX12_factor_4 : decode cX12_factor 4 = .ok (.ifCond .eq 5, 3) := by decide +kernel
theorem dX12_factor_7 : decode cX12_factor 7 = .ok (.iconst 0, 1) := by decide +kernel
theorem dX12_factor_8 : decode cX12_factor 8 = .ok (.ireturn, 1) := by decide +kernel
theorem dX12_factor_9 : decode cX12_factor 9 = .ok (.aload_n 0, 1) := by decide +kernel
theorem dX12_factor_10 : decode cX12_factor 10 = .ok (.invokevirtual 105, 3) := by decide +kernel
theorem dX12_factor_13 : decode cX12_factor 13 = .ok (.istore_n 1, 1) := by decide +kernel
theorem dX12_factor_14 : decode cX12_factor 14 = .ok (.iload_n 1, 1) := by decide +kernel
theorem dX12_factor_15 : decode cX12_factor 15 = .ok (.bipush 33, 2) := by decide +kernel
theorem dX12_factor_17 : decode cX12_factor 17 = .ok (.if_icmp .eq 9, 3) := by decide +kernel
theorem dX12_factor_20 : decode cX12_factor 20 = .ok (.iload_n 1, 1) := by decide +kernel
theorem dX12_factor_21 : decode cX12_factor 21 = .ok (.bipush 40, 2) := by decide +kernel
theorem dX12_factor_23 : decode cX12_factor 23 = .ok (.if_icmp .ne 113, 3) := by decide +kernel
theorem dX12_factor_26 : decode cX12_factor 26 = .ok (.aload_n 0, 1) := by decide +kernel
theorem dX12_factor_27 : decode cX12_factor 27 = .ok (.aload_n 0, 1) := by decide +kernel
theorem dX12_factor_28 : decode cX12_factor 28 = .ok (.getfield 109, 3) := by decide +kernel
theorem dX12_factor_31 : decode cX12_factor 31 = .ok (.bipush 6, 2) := by decide +kernel
theorem dX12_factor_33 : decode cX12_factor 33 = .ok (.if_icmp .ne 7, 3) := by decide +kernel
theorem dX12_factor_36 : decode cX12_factor 36 = .ok (.iconst 1, 1) := by decide +kernel
theorem dX12_factor_37 : decode cX12_factor 37 = .ok (.goto 4, 3) := by decide +kernel
theorem dX12_factor_40 : decode cX12_factor 40 = .ok (.iconst 0, 1) := by decide +kernel
theorem dX12_factor_41 : decode cX12_factor 41 = .ok (.putfield 101, 3) := by decide +kernel
theorem dX12_factor_44 : decode cX12_factor 44 = .ok (.aload_n 0, 1) := by decide +kernel
theorem dX12_factor_45 : decode cX12_factor 45 = .ok (.dup, 1) := by decide +kernel
theorem dX12_factor_46 : decode cX12_factor 46 = .ok (.getfield 109, 3) := by decide +kernel
theorem dX12_factor_49 : decode cX12_factor 49 = .ok (.iconst 1, 1) := by decide +kernel
theorem dX12_factor_50 : decode cX12_factor 50 = .ok (.iadd, 1) := by decide +kernel
theorem dX12_factor_51 : decode cX12_factor 51 = .ok (.putfield 109, 3) := by decide +kernel
theorem dX12_factor_54 : decode cX12_factor 54 = .ok (.aload_n 0, 1) := by decide +kernel
theorem dX12_factor_55 : decode cX12_factor 55 = .ok (.dup, 1) := by decide +kernel
theorem dX12_factor_56 : decode cX12_factor 56 = .ok (.getfield 95, 3) := by decide +kernel
theorem dX12_factor_59 : decode cX12_factor 59 = .ok (.aload_n 0, 1) := by decide +kernel
theorem dX12_factor_60 : decode cX12_factor 60 = .ok (.getfield 101, 3) := by decide +kernel
theorem dX12_factor_63 : decode cX12_factor 63 = .ok (.ifCond .eq 7, 3) := by decide +kernel
theorem dX12_factor_66 : decode cX12_factor 66 = .ok (.iconst 0, 1) := by decide +kernel
theorem dX12_factor_67 : decode cX12_factor 67 = .ok (.goto 4, 3) := by decide +kernel
theorem dX12_factor_70 : decode cX12_factor 70 = .ok (.iconst 1, 1) := by decide +kernel
theorem dX12_factor_71 : decode cX12_factor 71 = .ok (.iadd, 1) := by decide +kernel
theorem dX12_factor_72 : decode cX12_factor 72 = .ok (.putfield 95, 3) := by decide +kernel
theorem dX12_factor_75 : decode cX12_factor 75 = .ok (.aload_n 0, 1) := by decide +kernel
theorem dX12_factor_76 : decode cX12_factor 76 = .ok (.getfield 101, 3) := by decide +kernel
theorem dX12_factor_79 : decode cX12_factor 79 = .ok (.ifCond .eq 7, 3) := by decide +kernel
theorem dX12_factor_82 : decode cX12_factor 82 = .ok (.iconst 0, 1) := by decide +kernel
theorem dX12_factor_83 : decode cX12_factor 83 = .ok (.goto 28, 3) := by decide +kernel
theorem dX12_factor_86 : decode cX12_factor 86 = .ok (.iload_n 1, 1) := by decide +kernel
theorem dX12_factor_87 : decode cX12_factor 87 = .ok (.bipush 33, 2) := by decide +kernel
theorem dX12_factor_89 : decode cX12_factor 89 = .ok (.if_icmp .ne 18, 3) := by decide +kernel
theorem dX12_factor_92 : decode cX12_factor 92 = .ok (.aload_n 0, 1) := by decide +kernel
theorem dX12_factor_93 : decode cX12_factor 93 = .ok (.invokevirtual 112, 3) := by decide +kernel
theorem dX12_factor_96 : decode cX12_factor 96 = .ok (.ifCond .ne 7, 3) := by decide +kernel
theorem dX12_factor_99 : decode cX12_factor 99 = .ok (.iconst 1, 1) := by decide +kernel
theorem dX12_factor_100 : decode cX12_factor 100 = .ok (.goto 11, 3) := by decide +kernel
theorem dX12_factor_103 : decode cX12_factor 103 = .ok (.iconst 0, 1) := by decide +kernel
theorem dX12_factor_104 : decode cX12_factor 104 = .ok (.goto 7, 3) := by decide +kernel
theorem dX12_factor_107 : decode cX12_factor 107 = .ok (.aload_n 0, 1) := by decide +kernel
theorem dX12_factor_108 : decode cX12_factor 108 = .ok (.invokevirtual 116, 3) := by decide +kernel
theorem dX12_factor_111 : decode cX12_factor 111 = .ok (.istore_n 2, 1) := by decide +kernel
theorem dX12_factor_112 : decode cX12_factor 112 = .ok (.iload_n 1, 1) := by decide +kernel
theorem dX12_factor_113 : decode cX12_factor 113 = .ok (.bipush 40, 2) := by decide +kernel
theorem dX12_factor_115 : decode cX12_factor 115 = .ok (.if_icmp .ne 9, 3) := by decide +kernel
theorem dX12_factor_118 : decode cX12_factor 118 = .ok (.aload_n 0, 1) := by decide +kernel
theorem dX12_factor_119 : decode cX12_factor 119 = .ok (.bipush 41, 2) := by decide +kernel
theorem dX12_factor_121 : decode cX12_factor 121 = .ok (.invokevirtual 119, 3) := by decide +kernel
theorem dX12_factor_124 : decode cX12_factor 124 = .ok (.aload_n 0, 1) := by decide +kernel
theorem dX12_factor_125 : decode cX12_factor 125 = .ok (.dup, 1) := by decide +kernel
theorem dX12_factor_126 : decode cX12_factor 126 = .ok (.getfield 109, 3) := by decide +kernel
theorem dX12_factor_129 : decode cX12_factor 129 = .ok (.iconst 1, 1) := by decide +kernel
theorem dX12_factor_130 : decode cX12_factor 130 = .ok (.isub, 1) := by decide +kernel
theorem dX12_factor_131 : decode cX12_factor 131 = .ok (.putfield 109, 3) := by decide +kernel
theorem dX12_factor_134 : decode cX12_factor 134 = .ok (.iload_n 2, 1) := by decide +kernel
theorem dX12_factor_135 : decode cX12_factor 135 = .ok (.ireturn, 1) := by decide +kernel
theorem dX12_factor_136 : decode cX12_factor 136 = .ok (.iload_n 1, 1) := by decide +kernel
theorem dX12_factor_137 : decode cX12_factor 137 = .ok (.bipush 104, 2) := by decide +kernel
theorem dX12_factor_139 : decode cX12_factor 139 = .ok (.if_icmp .ne 107, 3) := by decide +kernel
theorem dX12_factor_142 : decode cX12_factor 142 = .ok (.aload_n 0, 1) := by decide +kernel
theorem dX12_factor_143 : decode cX12_factor 143 = .ok (.dup, 1) := by decide +kernel
theorem dX12_factor_144 : decode cX12_factor 144 = .ok (.getfield 95, 3) := by decide +kernel
theorem dX12_factor_147 : decode cX12_factor 147 = .ok (.iconst 1, 1) := by decide +kernel
theorem dX12_factor_148 : decode cX12_factor 148 = .ok (.iadd, 1) := by decide +kernel
theorem dX12_factor_149 : decode cX12_factor 149 = .ok (.putfield 95, 3) := by decide +kernel
theorem dX12_factor_152 : decode cX12_factor 152 = .ok (.aload_n 0, 1) := by decide +kernel
theorem dX12_factor_153 : decode cX12_factor 153 = .ok (.invokevirtual 105, 3) := by decide +kernel
theorem dX12_factor_156 : decode cX12_factor 156 = .ok (.istore_n 2, 1) := by decide +kernel
theorem dX12_factor_157 : decode cX12_factor 157 = .ok (.aload_n 0, 1) := by decide +kernel
theorem dX12_factor_158 : decode cX12_factor 158 = .ok (.iload_n 2, 1) := by decide +kernel
theorem dX12_factor_159 : decode cX12_factor 159 = .ok (.bipush 60, 2) := by decide +kernel
theorem dX12_factor_161 : decode cX12_factor 161 = .ok (.if_icmp .eq 13, 3) := by decide +kernel
theorem dX12_factor_164 : decode cX12_factor 164 = .ok (.iload_n 2, 1) := by decide +kernel
theorem dX12_factor_165 : decode cX12_factor 165 = .ok (.bipush 62, 2) := by decide +kernel
theorem dX12_factor_167 : decode cX12_factor 167 = .ok (.if_icmp .eq 7, 3) := by decide +kernel
theorem dX12_factor_170 : decode cX12_factor 170 = .ok (.iconst 1, 1) := by decide +kernel
theorem dX12_factor_171 : decode cX12_factor 171 = .ok (.goto 4, 3) := by decide +kernel
theorem dX12_factor_174 : decode cX12_factor 174 = .ok (.iconst 0, 1) := by decide +kernel
theorem dX12_factor_175 : decode cX12_factor 175 = .ok (.putfield 101, 3) := by decide +kernel
theorem dX12_factor_178 : decode cX12_factor 178 = .ok (.aload_n 0, 1) := by decide +kernel
theorem dX12_factor_179 : decode cX12_factor 179 = .ok (.dup, 1) := by decide +kernel
theorem dX12_factor_180 : decode cX12_factor 180 = .ok (.getfield 95, 3) := by decide +kernel
theorem dX12_factor_183 : decode cX12_factor 183 = .ok (.aload_n 0, 1) := by decide +kernel
theorem dX12_factor_184 : decode cX12_factor 184 = .ok (.getfield 101, 3) := by decide +kernel
theorem dX12_factor_187 : decode cX12_factor 187 = .ok (.ifCond .eq 7, 3) := by decide +kernel
theorem dX12_factor_190 : decode cX12_factor 190 = .ok (.iconst 0, 1) := by decide +kernel
theorem dX12_factor_191 : decode cX12_factor 191 = .ok (.goto 4, 3) := by decide +kernel
theorem dX12_factor_194 : decode cX12_factor 194 = .ok (.iconst 1, 1) := by decide +kernel
theorem dX12_factor_195 : decode cX12_factor 195 = .ok (.iadd, 1) := by decide +kernel
theorem dX12_factor_196 : decode cX12_factor 196 = .ok (.putfield 95, 3) := by decide +kernel
theorem dX12_factor_199 : decode cX12_factor 199 = .ok (.aload_n 0, 1) := by decide +kernel
theorem dX12_factor_200 : decode cX12_factor 200 = .ok (.invokevirtual 123, 3) := by decide +kernel
theorem dX12_factor_203 : decode cX12_factor 203 = .ok (.istore_n 3, 1) := by decide +kernel
theorem dX12_factor_204 : decode cX12_factor 204 = .ok (.iload_n 2, 1) := by decide +kernel
theorem dX12_factor_205 : decode cX12_factor 205 = .ok (.bipush 60, 2) := by decide +kernel
theorem dX12_factor_207 : decode cX12_factor 207 = .ok (.if_icmp .ne 22, 3) := by decide +kernel
theorem dX12_factor_210 : decode cX12_factor 210 = .ok (.aload_n 0, 1) := by decide +kernel
theorem dX12_factor_211 : decode cX12_factor 211 = .ok (.getfield 126, 3) := by decide +kernel
theorem dX12_factor_214 : decode cX12_factor 214 = .ok (.invokestatic 129, 3) := by decide +kernel
theorem dX12_factor_217 : decode cX12_factor 217 = .ok (.iload_n 3, 1) := by decide +kernel
theorem dX12_factor_218 : decode cX12_factor 218 = .ok (.if_icmp .ge 7, 3) := by decide +kernel
theorem dX12_factor_221 : decode cX12_factor 221 = .ok (.iconst 1, 1) := by decide +kernel
theorem dX12_factor_222 : decode cX12_factor 222 = .ok (.goto 23, 3) := by decide +kernel
theorem dX12_factor_225 : decode cX12_factor 225 = .ok (.iconst 0, 1) := by decide +kernel
theorem dX12_factor_226 : decode cX12_factor 226 = .ok (.goto 19, 3) := by decide +kernel
theorem dX12_factor_229 : decode cX12_factor 229 = .ok (.aload_n 0, 1) := by decide +kernel
theorem dX12_factor_230 : decode cX12_factor 230 = .ok (.getfield 126, 3) := by decide +kernel
theorem dX12_factor_233 : decode cX12_factor 233 = .ok (.invokestatic 129, 3) := by decide +kernel
theorem dX12_factor_236 : decode cX12_factor 236 = .ok (.iload_n 3, 1) := by decide +kernel
theorem dX12_factor_237 : decode cX12_factor 237 = .ok (.if_icmp .le 7, 3) := by decide +kernel
theorem dX12_factor_240 : decode cX12_factor 240 = .ok (.iconst 1, 1) := by decide +kernel
theorem dX12_factor_241 : decode cX12_factor 241 = .ok (.goto 4, 3) := by decide +kernel
theorem dX12_factor_244 : decode cX12_factor 244 = .ok (.iconst 0, 1) := by decide +kernel
theorem dX12_factor_245 : decode cX12_factor 245 = .ok (.ireturn, 1) := by decide +kernel
theorem dX12_factor_246 : decode cX12_factor 246 = .ok (.aload_n 0, 1) := by decide +kernel
theorem dX12_factor_247 : decode cX12_factor 247 = .ok (.iload_n 1, 1) := by decide +kernel
theorem dX12_factor_248 : decode cX12_factor 248 = .ok (.bipush 115, 2) := by decide +kernel
theorem dX12_factor_250 : decode cX12_factor 250 = .ok (.if_icmp .eq 25, 3) := by decide +kernel
theorem dX12_factor_253 : decode cX12_factor 253 = .ok (.iload_n 1, 1) := by decide +kernel
theorem dX12_factor_254 : decode cX12_factor 254 = .ok (.bipush 103, 2) := by decide +kernel
theorem dX12_factor_256 : decode cX12_factor 256 = .ok (.if_icmp .eq 19, 3) := by decide +kernel
theorem dX12_factor_259 : decode cX12_factor 259 = .ok (.iload_n 1, 1) := by decide +kernel
theorem dX12_factor_260 : decode cX12_factor 260 = .ok (.bipush 109, 2) := by decide +kernel
theorem dX12_factor_262 : decode cX12_factor 262 = .ok (.if_icmp .eq 13, 3) := by decide +kernel
theorem dX12_factor_265 : decode cX12_factor 265 = .ok (.iload_n 1, 1) := by decide +kernel
theorem dX12_factor_266 : decode cX12_factor 266 = .ok (.bipush 112, 2) := by decide +kernel
theorem dX12_factor_268 : decode cX12_factor 268 = .ok (.if_icmp .eq 7, 3) := by decide +kernel
theorem dX12_factor_271 : decode cX12_factor 271 = .ok (.iconst 1, 1) := by decide +kernel
theorem dX12_factor_272 : decode cX12_factor 272 = .ok (.goto 4, 3) := by decide +kernel
theorem dX12_factor_275 : decode cX12_factor 275 = .ok (.iconst 0, 1) := by decide +kernel
theorem dX12_factor_276 : decode cX12_factor 276 = .ok (.putfield 101, 3) := by decide +kernel
theorem dX12_factor_279 : decode cX12_factor 279 = .ok (.aload_n 0, 1) := by decide +kernel
theorem dX12_factor_280 : decode cX12_factor 280 = .ok (.dup, 1) := by decide +kernel
theorem dX12_factor_281 : decode cX12_factor 281 = .ok (.getfield 95, 3) := by decide +kernel
theorem dX12_factor_284 : decode cX12_factor 284 = .ok (.aload_n 0, 1) := by decide +kernel
theorem dX12_factor_285 : decode cX12_factor 285 = .ok (.getfield 101, 3) := by decide +kernel
theorem dX12_factor_288 : decode cX12_factor 288 = .ok (.ifCond .eq 7, 3) := by decide +kernel
theorem dX12_factor_291 : decode cX12_factor 291 = .ok (.iconst 0, 1) := by decide +kernel
theorem dX12_factor_292 : decode cX12_factor 292 = .ok (.goto 4, 3) := by decide +kernel
theorem dX12_factor_295 : decode cX12_factor 295 = .ok (.iconst 1, 1) := by decide +kernel
theorem dX12_factor_296 : decode cX12_factor 296 = .ok (.iadd, 1) := by decide +kernel
theorem dX12_factor_297 : decode cX12_factor 297 = .ok (.putfield 95, 3) := by decide +kernel
theorem dX12_factor_300 : decode cX12_factor 300 = .ok (.aload_n 0, 1) := by decide +kernel
theorem dX12_factor_301 : decode cX12_factor 301 = .ok (.bipush 61, 2) := by decide +kernel
theorem dX12_factor_303 : decode cX12_factor 303 = .ok (.invokevirtual 119, 3) := by decide +kernel
theorem dX12_factor_306 : decode cX12_factor 306 = .ok (.aload_n 0, 1) := by decide +kernel
theorem dX12_factor_307 : decode cX12_factor 307 = .ok (.invokevirtual 123, 3) := by decide +kernel
theorem dX12_factor_310 : decode cX12_factor 310 = .ok (.istore_n 2, 1) := by decide +kernel
theorem dX12_factor_311 : decode cX12_factor 311 = .ok (.iload_n 1, 1) := by decide +kernel
theorem dX12_factor_312 : decode cX12_factor 312 = .ok (.bipush 115, 2) := by decide +kernel
theorem dX12_factor_314 : decode cX12_factor 314 = .ok (.if_icmp .ne 13, 3) := by decide +kernel
theorem dX12_factor_317 : decode cX12_factor 317 = .ok (.aload_n 0, 1) := by decide +kernel
theorem dX12_factor_318 : decode cX12_factor 318 = .ok (.getfield 126, 3) := by decide +kernel
theorem dX12_factor_321 : decode cX12_factor 321 = .ok (.invokestatic 133, 3) := by decide +kernel
theorem dX12_factor_324 : decode cX12_factor 324 = .ok (.goto 50, 3) := by decide +kernel
theorem dX12_factor_327 : decode cX12_factor 327 = .ok (.iload_n 1, 1) := by decide +kernel
theorem dX12_factor_328 : decode cX12_factor 328 = .ok (.bipush 103, 2) := by decide +kernel
theorem dX12_factor_330 : decode cX12_factor 330 = .ok (.if_icmp .ne 21, 3) := by decide +kernel
theorem dX12_factor_333 : decode cX12_factor 333 = .ok (.aload_n 0, 1) := by decide +kernel
theorem dX12_factor_334 : decode cX12_factor 334 = .ok (.getfield 7, 3) := by decide +kernel
theorem dX12_factor_337 : decode cX12_factor 337 = .ok (.bipush 20, 2) := by decide +kernel
theorem dX12_factor_339 : decode cX12_factor 339 = .ok (.aload_n 0, 1) := by decide +kernel
theorem dX12_factor_340 : decode cX12_factor 340 = .ok (.getfield 126, 3) := by decide +kernel
theorem dX12_factor_343 : decode cX12_factor 343 = .ok (.invokestatic 136, 3) := by decide +kernel
theorem dX12_factor_346 : decode cX12_factor 346 = .ok (.iadd, 1) := by decide +kernel
theorem dX12_factor_347 : decode cX12_factor 347 = .ok (.iaload, 1) := by decide +kernel
theorem dX12_factor_348 : decode cX12_factor 348 = .ok (.goto 26, 3) := by decide +kernel
theorem dX12_factor_351 : decode cX12_factor 351 = .ok (.iload_n 1, 1) := by decide +kernel
theorem dX12_factor_352 : decode cX12_factor 352 = .ok (.bipush 109, 2) := by decide +kernel
theorem dX12_factor_354 : decode cX12_factor 354 = .ok (.if_icmp .ne 13, 3) := by decide +kernel
theorem dX12_factor_357 : decode cX12_factor 357 = .ok (.aload_n 0, 1) := by decide +kernel
theorem dX12_factor_358 : decode cX12_factor 358 = .ok (.getfield 126, 3) := by decide +kernel
theorem dX12_factor_361 : decode cX12_factor 361 = .ok (.invokestatic 139, 3) := by decide +kernel
theorem dX12_factor_364 : decode cX12_factor 364 = .ok (.goto 10, 3) := by decide +kernel
theorem dX12_factor_367 : decode cX12_factor 367 = .ok (.aload_n 0, 1) := by decide +kernel
theorem dX12_factor_368 : decode cX12_factor 368 = .ok (.getfield 126, 3) := by decide +kernel
theorem dX12_factor_371 : decode cX12_factor 371 = .ok (.invokestatic 136, 3) := by decide +kernel
theorem dX12_factor_374 : decode cX12_factor 374 = .ok (.istore_n 3, 1) := by decide +kernel
theorem dX12_factor_375 : decode cX12_factor 375 = .ok (.iload_n 3, 1) := by decide +kernel
theorem dX12_factor_376 : decode cX12_factor 376 = .ok (.iload_n 2, 1) := by decide +kernel
theorem dX12_factor_377 : decode cX12_factor 377 = .ok (.if_icmp .ne 7, 3) := by decide +kernel
theorem dX12_factor_380 : decode cX12_factor 380 = .ok (.iconst 1, 1) := by decide +kernel
theorem dX12_factor_381 : decode cX12_factor 381 = .ok (.goto 4, 3) := by decide +kernel
theorem dX12_factor_384 : decode cX12_factor 384 = .ok (.iconst 0, 1) := by decide +kernel
theorem dX12_factor_385 : decode cX12_factor 385 = .ok (.ireturn, 1) := by decide +kernel
theorem dX12_every_0 : decode cX12_every 0 = .ok (.aload_n 0, 1) := by decide +kernel
theorem dX12_every_1 : decode cX12_every 1 = .ok (.invokevirtual 112, 3) := by decide +kernel
theorem dX12_every_4 : decode cX12_every 4 = .ok (.istore_n 1, 1) := by decide +kernel
theorem dX12_every_5 : decode cX12_every 5 = .ok (.aload_n 0, 1) := by decide +kernel
theorem dX12_every_6 : decode cX12_every 6 = .ok (.getfield 101, 3) := by decide +kernel
theorem dX12_every_9 : decode cX12_every 9 = .ok (.ifCond .ne 44, 3) := by decide +kernel
theorem dX12_every_12 : decode cX12_every 12 = .ok (.aload_n 0, 1) := by decide +kernel
theorem dX12_every_13 : decode cX12_every 13 = .ok (.invokevirtual 105, 3) := by decide +kernel
theorem dX12_every_16 : decode cX12_every 16 = .ok (.bipush 38, 2) := by decide +kernel
theorem dX12_every_18 : decode cX12_every 18 = .ok (.if_icmp .ne 35, 3) := by decide +kernel
theorem dX12_every_21 : decode cX12_every 21 = .ok (.aload_n 0, 1) := by decide +kernel
theorem dX12_every_22 : decode cX12_every 22 = .ok (.dup, 1) := by decide +kernel
theorem dX12_every_23 : decode cX12_every 23 = .ok (.getfield 95, 3) := by decide +kernel
theorem dX12_every_26 : decode cX12_every 26 = .ok (.iconst 1, 1) := by decide +kernel
theorem dX12_every_27 : decode cX12_every 27 = .ok (.iadd, 1) := by decide +kernel
theorem dX12_every_28 : decode cX12_every 28 = .ok (.putfield 95, 3) := by decide +kernel
theorem dX12_every_31 : decode cX12_every 31 = .ok (.aload_n 0, 1) := by decide +kernel
theorem dX12_every_32 : decode cX12_every 32 = .ok (.invokevirtual 112, 3) := by decide +kernel
theorem dX12_every_35 : decode cX12_every 35 = .ok (.istore_n 2, 1) := by decide +kernel
theorem dX12_every_36 : decode cX12_every 36 = .ok (.iload_n 1, 1) := by decide +kernel
theorem dX12_every_37 : decode cX12_every 37 = .ok (.ifCond .eq 11, 3) := by decide +kernel
theorem dX12_every_40 : decode cX12_every 40 = .ok (.iload_n 2, 1) := by decide +kernel
theorem dX12_every_41 : decode cX12_every 41 = .ok (.ifCond .eq 7, 3) := by decide +kernel
theorem dX12_every_44 : decode cX12_every 44 = .ok (.iconst 1, 1) := by decide +kernel
theorem dX12_every_45 : decode cX12_every 45 = .ok (.goto 4, 3) := by decide +kernel
theorem dX12_every_48 : decode cX12_every 48 = .ok (.iconst 0, 1) := by decide +kernel
theorem dX12_every_49 : decode cX12_every 49 = .ok (.istore_n 1, 1) := by decide +kernel
theorem dX12_every_50 : decode cX12_every 50 = .ok (.goto (-45), 3) := by decide +kernel
theorem dX12_every_53 : decode cX12_every 53 = .ok (.iload_n 1, 1) := by decide +kernel
theorem dX12_every_54 : decode cX12_every 54 = .ok (.ireturn, 1) := by decide +kernel
theorem dX12_some_0 : decode cX12_some 0 = .ok (.aload_n 0, 1) := by decide +kernel
theorem dX12_some_1 : decode cX12_some 1 = .ok (.invokevirtual 142, 3) := by decide +kernel
theorem dX12_some_4 : decode cX12_some 4 = .ok (.istore_n 1, 1) := by decide +kernel
theorem dX12_some_5 : decode cX12_some 5 = .ok (.aload_n 0, 1) := by decide +kernel
theorem dX12_some_6 : decode cX12_some 6 = .ok (.getfield 101, 3) := by decide +kernel
theorem dX12_some_9 : decode cX12_some 9 = .ok (.ifCond .ne 44, 3) := by decide +kernel
theorem dX12_some_12 : decode cX12_some 12 = .ok (.aload_n 0, 1) := by decide +kernel
theorem dX12_some_13 : decode cX12_some 13 = .ok (.invokevirtual 105, 3) := by decide +kernel
theorem dX12_some_16 : decode cX12_some 16 = .ok (.bipush 124, 2) := by decide +kernel
theorem dX12_some_18 : decode cX12_some 18 = .ok (.if_icmp .ne 35, 3) := by decide +kernel
theorem dX12_some_21 : decode cX12_some 21 = .ok (.aload_n 0, 1) := by decide +kernel
theorem dX12_some_22 : decode cX12_some 22 = .ok (.dup, 1) := by decide +kernel
theorem dX12_some_23 : decode cX12_some 23 = .ok (.getfield 95, 3) := by decide +kernel
theorem dX12_some_26 : decode cX12_some 26 = .ok (.iconst 1, 1) := by decide +kernel
theorem dX12_some_27 : decode cX12_some 27 = .ok (.iadd, 1) := by decide +kernel
theorem dX12_some_28 : decode cX12_some 28 = .ok (.putfield 95, 3) := by decide +kernel
theorem dX12_some_31 : decode cX12_some 31 = .ok (.aload_n 0, 1) := by decide +kernel
theorem dX12_some_32 : decode cX12_some 32 = .ok (.invokevirtual 142, 3) := by decide +kernel
theorem dX12_some_35 : decode cX12_some 35 = .ok (.istore_n 2, 1) := by decide +kernel
theorem dX12_some_36 : decode cX12_some 36 = .ok (.iload_n 1, 1) := by decide +kernel
theorem dX12_some_37 : decode cX12_some 37 = .ok (.ifCond .ne 7, 3) := by decide +kernel
theorem dX12_some_40 : decode cX12_some 40 = .ok (.iload_n 2, 1) := by decide +kernel
theorem dX12_some_41 : decode cX12_some 41 = .ok (.ifCond .eq 7, 3) := by decide +kernel
theorem dX12_some_44 : decode cX12_some 44 = .ok (.iconst 1, 1) := by decide +kernel
theorem dX12_some_45 : decode cX12_some 45 = .ok (.goto 4, 3) := by decide +kernel
theorem dX12_some_48 : decode cX12_some 48 = .ok (.iconst 0, 1) := by decide +kernel
theorem dX12_some_49 : decode cX12_some 49 = .ok (.istore_n 1, 1) := by decide +kernel
theorem dX12_some_50 : decode cX12_some 50 = .ok (.goto (-45), 3) := by decide +kernel
theorem dX12_some_53 : decode cX12_some 53 = .ok (.iload_n 1, 1) := by decide +kernel
theorem dX12_some_54 : decode cX12_some 54 = .ok (.ireturn, 1) := by decide +kernel
theorem dX12_clause_0 : decode cX12_clause 0 = .ok (.bipush 8, 2) := by decide +kernel
theorem dX12_clause_2 : decode cX12_clause 2 = .ok (.iload_n 1, 1) := by decide +kernel
theorem dX12_clause_3 : decode cX12_clause 3 = .ok (.imul, 1) := by decide +kernel
theorem dX12_clause_4 : decode cX12_clause 4 = .ok (.aload_n 0, 1) := by decide +kernel
theorem dX12_clause_5 : decode cX12_clause 5 = .ok (.getfield 7, 3) := by decide +kernel
theorem dX12_clause_8 : decode cX12_clause 8 = .ok (.sipush 4470, 3) := by decide +kernel
theorem dX12_clause_11 : decode cX12_clause 11 = .ok (.iload_n 1, 1) := by decide +kernel
theorem dX12_clause_12 : decode cX12_clause 12 = .ok (.iadd, 1) := by decide +kernel
theorem dX12_clause_13 : decode cX12_clause 13 = .ok (.iaload, 1) := by decide +kernel
theorem dX12_clause_14 : decode cX12_clause 14 = .ok (.iadd, 1) := by decide +kernel
theorem dX12_clause_15 : decode cX12_clause 15 = .ok (.istore_n 2, 1) := by decide +kernel
theorem dX12_clause_16 : decode cX12_clause 16 = .ok (.aload_n 0, 1) := by decide +kernel
theorem dX12_clause_17 : decode cX12_clause 17 = .ok (.invokevirtual 105, 3) := by decide +kernel
theorem dX12_clause_20 : decode cX12_clause 20 = .ok (.bipush 108, 2) := by decide +kernel
theorem dX12_clause_22 : decode cX12_clause 22 = .ok (.if_icmp .ne 7, 3) := by decide +kernel
theorem dX12_clause_25 : decode cX12_clause 25 = .ok (.iconst 1, 1) := by decide +kernel
theorem dX12_clause_26 : decode cX12_clause 26 = .ok (.goto 4, 3) := by decide +kernel
theorem dX12_clause_29 : decode cX12_clause 29 = .ok (.iconst 0, 1) := by decide +kernel
theorem dX12_clause_30 : decode cX12_clause 30 = .ok (.istore_n 3, 1) := by decide +kernel
theorem dX12_clause_31 : decode cX12_clause 31 = .ok (.iload_n 3, 1) := by decide +kernel
theorem dX12_clause_32 : decode cX12_clause 32 = .ok (.ifCond .eq 24, 3) := by decide +kernel
theorem dX12_clause_35 : decode cX12_clause 35 = .ok (.aload_n 0, 1) := by decide +kernel
theorem dX12_clause_36 : decode cX12_clause 36 = .ok (.bipush 108, 2) := by decide +kernel
theorem dX12_clause_38 : decode cX12_clause 38 = .ok (.invokevirtual 119, 3) := by decide +kernel
theorem dX12_clause_41 : decode cX12_clause 41 = .ok (.aload_n 0, 1) := by decide +kernel
theorem dX12_clause_42 : decode cX12_clause 42 = .ok (.bipush 101, 2) := by decide +kernel
theorem dX12_clause_44 : decode cX12_clause 44 = .ok (.invokevirtual 119, 3) := by decide +kernel
theorem dX12_clause_47 : decode cX12_clause 47 = .ok (.aload_n 0, 1) := by decide +kernel
theorem dX12_clause_48 : decode cX12_clause 48 = .ok (.bipush 116, 2) := by decide +kernel
theorem dX12_clause_50 : decode cX12_clause 50 = .ok (.invokevirtual 119, 3) := by decide +kernel
theorem dX12_clause_53 : decode cX12_clause 53 = .ok (.goto 21, 3) := by decide +kernel
theorem dX12_clause_56 : decode cX12_clause 56 = .ok (.aload_n 0, 1) := by decide +kernel
theorem dX12_clause_57 : decode cX12_clause 57 = .ok (.bipush 98, 2) := by decide +kernel
theorem dX12_clause_59 : decode cX12_clause 59 = .ok (.invokevirtual 119, 3) := by decide +kernel
theorem dX12_clause_62 : decode cX12_clause 62 = .ok (.aload_n 0, 1) := by decide +kernel
theorem dX12_clause_63 : decode cX12_clause 63 = .ok (.bipush 97, 2) := by decide +kernel
theorem dX12_clause_65 : decode cX12_clause 65 = .ok (.invokevirtual 119, 3) := by decide +kernel
theorem dX12_clause_68 : decode cX12_clause 68 = .ok (.aload_n 0, 1) := by decide +kernel
theorem dX12_clause_69 : decode cX12_clause 69 = .ok (.bipush 114, 2) := by decide +kernel
theorem dX12_clause_71 : decode cX12_clause 71 = .ok (.invokevirtual 119, 3) := by decide +kernel
theorem dX12_clause_74 : decode cX12_clause 74 = .ok (.aload_n 0, 1) := by decide +kernel
theorem dX12_clause_75 : decode cX12_clause 75 = .ok (.bipush 32, 2) := by decide +kernel
theorem dX12_clause_77 : decode cX12_clause 77 = .ok (.invokevirtual 119, 3) := by decide +kernel
theorem dX12_clause_80 : decode cX12_clause 80 = .ok (.aload_n 0, 1) := by decide +kernel
theorem dX12_clause_81 : decode cX12_clause 81 = .ok (.getfield 101, 3) := by decide +kernel
theorem dX12_clause_84 : decode cX12_clause 84 = .ok (.ifCond .eq 4, 3) := by decide +kernel
theorem dX12_clause_87 : decode cX12_clause 87 = .ok (.return_, 1) := by decide +kernel
theorem dX12_clause_88 : decode cX12_clause 88 = .ok (.aload_n 0, 1) := by decide +kernel
theorem dX12_clause_89 : decode cX12_clause 89 = .ok (.getfield 7, 3) := by decide +kernel
theorem dX12_clause_92 : decode cX12_clause 92 = .ok (.sipush 4490, 3) := by decide +kernel
theorem dX12_clause_95 : decode cX12_clause 95 = .ok (.iload_n 2, 1) := by decide +kernel
theorem dX12_clause_96 : decode cX12_clause 96 = .ok (.iadd, 1) := by decide +kernel
theorem dX12_clause_97 : decode cX12_clause 97 = .ok (.iload_n 3, 1) := by decide +kernel
theorem dX12_clause_98 : decode cX12_clause 98 = .ok (.ifCond .eq 7, 3) := by decide +kernel
theorem dX12_clause_101 : decode cX12_clause 101 = .ok (.iconst 1, 1) := by decide +kernel
theorem dX12_clause_102 : decode cX12_clause 102 = .ok (.goto 4, 3) := by decide +kernel
theorem dX12_clause_105 : decode cX12_clause 105 = .ok (.iconst 0, 1) := by decide +kernel
theorem dX12_clause_106 : decode cX12_clause 106 = .ok (.iastore, 1) := by decide +kernel
theorem dX12_clause_107 : decode cX12_clause 107 = .ok (.aload_n 0, 1) := by decide +kernel
theorem dX12_clause_108 : decode cX12_clause 108 = .ok (.getfield 7, 3) := by decide +kernel
theorem dX12_clause_111 : decode cX12_clause 111 = .ok (.sipush 4620, 3) := by decide +kernel
theorem dX12_clause_114 : decode cX12_clause 114 = .ok (.iload_n 2, 1) := by decide +kernel
theorem dX12_clause_115 : decode cX12_clause 115 = .ok (.iadd, 1) := by decide +kernel
theorem dX12_clause_116 : decode cX12_clause 116 = .ok (.aload_n 0, 1) := by decide +kernel
theorem dX12_clause_117 : decode cX12_clause 117 = .ok (.getfield 95, 3) := by decide +kernel
theorem dX12_clause_120 : decode cX12_clause 120 = .ok (.iastore, 1) := by decide +kernel
theorem dX12_clause_121 : decode cX12_clause 121 = .ok (.aload_n 0, 1) := by decide +kernel
theorem dX12_clause_122 : decode cX12_clause 122 = .ok (.invokevirtual 116, 3) := by decide +kernel
theorem dX12_clause_125 : decode cX12_clause 125 = .ok (.istore 4, 2) := by decide +kernel
theorem dX12_clause_127 : decode cX12_clause 127 = .ok (.aload_n 0, 1) := by decide +kernel
theorem dX12_clause_128 : decode cX12_clause 128 = .ok (.getfield 7, 3) := by decide +kernel
theorem dX12_clause_131 : decode cX12_clause 131 = .ok (.sipush 4470, 3) := by decide +kernel
theorem dX12_clause_134 : decode cX12_clause 134 = .ok (.iload_n 1, 1) := by decide +kernel
theorem dX12_clause_135 : decode cX12_clause 135 = .ok (.iadd, 1) := by decide +kernel
theorem dX12_clause_136 : decode cX12_clause 136 = .ok (.dup2, 1) := by decide +kernel
theorem dX12_clause_137 : decode cX12_clause 137 = .ok (.iaload, 1) := by decide +kernel
theorem dX12_clause_138 : decode cX12_clause 138 = .ok (.iconst 1, 1) := by decide +kernel
theorem dX12_clause_139 : decode cX12_clause 139 = .ok (.iadd, 1) := by decide +kernel
theorem dX12_clause_140 : decode cX12_clause 140 = .ok (.iastore, 1) := by decide +kernel
theorem dX12_clause_141 : decode cX12_clause 141 = .ok (.return_, 1) := by decide +kernel
theorem dX12_readsText_0 : decode cX12_readsText 0 = .ok (.aload_n 0, 1) := by decide +kernel
theorem dX12_readsText_1 : decode cX12_readsText 1 = .ok (.getfield 7, 3) := by decide +kernel
theorem dX12_readsText_4 : decode cX12_readsText 4 = .ok (.sipush 4410, 3) := by decide +kernel
theorem dX12_readsText_7 : decode cX12_readsText 7 = .ok (.iload_n 1, 1) := by decide +kernel
theorem dX12_readsText_8 : decode cX12_readsText 8 = .ok (.iadd, 1) := by decide +kernel
theorem dX12_readsText_9 : decode cX12_readsText 9 = .ok (.iload_n 2, 1) := by decide +kernel
theorem dX12_readsText_10 : decode cX12_readsText 10 = .ok (.iastore, 1) := by decide +kernel
theorem dX12_readsText_11 : decode cX12_readsText 11 = .ok (.aload_n 0, 1) := by decide +kernel
theorem dX12_readsText_12 : decode cX12_readsText 12 = .ok (.getfield 7, 3) := by decide +kernel
theorem dX12_readsText_15 : decode cX12_readsText 15 = .ok (.sipush 4430, 3) := by decide +kernel
theorem dX12_readsText_18 : decode cX12_readsText 18 = .ok (.iload_n 1, 1) := by decide +kernel
theorem dX12_readsText_19 : decode cX12_readsText 19 = .ok (.iadd, 1) := by decide +kernel
theorem dX12_readsText_20 : decode cX12_readsText 20 = .ok (.iload_n 3, 1) := by decide +kernel
theorem dX12_readsText_21 : decode cX12_readsText 21 = .ok (.iastore, 1) := by decide +kernel
theorem dX12_readsText_22 : decode cX12_readsText 22 = .ok (.aload_n 0, 1) := by decide +kernel
theorem dX12_readsText_23 : decode cX12_readsText 23 = .ok (.getfield 7, 3) := by decide +kernel
theorem dX12_readsText_26 : decode cX12_readsText 26 = .ok (.sipush 4450, 3) := by decide +kernel
theorem dX12_readsText_29 : decode cX12_readsText 29 = .ok (.iload_n 1, 1) := by decide +kernel
theorem dX12_readsText_30 : decode cX12_readsText 30 = .ok (.iadd, 1) := by decide +kernel
theorem dX12_readsText_31 : decode cX12_readsText 31 = .ok (.aload_n 0, 1) := by decide +kernel
theorem dX12_readsText_32 : decode cX12_readsText 32 = .ok (.getfield 7, 3) := by decide +kernel
theorem dX12_readsText_35 : decode cX12_readsText 35 = .ok (.bipush 10, 2) := by decide +kernel
theorem dX12_readsText_37 : decode cX12_readsText 37 = .ok (.iaload, 1) := by decide +kernel
theorem dX12_readsText_38 : decode cX12_readsText 38 = .ok (.iastore, 1) := by decide +kernel
theorem dX12_readsText_39 : decode cX12_readsText 39 = .ok (.iconst 0, 1) := by decide +kernel
theorem dX12_readsText_40 : decode cX12_readsText 40 = .ok (.istore 4, 2) := by decide +kernel
theorem dX12_readsText_42 : decode cX12_readsText 42 = .ok (.iload 4, 2) := by decide +kernel
theorem dX12_readsText_44 : decode cX12_readsText 44 = .ok (.aload_n 0, 1) := by decide +kernel
theorem dX12_readsText_45 : decode cX12_readsText 45 = .ok (.getfield 7, 3) := by decide +kernel
theorem dX12_readsText_48 : decode cX12_readsText 48 = .ok (.bipush 10, 2) := by decide +kernel
theorem dX12_readsText_50 : decode cX12_readsText 50 = .ok (.iaload, 1) := by decide +kernel
theorem dX12_readsText_51 : decode cX12_readsText 51 = .ok (.if_icmp .ge 36, 3) := by decide +kernel
theorem dX12_readsText_54 : decode cX12_readsText 54 = .ok (.aload_n 0, 1) := by decide +kernel
theorem dX12_readsText_55 : decode cX12_readsText 55 = .ok (.getfield 7, 3) := by decide +kernel
theorem dX12_readsText_58 : decode cX12_readsText 58 = .ok (.sipush 4750, 3) := by decide +kernel
theorem dX12_readsText_61 : decode cX12_readsText 61 = .ok (.bipush 120, 2) := by decide +kernel
theorem dX12_readsText_63 : decode cX12_readsText 63 = .ok (.iload_n 1, 1) := by decide +kernel
theorem dX12_readsText_64 : decode cX12_readsText 64 = .ok (.imul, 1) := by decide +kernel
theorem dX12_readsText_65 : decode cX12_readsText 65 = .ok (.iadd, 1) := by decide +kernel
theorem dX12_readsText_66 : decode cX12_readsText 66 = .ok (.iload 4, 2) := by decide +kernel
theorem dX12_readsText_68 : decode cX12_readsText 68 = .ok (.iadd, 1) := by decide +kernel
theorem dX12_readsText_69 : decode cX12_readsText 69 = .ok (.aload_n 0, 1) := by decide +kernel
theorem dX12_readsText_70 : decode cX12_readsText 70 = .ok (.getfield 7, 3) := by decide +kernel
theorem dX12_readsText_73 : decode cX12_readsText 73 = .ok (.sipush 1190, 3) := by decide +kernel
theorem dX12_readsText_76 : decode cX12_readsText 76 = .ok (.iload 4, 2) := by decide +kernel
theorem dX12_readsText_78 : decode cX12_readsText 78 = .ok (.iadd, 1) := by decide +kernel
theorem dX12_readsText_79 : decode cX12_readsText 79 = .ok (.iaload, 1) := by decide +kernel
theorem dX12_readsText_80 : decode cX12_readsText 80 = .ok (.iastore, 1) := by decide +kernel
theorem dX12_readsText_81 : decode cX12_readsText 81 = .ok (.iinc 4 1, 3) := by decide +kernel
theorem dX12_readsText_84 : decode cX12_readsText 84 = .ok (.goto (-42), 3) := by decide +kernel
theorem dX12_readsText_87 : decode cX12_readsText 87 = .ok (.aload_n 0, 1) := by decide +kernel
theorem dX12_readsText_88 : decode cX12_readsText 88 = .ok (.getfield 7, 3) := by decide +kernel
theorem dX12_readsText_91 : decode cX12_readsText 91 = .ok (.bipush 10, 2) := by decide +kernel
theorem dX12_readsText_93 : decode cX12_readsText 93 = .ok (.iconst 0, 1) := by decide +kernel
theorem dX12_readsText_94 : decode cX12_readsText 94 = .ok (.iastore, 1) := by decide +kernel
theorem dX12_readsText_95 : decode cX12_readsText 95 = .ok (.aload_n 0, 1) := by decide +kernel
theorem dX12_readsText_96 : decode cX12_readsText 96 = .ok (.getfield 7, 3) := by decide +kernel
theorem dX12_readsText_99 : decode cX12_readsText 99 = .ok (.sipush 4470, 3) := by decide +kernel
theorem dX12_readsText_102 : decode cX12_readsText 102 = .ok (.iload_n 1, 1) := by decide +kernel
theorem dX12_readsText_103 : decode cX12_readsText 103 = .ok (.iadd, 1) := by decide +kernel
theorem dX12_readsText_104 : decode cX12_readsText 104 = .ok (.iconst 0, 1) := by decide +kernel
theorem dX12_readsText_105 : decode cX12_readsText 105 = .ok (.iastore, 1) := by decide +kernel
theorem dX12_readsText_106 : decode cX12_readsText 106 = .ok (.aload_n 0, 1) := by decide +kernel
theorem dX12_readsText_107 : decode cX12_readsText 107 = .ok (.getfield 24, 3) := by decide +kernel
theorem dX12_readsText_110 : decode cX12_readsText 110 = .ok (.iload_n 1, 1) := by decide +kernel
theorem dX12_readsText_111 : decode cX12_readsText 111 = .ok (.iconst 0, 1) := by decide +kernel
theorem dX12_readsText_112 : decode cX12_readsText 112 = .ok (.iastore, 1) := by decide +kernel
theorem dX12_readsText_113 : decode cX12_readsText 113 = .ok (.aload_n 0, 1) := by decide +kernel
theorem dX12_readsText_114 : decode cX12_readsText 114 = .ok (.iload_n 1, 1) := by decide +kernel
theorem dX12_readsText_115 : decode cX12_readsText 115 = .ok (.putfield 98, 3) := by decide +kernel
theorem dX12_readsText_118 : decode cX12_readsText 118 = .ok (.aload_n 0, 1) := by decide +kernel
theorem dX12_readsText_119 : decode cX12_readsText 119 = .ok (.iconst 0, 1) := by decide +kernel
theorem dX12_readsText_120 : decode cX12_readsText 120 = .ok (.putfield 95, 3) := by decide +kernel
theorem dX12_readsText_123 : decode cX12_readsText 123 = .ok (.aload_n 0, 1) := by decide +kernel
theorem dX12_readsText_124 : decode cX12_readsText 124 = .ok (.iconst 0, 1) := by decide +kernel
theorem dX12_readsText_125 : decode cX12_readsText 125 = .ok (.putfield 109, 3) := by decide +kernel
theorem dX12_readsText_128 : decode cX12_readsText 128 = .ok (.aload_n 0, 1) := by decide +kernel
theorem dX12_readsText_129 : decode cX12_readsText 129 = .ok (.iconst 0, 1) := by decide +kernel
theorem dX12_readsText_130 : decode cX12_readsText 130 = .ok (.putfield 101, 3) := by decide +kernel
theorem dX12_readsText_133 : decode cX12_readsText 133 = .ok (.aload_n 0, 1) := by decide +kernel
theorem dX12_readsText_134 : decode cX12_readsText 134 = .ok (.iconst 0, 1) := by decide +kernel
theorem dX12_readsText_135 : decode cX12_readsText 135 = .ok (.putfield 126, 3) := by decide +kernel
theorem dX12_readsText_138 : decode cX12_readsText 138 = .ok (.aload_n 0, 1) := by decide +kernel
theorem dX12_readsText_139 : decode cX12_readsText 139 = .ok (.iload_n 1, 1) := by decide +kernel
theorem dX12_readsText_140 : decode cX12_readsText 140 = .ok (.invokevirtual 145, 3) := by decide +kernel
theorem dX12_readsText_143 : decode cX12_readsText 143 = .ok (.aload_n 0, 1) := by decide +kernel
theorem dX12_readsText_144 : decode cX12_readsText 144 = .ok (.getfield 101, 3) := by decide +kernel
theorem dX12_readsText_147 : decode cX12_readsText 147 = .ok (.ifCond .ne 45, 3) := by decide +kernel
theorem dX12_readsText_150 : decode cX12_readsText 150 = .ok (.aload_n 0, 1) := by decide +kernel
theorem dX12_readsText_151 : decode cX12_readsText 151 = .ok (.getfield 7, 3) := by decide +kernel
theorem dX12_readsText_154 : decode cX12_readsText 154 = .ok (.sipush 4470, 3) := by decide +kernel
theorem dX12_readsText_157 : decode cX12_readsText 157 = .ok (.iload_n 1, 1) := by decide +kernel
theorem dX12_readsText_158 : decode cX12_readsText 158 = .ok (.iadd, 1) := by decide +kernel
theorem dX12_readsText_159 : decode cX12_readsText 159 = .ok (.iaload, 1) := by decide +kernel
theorem dX12_readsText_160 : decode cX12_readsText 160 = .ok (.bipush 8, 2) := by decide +kernel
theorem dX12_readsText_162 : decode cX12_readsText 162 = .ok (.if_icmp .ge 30, 3) := by decide +kernel
theorem dX12_readsText_165 : decode cX12_readsText 165 = .ok (.aload_n 0, 1) := by decide +kernel
theorem dX12_readsText_166 : decode cX12_readsText 166 = .ok (.invokevirtual 105, 3) := by decide +kernel
theorem dX12_readsText_169 : decode cX12_readsText 169 = .ok (.bipush 59, 2) := by decide +kernel
theorem dX12_readsText_171 : decode cX12_readsText 171 = .ok (.if_icmp .ne 21, 3) := by decide +kernel
theorem dX12_readsText_174 : decode cX12_readsText 174 = .ok (.aload_n 0, 1) := by decide +kernel
theorem dX12_readsText_175 : decode cX12_readsText 175 = .ok (.dup, 1) := by decide +kernel
theorem dX12_readsText_176 : decode cX12_readsText 176 = .ok (.getfield 95, 3) := by decide +kernel
theorem dX12_readsText_179 : decode cX12_readsText 179 = .ok (.iconst 1, 1) := by decide +kernel
theorem dX12_readsText_180 : decode cX12_readsText 180 = .ok (.iadd, 1) := by decide +kernel
theorem dX12_readsText_181 : decode cX12_readsText 181 = .ok (.putfield 95, 3) := by decide +kernel
theorem dX12_readsText_184 : decode cX12_readsText 184 = .ok (.aload_n 0, 1) := by decide +kernel
theorem dX12_readsText_185 : decode cX12_readsText 185 = .ok (.iload_n 1, 1) := by decide +kernel
theorem dX12_readsText_186 : decode cX12_readsText 186 = .ok (.invokevirtual 145, 3) := by decide +kernel
theorem dX12_readsText_189 : decode cX12_readsText 189 = .ok (.goto (-46), 3) := by decide +kernel
theorem dX12_readsText_192 : decode cX12_readsText 192 = .ok (.aload_n 0, 1) := by decide +kernel
theorem dX12_readsText_193 : decode cX12_readsText 193 = .ok (.aload_n 0, 1) := by decide +kernel
theorem dX12_readsText_194 : decode cX12_readsText 194 = .ok (.getfield 101, 3) := by decide +kernel
theorem dX12_readsText_197 : decode cX12_readsText 197 = .ok (.ifCond .ne 20, 3) := by decide +kernel
theorem dX12_readsText_200 : decode cX12_readsText 200 = .ok (.aload_n 0, 1) := by decide +kernel
theorem dX12_readsText_201 : decode cX12_readsText 201 = .ok (.getfield 95, 3) := by decide +kernel
theorem dX12_readsText_204 : decode cX12_readsText 204 = .ok (.aload_n 0, 1) := by decide +kernel
theorem dX12_readsText_205 : decode cX12_readsText 205 = .ok (.getfield 7, 3) := by decide +kernel
theorem dX12_readsText_208 : decode cX12_readsText 208 = .ok (.sipush 4450, 3) := by decide +kernel
theorem dX12_readsText_211 : decode cX12_readsText 211 = .ok (.iload_n 1, 1) := by decide +kernel
theorem dX12_readsText_212 : decode cX12_readsText 212 = .ok (.iadd, 1) := by decide +kernel
theorem dX12_readsText_213 : decode cX12_readsText 213 = .ok (.iaload, 1) := by decide +kernel
theorem dX12_readsText_214 : decode cX12_readsText 214 = .ok (.if_icmp .eq 7, 3) := by decide +kernel
theorem dX12_readsText_217 : decode cX12_readsText 217 = .ok (.iconst 1, 1) := by decide +kernel
theorem dX12_readsText_218 : decode cX12_readsText 218 = .ok (.goto 4, 3) := by decide +kernel
theorem dX12_readsText_221 : decode cX12_readsText 221 = .ok (.iconst 0, 1) := by decide +kernel
theorem dX12_readsText_222 : decode cX12_readsText 222 = .ok (.putfield 101, 3) := by decide +kernel
theorem dX12_readsText_225 : decode cX12_readsText 225 = .ok (.aload_n 0, 1) := by decide +kernel
theorem dX12_readsText_226 : decode cX12_readsText 226 = .ok (.getfield 101, 3) := by decide +kernel
theorem dX12_readsText_229 : decode cX12_readsText 229 = .ok (.ifCond .ne 7, 3) := by decide +kernel
theorem dX12_readsText_232 : decode cX12_readsText 232 = .ok (.iconst 1, 1) := by decide +kernel
theorem dX12_readsText_233 : decode cX12_readsText 233 = .ok (.goto 4, 3) := by decide +kernel
theorem dX12_readsText_236 : decode cX12_readsText 236 = .ok (.iconst 0, 1) := by decide +kernel
theorem dX12_readsText_237 : decode cX12_readsText 237 = .ok (.ireturn, 1) := by decide +kernel
theorem dX12_text_0 : decode cX12_text 0 = .ok (.iload_n 1, 1) := by decide +kernel
theorem dX12_text_1 : decode cX12_text 1 = .ok (.iconst 0, 1) := by decide +kernel
theorem dX12_text_2 : decode cX12_text 2 = .ok (.iconst 2, 1) := by decide +kernel
theorem dX12_text_3 : decode cX12_text 3 = .ok (.invokestatic 74, 3) := by decide +kernel
theorem dX12_text_6 : decode cX12_text 6 = .ok (.ifCond .ne 5, 3) := by decide +kernel
theorem dX12_text_9 : decode cX12_text 9 = .ok (.iconst (-1), 1) := by decide +kernel
theorem dX12_text_10 : decode cX12_text 10 = .ok (.ireturn, 1) := by decide +kernel
theorem dX12_text_11 : decode cX12_text 11 = .ok (.iload_n 2, 1) := by decide +kernel
theorem dX12_text_12 : decode cX12_text 12 = .ok (.invokestatic 148, 3) := by decide +kernel
theorem dX12_text_15 : decode cX12_text 15 = .ok (.ifCond .ne 6, 3) := by decide +kernel
theorem dX12_text_18 : decode cX12_text 18 = .ok (.bipush (-2), 2) := by decide +kernel
theorem dX12_text_20 : decode cX12_text 20 = .ok (.ireturn, 1) := by decide +kernel
theorem dX12_text_21 : decode cX12_text 21 = .ok (.aload_n 0, 1) := by decide +kernel
theorem dX12_text_22 : decode cX12_text 22 = .ok (.getfield 7, 3) := by decide +kernel
theorem dX12_text_25 : decode cX12_text 25 = .ok (.iconst 1, 1) := by decide +kernel
theorem dX12_text_26 : decode cX12_text 26 = .ok (.iaload, 1) := by decide +kernel
theorem dX12_text_27 : decode cX12_text 27 = .ok (.bipush 15, 2) := by decide +kernel
theorem dX12_text_29 : decode cX12_text 29 = .ok (.if_icmp .ne 6, 3) := by decide +kernel
theorem dX12_text_32 : decode cX12_text 32 = .ok (.bipush (-4), 2) := by decide +kernel
theorem dX12_text_34 : decode cX12_text 34 = .ok (.ireturn, 1) := by decide +kernel
theorem dX12_text_35 : decode cX12_text 35 = .ok (.aload_n 0, 1) := by decide +kernel
theorem dX12_text_36 : decode cX12_text 36 = .ok (.aload_n 0, 1) := by decide +kernel
theorem dX12_text_37 : decode cX12_text 37 = .ok (.getfield 7, 3) := by decide +kernel
theorem dX12_text_40 : decode cX12_text 40 = .ok (.iconst 1, 1) := by decide +kernel
theorem dX12_text_41 : decode cX12_text 41 = .ok (.iaload, 1) := by decide +kernel
theorem dX12_text_42 : decode cX12_text 42 = .ok (.iload_n 1, 1) := by decide +kernel
theorem dX12_text_43 : decode cX12_text 43 = .ok (.iload_n 2, 1) := by decide +kernel
theorem dX12_text_44 : decode cX12_text 44 = .ok (.invokevirtual 151, 3) := by decide +kernel
theorem dX12_text_47 : decode cX12_text 47 = .ok (.ifCond .ne 11, 3) := by decide +kernel
theorem dX12_text_50 : decode cX12_text 50 = .ok (.bipush (-10), 2) := by decide +kernel
theorem dX12_text_52 : decode cX12_text 52 = .ok (.aload_n 0, 1) := by decide +kernel
theorem dX12_text_53 : decode cX12_text 53 = .ok (.getfield 95, 3) := by decide +kernel
theorem dX12_text_56 : decode cX12_text 56 = .ok (.isub, 1) := by decide +kernel
theorem dX12_text_57 : decode cX12_text 57 = .ok (.ireturn, 1) := by decide +kernel
theorem dX12_text_58 : decode cX12_text 58 = .ok (.aload_n 0, 1) := by decide +kernel
theorem dX12_text_59 : decode cX12_text 59 = .ok (.getfield 7, 3) := by decide +kernel
theorem dX12_text_62 : decode cX12_text 62 = .ok (.iconst 1, 1) := by decide +kernel
theorem dX12_text_63 : decode cX12_text 63 = .ok (.dup2, 1) := by decide +kernel
theorem dX12_text_64 : decode cX12_text 64 = .ok (.iaload, 1) := by decide +kernel
theorem dX12_text_65 : decode cX12_text 65 = .ok (.iconst 1, 1) := by decide +kernel
theorem dX12_text_66 : decode cX12_text 66 = .ok (.iadd, 1) := by decide +kernel
theorem dX12_text_67 : decode cX12_text 67 = .ok (.iastore, 1) := by decide +kernel
