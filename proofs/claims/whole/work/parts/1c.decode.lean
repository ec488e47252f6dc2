theorem dX7_copyFrom_100 : decode cX7_copyFrom 100 = .ok (.aload_n 0, 1) := by decide +kernel
theorem dX7_copyFrom_101 : decode cX7_copyFrom 101 = .ok (.getfield 36, 3) := by decide +kernel
theorem dX7_copyFrom_104 : decode cX7_copyFrom 104 = .ok (.invokestatic 60, 3) := by decide +kernel
theorem dX7_copyFrom_107 : decode cX7_copyFrom 107 = .ok (.aload_n 0, 1) := by decide +kernel
theorem dX7_copyFrom_108 : decode cX7_copyFrom 108 = .ok (.aload_n 1, 1) := by decide +kernel
theorem dX7_copyFrom_109 : decode cX7_copyFrom 109 = .ok (.getfield 68, 3) := by decide +kernel
theorem dX7_copyFrom_112 : decode cX7_copyFrom 112 = .ok (.putfield 68, 3) := by decide +kernel
theorem dX7_copyFrom_115 : decode cX7_copyFrom 115 = .ok (.aload_n 1, 1) := by decide +kernel
theorem dX7_copyFrom_116 : decode cX7_copyFrom 116 = .ok (.getfield 39, 3) := by decide +kernel
theorem dX7_copyFrom_119 : decode cX7_copyFrom 119 = .ok (.aload_n 0, 1) := by decide +kernel
theorem dX7_copyFrom_120 : decode cX7_copyFrom 120 = .ok (.getfield 39, 3) := by decide +kernel
theorem dX7_copyFrom_123 : decode cX7_copyFrom 123 = .ok (.invokestatic 60, 3) := by decide +kernel
theorem dX7_copyFrom_126 : decode cX7_copyFrom 126 = .ok (.aload_n 1, 1) := by decide +kernel
theorem dX7_copyFrom_127 : decode cX7_copyFrom 127 = .ok (.getfield 42, 3) := by decide +kernel
theorem dX7_copyFrom_130 : decode cX7_copyFrom 130 = .ok (.aload_n 0, 1) := by decide +kernel
theorem dX7_copyFrom_131 : decode cX7_copyFrom 131 = .ok (.getfield 42, 3) := by decide +kernel
theorem dX7_copyFrom_134 : decode cX7_copyFrom 134 = .ok (.invokestatic 60, 3) := by decide +kernel
theorem dX7_copyFrom_137 : decode cX7_copyFrom 137 = .ok (.aload_n 0, 1) := by decide +kernel
theorem dX7_copyFrom_138 : decode cX7_copyFrom 138 = .ok (.aload_n 1, 1) := by decide +kernel
theorem dX7_copyFrom_139 : decode cX7_copyFrom 139 = .ok (.getfield 71, 3) := by decide +kernel
theorem dX7_copyFrom_142 : decode cX7_copyFrom 142 = .ok (.putfield 71, 3) := by decide +kernel
theorem dX7_copyFrom_145 : decode cX7_copyFrom 145 = .ok (.aload_n 1, 1) := by decide +kernel
theorem dX7_copyFrom_146 : decode cX7_copyFrom 146 = .ok (.getfield 45, 3) := by decide +kernel
theorem dX7_copyFrom_149 : decode cX7_copyFrom 149 = .ok (.aload_n 0, 1) := by decide +kernel
theorem dX7_copyFrom_150 : decode cX7_copyFrom 150 = .ok (.getfield 45, 3) := by decide +kernel
theorem dX7_copyFrom_153 : decode cX7_copyFrom 153 = .ok (.invokestatic 60, 3) := by decide +kernel
theorem dX7_copyFrom_156 : decode cX7_copyFrom 156 = .ok (.aload_n 1, 1) := by decide +kernel
theorem dX7_copyFrom_157 : decode cX7_copyFrom 157 = .ok (.getfield 48, 3) := by decide +kernel
theorem dX7_copyFrom_160 : decode cX7_copyFrom 160 = .ok (.aload_n 0, 1) := by decide +kernel
theorem dX7_copyFrom_161 : decode cX7_copyFrom 161 = .ok (.getfield 48, 3) := by decide +kernel
theorem dX7_copyFrom_164 : decode cX7_copyFrom 164 = .ok (.invokestatic 60, 3) := by decide +kernel
theorem dX7_copyFrom_167 : decode cX7_copyFrom 167 = .ok (.aload_n 0, 1) := by decide +kernel
theorem dX7_copyFrom_168 : decode cX7_copyFrom 168 = .ok (.aload_n 1, 1) := by decide +kernel
theorem dX7_copyFrom_169 : decode cX7_copyFrom 169 = .ok (.getfield 74, 3) := by decide +kernel
theorem dX7_copyFrom_172 : decode cX7_copyFrom 172 = .ok (.putfield 74, 3) := by decide +kernel
theorem dX7_copyFrom_175 : decode cX7_copyFrom 175 = .ok (.aload_n 1, 1) := by decide +kernel
theorem dX7_copyFrom_176 : decode cX7_copyFrom 176 = .ok (.getfield 51, 3) := by decide +kernel
theorem dX7_copyFrom_179 : decode cX7_copyFrom 179 = .ok (.aload_n 0, 1) := by decide +kernel
theorem dX7_copyFrom_180 : decode cX7_copyFrom 180 = .ok (.getfield 51, 3) := by decide +kernel
theorem dX7_copyFrom_183 : decode cX7_copyFrom 183 = .ok (.invokestatic 60, 3) := by decide +kernel
theorem dX7_copyFrom_186 : decode cX7_copyFrom 186 = .ok (.return_, 1) := by decide +kernel
theorem dX7_isShip_0 : decode cX7_isShip 0 = .ok (.iload_n 1, 1) := by decide +kernel
theorem dX7_isShip_1 : decode cX7_isShip 1 = .ok (.iconst 0, 1) := by decide +kernel
theorem dX7_isShip_2 : decode cX7_isShip 2 = .ok (.aload_n 0, 1) := by decide +kernel
theorem dX7_isShip_3 : decode cX7_isShip 3 = .ok (.getfield 64, 3) := by decide +kernel
theorem dX7_isShip_6 : decode cX7_isShip 6 = .ok (.iconst 1, 1) := by decide +kernel
theorem dX7_isShip_7 : decode cX7_isShip 7 = .ok (.isub, 1) := by decide +kernel
theorem dX7_isShip_8 : decode cX7_isShip 8 = .ok (.invokestatic 77, 3) := by decide +kernel
theorem dX7_isShip_11 : decode cX7_isShip 11 = .ok (.ireturn, 1) := by decide +kernel
theorem dX7_hasShipAt_0 : decode cX7_hasShipAt 0 = .ok (.iconst 0, 1) := by decide +kernel
theorem dX7_hasShipAt_1 : decode cX7_hasShipAt 1 = .ok (.istore_n 2, 1) := by decide +kernel
theorem dX7_hasShipAt_2 : decode cX7_hasShipAt 2 = .ok (.iload_n 2, 1) := by decide +kernel
theorem dX7_hasShipAt_3 : decode cX7_hasShipAt 3 = .ok (.aload_n 0, 1) := by decide +kernel
theorem dX7_hasShipAt_4 : decode cX7_hasShipAt 4 = .ok (.getfield 64, 3) := by decide +kernel
theorem dX7_hasShipAt_7 : decode cX7_hasShipAt 7 = .ok (.if_icmp .ge 21, 3) := by decide +kernel
theorem dX7_hasShipAt_10 : decode cX7_hasShipAt 10 = .ok (.aload_n 0, 1) := by decide +kernel
theorem dX7_hasShipAt_11 : decode cX7_hasShipAt 11 = .ok (.getfield 18, 3) := by decide +kernel
theorem dX7_hasShipAt_14 : decode cX7_hasShipAt 14 = .ok (.iload_n 2, 1) := by decide +kernel
theorem dX7_hasShipAt_15 : decode cX7_hasShipAt 15 = .ok (.iaload, 1) := by decide +kernel
theorem dX7_hasShipAt_16 : decode cX7_hasShipAt 16 = .ok (.iload_n 1, 1) := by decide +kernel
theorem dX7_hasShipAt_17 : decode cX7_hasShipAt 17 = .ok (.if_icmp .ne 5, 3) := by decide +kernel
theorem dX7_hasShipAt_20 : decode cX7_hasShipAt 20 = .ok (.iconst 1, 1) := by decide +kernel
theorem dX7_hasShipAt_21 : decode cX7_hasShipAt 21 = .ok (.ireturn, 1) := by decide +kernel
theorem dX7_hasShipAt_22 : decode cX7_hasShipAt 22 = .ok (.iinc 2 1, 3) := by decide +kernel
theorem dX7_hasShipAt_25 : decode cX7_hasShipAt 25 = .ok (.goto (-23), 3) := by decide +kernel
theorem dX7_hasShipAt_28 : decode cX7_hasShipAt 28 = .ok (.iconst 0, 1) := by decide +kernel
theorem dX7_hasShipAt_29 : decode cX7_hasShipAt 29 = .ok (.ireturn, 1) := by decide +kernel
theorem dX7_addShip_0 : decode cX7_addShip 0 = .ok (.aload_n 0, 1) := by decide +kernel
theorem dX7_addShip_1 : decode cX7_addShip 1 = .ok (.getfield 9, 3) := by decide +kernel
theorem dX7_addShip_4 : decode cX7_addShip 4 = .ok (.aload_n 0, 1) := by decide +kernel
theorem dX7_addShip_5 : decode cX7_addShip 5 = .ok (.getfield 64, 3) := by decide +kernel
theorem dX7_addShip_8 : decode cX7_addShip 8 = .ok (.iload_n 1, 1) := by decide +kernel
theorem dX7_addShip_9 : decode cX7_addShip 9 = .ok (.iastore, 1) := by decide +kernel
theorem dX7_addShip_10 : decode cX7_addShip 10 = .ok (.aload_n 0, 1) := by decide +kernel
theorem dX7_addShip_11 : decode cX7_addShip 11 = .ok (.getfield 15, 3) := by decide +kernel
theorem dX7_addShip_14 : decode cX7_addShip 14 = .ok (.aload_n 0, 1) := by decide +kernel
theorem dX7_addShip_15 : decode cX7_addShip 15 = .ok (.getfield 64, 3) := by decide +kernel
theorem dX7_addShip_18 : decode cX7_addShip 18 = .ok (.iload_n 2, 1) := by decide +kernel
theorem dX7_addShip_19 : decode cX7_addShip 19 = .ok (.iastore, 1) := by decide +kernel
theorem dX7_addShip_20 : decode cX7_addShip 20 = .ok (.aload_n 0, 1) := by decide +kernel
theorem dX7_addShip_21 : decode cX7_addShip 21 = .ok (.getfield 18, 3) := by decide +kernel
theorem dX7_addShip_24 : decode cX7_addShip 24 = .ok (.aload_n 0, 1) := by decide +kernel
theorem dX7_addShip_25 : decode cX7_addShip 25 = .ok (.getfield 64, 3) := by decide +kernel
theorem dX7_addShip_28 : decode cX7_addShip 28 = .ok (.bipush (-2), 2) := by decide +kernel
theorem dX7_addShip_30 : decode cX7_addShip 30 = .ok (.iastore, 1) := by decide +kernel
theorem dX7_addShip_31 : decode cX7_addShip 31 = .ok (.aload_n 0, 1) := by decide +kernel
theorem dX7_addShip_32 : decode cX7_addShip 32 = .ok (.dup, 1) := by decide +kernel
theorem dX7_addShip_33 : decode cX7_addShip 33 = .ok (.getfield 64, 3) := by decide +kernel
theorem dX7_addShip_36 : decode cX7_addShip 36 = .ok (.iconst 1, 1) := by decide +kernel
theorem dX7_addShip_37 : decode cX7_addShip 37 = .ok (.iadd, 1) := by decide +kernel
theorem dX7_addShip_38 : decode cX7_addShip 38 = .ok (.putfield 64, 3) := by decide +kernel
theorem dX7_addShip_41 : decode cX7_addShip 41 = .ok (.aload_n 0, 1) := by decide +kernel
theorem dX7_addShip_42 : decode cX7_addShip 42 = .ok (.getfield 64, 3) := by decide +kernel
theorem dX7_addShip_45 : decode cX7_addShip 45 = .ok (.iconst 1, 1) := by decide +kernel
theorem dX7_addShip_46 : decode cX7_addShip 46 = .ok (.isub, 1) := by decide +kernel
theorem dX7_addShip_47 : decode cX7_addShip 47 = .ok (.ireturn, 1) := by decide +kernel
theorem dX7_land_0 : decode cX7_land 0 = .ok (.aload_n 0, 1) := by decide +kernel
theorem dX7_land_1 : decode cX7_land 1 = .ok (.getfield 9, 3) := by decide +kernel
theorem dX7_land_4 : decode cX7_land 4 = .ok (.iload_n 1, 1) := by decide +kernel
theorem dX7_land_5 : decode cX7_land 5 = .ok (.iaload, 1) := by decide +kernel
theorem dX7_land_6 : decode cX7_land 6 = .ok (.istore_n 3, 1) := by decide +kernel
theorem dX7_land_7 : decode cX7_land 7 = .ok (.aload_n 0, 1) := by decide +kernel
theorem dX7_land_8 : decode cX7_land 8 = .ok (.getfield 15, 3) := by decide +kernel
theorem dX7_land_11 : decode cX7_land 11 = .ok (.iload_n 1, 1) := by decide +kernel
theorem dX7_land_12 : decode cX7_land 12 = .ok (.dup2, 1) := by decide +kernel
theorem dX7_land_13 : decode cX7_land 13 = .ok (.iaload, 1) := by decide +kernel
theorem dX7_land_14 : decode cX7_land 14 = .ok (.iload_n 2, 1) := by decide +kernel
theorem dX7_land_15 : decode cX7_land 15 = .ok (.isub, 1) := by decide +kernel
theorem dX7_land_16 : decode cX7_land 16 = .ok (.iastore, 1) := by decide +kernel
theorem dX7_land_17 : decode cX7_land 17 = .ok (.aload_n 0, 1) := by decide +kernel
theorem dX7_land_18 : decode cX7_land 18 = .ok (.getfield 21, 3) := by decide +kernel
theorem dX7_land_21 : decode cX7_land 21 = .ok (.iload_n 3, 1) := by decide +kernel
theorem dX7_land_22 : decode cX7_land 22 = .ok (.dup2, 1) := by decide +kernel
theorem dX7_land_23 : decode cX7_land 23 = .ok (.iaload, 1) := by decide +kernel
theorem dX7_land_24 : decode cX7_land 24 = .ok (.iload_n 2, 1) := by decide +kernel
theorem dX7_land_25 : decode cX7_land 25 = .ok (.iadd, 1) := by decide +kernel
theorem dX7_land_26 : decode cX7_land 26 = .ok (.iastore, 1) := by decide +kernel
theorem dX7_land_27 : decode cX7_land 27 = .ok (.aload_n 0, 1) := by decide +kernel
theorem dX7_land_28 : decode cX7_land 28 = .ok (.getfield 21, 3) := by decide +kernel
theorem dX7_land_31 : decode cX7_land 31 = .ok (.iload_n 3, 1) := by decide +kernel
theorem dX7_land_32 : decode cX7_land 32 = .ok (.iaload, 1) := by decide +kernel
theorem dX7_land_33 : decode cX7_land 33 = .ok (.ireturn, 1) := by decide +kernel
theorem dX7_release_0 : decode cX7_release 0 = .ok (.aload_n 0, 1) := by decide +kernel
theorem dX7_release_1 : decode cX7_release 1 = .ok (.getfield 21, 3) := by decide +kernel
theorem dX7_release_4 : decode cX7_release 4 = .ok (.iload_n 1, 1) := by decide +kernel
theorem dX7_release_5 : decode cX7_release 5 = .ok (.dup2, 1) := by decide +kernel
theorem dX7_release_6 : decode cX7_release 6 = .ok (.iaload, 1) := by decide +kernel
theorem dX7_release_7 : decode cX7_release 7 = .ok (.iload_n 2, 1) := by decide +kernel
theorem dX7_release_8 : decode cX7_release 8 = .ok (.isub, 1) := by decide +kernel
theorem dX7_release_9 : decode cX7_release 9 = .ok (.iastore, 1) := by decide +kernel
theorem dX7_release_10 : decode cX7_release 10 = .ok (.iload_n 3, 1) := by decide +kernel
theorem dX7_release_11 : decode cX7_release 11 = .ok (.ifCond .eq 16, 3) := by decide +kernel
theorem dX7_release_14 : decode cX7_release 14 = .ok (.aload_n 0, 1) := by decide +kernel
theorem dX7_release_15 : decode cX7_release 15 = .ok (.getfield 27, 3) := by decide +kernel
theorem dX7_release_18 : decode cX7_release 18 = .ok (.iload_n 1, 1) := by decide +kernel
theorem dX7_release_19 : decode cX7_release 19 = .ok (.dup2, 1) := by decide +kernel
theorem dX7_release_20 : decode cX7_release 20 = .ok (.iaload, 1) := by decide +kernel
theorem dX7_release_21 : decode cX7_release 21 = .ok (.iload_n 2, 1) := by decide +kernel
theorem dX7_release_22 : decode cX7_release 22 = .ok (.iadd, 1) := by decide +kernel
theorem dX7_release_23 : decode cX7_release 23 = .ok (.iastore, 1) := by decide +kernel
theorem dX7_release_24 : decode cX7_release 24 = .ok (.goto 30, 3) := by decide +kernel
theorem dX7_release_27 : decode cX7_release 27 = .ok (.aload_n 0, 1) := by decide +kernel
theorem dX7_release_28 : decode cX7_release 28 = .ok (.getfield 24, 3) := by decide +kernel
theorem dX7_release_31 : decode cX7_release 31 = .ok (.iload_n 1, 1) := by decide +kernel
theorem dX7_release_32 : decode cX7_release 32 = .ok (.dup2, 1) := by decide +kernel
theorem dX7_release_33 : decode cX7_release 33 = .ok (.iaload, 1) := by decide +kernel
theorem dX7_release_34 : decode cX7_release 34 = .ok (.iload_n 2, 1) := by decide +kernel
theorem dX7_release_35 : decode cX7_release 35 = .ok (.iadd, 1) := by decide +kernel
theorem dX7_release_36 : decode cX7_release 36 = .ok (.iastore, 1) := by decide +kernel
theorem dX7_release_37 : decode cX7_release 37 = .ok (.aload_n 0, 1) := by decide +kernel
theorem dX7_release_38 : decode cX7_release 38 = .ok (.dup, 1) := by decide +kernel
theorem dX7_release_39 : decode cX7_release 39 = .ok (.getfield 68, 3) := by decide +kernel
theorem dX7_release_42 : decode cX7_release 42 = .ok (.iload_n 2, 1) := by decide +kernel
theorem dX7_release_43 : decode cX7_release 43 = .ok (.aload_n 0, 1) := by decide +kernel
theorem dX7_release_44 : decode cX7_release 44 = .ok (.getfield 30, 3) := by decide +kernel
theorem dX7_release_47 : decode cX7_release 47 = .ok (.iload_n 1, 1) := by decide +kernel
theorem dX7_release_48 : decode cX7_release 48 = .ok (.iaload, 1) := by decide +kernel
theorem dX7_release_49 : decode cX7_release 49 = .ok (.imul, 1) := by decide +kernel
theorem dX7_release_50 : decode cX7_release 50 = .ok (.iadd, 1) := by decide +kernel
theorem dX7_release_51 : decode cX7_release 51 = .ok (.putfield 68, 3) := by decide +kernel
theorem dX7_release_54 : decode cX7_release 54 = .ok (.return_, 1) := by decide +kernel
theorem dX7_shareOut_0 : decode cX7_shareOut 0 = .ok (.aload_n 0, 1) := by decide +kernel
theorem dX7_shareOut_1 : decode cX7_shareOut 1 = .ok (.getfield 68, 3) := by decide +kernel
theorem dX7_shareOut_4 : decode cX7_shareOut 4 = .ok (.istore_n 1, 1) := by decide +kernel
theorem dX7_shareOut_5 : decode cX7_shareOut 5 = .ok (.iload_n 1, 1) := by decide +kernel
theorem dX7_shareOut_6 : decode cX7_shareOut 6 = .ok (.istore_n 2, 1) := by decide +kernel
theorem dX7_shareOut_7 : decode cX7_shareOut 7 = .ok (.iconst 0, 1) := by decide +kernel
theorem dX7_shareOut_8 : decode cX7_shareOut 8 = .ok (.istore_n 3, 1) := by decide +kernel
theorem dX7_shareOut_9 : decode cX7_shareOut 9 = .ok (.iload_n 3, 1) := by decide +kernel
theorem dX7_shareOut_10 : decode cX7_shareOut 10 = .ok (.iconst 3, 1) := by decide +kernel
theorem dX7_shareOut_11 : decode cX7_shareOut 11 = .ok (.if_icmp .ge 17, 3) := by decide +kernel
theorem dX7_shareOut_14 : decode cX7_shareOut 14 = .ok (.iload_n 2, 1) := by decide +kernel
theorem dX7_shareOut_15 : decode cX7_shareOut 15 = .ok (.aload_n 0, 1) := by decide +kernel
theorem dX7_shareOut_16 : decode cX7_shareOut 16 = .ok (.iload_n 3, 1) := by decide +kernel
theorem dX7_shareOut_17 : decode cX7_shareOut 17 = .ok (.invokevirtual 81, 3) := by decide +kernel
theorem dX7_shareOut_20 : decode cX7_shareOut 20 = .ok (.isub, 1) := by decide +kernel
theorem dX7_shareOut_21 : decode cX7_shareOut 21 = .ok (.istore_n 2, 1) := by decide +kernel
theorem dX7_shareOut_22 : decode cX7_shareOut 22 = .ok (.iinc 3 1, 3) := by decide +kernel
theorem dX7_shareOut_25 : decode cX7_shareOut 25 = .ok (.goto (-16), 3) := by decide +kernel
theorem dX7_shareOut_28 : decode cX7_shareOut 28 = .ok (.iconst 0, 1) := by decide +kernel
theorem dX7_shareOut_29 : decode cX7_shareOut 29 = .ok (.istore_n 3, 1) := by decide +kernel
theorem dX7_shareOut_30 : decode cX7_shareOut 30 = .ok (.iload_n 3, 1) := by decide +kernel
theorem dX7_shareOut_31 : decode cX7_shareOut 31 = .ok (.iconst 3, 1) := by decide +kernel
theorem dX7_shareOut_32 : decode cX7_shareOut 32 = .ok (.if_icmp .ge 41, 3) := by decide +kernel
theorem dX7_shareOut_35 : decode cX7_shareOut 35 = .ok (.aload_n 0, 1) := by decide +kernel
theorem dX7_shareOut_36 : decode cX7_shareOut 36 = .ok (.getfield 36, 3) := by decide +kernel
theorem dX7_shareOut_39 : decode cX7_shareOut 39 = .ok (.iload_n 3, 1) := by decide +kernel
theorem dX7_shareOut_40 : decode cX7_shareOut 40 = .ok (.dup2, 1) := by decide +kernel
theorem dX7_shareOut_41 : decode cX7_shareOut 41 = .ok (.iaload, 1) := by decide +kernel
theorem dX7_shareOut_42 : decode cX7_shareOut 42 = .ok (.aload_n 0, 1) := by decide +kernel
theorem dX7_shareOut_43 : decode cX7_shareOut 43 = .ok (.iload_n 3, 1) := by decide +kernel
theorem dX7_shareOut_44 : decode cX7_shareOut 44 = .ok (.invokevirtual 81, 3) := by decide +kernel
theorem dX7_shareOut_47 : decode cX7_shareOut 47 = .ok (.aload_n 0, 1) := by decide +kernel
theorem dX7_shareOut_48 : decode cX7_shareOut 48 = .ok (.iload_n 3, 1) := by decide +kernel
theorem dX7_shareOut_49 : decode cX7_shareOut 49 = .ok (.invokevirtual 85, 3) := by decide +kernel
theorem dX7_shareOut_52 : decode cX7_shareOut 52 = .ok (.iload_n 2, 1) := by decide +kernel
theorem dX7_shareOut_53 : decode cX7_shareOut 53 = .ok (.if_icmp .ge 7, 3) := by decide +kernel
theorem dX7_shareOut_56 : decode cX7_shareOut 56 = .ok (.iconst 1, 1) := by decide +kernel
theorem dX7_shareOut_57 : decode cX7_shareOut 57 = .ok (.goto 4, 3) := by decide +kernel
theorem dX7_shareOut_60 : decode cX7_shareOut 60 = .ok (.iconst 0, 1) := by decide +kernel
theorem dX7_shareOut_61 : decode cX7_shareOut 61 = .ok (.invokestatic 88, 3) := by decide +kernel
theorem dX7_shareOut_64 : decode cX7_shareOut 64 = .ok (.iadd, 1) := by decide +kernel
theorem dX7_shareOut_65 : decode cX7_shareOut 65 = .ok (.iadd, 1) := by decide +kernel
theorem dX7_shareOut_66 : decode cX7_shareOut 66 = .ok (.iastore, 1) := by decide +kernel
theorem dX7_shareOut_67 : decode cX7_shareOut 67 = .ok (.iinc 3 1, 3) := by decide +kernel
theorem dX7_shareOut_70 : decode cX7_shareOut 70 = .ok (.goto (-40), 3) := by decide +kernel
theorem dX7_shareOut_73 : decode cX7_shareOut 73 = .ok (.aload_n 0, 1) := by decide +kernel
theorem dX7_shareOut_74 : decode cX7_shareOut 74 = .ok (.iconst 0, 1) := by decide +kernel
theorem dX7_shareOut_75 : decode cX7_shareOut 75 = .ok (.putfield 68, 3) := by decide +kernel
theorem dX7_shareOut_78 : decode cX7_shareOut 78 = .ok (.iload_n 1, 1) := by decide +kernel
theorem dX7_shareOut_79 : decode cX7_shareOut 79 = .ok (.ireturn, 1) := by decide +kernel
theorem dX7_allParts_0 : decode cX7_allParts 0 = .ok (.iconst 0, 1) := by decide +kernel
theorem dX7_allParts_1 : decode cX7_allParts 1 = .ok (.istore_n 1, 1) := by decide +kernel
theorem dX7_allParts_2 : decode cX7_allParts 2 = .ok (.iconst 0, 1) := by decide +kernel
theorem dX7_allParts_3 : decode cX7_allParts 3 = .ok (.istore_n 2, 1) := by decide +kernel
theorem dX7_allParts_4 : decode cX7_allParts 4 = .ok (.iload_n 2, 1) := by decide +kernel
theorem dX7_allParts_5 : decode cX7_allParts 5 = .ok (.iconst 3, 1) := by decide +kernel
theorem dX7_allParts_6 : decode cX7_allParts 6 = .ok (.if_icmp .ge 18, 3) := by decide +kernel
theorem dX7_allParts_9 : decode cX7_allParts 9 = .ok (.iload_n 1, 1) := by decide +kernel
theorem dX7_allParts_10 : decode cX7_allParts 10 = .ok (.aload_n 0, 1) := by decide +kernel
theorem dX7_allParts_11 : decode cX7_allParts 11 = .ok (.getfield 33, 3) := by decide +kernel
theorem dX7_allParts_14 : decode cX7_allParts 14 = .ok (.iload_n 2, 1) := by decide +kernel
theorem dX7_allParts_15 : decode cX7_allParts 15 = .ok (.iaload, 1) := by decide +kernel
theorem dX7_allParts_16 : decode cX7_allParts 16 = .ok (.iadd, 1) := by decide +kernel
theorem dX7_allParts_17 : decode cX7_allParts 17 = .ok (.istore_n 1, 1) := by decide +kernel
theorem dX7_allParts_18 : decode cX7_allParts 18 = .ok (.iinc 2 1, 3) := by decide +kernel
theorem dX7_allParts_21 : decode cX7_allParts 21 = .ok (.goto (-17), 3) := by decide +kernel
theorem dX7_allParts_24 : decode cX7_allParts 24 = .ok (.iload_n 1, 1) := by decide +kernel
theorem dX7_allParts_25 : decode cX7_allParts 25 = .ok (.ireturn, 1) := by decide +kernel
theorem dX7_cut_0 : decode cX7_cut 0 = .ok (.aload_n 0, 1) := by decide +kernel
theorem dX7_cut_1 : decode cX7_cut 1 = .ok (.invokevirtual 92, 3) := by decide +kernel
theorem dX7_cut_4 : decode cX7_cut 4 = .ok (.istore_n 2, 1) := by decide +kernel
theorem dX7_cut_5 : decode cX7_cut 5 = .ok (.iload_n 2, 1) := by decide +kernel
theorem dX7_cut_6 : decode cX7_cut 6 = .ok (.ifCond .le 19, 3) := by decide +kernel
theorem dX7_cut_9 : decode cX7_cut 9 = .ok (.aload_n 0, 1) := by decide +kernel
theorem dX7_cut_10 : decode cX7_cut 10 = .ok (.getfield 68, 3) := by decide +kernel
theorem dX7_cut_13 : decode cX7_cut 13 = .ok (.aload_n 0, 1) := by decide +kernel
theorem dX7_cut_14 : decode cX7_cut 14 = .ok (.getfield 33, 3) := by decide +kernel
theorem dX7_cut_17 : decode cX7_cut 17 = .ok (.iload_n 1, 1) := by decide +kernel
theorem dX7_cut_18 : decode cX7_cut 18 = .ok (.iaload, 1) := by decide +kernel
theorem dX7_cut_19 : decode cX7_cut 19 = .ok (.imul, 1) := by decide +kernel
theorem dX7_cut_20 : decode cX7_cut 20 = .ok (.iload_n 2, 1) := by decide +kernel
theorem dX7_cut_21 : decode cX7_cut 21 = .ok (.idiv, 1) := by decide +kernel
theorem dX7_cut_22 : decode cX7_cut 22 = .ok (.goto 9, 3) := by decide +kernel
theorem dX7_cut_25 : decode cX7_cut 25 = .ok (.aload_n 0, 1) := by decide +kernel
theorem dX7_cut_26 : decode cX7_cut 26 = .ok (.getfield 68, 3) := by decide +kernel
theorem dX7_cut_29 : decode cX7_cut 29 = .ok (.iconst 3, 1) := by decide +kernel
theorem dX7_cut_30 : decode cX7_cut 30 = .ok (.idiv, 1) := by decide +kernel
theorem dX7_cut_31 : decode cX7_cut 31 = .ok (.ireturn, 1) := by decide +kernel
theorem dX7_remainder_0 : decode cX7_remainder 0 = .ok (.aload_n 0, 1) := by decide +kernel
theorem dX7_remainder_1 : decode cX7_remainder 1 = .ok (.invokevirtual 92, 3) := by decide +kernel
theorem dX7_remainder_4 : decode cX7_remainder 4 = .ok (.istore_n 2, 1) := by decide +kernel
theorem dX7_remainder_5 : decode cX7_remainder 5 = .ok (.iload_n 2, 1) := by decide +kernel
theorem dX7_remainder_6 : decode cX7_remainder 6 = .ok (.ifCond .le 19, 3) := by decide +kernel
theorem dX7_remainder_9 : decode cX7_remainder 9 = .ok (.aload_n 0, 1) := by decide +kernel
theorem dX7_remainder_10 : decode cX7_remainder 10 = .ok (.getfield 68, 3) := by decide +kernel
theorem dX7_remainder_13 : decode cX7_remainder 13 = .ok (.aload_n 0, 1) := by decide +kernel
theorem dX7_remainder_14 : decode cX7_remainder 14 = .ok (.getfield 33, 3) := by decide +kernel
theorem dX7_remainder_17 : decode cX7_remainder 17 = .ok (.iload_n 1, 1) := by decide +kernel
theorem dX7_remainder_18 : decode cX7_remainder 18 = .ok (.iaload, 1) := by decide +kernel
theorem dX7_remainder_19 : decode cX7_remainder 19 = .ok (.imul, 1) := by decide +kernel
theorem dX7_remainder_20 : decode cX7_remainder 20 = .ok (.iload_n 2, 1) := by decide +kernel
theorem dX7_remainder_21 : decode cX7_remainder 21 = .ok (.irem, 1) := by decide +kernel
theorem dX7_remainder_22 : decode cX7_remainder 22 = .ok (.goto 9, 3) := by decide +kernel
theorem dX7_remainder_25 : decode cX7_remainder 25 = .ok (.aload_n 0, 1) := by decide +kernel
theorem dX7_remainder_26 : decode cX7_remainder 26 = .ok (.getfield 68, 3) := by decide +kernel
theorem dX7_remainder_29 : decode cX7_remainder 29 = .ok (.iconst 3, 1) := by decide +kernel
theorem dX7_remainder_30 : decode cX7_remainder 30 = .ok (.irem, 1) := by decide +kernel
theorem dX7_remainder_31 : decode cX7_remainder 31 = .ok (.ireturn, 1) := by decide +kernel
theorem dX7_aheadOf_0 : decode cX7_aheadOf 0 = .ok (.iconst 0, 1) := by decide +kernel
theorem dX7_aheadOf_1 : decode cX7_aheadOf 1 = .ok (.istore_n 2, 1) := by decide +kernel
theorem dX7_aheadOf_2 : decode cX7_aheadOf 2 = .ok (.iconst 0, 1) := by decide +kernel
theorem dX7_aheadOf_3 : decode cX7_aheadOf 3 = .ok (.istore_n 3, 1) := by decide +kernel
theorem dX7_aheadOf_4 : decode cX7_aheadOf 4 = .ok (.iload_n 3, 1) := by decide +kernel
theorem dX7_aheadOf_5 : decode cX7_aheadOf 5 = .ok (.iconst 3, 1) := by decide +kernel
theorem dX7_aheadOf_6 : decode cX7_aheadOf 6 = .ok (.if_icmp .ge 40, 3) := by decide +kernel
theorem dX7_aheadOf_9 : decode cX7_aheadOf 9 = .ok (.aload_n 0, 1) := by decide +kernel
theorem dX7_aheadOf_10 : decode cX7_aheadOf 10 = .ok (.iload_n 3, 1) := by decide +kernel
theorem dX7_aheadOf_11 : decode cX7_aheadOf 11 = .ok (.invokevirtual 96, 3) := by decide +kernel
theorem dX7_aheadOf_14 : decode cX7_aheadOf 14 = .ok (.aload_n 0, 1) := by decide +kernel
theorem dX7_aheadOf_15 : decode cX7_aheadOf 15 = .ok (.iload_n 1, 1) := by decide +kernel
theorem dX7_aheadOf_16 : decode cX7_aheadOf 16 = .ok (.invokevirtual 96, 3) := by decide +kernel
theorem dX7_aheadOf_19 : decode cX7_aheadOf 19 = .ok (.isub, 1) := by decide +kernel
theorem dX7_aheadOf_20 : decode cX7_aheadOf 20 = .ok (.istore 4, 2) := by decide +kernel
theorem dX7_aheadOf_22 : decode cX7_aheadOf 22 = .ok (.iload 4, 2) := by decide +kernel
theorem dX7_aheadOf_24 : decode cX7_aheadOf 24 = .ok (.ifCond .gt 13, 3) := by decide +kernel
theorem dX7_aheadOf_27 : decode cX7_aheadOf 27 = .ok (.iload 4, 2) := by decide +kernel
theorem dX7_aheadOf_29 : decode cX7_aheadOf 29 = .ok (.ifCond .ne 11, 3) := by decide +kernel
theorem dX7_aheadOf_32 : decode cX7_aheadOf 32 = .ok (.iload_n 3, 1) := by decide +kernel
theorem dX7_aheadOf_33 : decode cX7_aheadOf 33 = .ok (.iload_n 1, 1) := by decide +kernel
theorem dX7_aheadOf_34 : decode cX7_aheadOf 34 = .ok (.if_icmp .ge 6, 3) := by decide +kernel
theorem dX7_aheadOf_37 : decode cX7_aheadOf 37 = .ok (.iinc 2 1, 3) := by decide +kernel
theorem dX7_aheadOf_40 : decode cX7_aheadOf 40 = .ok (.iinc 3 1, 3) := by decide +kernel
theorem dX7_aheadOf_43 : decode cX7_aheadOf 43 = .ok (.goto (-39), 3) := by decide +kernel
theorem dX7_aheadOf_46 : decode cX7_aheadOf 46 = .ok (.iload_n 2, 1) := by decide +kernel
theorem dX7_aheadOf_47 : decode cX7_aheadOf 47 = .ok (.ireturn, 1) := by decide +kernel
theorem dX7_isFirm_0 : decode cX7_isFirm 0 = .ok (.iload_n 1, 1) := by decide +kernel
theorem dX7_isFirm_1 : decode cX7_isFirm 1 = .ok (.iconst 0, 1) := by decide +kernel
theorem dX7_isFirm_2 : decode cX7_isFirm 2 = .ok (.aload_n 0, 1) := by decide +kernel
theorem dX7_isFirm_3 : decode cX7_isFirm 3 = .ok (.getfield 71, 3) := by decide +kernel
theorem dX7_isFirm_6 : decode cX7_isFirm 6 = .ok (.iconst 1, 1) := by decide +kernel
theorem dX7_isFirm_7 : decode cX7_isFirm 7 = .ok (.isub, 1) := by decide +kernel
theorem dX7_isFirm_8 : decode cX7_isFirm 8 = .ok (.invokestatic 77, 3) := by decide +kernel
theorem dX7_isFirm_11 : decode cX7_isFirm 11 = .ok (.ireturn, 1) := by decide +kernel
theorem dX7_addFirm_0 : decode cX7_addFirm 0 = .ok (.aload_n 0, 1) := by decide +kernel
theorem dX7_addFirm_1 : decode cX7_addFirm 1 = .ok (.getfield 39, 3) := by decide +kernel
theorem dX7_addFirm_4 : decode cX7_addFirm 4 = .ok (.aload_n 0, 1) := by decide +kernel
theorem dX7_addFirm_5 : decode cX7_addFirm 5 = .ok (.getfield 71, 3) := by decide +kernel
theorem dX7_addFirm_8 : decode cX7_addFirm 8 = .ok (.iload_n 1, 1) := by decide +kernel
theorem dX7_addFirm_9 : decode cX7_addFirm 9 = .ok (.iastore, 1) := by decide +kernel
theorem dX7_addFirm_10 : decode cX7_addFirm 10 = .ok (.aload_n 0, 1) := by decide +kernel
theorem dX7_addFirm_11 : decode cX7_addFirm 11 = .ok (.getfield 42, 3) := by decide +kernel
theorem dX7_addFirm_14 : decode cX7_addFirm 14 = .ok (.aload_n 0, 1) := by decide +kernel
theorem dX7_addFirm_15 : decode cX7_addFirm 15 = .ok (.getfield 71, 3) := by decide +kernel
theorem dX7_addFirm_18 : decode cX7_addFirm 18 = .ok (.iload_n 2, 1) := by decide +kernel
theorem dX7_addFirm_19 : decode cX7_addFirm 19 = .ok (.iastore, 1) := by decide +kernel
theorem dX7_addFirm_20 : decode cX7_addFirm 20 = .ok (.aload_n 0, 1) := by decide +kernel
theorem dX7_addFirm_21 : decode cX7_addFirm 21 = .ok (.dup, 1) := by decide +kernel
theorem dX7_addFirm_22 : decode cX7_addFirm 22 = .ok (.getfield 71, 3) := by decide +kernel
theorem dX7_addFirm_25 : decode cX7_addFirm 25 = .ok (.iconst 1, 1) := by decide +kernel
theorem dX7_addFirm_26 : decode cX7_addFirm 26 = .ok (.iadd, 1) := by decide +kernel
theorem dX7_addFirm_27 : decode cX7_addFirm 27 = .ok (.putfield 71, 3) := by decide +kernel
theorem dX7_addFirm_30 : decode cX7_addFirm 30 = .ok (.aload_n 0, 1) := by decide +kernel
theorem dX7_addFirm_31 : decode cX7_addFirm 31 = .ok (.getfield 71, 3) := by decide +kernel
theorem dX7_addFirm_34 : decode cX7_addFirm 34 = .ok (.iconst 1, 1) := by decide +kernel
theorem dX7_addFirm_35 : decode cX7_addFirm 35 = .ok (.isub, 1) := by decide +kernel
theorem dX7_addFirm_36 : decode cX7_addFirm 36 = .ok (.ireturn, 1) := by decide +kernel
theorem dX7_addUse_0 : decode cX7_addUse 0 = .ok (.aload_n 0, 1) := by decide +kernel
theorem dX7_addUse_1 : decode cX7_addUse 1 = .ok (.getfield 45, 3) := by decide +kernel
theorem dX7_addUse_4 : decode cX7_addUse 4 = .ok (.aload_n 0, 1) := by decide +kernel
theorem dX7_addUse_5 : decode cX7_addUse 5 = .ok (.getfield 74, 3) := by decide +kernel
theorem dX7_addUse_8 : decode cX7_addUse 8 = .ok (.iload_n 1, 1) := by decide +kernel
theorem dX7_addUse_9 : decode cX7_addUse 9 = .ok (.iastore, 1) := by decide +kernel
theorem dX7_addUse_10 : decode cX7_addUse 10 = .ok (.aload_n 0, 1) := by decide +kernel
theorem dX7_addUse_11 : decode cX7_addUse 11 = .ok (.getfield 48, 3) := by decide +kernel
theorem dX7_addUse_14 : decode cX7_addUse 14 = .ok (.aload_n 0, 1) := by decide +kernel
theorem dX7_addUse_15 : decode cX7_addUse 15 = .ok (.getfield 74, 3) := by decide +kernel
theorem dX7_addUse_18 : decode cX7_addUse 18 = .ok (.iload_n 2, 1) := by decide +kernel
theorem dX7_addUse_19 : decode cX7_addUse 19 = .ok (.iastore, 1) := by decide +kernel
theorem dX7_addUse_20 : decode cX7_addUse 20 = .ok (.aload_n 0, 1) := by decide +kernel
theorem dX7_addUse_21 : decode cX7_addUse 21 = .ok (.dup, 1) := by decide +kernel
theorem dX7_addUse_22 : decode cX7_addUse 22 = .ok (.getfield 74, 3) := by decide +kernel
theorem dX7_addUse_25 : decode cX7_addUse 25 = .ok (.iconst 1, 1) := by decide +kernel
theorem dX7_addUse_26 : decode cX7_addUse 26 = .ok (.iadd, 1) := by decide +kernel
theorem dX7_addUse_27 : decode cX7_addUse 27 = .ok (.putfield 74, 3) := by decide +kernel
theorem dX7_addUse_30 : decode cX7_addUse 30 = .ok (.aload_n 0, 1) := by decide +kernel
theorem dX7_addUse_31 : decode cX7_addUse 31 = .ok (.getfield 74, 3) := by decide +kernel
theorem dX7_addUse_34 : decode cX7_addUse 34 = .ok (.ireturn, 1) := by decide +kernel
theorem dX7_useOf_0 : decode cX7_useOf 0 = .ok (.iconst 0, 1) := by decide +kernel
theorem dX7_useOf_1 : decode cX7_useOf 1 = .ok (.istore_n 2, 1) := by decide +kernel
theorem dX7_useOf_2 : decode cX7_useOf 2 = .ok (.iconst 0, 1) := by decide +kernel
theorem dX7_useOf_3 : decode cX7_useOf 3 = .ok (.istore_n 3, 1) := by decide +kernel
theorem dX7_useOf_4 : decode cX7_useOf 4 = .ok (.iload_n 3, 1) := by decide +kernel
theorem dX7_useOf_5 : decode cX7_useOf 5 = .ok (.aload_n 0, 1) := by decide +kernel
theorem dX7_useOf_6 : decode cX7_useOf 6 = .ok (.getfield 74, 3) := by decide +kernel
theorem dX7_useOf_9 : decode cX7_useOf 9 = .ok (.if_icmp .ge 32, 3) := by decide +kernel
theorem dX7_useOf_12 : decode cX7_useOf 12 = .ok (.aload_n 0, 1) := by decide +kernel
theorem dX7_useOf_13 : decode cX7_useOf 13 = .ok (.aload_n 0, 1) := by decide +kernel
theorem dX7_useOf_14 : decode cX7_useOf 14 = .ok (.getfield 45, 3) := by decide +kernel
theorem dX7_useOf_17 : decode cX7_useOf 17 = .ok (.iload_n 3, 1) := by decide +kernel
theorem dX7_useOf_18 : decode cX7_useOf 18 = .ok (.iaload, 1) := by decide +kernel
theorem dX7_useOf_19 : decode cX7_useOf 19 = .ok (.iload_n 1, 1) := by decide +kernel
theorem dX7_useOf_20 : decode cX7_useOf 20 = .ok (.invokevirtual 99, 3) := by decide +kernel
theorem dX7_useOf_23 : decode cX7_useOf 23 = .ok (.ifCond .eq 12, 3) := by decide +kernel
theorem dX7_useOf_26 : decode cX7_useOf 26 = .ok (.iload_n 2, 1) := by decide +kernel
theorem dX7_useOf_27 : decode cX7_useOf 27 = .ok (.aload_n 0, 1) := by decide +kernel
theorem dX7_useOf_28 : decode cX7_useOf 28 = .ok (.getfield 48, 3) := by decide +kernel
theorem dX7_useOf_31 : decode cX7_useOf 31 = .ok (.iload_n 3, 1) := by decide +kernel
theorem dX7_useOf_32 : decode cX7_useOf 32 = .ok (.iaload, 1) := by decide +kernel
theorem dX7_useOf_33 : decode cX7_useOf 33 = .ok (.iadd, 1) := by decide +kernel
theorem dX7_useOf_34 : decode cX7_useOf 34 = .ok (.istore_n 2, 1) := by decide +kernel
theorem dX7_useOf_35 : decode cX7_useOf 35 = .ok (.iinc 3 1, 3) := by decide +kernel
theorem dX7_useOf_38 : decode cX7_useOf 38 = .ok (.goto (-34), 3) := by decide +kernel
theorem dX7_useOf_41 : decode cX7_useOf 41 = .ok (.iload_n 2, 1) := by decide +kernel
theorem dX7_useOf_42 : decode cX7_useOf 42 = .ok (.ireturn, 1) := by decide +kernel
theorem dX7_belongsTo_0 : decode cX7_belongsTo 0 = .ok (.iload_n 1, 1) := by decide +kernel
theorem dX7_belongsTo_1 : decode cX7_belongsTo 1 = .ok (.istore_n 3, 1) := by decide +kernel
theorem dX7_belongsTo_2 : decode cX7_belongsTo 2 = .ok (.iconst 0, 1) := by decide +kernel
theorem dX7_belongsTo_3 : decode cX7_belongsTo 3 = .ok (.istore 4, 2) := by decide +kernel
theorem dX7_belongsTo_5 : decode cX7_belongsTo 5 = .ok (.iload 4, 2) := by decide +kernel
theorem dX7_belongsTo_7 : decode cX7_belongsTo 7 = .ok (.bipush 10, 2) := by decide +kernel
theorem dX7_belongsTo_9 : decode cX7_belongsTo 9 = .ok (.if_icmp .ge 27, 3) := by decide +kernel
theorem dX7_belongsTo_12 : decode cX7_belongsTo 12 = .ok (.iload_n 3, 1) := by decide +kernel
theorem dX7_belongsTo_13 : decode cX7_belongsTo 13 = .ok (.ifCond .lt 23, 3) := by decide +kernel
theorem dX7_belongsTo_16 : decode cX7_belongsTo 16 = .ok (.iload_n 3, 1) := by decide +kernel
theorem dX7_belongsTo_17 : decode cX7_belongsTo 17 = .ok (.iload_n 2, 1) := by decide +kernel
theorem dX7_belongsTo_18 : decode cX7_belongsTo 18 = .ok (.if_icmp .ne 5, 3) := by decide +kernel
theorem dX7_belongsTo_21 : decode cX7_belongsTo 21 = .ok (.iconst 1, 1) := by decide +kernel
theorem dX7_belongsTo_22 : decode cX7_belongsTo 22 = .ok (.ireturn, 1) := by decide +kernel
theorem dX7_belongsTo_23 : decode cX7_belongsTo 23 = .ok (.aload_n 0, 1) := by decide +kernel
theorem dX7_belongsTo_24 : decode cX7_belongsTo 24 = .ok (.getfield 42, 3) := by decide +kernel
theorem dX7_belongsTo_27 : decode cX7_belongsTo 27 = .ok (.iload_n 3, 1) := by decide +kernel
theorem dX7_belongsTo_28 : decode cX7_belongsTo 28 = .ok (.iaload, 1) := by decide +kernel
theorem dX7_belongsTo_29 : decode cX7_belongsTo 29 = .ok (.istore_n 3, 1) := by decide +kernel
theorem dX7_belongsTo_30 : decode cX7_belongsTo 30 = .ok (.iinc 4 1, 3) := by decide +kernel
theorem dX7_belongsTo_33 : decode cX7_belongsTo 33 = .ok (.goto (-28), 3) := by decide +kernel
theorem dX7_belongsTo_36 : decode cX7_belongsTo 36 = .ok (.iconst 0, 1) := by decide +kernel
theorem dX7_belongsTo_37 : decode cX7_belongsTo 37 = .ok (.ireturn, 1) := by decide +kernel
theorem dX7_quotaLeft_0 : decode cX7_quotaLeft 0 = .ok (.aload_n 0, 1) := by decide +kernel
theorem dX7_quotaLeft_1 : decode cX7_quotaLeft 1 = .ok (.getfield 51, 3) := by decide +kernel
theorem dX7_quotaLeft_4 : decode cX7_quotaLeft 4 = .ok (.iload_n 1, 1) := by decide +kernel
theorem dX7_quotaLeft_5 : decode cX7_quotaLeft 5 = .ok (.iaload, 1) := by decide +kernel
theorem dX7_quotaLeft_6 : decode cX7_quotaLeft 6 = .ok (.istore_n 2, 1) := by decide +kernel
theorem dX7_quotaLeft_7 : decode cX7_quotaLeft 7 = .ok (.iconst 0, 1) := by decide +kernel
theorem dX7_quotaLeft_8 : decode cX7_quotaLeft 8 = .ok (.istore_n 3, 1) := by decide +kernel
theorem dX7_quotaLeft_9 : decode cX7_quotaLeft 9 = .ok (.iload_n 3, 1) := by decide +kernel
theorem dX7_quotaLeft_10 : decode cX7_quotaLeft 10 = .ok (.aload_n 0, 1) := by decide +kernel
theorem dX7_quotaLeft_11 : decode cX7_quotaLeft 11 = .ok (.getfield 74, 3) := by decide +kernel
theorem dX7_quotaLeft_14 : decode cX7_quotaLeft 14 = .ok (.if_icmp .ge 33, 3) := by decide +kernel
theorem dX7_quotaLeft_17 : decode cX7_quotaLeft 17 = .ok (.aload_n 0, 1) := by decide +kernel
theorem dX7_quotaLeft_18 : decode cX7_quotaLeft 18 = .ok (.getfield 39, 3) := by decide +kernel
theorem dX7_quotaLeft_21 : decode cX7_quotaLeft 21 = .ok (.aload_n 0, 1) := by decide +kernel
theorem dX7_quotaLeft_22 : decode cX7_quotaLeft 22 = .ok (.getfield 45, 3) := by decide +kernel
theorem dX7_quotaLeft_25 : decode cX7_quotaLeft 25 = .ok (.iload_n 3, 1) := by decide +kernel
theorem dX7_quotaLeft_26 : decode cX7_quotaLeft 26 = .ok (.iaload, 1) := by decide +kernel
theorem dX7_quotaLeft_27 : decode cX7_quotaLeft 27 = .ok (.iaload, 1) := by decide +kernel
theorem dX7_quotaLeft_28 : decode cX7_quotaLeft 28 = .ok (.iload_n 1, 1) := by decide +kernel
theorem dX7_quotaLeft_29 : decode cX7_quotaLeft 29 = .ok (.if_icmp .ne 12, 3) := by decide +kernel
theorem dX7_quotaLeft_32 : decode cX7_quotaLeft 32 = .ok (.iload_n 2, 1) := by decide +kernel
theorem dX7_quotaLeft_33 : decode cX7_quotaLeft 33 = .ok (.aload_n 0, 1) := by decide +kernel
theorem dX7_quotaLeft_34 : decode cX7_quotaLeft 34 = .ok (.getfield 48, 3) := by decide +kernel
theorem dX7_quotaLeft_37 : decode cX7_quotaLeft 37 = .ok (.iload_n 3, 1) := by decide +kernel
theorem dX7_quotaLeft_38 : decode cX7_quotaLeft 38 = .ok (.iaload, 1) := by decide +kernel
theorem dX7_quotaLeft_39 : decode cX7_quotaLeft 39 = .ok (.isub, 1) := by decide +kernel
theorem dX7_quotaLeft_40 : decode cX7_quotaLeft 40 = .ok (.istore_n 2, 1) := by decide +kernel
theorem dX7_quotaLeft_41 : decode cX7_quotaLeft 41 = .ok (.iinc 3 1, 3) := by decide +kernel
theorem dX7_quotaLeft_44 : decode cX7_quotaLeft 44 = .ok (.goto (-35), 3) := by decide +kernel
theorem dX7_quotaLeft_47 : decode cX7_quotaLeft 47 = .ok (.iload_n 2, 1) := by decide +kernel
theorem dX7_quotaLeft_48 : decode cX7_quotaLeft 48 = .ok (.ireturn, 1) := by decide +kernel
theorem dX7_firstBeyondQuota_0 : decode cX7_firstBeyondQuota 0 = .ok (.aload_n 0, 1) := by decide +kernel
theorem dX7_firstBeyondQuota_1 : decode cX7_firstBeyondQuota 1 = .ok (.getfield 51, 3) := by decide +kernel
theorem dX7_firstBeyondQuota_4 : decode cX7_firstBeyondQuota 4 = .ok (.iload_n 1, 1) := by decide +kernel
theorem dX7_firstBeyondQuota_5 : decode cX7_firstBeyondQuota 5 = .ok (.iaload, 1) := by decide +kernel
theorem dX7_firstBeyondQuota_6 : decode cX7_firstBeyondQuota 6 = .ok (.istore_n 2, 1) := by decide +kernel
theorem dX7_firstBeyondQuota_7 : decode cX7_firstBeyondQuota 7 = .ok (.iconst 0, 1) := by decide +kernel
theorem dX7_firstBeyondQuota_8 : decode cX7_firstBeyondQuota 8 = .ok (.istore_n 3, 1) := by decide +kernel
theorem dX7_firstBeyondQuota_9 : decode cX7_firstBeyondQuota 9 = .ok (.iload_n 3, 1) := by decide +kernel
theorem dX7_firstBeyondQuota_10 : decode cX7_firstBeyondQuota 10 = .ok (.aload_n 0, 1) := by decide +kernel
theorem dX7_firstBeyondQuota_11 : decode cX7_firstBeyondQuota 11 = .ok (.getfield 74, 3) := by decide +kernel
theorem dX7_firstBeyondQuota_14 : decode cX7_firstBeyondQuota 14 = .ok (.if_icmp .ge 39, 3) := by decide +kernel
theorem dX7_firstBeyondQuota_17 : decode cX7_firstBeyondQuota 17 = .ok (.aload_n 0, 1) := by decide +kernel
theorem dX7_firstBeyondQuota_18 : decode cX7_firstBeyondQuota 18 = .ok (.getfield 39, 3) := by decide +kernel
theorem dX7_firstBeyondQuota_21 : decode cX7_firstBeyondQuota 21 = .ok (.aload_n 0, 1) := by decide +kernel
theorem dX7_firstBeyondQuota_22 : decode cX7_firstBeyondQuota 22 = .ok (.getfield 45, 3) := by decide +kernel
theorem dX7_firstBeyondQuota_25 : decode cX7_firstBeyondQuota 25 = .ok (.iload_n 3, 1) := by decide +kernel
theorem dX7_firstBeyondQuota_26 : decode cX7_firstBeyondQuota 26 = .ok (.iaload, 1) := by decide +kernel
theorem dX7_firstBeyondQuota_27 : decode cX7_firstBeyondQuota 27 = .ok (.iaload, 1) := by decide +kernel
theorem dX7_firstBeyondQuota_28 : decode cX7_firstBeyondQuota 28 = .ok (.iload_n 1, 1) := by decide +kernel
theorem dX7_firstBeyondQuota_29 : decode cX7_firstBeyondQuota 29 = .ok (.if_icmp .ne 18, 3) := by decide +kernel
theorem dX7_firstBeyondQuota_32 : decode cX7_firstBeyondQuota 32 = .ok (.iload_n 2, 1) := by decide +kernel
theorem dX7_firstBeyondQuota_33 : decode cX7_firstBeyondQuota 33 = .ok (.aload_n 0, 1) := by decide +kernel
theorem dX7_firstBeyondQuota_34 : decode cX7_firstBeyondQuota 34 = .ok (.getfield 48, 3) := by decide +kernel
theorem dX7_firstBeyondQuota_37 : decode cX7_firstBeyondQuota 37 = .ok (.iload_n 3, 1) := by decide +kernel
theorem dX7_firstBeyondQuota_38 : decode cX7_firstBeyondQuota 38 = .ok (.iaload, 1) := by decide +kernel
theorem dX7_firstBeyondQuota_39 : decode cX7_firstBeyondQuota 39 = .ok (.isub, 1) := by decide +kernel
theorem dX7_firstBeyondQuota_40 : decode cX7_firstBeyondQuota 40 = .ok (.istore_n 2, 1) := by decide +kernel
theorem dX7_firstBeyondQuota_41 : decode cX7_firstBeyondQuota 41 = .ok (.iload_n 2, 1) := by decide +kernel
theorem dX7_firstBeyondQuota_42 : decode cX7_firstBeyondQuota 42 = .ok (.ifCond .ge 5, 3) := by decide +kernel
theorem dX7_firstBeyondQuota_45 : decode cX7_firstBeyondQuota 45 = .ok (.iload_n 3, 1) := by decide +kernel
theorem dX7_firstBeyondQuota_46 : decode cX7_firstBeyondQuota 46 = .ok (.ireturn, 1) := by decide +kernel
theorem dX7_firstBeyondQuota_47 : decode cX7_firstBeyondQuota 47 = .ok (.iinc 3 1, 3) := by decide +kernel
theorem dX7_firstBeyondQuota_50 : decode cX7_firstBeyondQuota 50 = .ok (.goto (-41), 3) := by decide +kernel
theorem dX7_firstBeyondQuota_53 : decode cX7_firstBeyondQuota 53 = .ok (.bipush (-5), 2) := by decide +kernel
theorem dX7_firstBeyondQuota_55 : decode cX7_firstBeyondQuota 55 = .ok (.ireturn, 1) := by decide +kernel
theorem dX8_init_0 : decode cX8_init 0 = .ok (.aload_n 0, 1) := by decide +kernel
theorem dX8_init_1 : decode cX8_init 1 = .ok (.invokespecial 3, 3) := by decide +kernel
theorem dX8_init_4 : decode cX8_init 4 = .ok (.aload_n 0, 1) := by decide +kernel
theorem dX8_init_5 : decode cX8_init 5 = .ok (.bipush 120, 2) := by decide +kernel
theorem dX8_init_7 : decode cX8_init 7 = .ok (.newarray .int, 2) := by decide +kernel
theorem dX8_init_9 : decode cX8_init 9 = .ok (.putfield 9, 3) := by decide +kernel
theorem dX8_init_12 : decode cX8_init 12 = .ok (.aload_n 0, 1) := by decide +kernel
theorem dX8_init_13 : decode cX8_init 13 = .ok (.iconst 0, 1) := by decide +kernel
theorem dX8_init_14 : decode cX8_init 14 = .ok (.newarray .byte, 2) := by decide +kernel
theorem dX8_init_16 : decode cX8_init 16 = .ok (.putfield 15, 3) := by decide +kernel
theorem dX8_init_19 : decode cX8_init 19 = .ok (.return_, 1) := by decide +kernel
theorem dX8_takeTape_0 : decode cX8_takeTape 0 = .ok (.aload_n 0, 1) := by decide +kernel
theorem dX8_takeTape_1 : decode cX8_takeTape 1 = .ok (.aload_n 1, 1) := by decide +kernel
theorem dX8_takeTape_2 : decode cX8_takeTape 2 = .ok (.getfield 19, 3) := by decide +kernel
theorem dX8_takeTape_5 : decode cX8_takeTape 5 = .ok (.putfield 15, 3) := by decide +kernel
theorem dX8_takeTape_8 : decode cX8_takeTape 8 = .ok (.aload_n 0, 1) := by decide +kernel
theorem dX8_takeTape_9 : decode cX8_takeTape 9 = .ok (.aload_n 1, 1) := by decide +kernel
theorem dX8_takeTape_10 : decode cX8_takeTape 10 = .ok (.getfield 22, 3) := by decide +kernel
theorem dX8_takeTape_13 : decode cX8_takeTape 13 = .ok (.putfield 26, 3) := by decide +kernel
theorem dX8_takeTape_16 : decode cX8_takeTape 16 = .ok (.aload_n 0, 1) := by decide +kernel
theorem dX8_takeTape_17 : decode cX8_takeTape 17 = .ok (.iconst 0, 1) := by decide +kernel
theorem dX8_takeTape_18 : decode cX8_takeTape 18 = .ok (.putfield 29, 3) := by decide +kernel
theorem dX8_takeTape_21 : decode cX8_takeTape 21 = .ok (.aload_n 0, 1) := by decide +kernel
theorem dX8_takeTape_22 : decode cX8_takeTape 22 = .ok (.iconst 0, 1) := by decide +kernel
theorem dX8_takeTape_23 : decode cX8_takeTape 23 = .ok (.putfield 32, 3) := by decide +kernel
theorem dX8_takeTape_26 : decode cX8_takeTape 26 = .ok (.aload_n 1, 1) := by decide +kernel
theorem dX8_takeTape_27 : decode cX8_takeTape 27 = .ok (.iconst 0, 1) := by decide +kernel
theorem dX8_takeTape_28 : decode cX8_takeTape 28 = .ok (.putfield 22, 3) := by decide +kernel
theorem dX8_takeTape_31 : decode cX8_takeTape 31 = .ok (.iconst 1, 1) := by decide +kernel
theorem dX8_takeTape_32 : decode cX8_takeTape 32 = .ok (.istore_n 2, 1) := by decide +kernel
theorem dX8_takeTape_33 : decode cX8_takeTape 33 = .ok (.iload_n 2, 1) := by decide +kernel
theorem dX8_takeTape_34 : decode cX8_takeTape 34 = .ok (.bipush 8, 2) := by decide +kernel
theorem dX8_takeTape_36 : decode cX8_takeTape 36 = .ok (.if_icmp .gt 54, 3) := by decide +kernel
theorem dX8_takeTape_39 : decode cX8_takeTape 39 = .ok (.aload_n 0, 1) := by decide +kernel
theorem dX8_takeTape_40 : decode cX8_takeTape 40 = .ok (.invokevirtual 35, 3) := by decide +kernel
theorem dX8_takeTape_43 : decode cX8_takeTape 43 = .ok (.ifCond .ne 8, 3) := by decide +kernel
theorem dX8_takeTape_46 : decode cX8_takeTape 46 = .ok (.aload_n 0, 1) := by decide +kernel
theorem dX8_takeTape_47 : decode cX8_takeTape 47 = .ok (.getfield 29, 3) := by decide +kernel
theorem dX8_takeTape_50 : decode cX8_takeTape 50 = .ok (.ireturn, 1) := by decide +kernel
theorem dX8_takeTape_51 : decode cX8_takeTape 51 = .ok (.aload_n 0, 1) := by decide +kernel
theorem dX8_takeTape_52 : decode cX8_takeTape 52 = .ok (.getfield 29, 3) := by decide +kernel
theorem dX8_takeTape_55 : decode cX8_takeTape 55 = .ok (.aload_n 0, 1) := by decide +kernel
theorem dX8_takeTape_56 : decode cX8_takeTape 56 = .ok (.getfield 26, 3) := by decide +kernel
theorem dX8_takeTape_59 : decode cX8_takeTape 59 = .ok (.if_icmp .lt 5, 3) := by decide +kernel
theorem dX8_takeTape_62 : decode cX8_takeTape 62 = .ok (.iconst (-1), 1) := by decide +kernel
theorem dX8_takeTape_63 : decode cX8_takeTape 63 = .ok (.ireturn, 1) := by decide +kernel
theorem dX8_takeTape_64 : decode cX8_takeTape 64 = .ok (.iload_n 2, 1) := by decide +kernel
theorem dX8_takeTape_65 : decode cX8_takeTape 65 = .ok (.bipush 8, 2) := by decide +kernel
theorem dX8_takeTape_67 : decode cX8_takeTape 67 = .ok (.if_icmp .eq 12, 3) := by decide +kernel
theorem dX8_takeTape_70 : decode cX8_takeTape 70 = .ok (.aload_n 0, 1) := by decide +kernel
theorem dX8_takeTape_71 : decode cX8_takeTape 71 = .ok (.bipush 59, 2) := by decide +kernel
theorem dX8_takeTape_73 : decode cX8_takeTape 73 = .ok (.invokevirtual 39, 3) := by decide +kernel
theorem dX8_takeTape_76 : decode cX8_takeTape 76 = .ok (.ifCond .ne 8, 3) := by decide +kernel
theorem dX8_takeTape_79 : decode cX8_takeTape 79 = .ok (.aload_n 0, 1) := by decide +kernel
theorem dX8_takeTape_80 : decode cX8_takeTape 80 = .ok (.getfield 29, 3) := by decide +kernel
theorem dX8_takeTape_83 : decode cX8_takeTape 83 = .ok (.ireturn, 1) := by decide +kernel
theorem dX8_takeTape_84 : decode cX8_takeTape 84 = .ok (.iinc 2 1, 3) := by decide +kernel
theorem dX8_takeTape_87 : decode cX8_takeTape 87 = .ok (.goto (-54), 3) := by decide +kernel
theorem dX8_takeTape_90 : decode cX8_takeTape 90 = .ok (.aload_n 0, 1) := by decide +kernel
theorem dX8_takeTape_91 : decode cX8_takeTape 91 = .ok (.getfield 29, 3) := by decide +kernel
theorem dX8_takeTape_94 : decode cX8_takeTape 94 = .ok (.ireturn, 1) := by decide +kernel
theorem dX8_codeCopy_0 : decode cX8_codeCopy 0 = .ok (.aload_n 0, 1) := by decide +kernel
theorem dX8_codeCopy_1 : decode cX8_codeCopy 1 = .ok (.getfield 9, 3) := by decide +kernel
theorem dX8_codeCopy_4 : decode cX8_codeCopy 4 = .ok (.aload_n 0, 1) := by decide +kernel
theorem dX8_codeCopy_5 : decode cX8_codeCopy 5 = .ok (.getfield 32, 3) := by decide +kernel
theorem dX8_codeCopy_8 : decode cX8_codeCopy 8 = .ok (.invokestatic 43, 3) := by decide +kernel
theorem dX8_codeCopy_11 : decode cX8_codeCopy 11 = .ok (.areturn, 1) := by decide +kernel
theorem dX8_readClause_0 : decode cX8_readClause 0 = .ok (.aload_n 0, 1) := by decide +kernel
theorem dX8_readClause_1 : decode cX8_readClause 1 = .ok (.invokevirtual 49, 3) := by decide +kernel
theorem dX8_readClause_4 : decode cX8_readClause 4 = .ok (.istore_n 1, 1) := by decide +kernel
theorem dX8_readClause_5 : decode cX8_readClause 5 = .ok (.iload_n 1, 1) := by decide +kernel
theorem dX8_readClause_6 : decode cX8_readClause 6 = .ok (.bipush 108, 2) := by decide +kernel
theorem dX8_readClause_8 : decode cX8_readClause 8 = .ok (.if_icmp .ne 38, 3) := by decide +kernel
theorem dX8_readClause_11 : decode cX8_readClause 11 = .ok (.aload_n 0, 1) := by decide +kernel
theorem dX8_readClause_12 : decode cX8_readClause 12 = .ok (.bipush 108, 2) := by decide +kernel
theorem dX8_readClause_14 : decode cX8_readClause 14 = .ok (.invokevirtual 39, 3) := by decide +kernel
theorem dX8_readClause_17 : decode cX8_readClause 17 = .ok (.ifCond .eq 25, 3) := by decide +kernel
theorem dX8_readClause_20 : decode cX8_readClause 20 = .ok (.aload_n 0, 1) := by decide +kernel
theorem dX8_readClause_21 : decode cX8_readClause 21 = .ok (.bipush 101, 2) := by decide +kernel
theorem dX8_readClause_23 : decode cX8_readClause 23 = .ok (.invokevirtual 39, 3) := by decide +kernel
theorem dX8_readClause_26 : decode cX8_readClause 26 = .ok (.ifCond .eq 16, 3) := by decide +kernel
theorem dX8_readClause_29 : decode cX8_readClause 29 = .ok (.aload_n 0, 1) := by decide +kernel
theorem dX8_readClause_30 : decode cX8_readClause 30 = .ok (.bipush 116, 2) := by decide +kernel
theorem dX8_readClause_32 : decode cX8_readClause 32 = .ok (.invokevirtual 39, 3) := by decide +kernel
theorem dX8_readClause_35 : decode cX8_readClause 35 = .ok (.ifCond .eq 7, 3) := by decide +kernel
theorem dX8_readClause_38 : decode cX8_readClause 38 = .ok (.iconst 1, 1) := by decide +kernel
theorem dX8_readClause_39 : decode cX8_readClause 39 = .ok (.goto 39, 3) := by decide +kernel
theorem dX8_readClause_42 : decode cX8_readClause 42 = .ok (.iconst 0, 1) := by decide +kernel
theorem dX8_readClause_43 : decode cX8_readClause 43 = .ok (.goto 35, 3) := by decide +kernel
theorem dX8_readClause_46 : decode cX8_readClause 46 = .ok (.aload_n 0, 1) := by decide +kernel
theorem dX8_readClause_47 : decode cX8_readClause 47 = .ok (.bipush 98, 2) := by decide +kernel
theorem dX8_readClause_49 : decode cX8_readClause 49 = .ok (.invokevirtual 39, 3) := by decide +kernel
theorem dX8_readClause_52 : decode cX8_readClause 52 = .ok (.ifCond .eq 25, 3) := by decide +kernel
theorem dX8_readClause_55 : decode cX8_readClause 55 = .ok (.aload_n 0, 1) := by decide +kernel
theorem dX8_readClause_56 : decode cX8_readClause 56 = .ok (.bipush 97, 2) := by decide +kernel
theorem dX8_readClause_58 : decode cX8_readClause 58 = .ok (.invokevirtual 39, 3) := by decide +kernel
theorem dX8_readClause_61 : decode cX8_readClause 61 = .ok (.ifCond .eq 16, 3) := by decide +kernel
theorem dX8_readClause_64 : decode cX8_readClause 64 = .ok (.aload_n 0, 1) := by decide +kernel
theorem dX8_readClause_65 : decode cX8_readClause 65 = .ok (.bipush 114, 2) := by decide +kernel
theorem dX8_readClause_67 : decode cX8_readClause 67 = .ok (.invokevirtual 39, 3) := by decide +kernel
theorem dX8_readClause_70 : decode cX8_readClause 70 = .ok (.ifCond .eq 7, 3) := by decide +kernel
theorem dX8_readClause_73 : decode cX8_readClause 73 = .ok (.iconst 1, 1) := by decide +kernel
theorem dX8_readClause_74 : decode cX8_readClause 74 = .ok (.goto 4, 3) := by decide +kernel
theorem dX8_readClause_77 : decode cX8_readClause 77 = .ok (.iconst 0, 1) := by decide +kernel
theorem dX8_readClause_78 : decode cX8_readClause 78 = .ok (.istore_n 2, 1) := by decide +kernel
theorem dX8_readClause_79 : decode cX8_readClause 79 = .ok (.iload_n 2, 1) := by decide +kernel
theorem dX8_readClause_80 : decode cX8_readClause 80 = .ok (.ifCond .eq 33, 3) := by decide +kernel
theorem dX8_readClause_83 : decode cX8_readClause 83 = .ok (.aload_n 0, 1) := by decide +kernel
theorem dX8_readClause_84 : decode cX8_readClause 84 = .ok (.bipush 32, 2) := by decide +kernel
theorem dX8_readClause_86 : decode cX8_readClause 86 = .ok (.invokevirtual 39, 3) := by decide +kernel
theorem dX8_readClause_89 : decode cX8_readClause 89 = .ok (.ifCond .eq 24, 3) := by decide +kernel
theorem dX8_readClause_92 : decode cX8_readClause 92 = .ok (.aload_n 0, 1) := by decide +kernel
theorem dX8_readClause_93 : decode cX8_readClause 93 = .ok (.iconst 0, 1) := by decide +kernel
theorem dX8_readClause_94 : decode cX8_readClause 94 = .ok (.invokevirtual 53, 3) := by decide +kernel
theorem dX8_readClause_97 : decode cX8_readClause 97 = .ok (.ifCond .eq 16, 3) := by decide +kernel
theorem dX8_readClause_100 : decode cX8_readClause 100 = .ok (.aload_n 0, 1) := by decide +kernel
theorem dX8_readClause_101 : decode cX8_readClause 101 = .ok (.iload_n 1, 1) := by decide +kernel
theorem dX8_readClause_102 : decode cX8_readClause 102 = .ok (.iconst 0, 1) := by decide +kernel
theorem dX8_readClause_103 : decode cX8_readClause 103 = .ok (.invokevirtual 56, 3) := by decide +kernel
theorem dX8_readClause_106 : decode cX8_readClause 106 = .ok (.ifCond .eq 7, 3) := by decide +kernel
theorem dX8_readClause_109 : decode cX8_readClause 109 = .ok (.iconst 1, 1) := by decide +kernel
theorem dX8_readClause_110 : decode cX8_readClause 110 = .ok (.goto 4, 3) := by decide +kernel
theorem dX8_readClause_113 : decode cX8_readClause 113 = .ok (.iconst 0, 1) := by decide +kernel
theorem dX8_readClause_114 : decode cX8_readClause 114 = .ok (.ireturn, 1) := by decide +kernel
theorem dX8_readAny_0 : decode cX8_readAny 0 = .ok (.aload_n 0, 1) := by decide +kernel
theorem dX8_readAny_1 : decode cX8_readAny 1 = .ok (.iload_n 1, 1) := by decide +kernel
theorem dX8_readAny_2 : decode cX8_readAny 2 = .ok (.invokevirtual 60, 3) := by decide +kernel
theorem dX8_readAny_5 : decode cX8_readAny 5 = .ok (.istore_n 2, 1) := by decide +kernel
theorem dX8_readAny_6 : decode cX8_readAny 6 = .ok (.iconst 0, 1) := by decide +kernel
theorem dX8_readAny_7 : decode cX8_readAny 7 = .ok (.istore_n 3, 1) := by decide +kernel
theorem dX8_readAny_8 : decode cX8_readAny 8 = .ok (.iload_n 3, 1) := by decide +kernel
theorem dX8_readAny_9 : decode cX8_readAny 9 = .ok (.bipush 120, 2) := by decide +kernel
theorem dX8_readAny_11 : decode cX8_readAny 11 = .ok (.if_icmp .ge 46, 3) := by decide +kernel
theorem dX8_readAny_14 : decode cX8_readAny 14 = .ok (.iload_n 2, 1) := by decide +kernel
theorem dX8_readAny_15 : decode cX8_readAny 15 = .ok (.ifCond .eq 42, 3) := by decide +kernel
theorem dX8_readAny_18 : decode cX8_readAny 18 = .ok (.aload_n 0, 1) := by decide +kernel
theorem dX8_readAny_19 : decode cX8_readAny 19 = .ok (.bipush 124, 2) := by decide +kernel
theorem dX8_readAny_21 : decode cX8_readAny 21 = .ok (.invokevirtual 39, 3) := by decide +kernel
theorem dX8_readAny_24 : decode cX8_readAny 24 = .ok (.ifCond .eq 33, 3) := by decide +kernel
theorem dX8_readAny_27 : decode cX8_readAny 27 = .ok (.aload_n 0, 1) := by decide +kernel
theorem dX8_readAny_28 : decode cX8_readAny 28 = .ok (.iload_n 1, 1) := by decide +kernel
theorem dX8_readAny_29 : decode cX8_readAny 29 = .ok (.invokevirtual 60, 3) := by decide +kernel
theorem dX8_readAny_32 : decode cX8_readAny 32 = .ok (.ifCond .eq 17, 3) := by decide +kernel
theorem dX8_readAny_35 : decode cX8_readAny 35 = .ok (.aload_n 0, 1) := by decide +kernel
theorem dX8_readAny_36 : decode cX8_readAny 36 = .ok (.bipush 124, 2) := by decide +kernel
theorem dX8_readAny_38 : decode cX8_readAny 38 = .ok (.iconst 0, 1) := by decide +kernel
theorem dX8_readAny_39 : decode cX8_readAny 39 = .ok (.invokevirtual 56, 3) := by decide +kernel
theorem dX8_readAny_42 : decode cX8_readAny 42 = .ok (.ifCond .eq 7, 3) := by decide +kernel
theorem dX8_readAny_45 : decode cX8_readAny 45 = .ok (.iconst 1, 1) := by decide +kernel
theorem dX8_readAny_46 : decode cX8_readAny 46 = .ok (.goto 4, 3) := by decide +kernel
theorem dX8_readAny_49 : decode cX8_readAny 49 = .ok (.iconst 0, 1) := by decide +kernel
theorem dX8_readAny_50 : decode cX8_readAny 50 = .ok (.istore_n 2, 1) := by decide +kernel
theorem dX8_readAny_51 : decode cX8_readAny 51 = .ok (.iinc 3 1, 3) := by decide +kernel
theorem dX8_readAny_54 : decode cX8_readAny 54 = .ok (.goto (-46), 3) := by decide +kernel
theorem dX8_readAny_57 : decode cX8_readAny 57 = .ok (.iload_n 2, 1) := by decide +kernel
theorem dX8_readAny_58 : decode cX8_readAny 58 = .ok (.ireturn, 1) := by decide +kernel
theorem dX8_readAll_0 : decode cX8_readAll 0 = .ok (.aload_n 0, 1) := by decide +kernel
theorem dX8_readAll_1 : decode cX8_readAll 1 = .ok (.iload_n 1, 1) := by decide +kernel
theorem dX8_readAll_2 : decode cX8_readAll 2 = .ok (.invokevirtual 63, 3) := by decide +kernel
theorem dX8_readAll_5 : decode cX8_readAll 5 = .ok (.istore_n 2, 1) := by decide +kernel
theorem dX8_readAll_6 : decode cX8_readAll 6 = .ok (.iconst 0, 1) := by decide +kernel
theorem dX8_readAll_7 : decode cX8_readAll 7 = .ok (.istore_n 3, 1) := by decide +kernel
theorem dX8_readAll_8 : decode cX8_readAll 8 = .ok (.iload_n 3, 1) := by decide +kernel
theorem dX8_readAll_9 : decode cX8_readAll 9 = .ok (.bipush 120, 2) := by decide +kernel
theorem dX8_readAll_11 : decode cX8_readAll 11 = .ok (.if_icmp .ge 46, 3) := by decide +kernel
theorem dX8_readAll_14 : decode cX8_readAll 14 = .ok (.iload_n 2, 1) := by decide +kernel
theorem dX8_readAll_15 : decode cX8_readAll 15 = .ok (.ifCond .eq 42, 3) := by decide +kernel
theorem dX8_readAll_18 : decode cX8_readAll 18 = .ok (.aload_n 0, 1) := by decide +kernel
theorem dX8_readAll_19 : decode cX8_readAll 19 = .ok (.bipush 38, 2) := by decide +kernel
theorem dX8_readAll_21 : decode cX8_readAll 21 = .ok (.invokevirtual 39, 3) := by decide +kernel
theorem dX8_readAll_24 : decode cX8_readAll 24 = .ok (.ifCond .eq 33, 3) := by decide +kernel
theorem dX8_readAll_27 : decode cX8_readAll 27 = .ok (.aload_n 0, 1) := by decide +kernel
theorem dX8_readAll_28 : decode cX8_readAll 28 = .ok (.iload_n 1, 1) := by decide +kernel
theorem dX8_readAll_29 : decode cX8_readAll 29 = .ok (.invokevirtual 63, 3) := by decide +kernel
theorem dX8_readAll_32 : decode cX8_readAll 32 = .ok (.ifCond .eq 17, 3) := by decide +kernel
theorem dX8_readAll_35 : decode cX8_readAll 35 = .ok (.aload_n 0, 1) := by decide +kernel
theorem dX8_readAll_36 : decode cX8_readAll 36 = .ok (.bipush 38, 2) := by decide +kernel
theorem dX8_readAll_38 : decode cX8_readAll 38 = .ok (.iconst 0, 1) := by decide +kernel
theorem dX8_readAll_39 : decode cX8_readAll 39 = .ok (.invokevirtual 56, 3) := by decide +kernel
theorem dX8_readAll_42 : decode cX8_readAll 42 = .ok (.ifCond .eq 7, 3) := by decide +kernel
theorem dX8_readAll_45 : decode cX8_readAll 45 = .ok (.iconst 1, 1) := by decide +kernel
theorem dX8_readAll_46 : decode cX8_readAll 46 = .ok (.goto 4, 3) := by decide +kernel
theorem dX8_readAll_49 : decode cX8_readAll 49 = .ok (.iconst 0, 1) := by decide +kernel
theorem dX8_readAll_50 : decode cX8_readAll 50 = .ok (.istore_n 2, 1) := by decide +kernel
theorem dX8_readAll_51 : decode cX8_readAll 51 = .ok (.iinc 3 1, 3) := by decide +kernel
theorem dX8_readAll_54 : decode cX8_readAll 54 = .ok (.goto (-46), 3) := by decide +kernel
theorem dX8_readAll_57 : decode cX8_readAll 57 = .ok (.iload_n 2, 1) := by decide +kernel
theorem dX8_readAll_58 : decode cX8_readAll 58 = .ok (.ireturn, 1) := by decide +kernel
theorem dX8_readFact_0 : decode cX8_readFact 0 = .ok (.aload_n 0, 1) := by decide +kernel
theorem dX8_readFact_1 : decode cX8_readFact 1 = .ok (.invokevirtual 49, 3) := by decide +kernel
theorem dX8_readFact_4 : decode cX8_readFact 4 = .ok (.istore_n 2, 1) := by decide +kernel
theorem dX8_readFact_5 : decode cX8_readFact 5 = .ok (.iload_n 2, 1) := by decide +kernel
theorem dX8_readFact_6 : decode cX8_readFact 6 = .ok (.lookupswitch 232 #[(33, 66), (40, 107), (103, 147), (104, 178), (109, 147), (112, 147), (115, 147)], 66) := by decide +kernel
theorem dX8_readFact_72 : decode cX8_readFact 72 = .ok (.iload_n 1, 1) := by decide +kernel
theorem dX8_readFact_73 : decode cX8_readFact 73 = .ok (.bipush 6, 2) := by decide +kernel
theorem dX8_readFact_75 : decode cX8_readFact 75 = .ok (.if_icmp .ge 36, 3) := by decide +kernel
theorem dX8_readFact_78 : decode cX8_readFact 78 = .ok (.aload_n 0, 1) := by decide +kernel
theorem dX8_readFact_79 : decode cX8_readFact 79 = .ok (.bipush 33, 2) := by decide +kernel
theorem dX8_readFact_81 : decode cX8_readFact 81 = .ok (.invokevirtual 39, 3) := by decide +kernel
theorem dX8_readFact_84 : decode cX8_readFact 84 = .ok (.ifCond .eq 27, 3) := by decide +kernel
theorem dX8_readFact_87 : decode cX8_readFact 87 = .ok (.aload_n 0, 1) := by decide +kernel
theorem dX8_readFact_88 : decode cX8_readFact 88 = .ok (.iload_n 1, 1) := by decide +kernel
theorem dX8_readFact_89 : decode cX8_readFact 89 = .ok (.iconst 1, 1) := by decide +kernel
theorem dX8_readFact_90 : decode cX8_readFact 90 = .ok (.iadd, 1) := by decide +kernel
theorem dX8_readFact_91 : decode cX8_readFact 91 = .ok (.invokevirtual 63, 3) := by decide +kernel
theorem dX8_readFact_94 : decode cX8_readFact 94 = .ok (.ifCond .eq 17, 3) := by decide +kernel
theorem dX8_readFact_97 : decode cX8_readFact 97 = .ok (.aload_n 0, 1) := by decide +kernel
theorem dX8_readFact_98 : decode cX8_readFact 98 = .ok (.bipush 33, 2) := by decide +kernel
theorem dX8_readFact_100 : decode cX8_readFact 100 = .ok (.iconst 0, 1) := by decide +kernel
theorem dX8_readFact_101 : decode cX8_readFact 101 = .ok (.invokevirtual 56, 3) := by decide +kernel
theorem dX8_readFact_104 : decode cX8_readFact 104 = .ok (.ifCond .eq 7, 3) := by decide +kernel
theorem dX8_readFact_107 : decode cX8_readFact 107 = .ok (.iconst 1, 1) := by decide +kernel
theorem dX8_readFact_108 : decode cX8_readFact 108 = .ok (.goto 4, 3) := by decide +kernel
theorem dX8_readFact_111 : decode cX8_readFact 111 = .ok (.iconst 0, 1) := by decide +kernel
theorem dX8_readFact_112 : decode cX8_readFact 112 = .ok (.ireturn, 1) := by decide +kernel
theorem dX8_readFact_113 : decode cX8_readFact 113 = .ok (.iload_n 1, 1) := by decide +kernel
theorem dX8_readFact_114 : decode cX8_readFact 114 = .ok (.bipush 6, 2) := by decide +kernel
theorem dX8_readFact_116 : decode cX8_readFact 116 = .ok (.if_icmp .ge 35, 3) := by decide +kernel
theorem dX8_readFact_119 : decode cX8_readFact 119 = .ok (.aload_n 0, 1) := by decide +kernel
theorem dX8_readFact_120 : decode cX8_readFact 120 = .ok (.bipush 40, 2) := by decide +kernel
theorem dX8_readFact_122 : decode cX8_readFact 122 = .ok (.invokevirtual 39, 3) := by decide +kernel
theorem dX8_readFact_125 : decode cX8_readFact 125 = .ok (.ifCond .eq 26, 3) := by decide +kernel
theorem dX8_readFact_128 : decode cX8_readFact 128 = .ok (.aload_n 0, 1) := by decide +kernel
theorem dX8_readFact_129 : decode cX8_readFact 129 = .ok (.iload_n 1, 1) := by decide +kernel
theorem dX8_readFact_130 : decode cX8_readFact 130 = .ok (.iconst 1, 1) := by decide +kernel
theorem dX8_readFact_131 : decode cX8_readFact 131 = .ok (.iadd, 1) := by decide +kernel
theorem dX8_readFact_132 : decode cX8_readFact 132 = .ok (.invokevirtual 53, 3) := by decide +kernel
theorem dX8_readFact_135 : decode cX8_readFact 135 = .ok (.ifCond .eq 16, 3) := by decide +kernel
theorem dX8_readFact_138 : decode cX8_readFact 138 = .ok (.aload_n 0, 1) := by decide +kernel
theorem dX8_readFact_139 : decode cX8_readFact 139 = .ok (.bipush 41, 2) := by decide +kernel
theorem dX8_readFact_141 : decode cX8_readFact 141 = .ok (.invokevirtual 39, 3) := by decide +kernel
theorem dX8_readFact_144 : decode cX8_readFact 144 = .ok (.ifCond .eq 7, 3) := by decide +kernel
theorem dX8_readFact_147 : decode cX8_readFact 147 = .ok (.iconst 1, 1) := by decide +kernel
theorem dX8_readFact_148 : decode cX8_readFact 148 = .ok (.goto 4, 3) := by decide +kernel
theorem dX8_readFact_151 : decode cX8_readFact 151 = .ok (.iconst 0, 1) := by decide +kernel
theorem dX8_readFact_152 : decode cX8_readFact 152 = .ok (.ireturn, 1) := by decide +kernel
theorem dX8_readFact_153 : decode cX8_readFact 153 = .ok (.aload_n 0, 1) := by decide +kernel
theorem dX8_readFact_154 : decode cX8_readFact 154 = .ok (.iload_n 2, 1) := by decide +kernel
theorem dX8_readFact_155 : decode cX8_readFact 155 = .ok (.invokevirtual 39, 3) := by decide +kernel
theorem dX8_readFact_158 : decode cX8_readFact 158 = .ok (.ifCond .eq 24, 3) := by decide +kernel
theorem dX8_readFact_161 : decode cX8_readFact 161 = .ok (.aload_n 0, 1) := by decide +kernel
theorem dX8_readFact_162 : decode cX8_readFact 162 = .ok (.bipush 61, 2) := by decide +kernel
theorem dX8_readFact_164 : decode cX8_readFact 164 = .ok (.invokevirtual 39, 3) := by decide +kernel
theorem dX8_readFact_167 : decode cX8_readFact 167 = .ok (.ifCond .eq 15, 3) := by decide +kernel
theorem dX8_readFact_170 : decode cX8_readFact 170 = .ok (.aload_n 0, 1) := by decide +kernel
theorem dX8_readFact_171 : decode cX8_readFact 171 = .ok (.iload_n 2, 1) := by decide +kernel
theorem dX8_readFact_172 : decode cX8_readFact 172 = .ok (.invokevirtual 66, 3) := by decide +kernel
theorem dX8_readFact_175 : decode cX8_readFact 175 = .ok (.ifCond .eq 7, 3) := by decide +kernel
theorem dX8_readFact_178 : decode cX8_readFact 178 = .ok (.iconst 1, 1) := by decide +kernel
theorem dX8_readFact_179 : decode cX8_readFact 179 = .ok (.goto 4, 3) := by decide +kernel
theorem dX8_readFact_182 : decode cX8_readFact 182 = .ok (.iconst 0, 1) := by decide +kernel
theorem dX8_readFact_183 : decode cX8_readFact 183 = .ok (.ireturn, 1) := by decide +kernel
theorem dX8_readFact_184 : decode cX8_readFact 184 = .ok (.aload_n 0, 1) := by decide +kernel
theorem dX8_readFact_185 : decode cX8_readFact 185 = .ok (.bipush 104, 2) := by decide +kernel
theorem dX8_readFact_187 : decode cX8_readFact 187 = .ok (.invokevirtual 39, 3) := by decide +kernel
theorem dX8_readFact_190 : decode cX8_readFact 190 = .ok (.ifCond .eq 46, 3) := by decide +kernel
theorem dX8_readFact_193 : decode cX8_readFact 193 = .ok (.aload_n 0, 1) := by decide +kernel
theorem dX8_readFact_194 : decode cX8_readFact 194 = .ok (.bipush 60, 2) := by decide +kernel
theorem dX8_readFact_196 : decode cX8_readFact 196 = .ok (.invokevirtual 39, 3) := by decide +kernel
theorem dX8_readFact_199 : decode cX8_readFact 199 = .ok (.ifCond .eq 15, 3) := by decide +kernel
theorem dX8_readFact_202 : decode cX8_readFact 202 = .ok (.aload_n 0, 1) := by decide +kernel
theorem dX8_readFact_203 : decode cX8_readFact 203 = .ok (.bipush 60, 2) := by decide +kernel
theorem dX8_readFact_205 : decode cX8_readFact 205 = .ok (.invokevirtual 66, 3) := by decide +kernel
theorem dX8_readFact_208 : decode cX8_readFact 208 = .ok (.ifCond .eq 28, 3) := by decide +kernel
theorem dX8_readFact_211 : decode cX8_readFact 211 = .ok (.goto 21, 3) := by decide +kernel
theorem dX8_readFact_214 : decode cX8_readFact 214 = .ok (.aload_n 0, 1) := by decide +kernel
theorem dX8_readFact_215 : decode cX8_readFact 215 = .ok (.bipush 62, 2) := by decide +kernel
theorem dX8_readFact_217 : decode cX8_readFact 217 = .ok (.invokevirtual 39, 3) := by decide +kernel
theorem dX8_readFact_220 : decode cX8_readFact 220 = .ok (.ifCond .eq 16, 3) := by decide +kernel
theorem dX8_readFact_223 : decode cX8_readFact 223 = .ok (.aload_n 0, 1) := by decide +kernel
theorem dX8_readFact_224 : decode cX8_readFact 224 = .ok (.bipush 62, 2) := by decide +kernel
theorem dX8_readFact_226 : decode cX8_readFact 226 = .ok (.invokevirtual 66, 3) := by decide +kernel
theorem dX8_readFact_229 : decode cX8_readFact 229 = .ok (.ifCond .eq 7, 3) := by decide +kernel
theorem dX8_readFact_232 : decode cX8_readFact 232 = .ok (.iconst 1, 1) := by decide +kernel
theorem dX8_readFact_233 : decode cX8_readFact 233 = .ok (.goto 4, 3) := by decide +kernel
theorem dX8_readFact_236 : decode cX8_readFact 236 = .ok (.iconst 0, 1) := by decide +kernel
theorem dX8_readFact_237 : decode cX8_readFact 237 = .ok (.ireturn, 1) := by decide +kernel
theorem dX8_readFact_238 : decode cX8_readFact 238 = .ok (.iconst 0, 1) := by decide +kernel
theorem dX8_readFact_239 : decode cX8_readFact 239 = .ok (.ireturn, 1) := by decide +kernel
theorem dX8_readNumber_0 : decode cX8_readNumber 0 = .ok (.aload_n 0, 1) := by decide +kernel
theorem dX8_readNumber_1 : decode cX8_readNumber 1 = .ok (.invokevirtual 49, 3) := by decide +kernel
theorem dX8_readNumber_4 : decode cX8_readNumber 4 = .ok (.istore_n 2, 1) := by decide +kernel
theorem dX8_readNumber_5 : decode cX8_readNumber 5 = .ok (.iload_n 2, 1) := by decide +kernel
theorem dX8_readNumber_6 : decode cX8_readNumber 6 = .ok (.bipush 48, 2) := by decide +kernel
theorem dX8_readNumber_8 : decode cX8_readNumber 8 = .ok (.if_icmp .lt 9, 3) := by decide +kernel
theorem dX8_readNumber_11 : decode cX8_readNumber 11 = .ok (.iload_n 2, 1) := by decide +kernel
theorem dX8_readNumber_12 : decode cX8_readNumber 12 = .ok (.bipush 57, 2) := by decide +kernel
theorem dX8_readNumber_14 : decode cX8_readNumber 14 = .ok (.if_icmp .le 5, 3) := by decide +kernel
theorem dX8_readNumber_17 : decode cX8_readNumber 17 = .ok (.iconst 0, 1) := by decide +kernel
theorem dX8_readNumber_18 : decode cX8_readNumber 18 = .ok (.ireturn, 1) := by decide +kernel
theorem dX8_readNumber_19 : decode cX8_readNumber 19 = .ok (.aload_n 0, 1) := by decide +kernel
theorem dX8_readNumber_20 : decode cX8_readNumber 20 = .ok (.dup, 1) := by decide +kernel
theorem dX8_readNumber_21 : decode cX8_readNumber 21 = .ok (.getfield 29, 3) := by decide +kernel
theorem dX8_readNumber_24 : decode cX8_readNumber 24 = .ok (.iconst 1, 1) := by decide +kernel
theorem dX8_readNumber_25 : decode cX8_readNumber 25 = .ok (.iadd, 1) := by decide +kernel
theorem dX8_readNumber_26 : decode cX8_readNumber 26 = .ok (.putfield 29, 3) := by decide +kernel
theorem dX8_readNumber_29 : decode cX8_readNumber 29 = .ok (.iload_n 2, 1) := by decide +kernel
theorem dX8_readNumber_30 : decode cX8_readNumber 30 = .ok (.bipush 48, 2) := by decide +kernel
theorem dX8_readNumber_32 : decode cX8_readNumber 32 = .ok (.isub, 1) := by decide +kernel
theorem dX8_readNumber_33 : decode cX8_readNumber 33 = .ok (.istore_n 3, 1) := by decide +kernel
theorem dX8_readNumber_34 : decode cX8_readNumber 34 = .ok (.aload_n 0, 1) := by decide +kernel
theorem dX8_readNumber_35 : decode cX8_readNumber 35 = .ok (.invokevirtual 49, 3) := by decide +kernel
theorem dX8_readNumber_38 : decode cX8_readNumber 38 = .ok (.istore 4, 2) := by decide +kernel
theorem dX8_readNumber_40 : decode cX8_readNumber 40 = .ok (.iload_n 3, 1) := by decide +kernel
theorem dX8_readNumber_41 : decode cX8_readNumber 41 = .ok (.ifCond .eq 38, 3) := by decide +kernel
theorem dX8_readNumber_44 : decode cX8_readNumber 44 = .ok (.iload 4, 2) := by decide +kernel
theorem dX8_readNumber_46 : decode cX8_readNumber 46 = .ok (.bipush 48, 2) := by decide +kernel
theorem dX8_readNumber_48 : decode cX8_readNumber 48 = .ok (.if_icmp .lt 31, 3) := by decide +kernel
theorem dX8_readNumber_51 : decode cX8_readNumber 51 = .ok (.iload 4, 2) := by decide +kernel
theorem dX8_readNumber_53 : decode cX8_readNumber 53 = .ok (.bipush 57, 2) := by decide +kernel
theorem dX8_readNumber_55 : decode cX8_readNumber 55 = .ok (.if_icmp .gt 24, 3) := by decide +kernel
theorem dX8_readNumber_58 : decode cX8_readNumber 58 = .ok (.aload_n 0, 1) := by decide +kernel
theorem dX8_readNumber_59 : decode cX8_readNumber 59 = .ok (.dup, 1) := by decide +kernel
theorem dX8_readNumber_60 : decode cX8_readNumber 60 = .ok (.getfield 29, 3) := by decide +kernel
theorem dX8_readNumber_63 : decode cX8_readNumber 63 = .ok (.iconst 1, 1) := by decide +kernel
theorem dX8_readNumber_64 : decode cX8_readNumber 64 = .ok (.iadd, 1) := by decide +kernel
theorem dX8_readNumber_65 : decode cX8_readNumber 65 = .ok (.putfield 29, 3) := by decide +kernel
theorem dX8_readNumber_68 : decode cX8_readNumber 68 = .ok (.iload_n 3, 1) := by decide +kernel
theorem dX8_readNumber_69 : decode cX8_readNumber 69 = .ok (.bipush 10, 2) := by decide +kernel
theorem dX8_readNumber_71 : decode cX8_readNumber 71 = .ok (.imul, 1) := by decide +kernel
theorem dX8_readNumber_72 : decode cX8_readNumber 72 = .ok (.iload 4, 2) := by decide +kernel
theorem dX8_readNumber_74 : decode cX8_readNumber 74 = .ok (.iadd, 1) := by decide +kernel
theorem dX8_readNumber_75 : decode cX8_readNumber 75 = .ok (.bipush 48, 2) := by decide +kernel
theorem dX8_readNumber_77 : decode cX8_readNumber 77 = .ok (.isub, 1) := by decide +kernel
theorem dX8_readNumber_78 : decode cX8_readNumber 78 = .ok (.istore_n 3, 1) := by decide +kernel
theorem dX8_readNumber_79 : decode cX8_readNumber 79 = .ok (.aload_n 0, 1) := by decide +kernel
theorem dX8_readNumber_80 : decode cX8_readNumber 80 = .ok (.iload_n 1, 1) := by decide +kernel
theorem dX8_readNumber_81 : decode cX8_readNumber 81 = .ok (.iload_n 3, 1) := by decide +kernel
theorem dX8_readNumber_82 : decode cX8_readNumber 82 = .ok (.invokevirtual 56, 3) := by decide +kernel
theorem dX8_readNumber_85 : decode cX8_readNumber 85 = .ok (.ireturn, 1) := by decide +kernel
theorem dX8_peek_0 : decode cX8_peek 0 = .ok (.aload_n 0, 1) := by decide +kernel
theorem dX8_peek_1 : decode cX8_peek 1 = .ok (.getfield 29, 3) := by decide +kernel
theorem dX8_peek_4 : decode cX8_peek 4 = .ok (.ifCond .lt 42, 3) := by decide +kernel
theorem dX8_peek_7 : decode cX8_peek 7 = .ok (.aload_n 0, 1) := by decide +kernel
theorem dX8_peek_8 : decode cX8_peek 8 = .ok (.getfield 29, 3) := by decide +kernel
theorem dX8_peek_11 : decode cX8_peek 11 = .ok (.aload_n 0, 1) := by decide +kernel
theorem dX8_peek_12 : decode cX8_peek 12 = .ok (.getfield 26, 3) := by decide +kernel
theorem dX8_peek_15 : decode cX8_peek 15 = .ok (.if_icmp .ge 31, 3) := by decide +kernel
theorem dX8_peek_18 : decode cX8_peek 18 = .ok (.aload_n 0, 1) := by decide +kernel
theorem dX8_peek_19 : decode cX8_peek 19 = .ok (.getfield 29, 3) := by decide +kernel
theorem dX8_peek_22 : decode cX8_peek 22 = .ok (.aload_n 0, 1) := by decide +kernel
theorem dX8_peek_23 : decode cX8_peek 23 = .ok (.getfield 15, 3) := by decide +kernel
theorem dX8_peek_26 : decode cX8_peek 26 = .ok (.arraylength, 1) := by decide +kernel
theorem dX8_peek_27 : decode cX8_peek 27 = .ok (.if_icmp .ge 19, 3) := by decide +kernel
theorem dX8_peek_30 : decode cX8_peek 30 = .ok (.aload_n 0, 1) := by decide +kernel
theorem dX8_peek_31 : decode cX8_peek 31 = .ok (.getfield 15, 3) := by decide +kernel
theorem dX8_peek_34 : decode cX8_peek 34 = .ok (.aload_n 0, 1) := by decide +kernel
theorem dX8_peek_35 : decode cX8_peek 35 = .ok (.getfield 29, 3) := by decide +kernel
theorem dX8_peek_38 : decode cX8_peek 38 = .ok (.baload, 1) := by decide +kernel
theorem dX8_peek_39 : decode cX8_peek 39 = .ok (.sipush 255, 3) := by decide +kernel
theorem dX8_peek_42 : decode cX8_peek 42 = .ok (.iand, 1) := by decide +kernel
theorem dX8_peek_43 : decode cX8_peek 43 = .ok (.goto 4, 3) := by decide +kernel
theorem dX8_peek_46 : decode cX8_peek 46 = .ok (.iconst (-1), 1) := by decide +kernel
theorem dX8_peek_47 : decode cX8_peek 47 = .ok (.ireturn, 1) := by decide +kernel
theorem dX8_skip_0 : decode cX8_skip 0 = .ok (.aload_n 0, 1) := by decide +kernel
theorem dX8_skip_1 : decode cX8_skip 1 = .ok (.invokevirtual 49, 3) := by decide +kernel
theorem dX8_skip_4 : decode cX8_skip 4 = .ok (.iload_n 1, 1) := by decide +kernel
theorem dX8_skip_5 : decode cX8_skip 5 = .ok (.if_icmp .eq 5, 3) := by decide +kernel
theorem dX8_skip_8 : decode cX8_skip 8 = .ok (.iconst 0, 1) := by decide +kernel
theorem dX8_skip_9 : decode cX8_skip 9 = .ok (.ireturn, 1) := by decide +kernel
theorem dX8_skip_10 : decode cX8_skip 10 = .ok (.aload_n 0, 1) := by decide +kernel
theorem dX8_skip_11 : decode cX8_skip 11 = .ok (.dup, 1) := by decide +kernel
theorem dX8_skip_12 : decode cX8_skip 12 = .ok (.getfield 29, 3) := by decide +kernel
theorem dX8_skip_15 : decode cX8_skip 15 = .ok (.iconst 1, 1) := by decide +kernel
theorem dX8_skip_16 : decode cX8_skip 16 = .ok (.iadd, 1) := by decide +kernel
theorem dX8_skip_17 : decode cX8_skip 17 = .ok (.putfield 29, 3) := by decide +kernel
theorem dX8_skip_20 : decode cX8_skip 20 = .ok (.iconst 1, 1) := by decide +kernel
theorem dX8_skip_21 : decode cX8_skip 21 = .ok (.ireturn, 1) := by decide +kernel
theorem dX8_write_0 : decode cX8_write 0 = .ok (.aload_n 0, 1) := by decide +kernel
theorem dX8_write_1 : decode cX8_write 1 = .ok (.getfield 32, 3) := by decide +kernel
theorem dX8_write_4 : decode cX8_write 4 = .ok (.aload_n 0, 1) := by decide +kernel
theorem dX8_write_5 : decode cX8_write 5 = .ok (.getfield 9, 3) := by decide +kernel
theorem dX8_write_8 : decode cX8_write 8 = .ok (.arraylength, 1) := by decide +kernel
theorem dX8_write_9 : decode cX8_write 9 = .ok (.if_icmp .lt 5, 3) := by decide +kernel
theorem dX8_write_12 : decode cX8_write 12 = .ok (.iconst 0, 1) := by decide +kernel
theorem dX8_write_13 : decode cX8_write 13 = .ok (.ireturn, 1) := by decide +kernel
theorem dX8_write_14 : decode cX8_write 14 = .ok (.aload_n 0, 1) := by decide +kernel
theorem dX8_write_15 : decode cX8_write 15 = .ok (.getfield 9, 3) := by decide +kernel
theorem dX8_write_18 : decode cX8_write 18 = .ok (.aload_n 0, 1) := by decide +kernel
theorem dX8_write_19 : decode cX8_write 19 = .ok (.getfield 32, 3) := by decide +kernel
theorem dX8_write_22 : decode cX8_write 22 = .ok (.iload_n 1, 1) := by decide +kernel
theorem dX8_write_23 : decode cX8_write 23 = .ok (.bipush 8, 2) := by decide +kernel
theorem dX8_write_25 : decode cX8_write 25 = .ok (.ishl, 1) := by decide +kernel
theorem dX8_write_26 : decode cX8_write 26 = .ok (.iload_n 2, 1) := by decide +kernel
theorem dX8_write_27 : decode cX8_write 27 = .ok (.ior, 1) := by decide +kernel
theorem dX8_write_28 : decode cX8_write 28 = .ok (.iastore, 1) := by decide +kernel
theorem dX8_write_29 : decode cX8_write 29 = .ok (.aload_n 0, 1) := by decide +kernel
theorem dX8_write_30 : decode cX8_write 30 = .ok (.dup, 1) := by decide +kernel
theorem dX8_write_31 : decode cX8_write 31 = .ok (.getfield 32, 3) := by decide +kernel
theorem dX8_write_34 : decode cX8_write 34 = .ok (.iconst 1, 1) := by decide +kernel
theorem dX8_write_35 : decode cX8_write 35 = .ok (.iadd, 1) := by decide +kernel
theorem dX8_write_36 : decode cX8_write 36 = .ok (.putfield 32, 3) := by decide +kernel
theorem dX8_write_39 : decode cX8_write 39 = .ok (.iconst 1, 1) := by decide +kernel
theorem dX8_write_40 : decode cX8_write 40 = .ok (.ireturn, 1) := by decide +kernel
theorem dX9_init_0 : decode cX9_init 0 = .ok (.aload_n 0, 1) := by decide +kernel
theorem dX9_init_1 : decode cX9_init 1 = .ok (.invokespecial 3, 3) := by decide +kernel
theorem dX9_init_4 : decode cX9_init 4 = .ok (.aload_n 0, 1) := by decide +kernel
theorem dX9_init_5 : decode cX9_init 5 = .ok (.iload_n 1, 1) := by decide +kernel
theorem dX9_init_6 : decode cX9_init 6 = .ok (.putfield 9, 3) := by decide +kernel
theorem dX9_init_9 : decode cX9_init 9 = .ok (.aload_n 0, 1) := by decide +kernel
theorem dX9_init_10 : decode cX9_init 10 = .ok (.iload_n 2, 1) := by decide +kernel
theorem dX9_init_11 : decode cX9_init 11 = .ok (.putfield 15, 3) := by decide +kernel
theorem dX9_init_14 : decode cX9_init 14 = .ok (.aload_n 0, 1) := by decide +kernel
theorem dX9_init_15 : decode cX9_init 15 = .ok (.iload_n 3, 1) := by decide +kernel
theorem dX9_init_16 : decode cX9_init 16 = .ok (.putfield 18, 3) := by decide +kernel
theorem dX9_init_19 : decode cX9_init 19 = .ok (.aload_n 0, 1) := by decide +kernel
theorem dX9_init_20 : decode cX9_init 20 = .ok (.iload 4, 2) := by decide +kernel
theorem dX9_init_22 : decode cX9_init 22 = .ok (.putfield 21, 3) := by decide +kernel
theorem dX9_init_25 : decode cX9_init 25 = .ok (.return_, 1) := by decide +kernel
theorem dX9_overrules_0 : decode cX9_overrules 0 = .ok (.aload_n 0, 1) := by decide +kernel
theorem dX9_overrules_1 : decode cX9_overrules 1 = .ok (.getfield 24, 3) := by decide +kernel
theorem dX9_overrules_4 : decode cX9_overrules 4 = .ok (.bipush 50, 2) := by decide +kernel
theorem dX9_overrules_6 : decode cX9_overrules 6 = .ok (.if_icmp .le 7, 3) := by decide +kernel
theorem dX9_overrules_9 : decode cX9_overrules 9 = .ok (.iconst 1, 1) := by decide +kernel
theorem dX9_overrules_10 : decode cX9_overrules 10 = .ok (.goto 4, 3) := by decide +kernel
theorem dX9_overrules_13 : decode cX9_overrules 13 = .ok (.iconst 0, 1) := by decide +kernel
theorem dX9_overrules_14 : decode cX9_overrules 14 = .ok (.ireturn, 1) := by decide +kernel
theorem dX9_isUnder_0 : decode cX9_isUnder 0 = .ok (.aload_n 0, 1) := by decide +kernel
theorem dX9_isUnder_1 : decode cX9_isUnder 1 = .ok (.getfield 9, 3) := by decide +kernel
theorem dX9_isUnder_4 : decode cX9_isUnder 4 = .ok (.iload_n 1, 1) := by decide +kernel
theorem dX9_isUnder_5 : decode cX9_isUnder 5 = .ok (.if_icmp .eq 28, 3) := by decide +kernel
theorem dX9_isUnder_8 : decode cX9_isUnder 8 = .ok (.aload_n 0, 1) := by decide +kernel
theorem dX9_isUnder_9 : decode cX9_isUnder 9 = .ok (.getfield 9, 3) := by decide +kernel
theorem dX9_isUnder_12 : decode cX9_isUnder 12 = .ok (.invokestatic 27, 3) := by decide +kernel
theorem dX9_isUnder_15 : decode cX9_isUnder 15 = .ok (.iload_n 1, 1) := by decide +kernel
theorem dX9_isUnder_16 : decode cX9_isUnder 16 = .ok (.if_icmp .eq 17, 3) := by decide +kernel
theorem dX9_isUnder_19 : decode cX9_isUnder 19 = .ok (.aload_n 0, 1) := by decide +kernel
theorem dX9_isUnder_20 : decode cX9_isUnder 20 = .ok (.getfield 9, 3) := by decide +kernel
theorem dX9_isUnder_23 : decode cX9_isUnder 23 = .ok (.invokestatic 27, 3) := by decide +kernel
theorem dX9_isUnder_26 : decode cX9_isUnder 26 = .ok (.invokestatic 27, 3) := by decide +kernel
theorem dX9_isUnder_29 : decode cX9_isUnder 29 = .ok (.iload_n 1, 1) := by decide +kernel
theorem dX9_isUnder_30 : decode cX9_isUnder 30 = .ok (.if_icmp .ne 7, 3) := by decide +kernel
theorem dX9_isUnder_33 : decode cX9_isUnder 33 = .ok (.iconst 1, 1) := by decide +kernel
theorem dX9_isUnder_34 : decode cX9_isUnder 34 = .ok (.goto 4, 3) := by decide +kernel
theorem dX9_isUnder_37 : decode cX9_isUnder 37 = .ok (.iconst 0, 1) := by decide +kernel
theorem dX9_isUnder_38 : decode cX9_isUnder 38 = .ok (.ireturn, 1) := by decide +kernel
theorem dX9_perform_0 : decode cX9_perform 0 = .ok (.iload_n 1, 1) := by decide +kernel
theorem dX9_perform_1 : decode cX9_perform 1 = .ok (.tableswitch 57 0 2 #[27, 37, 47], 27) := by decide +kernel
theorem dX9_perform_28 : decode cX9_perform 28 = .ok (.aload_n 0, 1) := by decide +kernel
theorem dX9_perform_29 : decode cX9_perform 29 = .ok (.aload_n 0, 1) := by decide +kernel
theorem dX9_perform_30 : decode cX9_perform 30 = .ok (.getfield 9, 3) := by decide +kernel
theorem dX9_perform_33 : decode cX9_perform 33 = .ok (.iload_n 2, 1) := by decide +kernel
theorem dX9_perform_34 : decode cX9_perform 34 = .ok (.invokevirtual 31, 3) := by decide +kernel
theorem dX9_perform_37 : decode cX9_perform 37 = .ok (.ireturn, 1) := by decide +kernel
theorem dX9_perform_38 : decode cX9_perform 38 = .ok (.aload_n 0, 1) := by decide +kernel
theorem dX9_perform_39 : decode cX9_perform 39 = .ok (.aload_n 0, 1) := by decide +kernel
theorem dX9_perform_40 : decode cX9_perform 40 = .ok (.getfield 9, 3) := by decide +kernel
theorem dX9_perform_43 : decode cX9_perform 43 = .ok (.iload_n 2, 1) := by decide +kernel
theorem dX9_perform_44 : decode cX9_perform 44 = .ok (.invokevirtual 35, 3) := by decide +kernel
theorem dX9_perform_47 : decode cX9_perform 47 = .ok (.ireturn, 1) := by decide +kernel
theorem dX9_perform_48 : decode cX9_perform 48 = .ok (.aload_n 0, 1) := by decide +kernel
theorem dX9_perform_49 : decode cX9_perform 49 = .ok (.aload_n 0, 1) := by decide +kernel
theorem dX9_perform_50 : decode cX9_perform 50 = .ok (.getfield 9, 3) := by decide +kernel
theorem dX9_perform_53 : decode cX9_perform 53 = .ok (.iload_n 2, 1) := by decide +kernel
theorem dX9_perform_54 : decode cX9_perform 54 = .ok (.invokevirtual 38, 3) := by decide +kernel
theorem dX9_perform_57 : decode cX9_perform 57 = .ok (.ireturn, 1) := by decide +kernel
theorem dX9_perform_58 : decode cX9_perform 58 = .ok (.iconst 0, 1) := by decide +kernel
theorem dX9_perform_59 : decode cX9_perform 59 = .ok (.ireturn, 1) := by decide +kernel
theorem dX9_above_0 : decode cX9_above 0 = .ok (.iload_n 0, 1) := by decide +kernel
theorem dX9_above_1 : decode cX9_above 1 = .ok (.ifCond .lt 19, 3) := by decide +kernel
theorem dX9_above_4 : decode cX9_above 4 = .ok (.iload_n 0, 1) := by decide +kernel
theorem dX9_above_5 : decode cX9_above 5 = .ok (.getstatic 41, 3) := by decide +kernel
theorem dX9_above_8 : decode cX9_above 8 = .ok (.arraylength, 1) := by decide +kernel
theorem dX9_above_9 : decode cX9_above 9 = .ok (.if_icmp .ge 11, 3) := by decide +kernel
theorem dX9_above_12 : decode cX9_above 12 = .ok (.getstatic 41, 3) := by decide +kernel
theorem dX9_above_15 : decode cX9_above 15 = .ok (.iload_n 0, 1) := by decide +kernel
theorem dX9_above_16 : decode cX9_above 16 = .ok (.iaload, 1) := by decide +kernel
theorem dX9_above_17 : decode cX9_above 17 = .ok (.goto 4, 3) := by decide +kernel
theorem dX9_above_20 : decode cX9_above 20 = .ok (.iconst 0, 1) := by decide +kernel
theorem dX9_above_21 : decode cX9_above 21 = .ok (.ireturn, 1) := by decide +kernel
theorem dX9_binds_0 : decode cX9_binds 0 = .ok (.iload_n 1, 1) := by decide +kernel
theorem dX9_binds_1 : decode cX9_binds 1 = .ok (.tableswitch 92 0 7 #[47, 92, 54, 92, 66, 92, 92, 78], 47) := by decide +kernel
theorem dX9_binds_48 : decode cX9_binds 48 = .ok (.iload_n 2, 1) := by decide +kernel
theorem dX9_binds_49 : decode cX9_binds 49 = .ok (.aload_n 0, 1) := by decide +kernel
theorem dX9_binds_50 : decode cX9_binds 50 = .ok (.getfield 21, 3) := by decide +kernel
theorem dX9_binds_53 : decode cX9_binds 53 = .ok (.iadd, 1) := by decide +kernel
theorem dX9_binds_54 : decode cX9_binds 54 = .ok (.ireturn, 1) := by decide +kernel
theorem dX9_binds_55 : decode cX9_binds 55 = .ok (.aload_n 0, 1) := by decide +kernel
theorem dX9_binds_56 : decode cX9_binds 56 = .ok (.iconst 2, 1) := by decide +kernel
theorem dX9_binds_57 : decode cX9_binds 57 = .ok (.invokestatic 27, 3) := by decide +kernel
theorem dX9_binds_60 : decode cX9_binds 60 = .ok (.iload_n 2, 1) := by decide +kernel
theorem dX9_binds_61 : decode cX9_binds 61 = .ok (.invokevirtual 31, 3) := by decide +kernel
theorem dX9_binds_64 : decode cX9_binds 64 = .ok (.iconst 3, 1) := by decide +kernel
theorem dX9_binds_65 : decode cX9_binds 65 = .ok (.imul, 1) := by decide +kernel
theorem dX9_binds_66 : decode cX9_binds 66 = .ok (.ireturn, 1) := by decide +kernel
theorem dX9_binds_67 : decode cX9_binds 67 = .ok (.aload_n 0, 1) := by decide +kernel
theorem dX9_binds_68 : decode cX9_binds 68 = .ok (.iconst 4, 1) := by decide +kernel
theorem dX9_binds_69 : decode cX9_binds 69 = .ok (.invokestatic 27, 3) := by decide +kernel
theorem dX9_binds_72 : decode cX9_binds 72 = .ok (.iload_n 2, 1) := by decide +kernel
theorem dX9_binds_73 : decode cX9_binds 73 = .ok (.iconst 5, 1) := by decide +kernel
theorem dX9_binds_74 : decode cX9_binds 74 = .ok (.iadd, 1) := by decide +kernel
theorem dX9_binds_75 : decode cX9_binds 75 = .ok (.invokevirtual 31, 3) := by decide +kernel
theorem dX9_binds_78 : decode cX9_binds 78 = .ok (.ireturn, 1) := by decide +kernel
theorem dX9_binds_79 : decode cX9_binds 79 = .ok (.aload_n 0, 1) := by decide +kernel
theorem dX9_binds_80 : decode cX9_binds 80 = .ok (.bipush 7, 2) := by decide +kernel
theorem dX9_binds_82 : decode cX9_binds 82 = .ok (.invokestatic 27, 3) := by decide +kernel
theorem dX9_binds_85 : decode cX9_binds 85 = .ok (.iload_n 2, 1) := by decide +kernel
theorem dX9_binds_86 : decode cX9_binds 86 = .ok (.invokevirtual 31, 3) := by decide +kernel
theorem dX9_binds_89 : decode cX9_binds 89 = .ok (.bipush 9, 2) := by decide +kernel
theorem dX9_binds_91 : decode cX9_binds 91 = .ok (.ixor, 1) := by decide +kernel
theorem dX9_binds_92 : decode cX9_binds 92 = .ok (.ireturn, 1) := by decide +kernel
theorem dX9_binds_93 : decode cX9_binds 93 = .ok (.aload_n 0, 1) := by decide +kernel
theorem dX9_binds_94 : decode cX9_binds 94 = .ok (.iload_n 1, 1) := by decide +kernel
theorem dX9_binds_95 : decode cX9_binds 95 = .ok (.invokestatic 27, 3) := by decide +kernel
theorem dX9_binds_98 : decode cX9_binds 98 = .ok (.iload_n 2, 1) := by decide +kernel
theorem dX9_binds_99 : decode cX9_binds 99 = .ok (.invokevirtual 31, 3) := by decide +kernel
theorem dX9_binds_102 : decode cX9_binds 102 = .ok (.ireturn, 1) := by decide +kernel
theorem dX9_gives_0 : decode cX9_gives 0 = .ok (.iload_n 1, 1) := by decide +kernel
theorem dX9_gives_1 : decode cX9_gives 1 = .ok (.lookupswitch 76 #[(0, 35), (1, 50), (5, 65)], 35) := by decide +kernel
theorem dX9_gives_36 : decode cX9_gives 36 = .ok (.aload_n 0, 1) := by decide +kernel
theorem dX9_gives_37 : decode cX9_gives 37 = .ok (.aload_n 0, 1) := by decide +kernel
theorem dX9_gives_38 : decode cX9_gives 38 = .ok (.getfield 9, 3) := by decide +kernel
theorem dX9_gives_41 : decode cX9_gives 41 = .ok (.iload_n 2, 1) := by decide +kernel
theorem dX9_gives_42 : decode cX9_gives 42 = .ok (.invokevirtual 31, 3) := by decide +kernel
theorem dX9_gives_45 : decode cX9_gives 45 = .ok (.aload_n 0, 1) := by decide +kernel
theorem dX9_gives_46 : decode cX9_gives 46 = .ok (.getfield 18, 3) := by decide +kernel
theorem dX9_gives_49 : decode cX9_gives 49 = .ok (.isub, 1) := by decide +kernel
theorem dX9_gives_50 : decode cX9_gives 50 = .ok (.ireturn, 1) := by decide +kernel
theorem dX9_gives_51 : decode cX9_gives 51 = .ok (.aload_n 0, 1) := by decide +kernel
theorem dX9_gives_52 : decode cX9_gives 52 = .ok (.iconst 1, 1) := by decide +kernel
theorem dX9_gives_53 : decode cX9_gives 53 = .ok (.invokestatic 27, 3) := by decide +kernel
theorem dX9_gives_56 : decode cX9_gives 56 = .ok (.iload_n 2, 1) := by decide +kernel
theorem dX9_gives_57 : decode cX9_gives 57 = .ok (.invokevirtual 35, 3) := by decide +kernel
theorem dX9_gives_60 : decode cX9_gives 60 = .ok (.aload_n 0, 1) := by decide +kernel
theorem dX9_gives_61 : decode cX9_gives 61 = .ok (.getfield 15, 3) := by decide +kernel
theorem dX9_gives_64 : decode cX9_gives 64 = .ok (.ixor, 1) := by decide +kernel
theorem dX9_gives_65 : decode cX9_gives 65 = .ok (.ireturn, 1) := by decide +kernel
theorem dX9_gives_66 : decode cX9_gives 66 = .ok (.aload_n 0, 1) := by decide +kernel
theorem dX9_gives_67 : decode cX9_gives 67 = .ok (.iconst 5, 1) := by decide +kernel
theorem dX9_gives_68 : decode cX9_gives 68 = .ok (.invokestatic 27, 3) := by decide +kernel
theorem dX9_gives_71 : decode cX9_gives 71 = .ok (.iload_n 2, 1) := by decide +kernel
theorem dX9_gives_72 : decode cX9_gives 72 = .ok (.invokevirtual 35, 3) := by decide +kernel
theorem dX9_gives_75 : decode cX9_gives 75 = .ok (.ineg, 1) := by decide +kernel
theorem dX9_gives_76 : decode cX9_gives 76 = .ok (.ireturn, 1) := by decide +kernel
theorem dX9_gives_77 : decode cX9_gives 77 = .ok (.aload_n 0, 1) := by decide +kernel
theorem dX9_gives_78 : decode cX9_gives 78 = .ok (.iload_n 1, 1) := by decide +kernel
theorem dX9_gives_79 : decode cX9_gives 79 = .ok (.invokestatic 27, 3) := by decide +kernel
theorem dX9_gives_82 : decode cX9_gives 82 = .ok (.iload_n 2, 1) := by decide +kernel
theorem dX9_gives_83 : decode cX9_gives 83 = .ok (.invokevirtual 35, 3) := by decide +kernel
theorem dX9_gives_86 : decode cX9_gives 86 = .ok (.ireturn, 1) := by decide +kernel
theorem dX9_hangs_0 : decode cX9_hangs 0 = .ok (.iload_n 1, 1) := by decide +kernel
theorem dX9_hangs_1 : decode cX9_hangs 1 = .ok (.tableswitch 113 0 7 #[47, 113, 113, 59, 113, 113, 79, 100], 47) := by decide +kernel
theorem dX9_hangs_48 : decode cX9_hangs 48 = .ok (.aload_n 0, 1) := by decide +kernel
theorem dX9_hangs_49 : decode cX9_hangs 49 = .ok (.aload_n 0, 1) := by decide +kernel
theorem dX9_hangs_50 : decode cX9_hangs 50 = .ok (.getfield 9, 3) := by decide +kernel
theorem dX9_hangs_53 : decode cX9_hangs 53 = .ok (.iload_n 2, 1) := by decide +kernel
theorem dX9_hangs_54 : decode cX9_hangs 54 = .ok (.invokevirtual 35, 3) := by decide +kernel
theorem dX9_hangs_57 : decode cX9_hangs 57 = .ok (.iconst 2, 1) := by decide +kernel
theorem dX9_hangs_58 : decode cX9_hangs 58 = .ok (.imul, 1) := by decide +kernel
theorem dX9_hangs_59 : decode cX9_hangs 59 = .ok (.ireturn, 1) := by decide +kernel
theorem dX9_hangs_60 : decode cX9_hangs 60 = .ok (.aload_n 0, 1) := by decide +kernel
theorem dX9_hangs_61 : decode cX9_hangs 61 = .ok (.iconst 3, 1) := by decide +kernel
theorem dX9_hangs_62 : decode cX9_hangs 62 = .ok (.invokestatic 27, 3) := by decide +kernel
theorem dX9_hangs_65 : decode cX9_hangs 65 = .ok (.iload_n 2, 1) := by decide +kernel
theorem dX9_hangs_66 : decode cX9_hangs 66 = .ok (.invokevirtual 38, 3) := by decide +kernel
theorem dX9_hangs_69 : decode cX9_hangs 69 = .ok (.aload_n 0, 1) := by decide +kernel
theorem dX9_hangs_70 : decode cX9_hangs 70 = .ok (.aload_n 0, 1) := by decide +kernel
theorem dX9_hangs_71 : decode cX9_hangs 71 = .ok (.getfield 9, 3) := by decide +kernel
theorem dX9_hangs_74 : decode cX9_hangs 74 = .ok (.iconst 1, 1) := by decide +kernel
theorem dX9_hangs_75 : decode cX9_hangs 75 = .ok (.invokevirtual 35, 3) := by decide +kernel
theorem dX9_hangs_78 : decode cX9_hangs 78 = .ok (.iadd, 1) := by decide +kernel
theorem dX9_hangs_79 : decode cX9_hangs 79 = .ok (.ireturn, 1) := by decide +kernel
theorem dX9_hangs_80 : decode cX9_hangs 80 = .ok (.aload_n 0, 1) := by decide +kernel
theorem dX9_hangs_81 : decode cX9_hangs 81 = .ok (.aload_n 0, 1) := by decide +kernel
theorem dX9_hangs_82 : decode cX9_hangs 82 = .ok (.getfield 9, 3) := by decide +kernel
theorem dX9_hangs_85 : decode cX9_hangs 85 = .ok (.iload_n 2, 1) := by decide +kernel
theorem dX9_hangs_86 : decode cX9_hangs 86 = .ok (.invokevirtual 31, 3) := by decide +kernel
theorem dX9_hangs_89 : decode cX9_hangs 89 = .ok (.aload_n 0, 1) := by decide +kernel
theorem dX9_hangs_90 : decode cX9_hangs 90 = .ok (.bipush 6, 2) := by decide +kernel
theorem dX9_hangs_92 : decode cX9_hangs 92 = .ok (.invokestatic 27, 3) := by decide +kernel
theorem dX9_hangs_95 : decode cX9_hangs 95 = .ok (.iload_n 2, 1) := by decide +kernel
theorem dX9_hangs_96 : decode cX9_hangs 96 = .ok (.invokevirtual 38, 3) := by decide +kernel
theorem dX9_hangs_99 : decode cX9_hangs 99 = .ok (.isub, 1) := by decide +kernel
theorem dX9_hangs_100 : decode cX9_hangs 100 = .ok (.ireturn, 1) := by decide +kernel
theorem dX9_hangs_101 : decode cX9_hangs 101 = .ok (.aload_n 0, 1) := by decide +kernel
theorem dX9_hangs_102 : decode cX9_hangs 102 = .ok (.bipush 7, 2) := by decide +kernel
theorem dX9_hangs_104 : decode cX9_hangs 104 = .ok (.invokestatic 27, 3) := by decide +kernel
theorem dX9_hangs_107 : decode cX9_hangs 107 = .ok (.iload_n 2, 1) := by decide +kernel
theorem dX9_hangs_108 : decode cX9_hangs 108 = .ok (.iconst 1, 1) := by decide +kernel
theorem dX9_hangs_109 : decode cX9_hangs 109 = .ok (.isub, 1) := by decide +kernel
theorem dX9_hangs_110 : decode cX9_hangs 110 = .ok (.invokevirtual 38, 3) := by decide +kernel
theorem dX9_hangs_113 : decode cX9_hangs 113 = .ok (.ireturn, 1) := by decide +kernel
theorem dX9_hangs_114 : decode cX9_hangs 114 = .ok (.aload_n 0, 1) := by decide +kernel
theorem dX9_hangs_115 : decode cX9_hangs 115 = .ok (.iload_n 1, 1) := by decide +kernel
theorem dX9_hangs_116 : decode cX9_hangs 116 = .ok (.invokestatic 27, 3) := by decide +kernel
theorem dX9_hangs_119 : decode cX9_hangs 119 = .ok (.iload_n 2, 1) := by decide +kernel
theorem dX9_hangs_120 : decode cX9_hangs 120 = .ok (.invokevirtual 38, 3) := by decide +kernel
theorem dX9_hangs_123 : decode cX9_hangs 123 = .ok (.ireturn, 1) := by decide +kernel
theorem dX10_init_0 : decode cX10_init 0 = .ok (.aload_n 0, 1) := by decide +kernel
theorem dX10_init_1 : decode cX10_init 1 = .ok (.invokespecial 1, 3) := by decide +kernel
theorem dX10_init_4 : decode cX10_init 4 = .ok (.aload_n 0, 1) := by decide +kernel
theorem dX10_init_5 : decode cX10_init 5 = .ok (.iload_n 1, 1) := by decide +kernel
theorem dX10_init_6 : decode cX10_init 6 = .ok (.putfield 7, 3) := by decide +kernel
theorem dX10_init_9 : decode cX10_init 9 = .ok (.aload_n 0, 1) := by decide +kernel
theorem dX10_init_10 : decode cX10_init 10 = .ok (.iload_n 2, 1) := by decide +kernel
theorem dX10_init_11 : decode cX10_init 11 = .ok (.putfield 13, 3) := by decide +kernel
theorem dX10_init_14 : decode cX10_init 14 = .ok (.aload_n 0, 1) := by decide +kernel
theorem dX10_init_15 : decode cX10_init 15 = .ok (.iload_n 3, 1) := by decide +kernel
theorem dX10_init_16 : decode cX10_init 16 = .ok (.putfield 16, 3) := by decide +kernel
theorem dX10_init_19 : decode cX10_init 19 = .ok (.aload_n 0, 1) := by decide +kernel
theorem dX10_init_20 : decode cX10_init 20 = .ok (.aload 4, 2) := by decide +kernel
theorem dX10_init_22 : decode cX10_init 22 = .ok (.putfield 19, 3) := by decide +kernel
theorem dX10_init_25 : decode cX10_init 25 = .ok (.return_, 1) := by decide +kernel
theorem dX11_init_0 : decode cX11_init 0 = .ok (.aload_n 0, 1) := by decide +kernel
theorem dX11_init_1 : decode cX11_init 1 = .ok (.invokespecial 3, 3) := by decide +kernel
theorem dX11_init_4 : decode cX11_init 4 = .ok (.aload_n 0, 1) := by decide +kernel
theorem dX11_init_5 : decode cX11_init 5 = .ok (.new 9, 3) := by decide +kernel
theorem dX11_init_8 : decode cX11_init 8 = .ok (.dup, 1) := by decide +kernel
theorem dX11_init_9 : decode cX11_init 9 = .ok (.invokespecial 11, 3) := by decide +kernel
theorem dX11_init_12 : decode cX11_init 12 = .ok (.putfield 12, 3) := by decide +kernel
theorem dX11_init_15 : decode cX11_init 15 = .ok (.aload_n 0, 1) := by decide +kernel
theorem dX11_init_16 : decode cX11_init 16 = .ok (.new 9, 3) := by decide +kernel
theorem dX11_init_19 : decode cX11_init 19 = .ok (.dup, 1) := by decide +kernel
theorem dX11_init_20 : decode cX11_init 20 = .ok (.invokespecial 11, 3) := by decide +kernel
theorem dX11_init_23 : decode cX11_init 23 = .ok (.putfield 16, 3) := by decide +kernel
theorem dX11_init_26 : decode cX11_init 26 = .ok (.aload_n 0, 1) := by decide +kernel
theorem dX11_init_27 : decode cX11_init 27 = .ok (.new 19, 3) := by decide +kernel
theorem dX11_init_30 : decode cX11_init 30 = .ok (.dup, 1) := by decide +kernel
theorem dX11_init_31 : decode cX11_init 31 = .ok (.invokespecial 21, 3) := by decide +kernel
theorem dX11_init_34 : decode cX11_init 34 = .ok (.putfield 22, 3) := by decide +kernel
theorem dX11_init_37 : decode cX11_init 37 = .ok (.aload_n 0, 1) := by decide +kernel
theorem dX11_init_38 : decode cX11_init 38 = .ok (.new 26, 3) := by decide +kernel
theorem dX11_init_41 : decode cX11_init 41 = .ok (.dup, 1) := by decide +kernel
theorem dX11_init_42 : decode cX11_init 42 = .ok (.aload_n 0, 1) := by decide +kernel
theorem dX11_init_43 : decode cX11_init 43 = .ok (.getfield 12, 3) := by decide +kernel
theorem dX11_init_46 : decode cX11_init 46 = .ok (.getfield 28, 3) := by decide +kernel
theorem dX11_init_49 : decode cX11_init 49 = .ok (.aload_n 0, 1) := by decide +kernel
theorem dX11_init_50 : decode cX11_init 50 = .ok (.getfield 12, 3) := by decide +kernel
theorem dX11_init_53 : decode cX11_init 53 = .ok (.getfield 32, 3) := by decide +kernel
theorem dX11_init_56 : decode cX11_init 56 = .ok (.invokespecial 36, 3) := by decide +kernel
theorem dX11_init_59 : decode cX11_init 59 = .ok (.putfield 39, 3) := by decide +kernel
theorem dX11_init_62 : decode cX11_init 62 = .ok (.aload_n 0, 1) := by decide +kernel
theorem dX11_init_63 : decode cX11_init 63 = .ok (.bipush 50, 2) := by decide +kernel
theorem dX11_init_65 : decode cX11_init 65 = .ok (.newarray .int, 2) := by decide +kernel
theorem dX11_init_67 : decode cX11_init 67 = .ok (.putfield 43, 3) := by decide +kernel
theorem dX11_init_70 : decode cX11_init 70 = .ok (.aload_n 0, 1) := by decide +kernel
