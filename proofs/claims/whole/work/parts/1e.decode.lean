theorem dX11_firm_23 : decode cX11_firm 23 = .ok (.ifCond .ne 5, 3) := by decide +kernel
theorem dX11_firm_26 : decode cX11_firm 26 = .ok (.iconst (-1), 1) := by decide +kernel
theorem dX11_firm_27 : decode cX11_firm 27 = .ok (.ireturn, 1) := by decide +kernel
theorem dX11_firm_28 : decode cX11_firm 28 = .ok (.aload_n 0, 1) := by decide +kernel
theorem dX11_firm_29 : decode cX11_firm 29 = .ok (.getfield 12, 3) := by decide +kernel
theorem dX11_firm_32 : decode cX11_firm 32 = .ok (.getfield 58, 3) := by decide +kernel
theorem dX11_firm_35 : decode cX11_firm 35 = .ok (.getfield 316, 3) := by decide +kernel
theorem dX11_firm_38 : decode cX11_firm 38 = .ok (.bipush 10, 2) := by decide +kernel
theorem dX11_firm_40 : decode cX11_firm 40 = .ok (.if_icmp .lt 8, 3) := by decide +kernel
theorem dX11_firm_43 : decode cX11_firm 43 = .ok (.bipush (-4), 2) := by decide +kernel
theorem dX11_firm_45 : decode cX11_firm 45 = .ok (.goto 15, 3) := by decide +kernel
theorem dX11_firm_48 : decode cX11_firm 48 = .ok (.aload_n 0, 1) := by decide +kernel
theorem dX11_firm_49 : decode cX11_firm 49 = .ok (.getfield 12, 3) := by decide +kernel
theorem dX11_firm_52 : decode cX11_firm 52 = .ok (.getfield 58, 3) := by decide +kernel
theorem dX11_firm_55 : decode cX11_firm 55 = .ok (.iload_n 1, 1) := by decide +kernel
theorem dX11_firm_56 : decode cX11_firm 56 = .ok (.iload_n 2, 1) := by decide +kernel
theorem dX11_firm_57 : decode cX11_firm 57 = .ok (.invokevirtual 319, 3) := by decide +kernel
theorem dX11_firm_60 : decode cX11_firm 60 = .ok (.ireturn, 1) := by decide +kernel
theorem dX11_used_0 : decode cX11_used 0 = .ok (.aload_n 0, 1) := by decide +kernel
theorem dX11_used_1 : decode cX11_used 1 = .ok (.getfield 12, 3) := by decide +kernel
theorem dX11_used_4 : decode cX11_used 4 = .ok (.getfield 58, 3) := by decide +kernel
theorem dX11_used_7 : decode cX11_used 7 = .ok (.iload_n 1, 1) := by decide +kernel
theorem dX11_used_8 : decode cX11_used 8 = .ok (.invokevirtual 313, 3) := by decide +kernel
theorem dX11_used_11 : decode cX11_used 11 = .ok (.ifCond .ne 5, 3) := by decide +kernel
theorem dX11_used_14 : decode cX11_used 14 = .ok (.iconst (-1), 1) := by decide +kernel
theorem dX11_used_15 : decode cX11_used 15 = .ok (.ireturn, 1) := by decide +kernel
theorem dX11_used_16 : decode cX11_used 16 = .ok (.iload_n 2, 1) := by decide +kernel
theorem dX11_used_17 : decode cX11_used 17 = .ok (.iconst 1, 1) := by decide +kernel
theorem dX11_used_18 : decode cX11_used 18 = .ok (.sipush 999, 3) := by decide +kernel
theorem dX11_used_21 : decode cX11_used 21 = .ok (.invokestatic 54, 3) := by decide +kernel
theorem dX11_used_24 : decode cX11_used 24 = .ok (.ifCond .ne 6, 3) := by decide +kernel
theorem dX11_used_27 : decode cX11_used 27 = .ok (.bipush (-2), 2) := by decide +kernel
theorem dX11_used_29 : decode cX11_used 29 = .ok (.ireturn, 1) := by decide +kernel
theorem dX11_used_30 : decode cX11_used 30 = .ok (.aload_n 0, 1) := by decide +kernel
theorem dX11_used_31 : decode cX11_used 31 = .ok (.getfield 12, 3) := by decide +kernel
theorem dX11_used_34 : decode cX11_used 34 = .ok (.getfield 58, 3) := by decide +kernel
theorem dX11_used_37 : decode cX11_used 37 = .ok (.getfield 322, 3) := by decide +kernel
theorem dX11_used_40 : decode cX11_used 40 = .ok (.bipush 40, 2) := by decide +kernel
theorem dX11_used_42 : decode cX11_used 42 = .ok (.if_icmp .lt 8, 3) := by decide +kernel
theorem dX11_used_45 : decode cX11_used 45 = .ok (.bipush (-4), 2) := by decide +kernel
theorem dX11_used_47 : decode cX11_used 47 = .ok (.goto 15, 3) := by decide +kernel
theorem dX11_used_50 : decode cX11_used 50 = .ok (.aload_n 0, 1) := by decide +kernel
theorem dX11_used_51 : decode cX11_used 51 = .ok (.getfield 12, 3) := by decide +kernel
theorem dX11_used_54 : decode cX11_used 54 = .ok (.getfield 58, 3) := by decide +kernel
theorem dX11_used_57 : decode cX11_used 57 = .ok (.iload_n 1, 1) := by decide +kernel
theorem dX11_used_58 : decode cX11_used 58 = .ok (.iload_n 2, 1) := by decide +kernel
theorem dX11_used_59 : decode cX11_used 59 = .ok (.invokevirtual 325, 3) := by decide +kernel
theorem dX11_used_62 : decode cX11_used 62 = .ok (.ireturn, 1) := by decide +kernel
theorem dX11_left_0 : decode cX11_left 0 = .ok (.iload_n 1, 1) := by decide +kernel
theorem dX11_left_1 : decode cX11_left 1 = .ok (.ifCond .ne 33, 3) := by decide +kernel
theorem dX11_left_4 : decode cX11_left 4 = .ok (.aload_n 0, 1) := by decide +kernel
theorem dX11_left_5 : decode cX11_left 5 = .ok (.getfield 12, 3) := by decide +kernel
theorem dX11_left_8 : decode cX11_left 8 = .ok (.getfield 58, 3) := by decide +kernel
theorem dX11_left_11 : decode cX11_left 11 = .ok (.iload_n 2, 1) := by decide +kernel
theorem dX11_left_12 : decode cX11_left 12 = .ok (.invokevirtual 313, 3) := by decide +kernel
theorem dX11_left_15 : decode cX11_left 15 = .ok (.ifCond .eq 17, 3) := by decide +kernel
theorem dX11_left_18 : decode cX11_left 18 = .ok (.aload_n 0, 1) := by decide +kernel
theorem dX11_left_19 : decode cX11_left 19 = .ok (.getfield 12, 3) := by decide +kernel
theorem dX11_left_22 : decode cX11_left 22 = .ok (.getfield 58, 3) := by decide +kernel
theorem dX11_left_25 : decode cX11_left 25 = .ok (.iload_n 2, 1) := by decide +kernel
theorem dX11_left_26 : decode cX11_left 26 = .ok (.invokevirtual 328, 3) := by decide +kernel
theorem dX11_left_29 : decode cX11_left 29 = .ok (.goto 4, 3) := by decide +kernel
theorem dX11_left_32 : decode cX11_left 32 = .ok (.iconst (-1), 1) := by decide +kernel
theorem dX11_left_33 : decode cX11_left 33 = .ok (.ireturn, 1) := by decide +kernel
theorem dX11_left_34 : decode cX11_left 34 = .ok (.iload_n 1, 1) := by decide +kernel
theorem dX11_left_35 : decode cX11_left 35 = .ok (.iconst 1, 1) := by decide +kernel
theorem dX11_left_36 : decode cX11_left 36 = .ok (.iconst 2, 1) := by decide +kernel
theorem dX11_left_37 : decode cX11_left 37 = .ok (.invokestatic 54, 3) := by decide +kernel
theorem dX11_left_40 : decode cX11_left 40 = .ok (.ifCond .eq 10, 3) := by decide +kernel
theorem dX11_left_43 : decode cX11_left 43 = .ok (.iload_n 2, 1) := by decide +kernel
theorem dX11_left_44 : decode cX11_left 44 = .ok (.invokestatic 158, 3) := by decide +kernel
theorem dX11_left_47 : decode cX11_left 47 = .ok (.ifCond .ne 5, 3) := by decide +kernel
theorem dX11_left_50 : decode cX11_left 50 = .ok (.iconst (-1), 1) := by decide +kernel
theorem dX11_left_51 : decode cX11_left 51 = .ok (.ireturn, 1) := by decide +kernel
theorem dX11_left_52 : decode cX11_left 52 = .ok (.iload_n 1, 1) := by decide +kernel
theorem dX11_left_53 : decode cX11_left 53 = .ok (.iconst 1, 1) := by decide +kernel
theorem dX11_left_54 : decode cX11_left 54 = .ok (.if_icmp .ne 17, 3) := by decide +kernel
theorem dX11_left_57 : decode cX11_left 57 = .ok (.aload_n 0, 1) := by decide +kernel
theorem dX11_left_58 : decode cX11_left 58 = .ok (.getfield 12, 3) := by decide +kernel
theorem dX11_left_61 : decode cX11_left 61 = .ok (.getfield 58, 3) := by decide +kernel
theorem dX11_left_64 : decode cX11_left 64 = .ok (.iload_n 2, 1) := by decide +kernel
theorem dX11_left_65 : decode cX11_left 65 = .ok (.invokevirtual 331, 3) := by decide +kernel
theorem dX11_left_68 : decode cX11_left 68 = .ok (.goto 14, 3) := by decide +kernel
theorem dX11_left_71 : decode cX11_left 71 = .ok (.aload_n 0, 1) := by decide +kernel
theorem dX11_left_72 : decode cX11_left 72 = .ok (.getfield 12, 3) := by decide +kernel
theorem dX11_left_75 : decode cX11_left 75 = .ok (.getfield 58, 3) := by decide +kernel
theorem dX11_left_78 : decode cX11_left 78 = .ok (.iload_n 2, 1) := by decide +kernel
theorem dX11_left_79 : decode cX11_left 79 = .ok (.invokevirtual 334, 3) := by decide +kernel
theorem dX11_left_82 : decode cX11_left 82 = .ok (.ireturn, 1) := by decide +kernel
theorem dX11_door_0 : decode cX11_door 0 = .ok (.iload_n 1, 1) := by decide +kernel
theorem dX11_door_1 : decode cX11_door 1 = .ok (.invokestatic 50, 3) := by decide +kernel
theorem dX11_door_4 : decode cX11_door 4 = .ok (.ifCond .ne 5, 3) := by decide +kernel
theorem dX11_door_7 : decode cX11_door 7 = .ok (.iconst (-1), 1) := by decide +kernel
theorem dX11_door_8 : decode cX11_door 8 = .ok (.ireturn, 1) := by decide +kernel
theorem dX11_door_9 : decode cX11_door 9 = .ok (.iload_n 2, 1) := by decide +kernel
theorem dX11_door_10 : decode cX11_door 10 = .ok (.invokestatic 337, 3) := by decide +kernel
theorem dX11_door_13 : decode cX11_door 13 = .ok (.ifCond .eq 15, 3) := by decide +kernel
theorem dX11_door_16 : decode cX11_door 16 = .ok (.iload_n 3, 1) := by decide +kernel
theorem dX11_door_17 : decode cX11_door 17 = .ok (.invokestatic 337, 3) := by decide +kernel
theorem dX11_door_20 : decode cX11_door 20 = .ok (.ifCond .eq 8, 3) := by decide +kernel
theorem dX11_door_23 : decode cX11_door 23 = .ok (.iload_n 2, 1) := by decide +kernel
theorem dX11_door_24 : decode cX11_door 24 = .ok (.iload_n 3, 1) := by decide +kernel
theorem dX11_door_25 : decode cX11_door 25 = .ok (.if_icmp .le 6, 3) := by decide +kernel
theorem dX11_door_28 : decode cX11_door 28 = .ok (.bipush (-2), 2) := by decide +kernel
theorem dX11_door_30 : decode cX11_door 30 = .ok (.ireturn, 1) := by decide +kernel
theorem dX11_door_31 : decode cX11_door 31 = .ok (.aload_n 0, 1) := by decide +kernel
theorem dX11_door_32 : decode cX11_door 32 = .ok (.getfield 12, 3) := by decide +kernel
theorem dX11_door_35 : decode cX11_door 35 = .ok (.getfield 28, 3) := by decide +kernel
theorem dX11_door_38 : decode cX11_door 38 = .ok (.getfield 76, 3) := by decide +kernel
theorem dX11_door_41 : decode cX11_door 41 = .ok (.iload_n 1, 1) := by decide +kernel
theorem dX11_door_42 : decode cX11_door 42 = .ok (.iaload, 1) := by decide +kernel
theorem dX11_door_43 : decode cX11_door 43 = .ok (.iconst 4, 1) := by decide +kernel
theorem dX11_door_44 : decode cX11_door 44 = .ok (.if_icmp .eq 6, 3) := by decide +kernel
theorem dX11_door_47 : decode cX11_door 47 = .ok (.bipush (-3), 2) := by decide +kernel
theorem dX11_door_49 : decode cX11_door 49 = .ok (.ireturn, 1) := by decide +kernel
theorem dX11_door_50 : decode cX11_door 50 = .ok (.aload_n 0, 1) := by decide +kernel
theorem dX11_door_51 : decode cX11_door 51 = .ok (.getfield 12, 3) := by decide +kernel
theorem dX11_door_54 : decode cX11_door 54 = .ok (.getfield 67, 3) := by decide +kernel
theorem dX11_door_57 : decode cX11_door 57 = .ok (.getfield 340, 3) := by decide +kernel
theorem dX11_door_60 : decode cX11_door 60 = .ok (.bipush 6, 2) := by decide +kernel
theorem dX11_door_62 : decode cX11_door 62 = .ok (.if_icmp .lt 8, 3) := by decide +kernel
theorem dX11_door_65 : decode cX11_door 65 = .ok (.bipush (-4), 2) := by decide +kernel
theorem dX11_door_67 : decode cX11_door 67 = .ok (.goto 16, 3) := by decide +kernel
theorem dX11_door_70 : decode cX11_door 70 = .ok (.aload_n 0, 1) := by decide +kernel
theorem dX11_door_71 : decode cX11_door 71 = .ok (.getfield 12, 3) := by decide +kernel
theorem dX11_door_74 : decode cX11_door 74 = .ok (.getfield 67, 3) := by decide +kernel
theorem dX11_door_77 : decode cX11_door 77 = .ok (.iload_n 1, 1) := by decide +kernel
theorem dX11_door_78 : decode cX11_door 78 = .ok (.iload_n 2, 1) := by decide +kernel
theorem dX11_door_79 : decode cX11_door 79 = .ok (.iload_n 3, 1) := by decide +kernel
theorem dX11_door_80 : decode cX11_door 80 = .ok (.invokevirtual 343, 3) := by decide +kernel
theorem dX11_door_83 : decode cX11_door 83 = .ok (.ireturn, 1) := by decide +kernel
theorem dX11_seen_0 : decode cX11_seen 0 = .ok (.iload_n 1, 1) := by decide +kernel
theorem dX11_seen_1 : decode cX11_seen 1 = .ok (.invokestatic 346, 3) := by decide +kernel
theorem dX11_seen_4 : decode cX11_seen 4 = .ok (.ifCond .eq 10, 3) := by decide +kernel
theorem dX11_seen_7 : decode cX11_seen 7 = .ok (.iload_n 2, 1) := by decide +kernel
theorem dX11_seen_8 : decode cX11_seen 8 = .ok (.invokestatic 50, 3) := by decide +kernel
theorem dX11_seen_11 : decode cX11_seen 11 = .ok (.ifCond .ne 5, 3) := by decide +kernel
theorem dX11_seen_14 : decode cX11_seen 14 = .ok (.iconst (-1), 1) := by decide +kernel
theorem dX11_seen_15 : decode cX11_seen 15 = .ok (.ireturn, 1) := by decide +kernel
theorem dX11_seen_16 : decode cX11_seen 16 = .ok (.iload_n 3, 1) := by decide +kernel
theorem dX11_seen_17 : decode cX11_seen 17 = .ok (.invokestatic 337, 3) := by decide +kernel
theorem dX11_seen_20 : decode cX11_seen 20 = .ok (.ifCond .ne 6, 3) := by decide +kernel
theorem dX11_seen_23 : decode cX11_seen 23 = .ok (.bipush (-2), 2) := by decide +kernel
theorem dX11_seen_25 : decode cX11_seen 25 = .ok (.ireturn, 1) := by decide +kernel
theorem dX11_seen_26 : decode cX11_seen 26 = .ok (.aload_n 0, 1) := by decide +kernel
theorem dX11_seen_27 : decode cX11_seen 27 = .ok (.getfield 12, 3) := by decide +kernel
theorem dX11_seen_30 : decode cX11_seen 30 = .ok (.getfield 67, 3) := by decide +kernel
theorem dX11_seen_33 : decode cX11_seen 33 = .ok (.getfield 349, 3) := by decide +kernel
theorem dX11_seen_36 : decode cX11_seen 36 = .ok (.iload_n 1, 1) := by decide +kernel
theorem dX11_seen_37 : decode cX11_seen 37 = .ok (.bipush 24, 2) := by decide +kernel
theorem dX11_seen_39 : decode cX11_seen 39 = .ok (.imul, 1) := by decide +kernel
theorem dX11_seen_40 : decode cX11_seen 40 = .ok (.iload_n 3, 1) := by decide +kernel
theorem dX11_seen_41 : decode cX11_seen 41 = .ok (.iadd, 1) := by decide +kernel
theorem dX11_seen_42 : decode cX11_seen 42 = .ok (.iaload, 1) := by decide +kernel
theorem dX11_seen_43 : decode cX11_seen 43 = .ok (.istore 4, 2) := by decide +kernel
theorem dX11_seen_45 : decode cX11_seen 45 = .ok (.aload_n 0, 1) := by decide +kernel
theorem dX11_seen_46 : decode cX11_seen 46 = .ok (.getfield 12, 3) := by decide +kernel
theorem dX11_seen_49 : decode cX11_seen 49 = .ok (.getfield 28, 3) := by decide +kernel
theorem dX11_seen_52 : decode cX11_seen 52 = .ok (.getfield 76, 3) := by decide +kernel
theorem dX11_seen_55 : decode cX11_seen 55 = .ok (.iload_n 2, 1) := by decide +kernel
theorem dX11_seen_56 : decode cX11_seen 56 = .ok (.iaload, 1) := by decide +kernel
theorem dX11_seen_57 : decode cX11_seen 57 = .ok (.iconst 5, 1) := by decide +kernel
theorem dX11_seen_58 : decode cX11_seen 58 = .ok (.if_icmp .eq 14, 3) := by decide +kernel
theorem dX11_seen_61 : decode cX11_seen 61 = .ok (.iload 4, 2) := by decide +kernel
theorem dX11_seen_63 : decode cX11_seen 63 = .ok (.ifCond .lt 12, 3) := by decide +kernel
theorem dX11_seen_66 : decode cX11_seen 66 = .ok (.iload 4, 2) := by decide +kernel
theorem dX11_seen_68 : decode cX11_seen 68 = .ok (.iload_n 2, 1) := by decide +kernel
theorem dX11_seen_69 : decode cX11_seen 69 = .ok (.if_icmp .eq 6, 3) := by decide +kernel
theorem dX11_seen_72 : decode cX11_seen 72 = .ok (.bipush (-3), 2) := by decide +kernel
theorem dX11_seen_74 : decode cX11_seen 74 = .ok (.ireturn, 1) := by decide +kernel
theorem dX11_seen_75 : decode cX11_seen 75 = .ok (.iload 4, 2) := by decide +kernel
theorem dX11_seen_77 : decode cX11_seen 77 = .ok (.ifCond .ge 22, 3) := by decide +kernel
theorem dX11_seen_80 : decode cX11_seen 80 = .ok (.aload_n 0, 1) := by decide +kernel
theorem dX11_seen_81 : decode cX11_seen 81 = .ok (.getfield 12, 3) := by decide +kernel
theorem dX11_seen_84 : decode cX11_seen 84 = .ok (.getfield 67, 3) := by decide +kernel
theorem dX11_seen_87 : decode cX11_seen 87 = .ok (.iload_n 1, 1) := by decide +kernel
theorem dX11_seen_88 : decode cX11_seen 88 = .ok (.invokevirtual 352, 3) := by decide +kernel
theorem dX11_seen_91 : decode cX11_seen 91 = .ok (.bipush 12, 2) := by decide +kernel
theorem dX11_seen_93 : decode cX11_seen 93 = .ok (.if_icmp .lt 6, 3) := by decide +kernel
theorem dX11_seen_96 : decode cX11_seen 96 = .ok (.bipush (-4), 2) := by decide +kernel
theorem dX11_seen_98 : decode cX11_seen 98 = .ok (.ireturn, 1) := by decide +kernel
theorem dX11_seen_99 : decode cX11_seen 99 = .ok (.aload_n 0, 1) := by decide +kernel
theorem dX11_seen_100 : decode cX11_seen 100 = .ok (.getfield 12, 3) := by decide +kernel
theorem dX11_seen_103 : decode cX11_seen 103 = .ok (.getfield 67, 3) := by decide +kernel
theorem dX11_seen_106 : decode cX11_seen 106 = .ok (.getfield 349, 3) := by decide +kernel
theorem dX11_seen_109 : decode cX11_seen 109 = .ok (.iload_n 1, 1) := by decide +kernel
theorem dX11_seen_110 : decode cX11_seen 110 = .ok (.bipush 24, 2) := by decide +kernel
theorem dX11_seen_112 : decode cX11_seen 112 = .ok (.imul, 1) := by decide +kernel
theorem dX11_seen_113 : decode cX11_seen 113 = .ok (.iload_n 3, 1) := by decide +kernel
theorem dX11_seen_114 : decode cX11_seen 114 = .ok (.iadd, 1) := by decide +kernel
theorem dX11_seen_115 : decode cX11_seen 115 = .ok (.iload_n 2, 1) := by decide +kernel
theorem dX11_seen_116 : decode cX11_seen 116 = .ok (.iastore, 1) := by decide +kernel
theorem dX11_seen_117 : decode cX11_seen 117 = .ok (.aload_n 0, 1) := by decide +kernel
theorem dX11_seen_118 : decode cX11_seen 118 = .ok (.getfield 12, 3) := by decide +kernel
theorem dX11_seen_121 : decode cX11_seen 121 = .ok (.getfield 67, 3) := by decide +kernel
theorem dX11_seen_124 : decode cX11_seen 124 = .ok (.iload_n 1, 1) := by decide +kernel
theorem dX11_seen_125 : decode cX11_seen 125 = .ok (.invokevirtual 352, 3) := by decide +kernel
theorem dX11_seen_128 : decode cX11_seen 128 = .ok (.ireturn, 1) := by decide +kernel
theorem dX11_who_0 : decode cX11_who 0 = .ok (.iload_n 1, 1) := by decide +kernel
theorem dX11_who_1 : decode cX11_who 1 = .ok (.invokestatic 346, 3) := by decide +kernel
theorem dX11_who_4 : decode cX11_who 4 = .ok (.ifCond .ne 5, 3) := by decide +kernel
theorem dX11_who_7 : decode cX11_who 7 = .ok (.iconst (-1), 1) := by decide +kernel
theorem dX11_who_8 : decode cX11_who 8 = .ok (.ireturn, 1) := by decide +kernel
theorem dX11_who_9 : decode cX11_who 9 = .ok (.iload_n 2, 1) := by decide +kernel
theorem dX11_who_10 : decode cX11_who 10 = .ok (.iconst 0, 1) := by decide +kernel
theorem dX11_who_11 : decode cX11_who 11 = .ok (.aload_n 0, 1) := by decide +kernel
theorem dX11_who_12 : decode cX11_who 12 = .ok (.getfield 12, 3) := by decide +kernel
theorem dX11_who_15 : decode cX11_who 15 = .ok (.getfield 67, 3) := by decide +kernel
theorem dX11_who_18 : decode cX11_who 18 = .ok (.invokevirtual 355, 3) := by decide +kernel
theorem dX11_who_21 : decode cX11_who 21 = .ok (.invokestatic 54, 3) := by decide +kernel
theorem dX11_who_24 : decode cX11_who 24 = .ok (.ifCond .ne 6, 3) := by decide +kernel
theorem dX11_who_27 : decode cX11_who 27 = .ok (.bipush (-2), 2) := by decide +kernel
theorem dX11_who_29 : decode cX11_who 29 = .ok (.ireturn, 1) := by decide +kernel
theorem dX11_who_30 : decode cX11_who 30 = .ok (.aload_n 0, 1) := by decide +kernel
theorem dX11_who_31 : decode cX11_who 31 = .ok (.getfield 12, 3) := by decide +kernel
theorem dX11_who_34 : decode cX11_who 34 = .ok (.getfield 67, 3) := by decide +kernel
theorem dX11_who_37 : decode cX11_who 37 = .ok (.iload_n 1, 1) := by decide +kernel
theorem dX11_who_38 : decode cX11_who 38 = .ok (.iload_n 2, 1) := by decide +kernel
theorem dX11_who_39 : decode cX11_who 39 = .ok (.aload_n 0, 1) := by decide +kernel
theorem dX11_who_40 : decode cX11_who 40 = .ok (.getfield 12, 3) := by decide +kernel
theorem dX11_who_43 : decode cX11_who 43 = .ok (.getfield 28, 3) := by decide +kernel
theorem dX11_who_46 : decode cX11_who 46 = .ok (.invokevirtual 358, 3) := by decide +kernel
theorem dX11_who_49 : decode cX11_who 49 = .ok (.invokevirtual 361, 3) := by decide +kernel
theorem dX11_who_52 : decode cX11_who 52 = .ok (.invokestatic 141, 3) := by decide +kernel
theorem dX11_who_55 : decode cX11_who 55 = .ok (.ireturn, 1) := by decide +kernel
theorem dX11_night_0 : decode cX11_night 0 = .ok (.iload_n 1, 1) := by decide +kernel
theorem dX11_night_1 : decode cX11_night 1 = .ok (.invokestatic 346, 3) := by decide +kernel
theorem dX11_night_4 : decode cX11_night 4 = .ok (.ifCond .eq 12, 3) := by decide +kernel
theorem dX11_night_7 : decode cX11_night 7 = .ok (.iload_n 2, 1) := by decide +kernel
theorem dX11_night_8 : decode cX11_night 8 = .ok (.iconst 0, 1) := by decide +kernel
theorem dX11_night_9 : decode cX11_night 9 = .ok (.iconst 1, 1) := by decide +kernel
theorem dX11_night_10 : decode cX11_night 10 = .ok (.invokestatic 54, 3) := by decide +kernel
theorem dX11_night_13 : decode cX11_night 13 = .ok (.ifCond .ne 5, 3) := by decide +kernel
theorem dX11_night_16 : decode cX11_night 16 = .ok (.iconst (-1), 1) := by decide +kernel
theorem dX11_night_17 : decode cX11_night 17 = .ok (.ireturn, 1) := by decide +kernel
theorem dX11_night_18 : decode cX11_night 18 = .ok (.aload_n 0, 1) := by decide +kernel
theorem dX11_night_19 : decode cX11_night 19 = .ok (.getfield 12, 3) := by decide +kernel
theorem dX11_night_22 : decode cX11_night 22 = .ok (.getfield 67, 3) := by decide +kernel
theorem dX11_night_25 : decode cX11_night 25 = .ok (.iload_n 1, 1) := by decide +kernel
theorem dX11_night_26 : decode cX11_night 26 = .ok (.aload_n 0, 1) := by decide +kernel
theorem dX11_night_27 : decode cX11_night 27 = .ok (.getfield 12, 3) := by decide +kernel
theorem dX11_night_30 : decode cX11_night 30 = .ok (.getfield 28, 3) := by decide +kernel
theorem dX11_night_33 : decode cX11_night 33 = .ok (.invokevirtual 358, 3) := by decide +kernel
theorem dX11_night_36 : decode cX11_night 36 = .ok (.invokevirtual 364, 3) := by decide +kernel
theorem dX11_night_39 : decode cX11_night 39 = .ok (.istore_n 3, 1) := by decide +kernel
theorem dX11_night_40 : decode cX11_night 40 = .ok (.iload_n 2, 1) := by decide +kernel
theorem dX11_night_41 : decode cX11_night 41 = .ok (.ifCond .ne 10, 3) := by decide +kernel
theorem dX11_night_44 : decode cX11_night 44 = .ok (.iload_n 3, 1) := by decide +kernel
theorem dX11_night_45 : decode cX11_night 45 = .ok (.invokestatic 367, 3) := by decide +kernel
theorem dX11_night_48 : decode cX11_night 48 = .ok (.goto 4, 3) := by decide +kernel
theorem dX11_night_51 : decode cX11_night 51 = .ok (.iload_n 3, 1) := by decide +kernel
theorem dX11_night_52 : decode cX11_night 52 = .ok (.ireturn, 1) := by decide +kernel
theorem dX11_sure_0 : decode cX11_sure 0 = .ok (.iload_n 1, 1) := by decide +kernel
theorem dX11_sure_1 : decode cX11_sure 1 = .ok (.iconst 0, 1) := by decide +kernel
theorem dX11_sure_2 : decode cX11_sure 2 = .ok (.aload_n 0, 1) := by decide +kernel
theorem dX11_sure_3 : decode cX11_sure 3 = .ok (.getfield 12, 3) := by decide +kernel
theorem dX11_sure_6 : decode cX11_sure 6 = .ok (.getfield 67, 3) := by decide +kernel
theorem dX11_sure_9 : decode cX11_sure 9 = .ok (.getfield 340, 3) := by decide +kernel
theorem dX11_sure_12 : decode cX11_sure 12 = .ok (.iconst 1, 1) := by decide +kernel
theorem dX11_sure_13 : decode cX11_sure 13 = .ok (.isub, 1) := by decide +kernel
theorem dX11_sure_14 : decode cX11_sure 14 = .ok (.invokestatic 54, 3) := by decide +kernel
theorem dX11_sure_17 : decode cX11_sure 17 = .ok (.ifCond .ne 5, 3) := by decide +kernel
theorem dX11_sure_20 : decode cX11_sure 20 = .ok (.iconst (-1), 1) := by decide +kernel
theorem dX11_sure_21 : decode cX11_sure 21 = .ok (.ireturn, 1) := by decide +kernel
theorem dX11_sure_22 : decode cX11_sure 22 = .ok (.aload_n 0, 1) := by decide +kernel
theorem dX11_sure_23 : decode cX11_sure 23 = .ok (.getfield 12, 3) := by decide +kernel
theorem dX11_sure_26 : decode cX11_sure 26 = .ok (.getfield 28, 3) := by decide +kernel
theorem dX11_sure_29 : decode cX11_sure 29 = .ok (.invokevirtual 358, 3) := by decide +kernel
theorem dX11_sure_32 : decode cX11_sure 32 = .ok (.istore_n 2, 1) := by decide +kernel
theorem dX11_sure_33 : decode cX11_sure 33 = .ok (.bipush (-5), 2) := by decide +kernel
theorem dX11_sure_35 : decode cX11_sure 35 = .ok (.istore_n 3, 1) := by decide +kernel
theorem dX11_sure_36 : decode cX11_sure 36 = .ok (.iconst 0, 1) := by decide +kernel
theorem dX11_sure_37 : decode cX11_sure 37 = .ok (.istore 4, 2) := by decide +kernel
theorem dX11_sure_39 : decode cX11_sure 39 = .ok (.iload 4, 2) := by decide +kernel
theorem dX11_sure_41 : decode cX11_sure 41 = .ok (.bipush 8, 2) := by decide +kernel
theorem dX11_sure_43 : decode cX11_sure 43 = .ok (.if_icmp .ge 40, 3) := by decide +kernel
theorem dX11_sure_46 : decode cX11_sure 46 = .ok (.aload_n 0, 1) := by decide +kernel
theorem dX11_sure_47 : decode cX11_sure 47 = .ok (.getfield 12, 3) := by decide +kernel
theorem dX11_sure_50 : decode cX11_sure 50 = .ok (.getfield 67, 3) := by decide +kernel
theorem dX11_sure_53 : decode cX11_sure 53 = .ok (.iload 4, 2) := by decide +kernel
theorem dX11_sure_55 : decode cX11_sure 55 = .ok (.iconst 1, 1) := by decide +kernel
theorem dX11_sure_56 : decode cX11_sure 56 = .ok (.iload_n 1, 1) := by decide +kernel
theorem dX11_sure_57 : decode cX11_sure 57 = .ok (.ishl, 1) := by decide +kernel
theorem dX11_sure_58 : decode cX11_sure 58 = .ok (.iload_n 2, 1) := by decide +kernel
theorem dX11_sure_59 : decode cX11_sure 59 = .ok (.invokevirtual 361, 3) := by decide +kernel
theorem dX11_sure_62 : decode cX11_sure 62 = .ok (.ifCond .eq 15, 3) := by decide +kernel
theorem dX11_sure_65 : decode cX11_sure 65 = .ok (.iload_n 3, 1) := by decide +kernel
theorem dX11_sure_66 : decode cX11_sure 66 = .ok (.bipush (-5), 2) := by decide +kernel
theorem dX11_sure_68 : decode cX11_sure 68 = .ok (.if_icmp .eq 6, 3) := by decide +kernel
theorem dX11_sure_71 : decode cX11_sure 71 = .ok (.bipush (-5), 2) := by decide +kernel
theorem dX11_sure_73 : decode cX11_sure 73 = .ok (.ireturn, 1) := by decide +kernel
theorem dX11_sure_74 : decode cX11_sure 74 = .ok (.iload 4, 2) := by decide +kernel
theorem dX11_sure_76 : decode cX11_sure 76 = .ok (.istore_n 3, 1) := by decide +kernel
theorem dX11_sure_77 : decode cX11_sure 77 = .ok (.iinc 4 1, 3) := by decide +kernel
theorem dX11_sure_80 : decode cX11_sure 80 = .ok (.goto (-41), 3) := by decide +kernel
theorem dX11_sure_83 : decode cX11_sure 83 = .ok (.iload_n 3, 1) := by decide +kernel
theorem dX11_sure_84 : decode cX11_sure 84 = .ok (.ireturn, 1) := by decide +kernel
theorem dX11_vote_0 : decode cX11_vote 0 = .ok (.iload_n 1, 1) := by decide +kernel
theorem dX11_vote_1 : decode cX11_vote 1 = .ok (.iconst 0, 1) := by decide +kernel
theorem dX11_vote_2 : decode cX11_vote 2 = .ok (.iconst 5, 1) := by decide +kernel
theorem dX11_vote_3 : decode cX11_vote 3 = .ok (.invokestatic 54, 3) := by decide +kernel
theorem dX11_vote_6 : decode cX11_vote 6 = .ok (.ifCond .ne 5, 3) := by decide +kernel
theorem dX11_vote_9 : decode cX11_vote 9 = .ok (.iconst (-1), 1) := by decide +kernel
theorem dX11_vote_10 : decode cX11_vote 10 = .ok (.ireturn, 1) := by decide +kernel
theorem dX11_vote_11 : decode cX11_vote 11 = .ok (.iload_n 2, 1) := by decide +kernel
theorem dX11_vote_12 : decode cX11_vote 12 = .ok (.iconst 0, 1) := by decide +kernel
theorem dX11_vote_13 : decode cX11_vote 13 = .ok (.ldc_w 371, 3) := by decide +kernel
theorem dX11_vote_16 : decode cX11_vote 16 = .ok (.invokestatic 54, 3) := by decide +kernel
theorem dX11_vote_19 : decode cX11_vote 19 = .ok (.ifCond .ne 6, 3) := by decide +kernel
theorem dX11_vote_22 : decode cX11_vote 22 = .ok (.bipush (-2), 2) := by decide +kernel
theorem dX11_vote_24 : decode cX11_vote 24 = .ok (.ireturn, 1) := by decide +kernel
theorem dX11_vote_25 : decode cX11_vote 25 = .ok (.aload_n 0, 1) := by decide +kernel
theorem dX11_vote_26 : decode cX11_vote 26 = .ok (.getfield 12, 3) := by decide +kernel
theorem dX11_vote_29 : decode cX11_vote 29 = .ok (.getfield 372, 3) := by decide +kernel
theorem dX11_vote_32 : decode cX11_vote 32 = .ok (.getfield 376, 3) := by decide +kernel
theorem dX11_vote_35 : decode cX11_vote 35 = .ok (.iload_n 1, 1) := by decide +kernel
theorem dX11_vote_36 : decode cX11_vote 36 = .ok (.iaload, 1) := by decide +kernel
theorem dX11_vote_37 : decode cX11_vote 37 = .ok (.istore_n 3, 1) := by decide +kernel
theorem dX11_vote_38 : decode cX11_vote 38 = .ok (.aload_n 0, 1) := by decide +kernel
theorem dX11_vote_39 : decode cX11_vote 39 = .ok (.getfield 12, 3) := by decide +kernel
theorem dX11_vote_42 : decode cX11_vote 42 = .ok (.getfield 372, 3) := by decide +kernel
theorem dX11_vote_45 : decode cX11_vote 45 = .ok (.getfield 376, 3) := by decide +kernel
theorem dX11_vote_48 : decode cX11_vote 48 = .ok (.iload_n 1, 1) := by decide +kernel
theorem dX11_vote_49 : decode cX11_vote 49 = .ok (.iload_n 2, 1) := by decide +kernel
theorem dX11_vote_50 : decode cX11_vote 50 = .ok (.iastore, 1) := by decide +kernel
theorem dX11_vote_51 : decode cX11_vote 51 = .ok (.iload_n 3, 1) := by decide +kernel
theorem dX11_vote_52 : decode cX11_vote 52 = .ok (.ireturn, 1) := by decide +kernel
theorem dX11_seat_0 : decode cX11_seat 0 = .ok (.iload_n 1, 1) := by decide +kernel
theorem dX11_seat_1 : decode cX11_seat 1 = .ok (.iconst 0, 1) := by decide +kernel
theorem dX11_seat_2 : decode cX11_seat 2 = .ok (.iconst 5, 1) := by decide +kernel
theorem dX11_seat_3 : decode cX11_seat 3 = .ok (.invokestatic 54, 3) := by decide +kernel
theorem dX11_seat_6 : decode cX11_seat 6 = .ok (.ifCond .ne 5, 3) := by decide +kernel
theorem dX11_seat_9 : decode cX11_seat 9 = .ok (.iconst (-1), 1) := by decide +kernel
theorem dX11_seat_10 : decode cX11_seat 10 = .ok (.ireturn, 1) := by decide +kernel
theorem dX11_seat_11 : decode cX11_seat 11 = .ok (.iload_n 2, 1) := by decide +kernel
theorem dX11_seat_12 : decode cX11_seat 12 = .ok (.iconst 1, 1) := by decide +kernel
theorem dX11_seat_13 : decode cX11_seat 13 = .ok (.bipush 60, 2) := by decide +kernel
theorem dX11_seat_15 : decode cX11_seat 15 = .ok (.invokestatic 54, 3) := by decide +kernel
theorem dX11_seat_18 : decode cX11_seat 18 = .ok (.ifCond .ne 6, 3) := by decide +kernel
theorem dX11_seat_21 : decode cX11_seat 21 = .ok (.bipush (-2), 2) := by decide +kernel
theorem dX11_seat_23 : decode cX11_seat 23 = .ok (.ireturn, 1) := by decide +kernel
theorem dX11_seat_24 : decode cX11_seat 24 = .ok (.aload_n 0, 1) := by decide +kernel
theorem dX11_seat_25 : decode cX11_seat 25 = .ok (.getfield 12, 3) := by decide +kernel
theorem dX11_seat_28 : decode cX11_seat 28 = .ok (.getfield 372, 3) := by decide +kernel
theorem dX11_seat_31 : decode cX11_seat 31 = .ok (.iload_n 2, 1) := by decide +kernel
theorem dX11_seat_32 : decode cX11_seat 32 = .ok (.aload_n 0, 1) := by decide +kernel
theorem dX11_seat_33 : decode cX11_seat 33 = .ok (.getfield 47, 3) := by decide +kernel
theorem dX11_seat_36 : decode cX11_seat 36 = .ok (.invokevirtual 381, 3) := by decide +kernel
theorem dX11_seat_39 : decode cX11_seat 39 = .ok (.aload_n 0, 1) := by decide +kernel
theorem dX11_seat_40 : decode cX11_seat 40 = .ok (.getfield 47, 3) := by decide +kernel
theorem dX11_seat_43 : decode cX11_seat 43 = .ok (.iload_n 1, 1) := by decide +kernel
theorem dX11_seat_44 : decode cX11_seat 44 = .ok (.iaload, 1) := by decide +kernel
theorem dX11_seat_45 : decode cX11_seat 45 = .ok (.ireturn, 1) := by decide +kernel
theorem dX11_turn_0 : decode cX11_turn 0 = .ok (.iload_n 1, 1) := by decide +kernel
theorem dX11_turn_1 : decode cX11_turn 1 = .ok (.iconst 1, 1) := by decide +kernel
theorem dX11_turn_2 : decode cX11_turn 2 = .ok (.bipush 60, 2) := by decide +kernel
theorem dX11_turn_4 : decode cX11_turn 4 = .ok (.invokestatic 54, 3) := by decide +kernel
theorem dX11_turn_7 : decode cX11_turn 7 = .ok (.ifCond .eq 13, 3) := by decide +kernel
theorem dX11_turn_10 : decode cX11_turn 10 = .ok (.iload_n 2, 1) := by decide +kernel
theorem dX11_turn_11 : decode cX11_turn 11 = .ok (.iconst 1, 1) := by decide +kernel
theorem dX11_turn_12 : decode cX11_turn 12 = .ok (.bipush 60, 2) := by decide +kernel
theorem dX11_turn_14 : decode cX11_turn 14 = .ok (.invokestatic 54, 3) := by decide +kernel
theorem dX11_turn_17 : decode cX11_turn 17 = .ok (.ifCond .ne 6, 3) := by decide +kernel
theorem dX11_turn_20 : decode cX11_turn 20 = .ok (.bipush (-2), 2) := by decide +kernel
theorem dX11_turn_22 : decode cX11_turn 22 = .ok (.ireturn, 1) := by decide +kernel
theorem dX11_turn_23 : decode cX11_turn 23 = .ok (.aload_n 0, 1) := by decide +kernel
theorem dX11_turn_24 : decode cX11_turn 24 = .ok (.getfield 12, 3) := by decide +kernel
theorem dX11_turn_27 : decode cX11_turn 27 = .ok (.getfield 372, 3) := by decide +kernel
theorem dX11_turn_30 : decode cX11_turn 30 = .ok (.iload_n 1, 1) := by decide +kernel
theorem dX11_turn_31 : decode cX11_turn 31 = .ok (.aload_n 0, 1) := by decide +kernel
theorem dX11_turn_32 : decode cX11_turn 32 = .ok (.getfield 47, 3) := by decide +kernel
theorem dX11_turn_35 : decode cX11_turn 35 = .ok (.invokevirtual 381, 3) := by decide +kernel
theorem dX11_turn_38 : decode cX11_turn 38 = .ok (.bipush (-5), 2) := by decide +kernel
theorem dX11_turn_40 : decode cX11_turn 40 = .ok (.istore_n 3, 1) := by decide +kernel
theorem dX11_turn_41 : decode cX11_turn 41 = .ok (.iconst 1, 1) := by decide +kernel
theorem dX11_turn_42 : decode cX11_turn 42 = .ok (.istore 4, 2) := by decide +kernel
theorem dX11_turn_44 : decode cX11_turn 44 = .ok (.iload 4, 2) := by decide +kernel
theorem dX11_turn_46 : decode cX11_turn 46 = .ok (.bipush 64, 2) := by decide +kernel
theorem dX11_turn_48 : decode cX11_turn 48 = .ok (.if_icmp .ge 52, 3) := by decide +kernel
theorem dX11_turn_51 : decode cX11_turn 51 = .ok (.iload_n 3, 1) := by decide +kernel
theorem dX11_turn_52 : decode cX11_turn 52 = .ok (.bipush (-5), 2) := by decide +kernel
theorem dX11_turn_54 : decode cX11_turn 54 = .ok (.if_icmp .eq 15, 3) := by decide +kernel
theorem dX11_turn_57 : decode cX11_turn 57 = .ok (.iload 4, 2) := by decide +kernel
theorem dX11_turn_59 : decode cX11_turn 59 = .ok (.invokestatic 367, 3) := by decide +kernel
theorem dX11_turn_62 : decode cX11_turn 62 = .ok (.iload_n 3, 1) := by decide +kernel
theorem dX11_turn_63 : decode cX11_turn 63 = .ok (.invokestatic 367, 3) := by decide +kernel
theorem dX11_turn_66 : decode cX11_turn 66 = .ok (.if_icmp .ge 7, 3) := by decide +kernel
theorem dX11_turn_69 : decode cX11_turn 69 = .ok (.iconst 1, 1) := by decide +kernel
theorem dX11_turn_70 : decode cX11_turn 70 = .ok (.goto 4, 3) := by decide +kernel
theorem dX11_turn_73 : decode cX11_turn 73 = .ok (.iconst 0, 1) := by decide +kernel
theorem dX11_turn_74 : decode cX11_turn 74 = .ok (.istore 5, 2) := by decide +kernel
theorem dX11_turn_76 : decode cX11_turn 76 = .ok (.iload 5, 2) := by decide +kernel
theorem dX11_turn_78 : decode cX11_turn 78 = .ok (.ifCond .eq 16, 3) := by decide +kernel
theorem dX11_turn_81 : decode cX11_turn 81 = .ok (.aload_n 0, 1) := by decide +kernel
theorem dX11_turn_82 : decode cX11_turn 82 = .ok (.iload 4, 2) := by decide +kernel
theorem dX11_turn_84 : decode cX11_turn 84 = .ok (.invokevirtual 385, 3) := by decide +kernel
theorem dX11_turn_87 : decode cX11_turn 87 = .ok (.iload_n 2, 1) := by decide +kernel
theorem dX11_turn_88 : decode cX11_turn 88 = .ok (.if_icmp .lt 6, 3) := by decide +kernel
theorem dX11_turn_91 : decode cX11_turn 91 = .ok (.iload 4, 2) := by decide +kernel
theorem dX11_turn_93 : decode cX11_turn 93 = .ok (.istore_n 3, 1) := by decide +kernel
theorem dX11_turn_94 : decode cX11_turn 94 = .ok (.iinc 4 1, 3) := by decide +kernel
theorem dX11_turn_97 : decode cX11_turn 97 = .ok (.goto (-53), 3) := by decide +kernel
theorem dX11_turn_100 : decode cX11_turn 100 = .ok (.iload_n 3, 1) := by decide +kernel
theorem dX11_turn_101 : decode cX11_turn 101 = .ok (.ireturn, 1) := by decide +kernel
theorem dX11_say_0 : decode cX11_say 0 = .ok (.iload_n 1, 1) := by decide +kernel
theorem dX11_say_1 : decode cX11_say 1 = .ok (.invokestatic 346, 3) := by decide +kernel
theorem dX11_say_4 : decode cX11_say 4 = .ok (.ifCond .eq 24, 3) := by decide +kernel
theorem dX11_say_7 : decode cX11_say 7 = .ok (.iload_n 3, 1) := by decide +kernel
theorem dX11_say_8 : decode cX11_say 8 = .ok (.iconst 0, 1) := by decide +kernel
theorem dX11_say_9 : decode cX11_say 9 = .ok (.bipush 7, 2) := by decide +kernel
theorem dX11_say_11 : decode cX11_say 11 = .ok (.invokestatic 54, 3) := by decide +kernel
theorem dX11_say_14 : decode cX11_say 14 = .ok (.ifCond .eq 14, 3) := by decide +kernel
theorem dX11_say_17 : decode cX11_say 17 = .ok (.iload 5, 2) := by decide +kernel
theorem dX11_say_19 : decode cX11_say 19 = .ok (.iconst (-1), 1) := by decide +kernel
theorem dX11_say_20 : decode cX11_say 20 = .ok (.bipush 7, 2) := by decide +kernel
theorem dX11_say_22 : decode cX11_say 22 = .ok (.invokestatic 54, 3) := by decide +kernel
theorem dX11_say_25 : decode cX11_say 25 = .ok (.ifCond .ne 5, 3) := by decide +kernel
theorem dX11_say_28 : decode cX11_say 28 = .ok (.iconst (-1), 1) := by decide +kernel
theorem dX11_say_29 : decode cX11_say 29 = .ok (.ireturn, 1) := by decide +kernel
theorem dX11_say_30 : decode cX11_say 30 = .ok (.iload_n 2, 1) := by decide +kernel
theorem dX11_say_31 : decode cX11_say 31 = .ok (.invokestatic 105, 3) := by decide +kernel
theorem dX11_say_34 : decode cX11_say 34 = .ok (.ifCond .ne 6, 3) := by decide +kernel
theorem dX11_say_37 : decode cX11_say 37 = .ok (.bipush (-2), 2) := by decide +kernel
theorem dX11_say_39 : decode cX11_say 39 = .ok (.ireturn, 1) := by decide +kernel
theorem dX11_say_40 : decode cX11_say 40 = .ok (.aload_n 0, 1) := by decide +kernel
theorem dX11_say_41 : decode cX11_say 41 = .ok (.getfield 12, 3) := by decide +kernel
theorem dX11_say_44 : decode cX11_say 44 = .ok (.getfield 372, 3) := by decide +kernel
theorem dX11_say_47 : decode cX11_say 47 = .ok (.getfield 388, 3) := by decide +kernel
theorem dX11_say_50 : decode cX11_say 50 = .ok (.bipush 20, 2) := by decide +kernel
theorem dX11_say_52 : decode cX11_say 52 = .ok (.if_icmp .lt 6, 3) := by decide +kernel
theorem dX11_say_55 : decode cX11_say 55 = .ok (.bipush (-4), 2) := by decide +kernel
theorem dX11_say_57 : decode cX11_say 57 = .ok (.ireturn, 1) := by decide +kernel
theorem dX11_say_58 : decode cX11_say 58 = .ok (.iload 5, 2) := by decide +kernel
theorem dX11_say_60 : decode cX11_say 60 = .ok (.ifCond .ge 7, 3) := by decide +kernel
theorem dX11_say_63 : decode cX11_say 63 = .ok (.iconst 0, 1) := by decide +kernel
theorem dX11_say_64 : decode cX11_say 64 = .ok (.goto 7, 3) := by decide +kernel
theorem dX11_say_67 : decode cX11_say 67 = .ok (.iconst 1, 1) := by decide +kernel
theorem dX11_say_68 : decode cX11_say 68 = .ok (.iload 5, 2) := by decide +kernel
theorem dX11_say_70 : decode cX11_say 70 = .ok (.ishl, 1) := by decide +kernel
theorem dX11_say_71 : decode cX11_say 71 = .ok (.istore 7, 2) := by decide +kernel
theorem dX11_say_73 : decode cX11_say 73 = .ok (.iload 4, 2) := by decide +kernel
theorem dX11_say_75 : decode cX11_say 75 = .ok (.ifCond .eq 9, 3) := by decide +kernel
theorem dX11_say_78 : decode cX11_say 78 = .ok (.iconst 1, 1) := by decide +kernel
theorem dX11_say_79 : decode cX11_say 79 = .ok (.iload_n 3, 1) := by decide +kernel
theorem dX11_say_80 : decode cX11_say 80 = .ok (.ishl, 1) := by decide +kernel
theorem dX11_say_81 : decode cX11_say 81 = .ok (.goto 4, 3) := by decide +kernel
theorem dX11_say_84 : decode cX11_say 84 = .ok (.iconst 0, 1) := by decide +kernel
theorem dX11_say_85 : decode cX11_say 85 = .ok (.iload 6, 2) := by decide +kernel
theorem dX11_say_87 : decode cX11_say 87 = .ok (.ifCond .eq 8, 3) := by decide +kernel
theorem dX11_say_90 : decode cX11_say 90 = .ok (.iload 7, 2) := by decide +kernel
theorem dX11_say_92 : decode cX11_say 92 = .ok (.goto 4, 3) := by decide +kernel
theorem dX11_say_95 : decode cX11_say 95 = .ok (.iconst 0, 1) := by decide +kernel
theorem dX11_say_96 : decode cX11_say 96 = .ok (.ior, 1) := by decide +kernel
theorem dX11_say_97 : decode cX11_say 97 = .ok (.istore 8, 2) := by decide +kernel
theorem dX11_say_99 : decode cX11_say 99 = .ok (.iload 4, 2) := by decide +kernel
theorem dX11_say_101 : decode cX11_say 101 = .ok (.ifCond .eq 7, 3) := by decide +kernel
theorem dX11_say_104 : decode cX11_say 104 = .ok (.iconst 0, 1) := by decide +kernel
theorem dX11_say_105 : decode cX11_say 105 = .ok (.goto 6, 3) := by decide +kernel
theorem dX11_say_108 : decode cX11_say 108 = .ok (.iconst 1, 1) := by decide +kernel
theorem dX11_say_109 : decode cX11_say 109 = .ok (.iload_n 3, 1) := by decide +kernel
theorem dX11_say_110 : decode cX11_say 110 = .ok (.ishl, 1) := by decide +kernel
theorem dX11_say_111 : decode cX11_say 111 = .ok (.iload 6, 2) := by decide +kernel
theorem dX11_say_113 : decode cX11_say 113 = .ok (.ifCond .eq 7, 3) := by decide +kernel
theorem dX11_say_116 : decode cX11_say 116 = .ok (.iconst 0, 1) := by decide +kernel
theorem dX11_say_117 : decode cX11_say 117 = .ok (.goto 5, 3) := by decide +kernel
theorem dX11_say_120 : decode cX11_say 120 = .ok (.iload 7, 2) := by decide +kernel
theorem dX11_say_122 : decode cX11_say 122 = .ok (.ior, 1) := by decide +kernel
theorem dX11_say_123 : decode cX11_say 123 = .ok (.istore 9, 2) := by decide +kernel
theorem dX11_say_125 : decode cX11_say 125 = .ok (.aload_n 0, 1) := by decide +kernel
theorem dX11_say_126 : decode cX11_say 126 = .ok (.getfield 12, 3) := by decide +kernel
theorem dX11_say_129 : decode cX11_say 129 = .ok (.getfield 372, 3) := by decide +kernel
theorem dX11_say_132 : decode cX11_say 132 = .ok (.iload_n 2, 1) := by decide +kernel
theorem dX11_say_133 : decode cX11_say 133 = .ok (.iload 8, 2) := by decide +kernel
theorem dX11_say_135 : decode cX11_say 135 = .ok (.iload 9, 2) := by decide +kernel
theorem dX11_say_137 : decode cX11_say 137 = .ok (.invokevirtual 391, 3) := by decide +kernel
theorem dX11_say_140 : decode cX11_say 140 = .ok (.ireturn, 1) := by decide +kernel
theorem dX11_hold_0 : decode cX11_hold 0 = .ok (.iload_n 2, 1) := by decide +kernel
theorem dX11_hold_1 : decode cX11_hold 1 = .ok (.iconst 0, 1) := by decide +kernel
theorem dX11_hold_2 : decode cX11_hold 2 = .ok (.iconst 1, 1) := by decide +kernel
theorem dX11_hold_3 : decode cX11_hold 3 = .ok (.invokestatic 54, 3) := by decide +kernel
theorem dX11_hold_6 : decode cX11_hold 6 = .ok (.ifCond .ne 5, 3) := by decide +kernel
theorem dX11_hold_9 : decode cX11_hold 9 = .ok (.iconst (-1), 1) := by decide +kernel
theorem dX11_hold_10 : decode cX11_hold 10 = .ok (.ireturn, 1) := by decide +kernel
theorem dX11_hold_11 : decode cX11_hold 11 = .ok (.iload_n 1, 1) := by decide +kernel
theorem dX11_hold_12 : decode cX11_hold 12 = .ok (.invokestatic 105, 3) := by decide +kernel
theorem dX11_hold_15 : decode cX11_hold 15 = .ok (.ifCond .ne 6, 3) := by decide +kernel
theorem dX11_hold_18 : decode cX11_hold 18 = .ok (.bipush (-2), 2) := by decide +kernel
theorem dX11_hold_20 : decode cX11_hold 20 = .ok (.ireturn, 1) := by decide +kernel
theorem dX11_hold_21 : decode cX11_hold 21 = .ok (.aload_n 0, 1) := by decide +kernel
theorem dX11_hold_22 : decode cX11_hold 22 = .ok (.getfield 12, 3) := by decide +kernel
theorem dX11_hold_25 : decode cX11_hold 25 = .ok (.getfield 372, 3) := by decide +kernel
theorem dX11_hold_28 : decode cX11_hold 28 = .ok (.iload_n 1, 1) := by decide +kernel
theorem dX11_hold_29 : decode cX11_hold 29 = .ok (.invokevirtual 394, 3) := by decide +kernel
theorem dX11_hold_32 : decode cX11_hold 32 = .ok (.istore_n 3, 1) := by decide +kernel
theorem dX11_hold_33 : decode cX11_hold 33 = .ok (.iload_n 2, 1) := by decide +kernel
theorem dX11_hold_34 : decode cX11_hold 34 = .ok (.ifCond .ne 18, 3) := by decide +kernel
theorem dX11_hold_37 : decode cX11_hold 37 = .ok (.aload_n 0, 1) := by decide +kernel
theorem dX11_hold_38 : decode cX11_hold 38 = .ok (.getfield 12, 3) := by decide +kernel
theorem dX11_hold_41 : decode cX11_hold 41 = .ok (.getfield 372, 3) := by decide +kernel
theorem dX11_hold_44 : decode cX11_hold 44 = .ok (.iload_n 1, 1) := by decide +kernel
theorem dX11_hold_45 : decode cX11_hold 45 = .ok (.iload_n 3, 1) := by decide +kernel
theorem dX11_hold_46 : decode cX11_hold 46 = .ok (.invokevirtual 397, 3) := by decide +kernel
theorem dX11_hold_49 : decode cX11_hold 49 = .ok (.goto 4, 3) := by decide +kernel
theorem dX11_hold_52 : decode cX11_hold 52 = .ok (.iload_n 3, 1) := by decide +kernel
theorem dX11_hold_53 : decode cX11_hold 53 = .ok (.ireturn, 1) := by decide +kernel
theorem dX11_ask_0 : decode cX11_ask 0 = .ok (.iload_n 1, 1) := by decide +kernel
theorem dX11_ask_1 : decode cX11_ask 1 = .ok (.invokestatic 50, 3) := by decide +kernel
theorem dX11_ask_4 : decode cX11_ask 4 = .ok (.ifCond .eq 10, 3) := by decide +kernel
theorem dX11_ask_7 : decode cX11_ask 7 = .ok (.iload_n 2, 1) := by decide +kernel
theorem dX11_ask_8 : decode cX11_ask 8 = .ok (.invokestatic 161, 3) := by decide +kernel
theorem dX11_ask_11 : decode cX11_ask 11 = .ok (.ifCond .ne 5, 3) := by decide +kernel
theorem dX11_ask_14 : decode cX11_ask 14 = .ok (.iconst (-1), 1) := by decide +kernel
theorem dX11_ask_15 : decode cX11_ask 15 = .ok (.ireturn, 1) := by decide +kernel
theorem dX11_ask_16 : decode cX11_ask 16 = .ok (.lload_n 3, 1) := by decide +kernel
theorem dX11_ask_17 : decode cX11_ask 17 = .ok (.lload 5, 2) := by decide +kernel
theorem dX11_ask_19 : decode cX11_ask 19 = .ok (.lor, 1) := by decide +kernel
theorem dX11_ask_20 : decode cX11_ask 20 = .ok (.aload_n 0, 1) := by decide +kernel
theorem dX11_ask_21 : decode cX11_ask 21 = .ok (.getfield 12, 3) := by decide +kernel
theorem dX11_ask_24 : decode cX11_ask 24 = .ok (.getfield 32, 3) := by decide +kernel
theorem dX11_ask_27 : decode cX11_ask 27 = .ok (.invokevirtual 400, 3) := by decide +kernel
theorem dX11_ask_30 : decode cX11_ask 30 = .ok (.ldc2_w 236, 3) := by decide +kernel
theorem dX11_ask_33 : decode cX11_ask 33 = .ok (.lxor, 1) := by decide +kernel
theorem dX11_ask_34 : decode cX11_ask 34 = .ok (.land, 1) := by decide +kernel
theorem dX11_ask_35 : decode cX11_ask 35 = .ok (.lconst 0, 1) := by decide +kernel
theorem dX11_ask_36 : decode cX11_ask 36 = .ok (.lcmp, 1) := by decide +kernel
theorem dX11_ask_37 : decode cX11_ask 37 = .ok (.ifCond .eq 6, 3) := by decide +kernel
theorem dX11_ask_40 : decode cX11_ask 40 = .ok (.bipush (-2), 2) := by decide +kernel
theorem dX11_ask_42 : decode cX11_ask 42 = .ok (.ireturn, 1) := by decide +kernel
theorem dX11_ask_43 : decode cX11_ask 43 = .ok (.aload_n 0, 1) := by decide +kernel
theorem dX11_ask_44 : decode cX11_ask 44 = .ok (.getfield 12, 3) := by decide +kernel
theorem dX11_ask_47 : decode cX11_ask 47 = .ok (.getfield 403, 3) := by decide +kernel
theorem dX11_ask_50 : decode cX11_ask 50 = .ok (.getfield 407, 3) := by decide +kernel
theorem dX11_ask_53 : decode cX11_ask 53 = .ok (.bipush 6, 2) := by decide +kernel
theorem dX11_ask_55 : decode cX11_ask 55 = .ok (.if_icmp .lt 6, 3) := by decide +kernel
theorem dX11_ask_58 : decode cX11_ask 58 = .ok (.bipush (-4), 2) := by decide +kernel
theorem dX11_ask_60 : decode cX11_ask 60 = .ok (.ireturn, 1) := by decide +kernel
theorem dX11_ask_61 : decode cX11_ask 61 = .ok (.aload_n 0, 1) := by decide +kernel
theorem dX11_ask_62 : decode cX11_ask 62 = .ok (.getfield 12, 3) := by decide +kernel
theorem dX11_ask_65 : decode cX11_ask 65 = .ok (.getfield 403, 3) := by decide +kernel
theorem dX11_ask_68 : decode cX11_ask 68 = .ok (.iload_n 1, 1) := by decide +kernel
theorem dX11_ask_69 : decode cX11_ask 69 = .ok (.iload_n 2, 1) := by decide +kernel
theorem dX11_ask_70 : decode cX11_ask 70 = .ok (.invokestatic 183, 3) := by decide +kernel
theorem dX11_ask_73 : decode cX11_ask 73 = .ok (.lload_n 3, 1) := by decide +kernel
theorem dX11_ask_74 : decode cX11_ask 74 = .ok (.lload 5, 2) := by decide +kernel
theorem dX11_ask_76 : decode cX11_ask 76 = .ok (.invokevirtual 412, 3) := by decide +kernel
theorem dX11_ask_79 : decode cX11_ask 79 = .ok (.ireturn, 1) := by decide +kernel
theorem dX11_want_0 : decode cX11_want 0 = .ok (.iload_n 1, 1) := by decide +kernel
theorem dX11_want_1 : decode cX11_want 1 = .ok (.invokestatic 128, 3) := by decide +kernel
theorem dX11_want_4 : decode cX11_want 4 = .ok (.ifCond .ne 6, 3) := by decide +kernel
theorem dX11_want_7 : decode cX11_want 7 = .ok (.bipush (-2), 2) := by decide +kernel
theorem dX11_want_9 : decode cX11_want 9 = .ok (.ireturn, 1) := by decide +kernel
theorem dX11_want_10 : decode cX11_want 10 = .ok (.aload_n 0, 1) := by decide +kernel
theorem dX11_want_11 : decode cX11_want 11 = .ok (.getfield 12, 3) := by decide +kernel
theorem dX11_want_14 : decode cX11_want 14 = .ok (.getfield 403, 3) := by decide +kernel
theorem dX11_want_17 : decode cX11_want 17 = .ok (.iload_n 1, 1) := by decide +kernel
theorem dX11_want_18 : decode cX11_want 18 = .ok (.invokevirtual 416, 3) := by decide +kernel
theorem dX11_want_21 : decode cX11_want 21 = .ok (.ifCond .eq 6, 3) := by decide +kernel
theorem dX11_want_24 : decode cX11_want 24 = .ok (.bipush (-3), 2) := by decide +kernel
theorem dX11_want_26 : decode cX11_want 26 = .ok (.ireturn, 1) := by decide +kernel
theorem dX11_want_27 : decode cX11_want 27 = .ok (.aload_n 0, 1) := by decide +kernel
theorem dX11_want_28 : decode cX11_want 28 = .ok (.getfield 12, 3) := by decide +kernel
theorem dX11_want_31 : decode cX11_want 31 = .ok (.getfield 403, 3) := by decide +kernel
theorem dX11_want_34 : decode cX11_want 34 = .ok (.getfield 419, 3) := by decide +kernel
theorem dX11_want_37 : decode cX11_want 37 = .ok (.bipush 10, 2) := by decide +kernel
theorem dX11_want_39 : decode cX11_want 39 = .ok (.if_icmp .lt 8, 3) := by decide +kernel
theorem dX11_want_42 : decode cX11_want 42 = .ok (.bipush (-4), 2) := by decide +kernel
theorem dX11_want_44 : decode cX11_want 44 = .ok (.goto 14, 3) := by decide +kernel
theorem dX11_want_47 : decode cX11_want 47 = .ok (.aload_n 0, 1) := by decide +kernel
theorem dX11_want_48 : decode cX11_want 48 = .ok (.getfield 12, 3) := by decide +kernel
theorem dX11_want_51 : decode cX11_want 51 = .ok (.getfield 403, 3) := by decide +kernel
theorem dX11_want_54 : decode cX11_want 54 = .ok (.iload_n 1, 1) := by decide +kernel
theorem dX11_want_55 : decode cX11_want 55 = .ok (.invokevirtual 422, 3) := by decide +kernel
theorem dX11_want_58 : decode cX11_want 58 = .ok (.ireturn, 1) := by decide +kernel
theorem dX11_judge_0 : decode cX11_judge 0 = .ok (.iload_n 2, 1) := by decide +kernel
theorem dX11_judge_1 : decode cX11_judge 1 = .ok (.iconst 0, 1) := by decide +kernel
theorem dX11_judge_2 : decode cX11_judge 2 = .ok (.iconst 1, 1) := by decide +kernel
theorem dX11_judge_3 : decode cX11_judge 3 = .ok (.invokestatic 54, 3) := by decide +kernel
theorem dX11_judge_6 : decode cX11_judge 6 = .ok (.ifCond .ne 5, 3) := by decide +kernel
theorem dX11_judge_9 : decode cX11_judge 9 = .ok (.iconst (-1), 1) := by decide +kernel
theorem dX11_judge_10 : decode cX11_judge 10 = .ok (.ireturn, 1) := by decide +kernel
theorem dX11_judge_11 : decode cX11_judge 11 = .ok (.iload_n 1, 1) := by decide +kernel
theorem dX11_judge_12 : decode cX11_judge 12 = .ok (.iconst 0, 1) := by decide +kernel
theorem dX11_judge_13 : decode cX11_judge 13 = .ok (.aload_n 0, 1) := by decide +kernel
theorem dX11_judge_14 : decode cX11_judge 14 = .ok (.getfield 12, 3) := by decide +kernel
theorem dX11_judge_17 : decode cX11_judge 17 = .ok (.getfield 403, 3) := by decide +kernel
theorem dX11_judge_20 : decode cX11_judge 20 = .ok (.invokevirtual 425, 3) := by decide +kernel
theorem dX11_judge_23 : decode cX11_judge 23 = .ok (.invokestatic 54, 3) := by decide +kernel
theorem dX11_judge_26 : decode cX11_judge 26 = .ok (.ifCond .ne 6, 3) := by decide +kernel
theorem dX11_judge_29 : decode cX11_judge 29 = .ok (.bipush (-2), 2) := by decide +kernel
theorem dX11_judge_31 : decode cX11_judge 31 = .ok (.ireturn, 1) := by decide +kernel
theorem dX11_judge_32 : decode cX11_judge 32 = .ok (.iload_n 2, 1) := by decide +kernel
theorem dX11_judge_33 : decode cX11_judge 33 = .ok (.ifCond .ne 11, 3) := by decide +kernel
theorem dX11_judge_36 : decode cX11_judge 36 = .ok (.aload_n 0, 1) := by decide +kernel
theorem dX11_judge_37 : decode cX11_judge 37 = .ok (.iload_n 1, 1) := by decide +kernel
theorem dX11_judge_38 : decode cX11_judge 38 = .ok (.invokevirtual 428, 3) := by decide +kernel
theorem dX11_judge_41 : decode cX11_judge 41 = .ok (.goto 18, 3) := by decide +kernel
theorem dX11_judge_44 : decode cX11_judge 44 = .ok (.aload_n 0, 1) := by decide +kernel
theorem dX11_judge_45 : decode cX11_judge 45 = .ok (.iload_n 1, 1) := by decide +kernel
theorem dX11_judge_46 : decode cX11_judge 46 = .ok (.aload_n 0, 1) := by decide +kernel
theorem dX11_judge_47 : decode cX11_judge 47 = .ok (.getfield 12, 3) := by decide +kernel
theorem dX11_judge_50 : decode cX11_judge 50 = .ok (.getfield 32, 3) := by decide +kernel
theorem dX11_judge_53 : decode cX11_judge 53 = .ok (.invokevirtual 229, 3) := by decide +kernel
theorem dX11_judge_56 : decode cX11_judge 56 = .ok (.invokevirtual 431, 3) := by decide +kernel
theorem dX11_judge_59 : decode cX11_judge 59 = .ok (.ireturn, 1) := by decide +kernel
theorem dX11_best_0 : decode cX11_best 0 = .ok (.aload_n 0, 1) := by decide +kernel
theorem dX11_best_1 : decode cX11_best 1 = .ok (.invokevirtual 435, 3) := by decide +kernel
theorem dX11_best_4 : decode cX11_best 4 = .ok (.istore_n 1, 1) := by decide +kernel
theorem dX11_best_5 : decode cX11_best 5 = .ok (.iload_n 1, 1) := by decide +kernel
theorem dX11_best_6 : decode cX11_best 6 = .ok (.bipush (-5), 2) := by decide +kernel
theorem dX11_best_8 : decode cX11_best 8 = .ok (.if_icmp .ne 6, 3) := by decide +kernel
theorem dX11_best_11 : decode cX11_best 11 = .ok (.bipush (-5), 2) := by decide +kernel
theorem dX11_best_13 : decode cX11_best 13 = .ok (.ireturn, 1) := by decide +kernel
theorem dX11_best_14 : decode cX11_best 14 = .ok (.aload_n 0, 1) := by decide +kernel
theorem dX11_best_15 : decode cX11_best 15 = .ok (.getfield 12, 3) := by decide +kernel
theorem dX11_best_18 : decode cX11_best 18 = .ok (.getfield 32, 3) := by decide +kernel
theorem dX11_best_21 : decode cX11_best 21 = .ok (.invokevirtual 229, 3) := by decide +kernel
theorem dX11_best_24 : decode cX11_best 24 = .ok (.lstore_n 2, 1) := by decide +kernel
theorem dX11_best_25 : decode cX11_best 25 = .ok (.bipush (-5), 2) := by decide +kernel
theorem dX11_best_27 : decode cX11_best 27 = .ok (.istore 4, 2) := by decide +kernel
theorem dX11_best_29 : decode cX11_best 29 = .ok (.bipush 51, 2) := by decide +kernel
theorem dX11_best_31 : decode cX11_best 31 = .ok (.istore 5, 2) := by decide +kernel
theorem dX11_best_33 : decode cX11_best 33 = .ok (.aload_n 0, 1) := by decide +kernel
theorem dX11_best_34 : decode cX11_best 34 = .ok (.getfield 12, 3) := by decide +kernel
theorem dX11_best_37 : decode cX11_best 37 = .ok (.getfield 403, 3) := by decide +kernel
theorem dX11_best_40 : decode cX11_best 40 = .ok (.invokevirtual 425, 3) := by decide +kernel
theorem dX11_best_43 : decode cX11_best 43 = .ok (.istore 6, 2) := by decide +kernel
theorem dX11_best_45 : decode cX11_best 45 = .ok (.iconst 0, 1) := by decide +kernel
theorem dX11_best_46 : decode cX11_best 46 = .ok (.istore 7, 2) := by decide +kernel
theorem dX11_best_48 : decode cX11_best 48 = .ok (.iload 7, 2) := by decide +kernel
theorem dX11_best_50 : decode cX11_best 50 = .ok (.iload 6, 2) := by decide +kernel
theorem dX11_best_52 : decode cX11_best 52 = .ok (.if_icmp .gt 41, 3) := by decide +kernel
theorem dX11_best_55 : decode cX11_best 55 = .ok (.iload 7, 2) := by decide +kernel
theorem dX11_best_57 : decode cX11_best 57 = .ok (.iload_n 1, 1) := by decide +kernel
theorem dX11_best_58 : decode cX11_best 58 = .ok (.iand, 1) := by decide +kernel
theorem dX11_best_59 : decode cX11_best 59 = .ok (.iload_n 1, 1) := by decide +kernel
theorem dX11_best_60 : decode cX11_best 60 = .ok (.if_icmp .ne 27, 3) := by decide +kernel
theorem dX11_best_63 : decode cX11_best 63 = .ok (.aload_n 0, 1) := by decide +kernel
theorem dX11_best_64 : decode cX11_best 64 = .ok (.iload 7, 2) := by decide +kernel
theorem dX11_best_66 : decode cX11_best 66 = .ok (.lload_n 2, 1) := by decide +kernel
theorem dX11_best_67 : decode cX11_best 67 = .ok (.invokevirtual 431, 3) := by decide +kernel
theorem dX11_best_70 : decode cX11_best 70 = .ok (.istore 8, 2) := by decide +kernel
theorem dX11_best_72 : decode cX11_best 72 = .ok (.iload 8, 2) := by decide +kernel
theorem dX11_best_74 : decode cX11_best 74 = .ok (.iload 5, 2) := by decide +kernel
theorem dX11_best_76 : decode cX11_best 76 = .ok (.if_icmp .ge 11, 3) := by decide +kernel
theorem dX11_best_79 : decode cX11_best 79 = .ok (.iload 7, 2) := by decide +kernel
theorem dX11_best_81 : decode cX11_best 81 = .ok (.istore 4, 2) := by decide +kernel
theorem dX11_best_83 : decode cX11_best 83 = .ok (.iload 8, 2) := by decide +kernel
theorem dX11_best_85 : decode cX11_best 85 = .ok (.istore 5, 2) := by decide +kernel
theorem dX11_best_87 : decode cX11_best 87 = .ok (.iinc 7 1, 3) := by decide +kernel
theorem dX11_best_90 : decode cX11_best 90 = .ok (.goto (-42), 3) := by decide +kernel
theorem dX11_best_93 : decode cX11_best 93 = .ok (.iload 4, 2) := by decide +kernel
theorem dX11_best_95 : decode cX11_best 95 = .ok (.ireturn, 1) := by decide +kernel
theorem dX11_tried_0 : decode cX11_tried 0 = .ok (.iload_n 1, 1) := by decide +kernel
theorem dX11_tried_1 : decode cX11_tried 1 = .ok (.invokestatic 102, 3) := by decide +kernel
theorem dX11_tried_4 : decode cX11_tried 4 = .ok (.ifCond .eq 12, 3) := by decide +kernel
theorem dX11_tried_7 : decode cX11_tried 7 = .ok (.iload_n 2, 1) := by decide +kernel
theorem dX11_tried_8 : decode cX11_tried 8 = .ok (.iconst 0, 1) := by decide +kernel
theorem dX11_tried_9 : decode cX11_tried 9 = .ok (.iconst 2, 1) := by decide +kernel
theorem dX11_tried_10 : decode cX11_tried 10 = .ok (.invokestatic 54, 3) := by decide +kernel
theorem dX11_tried_13 : decode cX11_tried 13 = .ok (.ifCond .ne 5, 3) := by decide +kernel
theorem dX11_tried_16 : decode cX11_tried 16 = .ok (.iconst (-1), 1) := by decide +kernel
theorem dX11_tried_17 : decode cX11_tried 17 = .ok (.ireturn, 1) := by decide +kernel
theorem dX11_tried_18 : decode cX11_tried 18 = .ok (.aload_n 0, 1) := by decide +kernel
theorem dX11_tried_19 : decode cX11_tried 19 = .ok (.getfield 22, 3) := by decide +kernel
theorem dX11_tried_22 : decode cX11_tried 22 = .ok (.aload_n 0, 1) := by decide +kernel
theorem dX11_tried_23 : decode cX11_tried 23 = .ok (.getfield 12, 3) := by decide +kernel
theorem dX11_tried_26 : decode cX11_tried 26 = .ok (.getfield 28, 3) := by decide +kernel
theorem dX11_tried_29 : decode cX11_tried 29 = .ok (.invokevirtual 111, 3) := by decide +kernel
theorem dX11_tried_32 : decode cX11_tried 32 = .ok (.istore_n 3, 1) := by decide +kernel
theorem dX11_tried_33 : decode cX11_tried 33 = .ok (.iload_n 3, 1) := by decide +kernel
theorem dX11_tried_34 : decode cX11_tried 34 = .ok (.ifCond .lt 8, 3) := by decide +kernel
theorem dX11_tried_37 : decode cX11_tried 37 = .ok (.bipush (-10), 2) := by decide +kernel
theorem dX11_tried_39 : decode cX11_tried 39 = .ok (.iload_n 3, 1) := by decide +kernel
theorem dX11_tried_40 : decode cX11_tried 40 = .ok (.isub, 1) := by decide +kernel
theorem dX11_tried_41 : decode cX11_tried 41 = .ok (.ireturn, 1) := by decide +kernel
theorem dX11_tried_42 : decode cX11_tried 42 = .ok (.aload_n 0, 1) := by decide +kernel
theorem dX11_tried_43 : decode cX11_tried 43 = .ok (.getfield 39, 3) := by decide +kernel
theorem dX11_tried_46 : decode cX11_tried 46 = .ok (.aload_n 0, 1) := by decide +kernel
theorem dX11_tried_47 : decode cX11_tried 47 = .ok (.getfield 12, 3) := by decide +kernel
theorem dX11_tried_50 : decode cX11_tried 50 = .ok (.getfield 28, 3) := by decide +kernel
theorem dX11_tried_53 : decode cX11_tried 53 = .ok (.getfield 85, 3) := by decide +kernel
theorem dX11_tried_56 : decode cX11_tried 56 = .ok (.invokevirtual 131, 3) := by decide +kernel
theorem dX11_tried_59 : decode cX11_tried 59 = .ok (.aload_n 0, 1) := by decide +kernel
theorem dX11_tried_60 : decode cX11_tried 60 = .ok (.getfield 39, 3) := by decide +kernel
theorem dX11_tried_63 : decode cX11_tried 63 = .ok (.new 115, 3) := by decide +kernel
theorem dX11_tried_66 : decode cX11_tried 66 = .ok (.dup, 1) := by decide +kernel
theorem dX11_tried_67 : decode cX11_tried 67 = .ok (.aload_n 0, 1) := by decide +kernel
theorem dX11_tried_68 : decode cX11_tried 68 = .ok (.getfield 12, 3) := by decide +kernel
theorem dX11_tried_71 : decode cX11_tried 71 = .ok (.getfield 28, 3) := by decide +kernel
theorem dX11_tried_74 : decode cX11_tried 74 = .ok (.getfield 108, 3) := by decide +kernel
theorem dX11_tried_77 : decode cX11_tried 77 = .ok (.iload_n 1, 1) := by decide +kernel
theorem dX11_tried_78 : decode cX11_tried 78 = .ok (.aload_n 0, 1) := by decide +kernel
theorem dX11_tried_79 : decode cX11_tried 79 = .ok (.getfield 12, 3) := by decide +kernel
theorem dX11_tried_82 : decode cX11_tried 82 = .ok (.getfield 28, 3) := by decide +kernel
theorem dX11_tried_85 : decode cX11_tried 85 = .ok (.getfield 85, 3) := by decide +kernel
theorem dX11_tried_88 : decode cX11_tried 88 = .ok (.aload_n 0, 1) := by decide +kernel
theorem dX11_tried_89 : decode cX11_tried 89 = .ok (.getfield 22, 3) := by decide +kernel
theorem dX11_tried_92 : decode cX11_tried 92 = .ok (.invokevirtual 117, 3) := by decide +kernel
theorem dX11_tried_95 : decode cX11_tried 95 = .ok (.invokespecial 121, 3) := by decide +kernel
theorem dX11_tried_98 : decode cX11_tried 98 = .ok (.invokevirtual 438, 3) := by decide +kernel
theorem dX11_tried_101 : decode cX11_tried 101 = .ok (.iload_n 2, 1) := by decide +kernel
theorem dX11_tried_102 : decode cX11_tried 102 = .ok (.ifCond .ne 13, 3) := by decide +kernel
theorem dX11_tried_105 : decode cX11_tried 105 = .ok (.aload_n 0, 1) := by decide +kernel
theorem dX11_tried_106 : decode cX11_tried 106 = .ok (.getfield 39, 3) := by decide +kernel
theorem dX11_tried_109 : decode cX11_tried 109 = .ok (.iconst 0, 1) := by decide +kernel
theorem dX11_tried_110 : decode cX11_tried 110 = .ok (.iconst 1, 1) := by decide +kernel
theorem dX11_tried_111 : decode cX11_tried 111 = .ok (.invokevirtual 152, 3) := by decide +kernel
theorem dX11_tried_114 : decode cX11_tried 114 = .ok (.ireturn, 1) := by decide +kernel
theorem dX11_tried_115 : decode cX11_tried 115 = .ok (.iload_n 2, 1) := by decide +kernel
theorem dX11_tried_116 : decode cX11_tried 116 = .ok (.iconst 1, 1) := by decide +kernel
theorem dX11_tried_117 : decode cX11_tried 117 = .ok (.if_icmp .ne 13, 3) := by decide +kernel
theorem dX11_tried_120 : decode cX11_tried 120 = .ok (.aload_n 0, 1) := by decide +kernel
theorem dX11_tried_121 : decode cX11_tried 121 = .ok (.getfield 39, 3) := by decide +kernel
theorem dX11_tried_124 : decode cX11_tried 124 = .ok (.invokevirtual 441, 3) := by decide +kernel
theorem dX11_tried_127 : decode cX11_tried 127 = .ok (.goto 7, 3) := by decide +kernel
theorem dX11_tried_130 : decode cX11_tried 130 = .ok (.aload_n 0, 1) := by decide +kernel
theorem dX11_tried_131 : decode cX11_tried 131 = .ok (.invokevirtual 444, 3) := by decide +kernel
theorem dX11_tried_134 : decode cX11_tried 134 = .ok (.ireturn, 1) := by decide +kernel
theorem dX11_image_0 : decode cX11_image 0 = .ok (.aload_n 0, 1) := by decide +kernel
theorem dX11_image_1 : decode cX11_image 1 = .ok (.getfield 16, 3) := by decide +kernel
theorem dX11_image_4 : decode cX11_image 4 = .ok (.aload_n 0, 1) := by decide +kernel
theorem dX11_image_5 : decode cX11_image 5 = .ok (.getfield 12, 3) := by decide +kernel
theorem dX11_image_8 : decode cX11_image 8 = .ok (.invokevirtual 447, 3) := by decide +kernel
theorem dX11_image_11 : decode cX11_image 11 = .ok (.aload_n 0, 1) := by decide +kernel
theorem dX11_image_12 : decode cX11_image 12 = .ok (.iconst 1, 1) := by decide +kernel
theorem dX11_image_13 : decode cX11_image 13 = .ok (.putfield 451, 3) := by decide +kernel
theorem dX11_image_16 : decode cX11_image 16 = .ok (.aload_n 0, 1) := by decide +kernel
theorem dX11_image_17 : decode cX11_image 17 = .ok (.getfield 12, 3) := by decide +kernel
theorem dX11_image_20 : decode cX11_image 20 = .ok (.getfield 28, 3) := by decide +kernel
theorem dX11_image_23 : decode cX11_image 23 = .ok (.getfield 85, 3) := by decide +kernel
theorem dX11_image_26 : decode cX11_image 26 = .ok (.ireturn, 1) := by decide +kernel
theorem dX11_undo_0 : decode cX11_undo 0 = .ok (.aload_n 0, 1) := by decide +kernel
theorem dX11_undo_1 : decode cX11_undo 1 = .ok (.getfield 451, 3) := by decide +kernel
theorem dX11_undo_4 : decode cX11_undo 4 = .ok (.ifCond .ne 6, 3) := by decide +kernel
theorem dX11_undo_7 : decode cX11_undo 7 = .ok (.bipush (-3), 2) := by decide +kernel
theorem dX11_undo_9 : decode cX11_undo 9 = .ok (.ireturn, 1) := by decide +kernel
theorem dX11_undo_10 : decode cX11_undo 10 = .ok (.aload_n 0, 1) := by decide +kernel
theorem dX11_undo_11 : decode cX11_undo 11 = .ok (.getfield 12, 3) := by decide +kernel
theorem dX11_undo_14 : decode cX11_undo 14 = .ok (.aload_n 0, 1) := by decide +kernel
theorem dX11_undo_15 : decode cX11_undo 15 = .ok (.getfield 16, 3) := by decide +kernel
theorem dX11_undo_18 : decode cX11_undo 18 = .ok (.invokevirtual 447, 3) := by decide +kernel
theorem dX11_undo_21 : decode cX11_undo 21 = .ok (.aload_n 0, 1) := by decide +kernel
theorem dX11_undo_22 : decode cX11_undo 22 = .ok (.getfield 12, 3) := by decide +kernel
theorem dX11_undo_25 : decode cX11_undo 25 = .ok (.getfield 28, 3) := by decide +kernel
theorem dX11_undo_28 : decode cX11_undo 28 = .ok (.getfield 85, 3) := by decide +kernel
theorem dX11_undo_31 : decode cX11_undo 31 = .ok (.ireturn, 1) := by decide +kernel
theorem dX11_count_0 : decode cX11_count 0 = .ok (.iload_n 1, 1) := by decide +kernel
theorem dX11_count_1 : decode cX11_count 1 = .ok (.tableswitch 180 0 10 #[59, 70, 81, 92, 103, 114, 125, 136, 147, 158, 169], 59) := by decide +kernel
theorem dX11_count_60 : decode cX11_count 60 = .ok (.aload_n 0, 1) := by decide +kernel
theorem dX11_count_61 : decode cX11_count 61 = .ok (.getfield 12, 3) := by decide +kernel
theorem dX11_count_64 : decode cX11_count 64 = .ok (.getfield 28, 3) := by decide +kernel
theorem dX11_count_67 : decode cX11_count 67 = .ok (.getfield 108, 3) := by decide +kernel
theorem dX11_count_70 : decode cX11_count 70 = .ok (.ireturn, 1) := by decide +kernel
theorem dX11_count_71 : decode cX11_count 71 = .ok (.aload_n 0, 1) := by decide +kernel
theorem dX11_count_72 : decode cX11_count 72 = .ok (.getfield 12, 3) := by decide +kernel
theorem dX11_count_75 : decode cX11_count 75 = .ok (.getfield 32, 3) := by decide +kernel
theorem dX11_count_78 : decode cX11_count 78 = .ok (.getfield 170, 3) := by decide +kernel
theorem dX11_count_81 : decode cX11_count 81 = .ok (.ireturn, 1) := by decide +kernel
theorem dX11_count_82 : decode cX11_count 82 = .ok (.aload_n 0, 1) := by decide +kernel
theorem dX11_count_83 : decode cX11_count 83 = .ok (.getfield 12, 3) := by decide +kernel
theorem dX11_count_86 : decode cX11_count 86 = .ok (.getfield 28, 3) := by decide +kernel
theorem dX11_count_89 : decode cX11_count 89 = .ok (.getfield 85, 3) := by decide +kernel
theorem dX11_count_92 : decode cX11_count 92 = .ok (.ireturn, 1) := by decide +kernel
theorem dX11_count_93 : decode cX11_count 93 = .ok (.aload_n 0, 1) := by decide +kernel
theorem dX11_count_94 : decode cX11_count 94 = .ok (.getfield 12, 3) := by decide +kernel
theorem dX11_count_97 : decode cX11_count 97 = .ok (.getfield 58, 3) := by decide +kernel
theorem dX11_count_100 : decode cX11_count 100 = .ok (.getfield 267, 3) := by decide +kernel
theorem dX11_count_103 : decode cX11_count 103 = .ok (.ireturn, 1) := by decide +kernel
theorem dX11_count_104 : decode cX11_count 104 = .ok (.aload_n 0, 1) := by decide +kernel
theorem dX11_count_105 : decode cX11_count 105 = .ok (.getfield 12, 3) := by decide +kernel
theorem dX11_count_108 : decode cX11_count 108 = .ok (.getfield 58, 3) := by decide +kernel
theorem dX11_count_111 : decode cX11_count 111 = .ok (.getfield 291, 3) := by decide +kernel
theorem dX11_count_114 : decode cX11_count 114 = .ok (.ireturn, 1) := by decide +kernel
theorem dX11_count_115 : decode cX11_count 115 = .ok (.aload_n 0, 1) := by decide +kernel
theorem dX11_count_116 : decode cX11_count 116 = .ok (.getfield 12, 3) := by decide +kernel
theorem dX11_count_119 : decode cX11_count 119 = .ok (.getfield 58, 3) := by decide +kernel
theorem dX11_count_122 : decode cX11_count 122 = .ok (.getfield 316, 3) := by decide +kernel
theorem dX11_count_125 : decode cX11_count 125 = .ok (.ireturn, 1) := by decide +kernel
theorem dX11_count_126 : decode cX11_count 126 = .ok (.aload_n 0, 1) := by decide +kernel
theorem dX11_count_127 : decode cX11_count 127 = .ok (.getfield 12, 3) := by decide +kernel
theorem dX11_count_130 : decode cX11_count 130 = .ok (.getfield 67, 3) := by decide +kernel
theorem dX11_count_133 : decode cX11_count 133 = .ok (.getfield 340, 3) := by decide +kernel
theorem dX11_count_136 : decode cX11_count 136 = .ok (.ireturn, 1) := by decide +kernel
theorem dX11_count_137 : decode cX11_count 137 = .ok (.aload_n 0, 1) := by decide +kernel
theorem dX11_count_138 : decode cX11_count 138 = .ok (.getfield 12, 3) := by decide +kernel
theorem dX11_count_141 : decode cX11_count 141 = .ok (.getfield 372, 3) := by decide +kernel
theorem dX11_count_144 : decode cX11_count 144 = .ok (.getfield 388, 3) := by decide +kernel
theorem dX11_count_147 : decode cX11_count 147 = .ok (.ireturn, 1) := by decide +kernel
theorem dX11_count_148 : decode cX11_count 148 = .ok (.aload_n 0, 1) := by decide +kernel
theorem dX11_count_149 : decode cX11_count 149 = .ok (.getfield 12, 3) := by decide +kernel
theorem dX11_count_152 : decode cX11_count 152 = .ok (.getfield 403, 3) := by decide +kernel
theorem dX11_count_155 : decode cX11_count 155 = .ok (.getfield 407, 3) := by decide +kernel
theorem dX11_count_158 : decode cX11_count 158 = .ok (.ireturn, 1) := by decide +kernel
theorem dX11_count_159 : decode cX11_count 159 = .ok (.aload_n 0, 1) := by decide +kernel
theorem dX11_count_160 : decode cX11_count 160 = .ok (.getfield 12, 3) := by decide +kernel
theorem dX11_count_163 : decode cX11_count 163 = .ok (.getfield 403, 3) := by decide +kernel
theorem dX11_count_166 : decode cX11_count 166 = .ok (.getfield 419, 3) := by decide +kernel
theorem dX11_count_169 : decode cX11_count 169 = .ok (.ireturn, 1) := by decide +kernel
theorem dX11_count_170 : decode cX11_count 170 = .ok (.aload_n 0, 1) := by decide +kernel
theorem dX11_count_171 : decode cX11_count 171 = .ok (.getfield 12, 3) := by decide +kernel
theorem dX11_count_174 : decode cX11_count 174 = .ok (.getfield 28, 3) := by decide +kernel
theorem dX11_count_177 : decode cX11_count 177 = .ok (.getfield 95, 3) := by decide +kernel
theorem dX11_count_180 : decode cX11_count 180 = .ok (.ireturn, 1) := by decide +kernel
theorem dX11_count_181 : decode cX11_count 181 = .ok (.iconst (-1), 1) := by decide +kernel
theorem dX11_count_182 : decode cX11_count 182 = .ok (.ireturn, 1) := by decide +kernel
theorem dX11_seatsOf_0 : decode cX11_seatsOf 0 = .ok (.iconst 0, 1) := by decide +kernel
theorem dX11_seatsOf_1 : decode cX11_seatsOf 1 = .ok (.istore_n 2, 1) := by decide +kernel
theorem dX11_seatsOf_2 : decode cX11_seatsOf 2 = .ok (.iconst 0, 1) := by decide +kernel
theorem dX11_seatsOf_3 : decode cX11_seatsOf 3 = .ok (.istore_n 3, 1) := by decide +kernel
theorem dX11_seatsOf_4 : decode cX11_seatsOf 4 = .ok (.iload_n 3, 1) := by decide +kernel
theorem dX11_seatsOf_5 : decode cX11_seatsOf 5 = .ok (.bipush 6, 2) := by decide +kernel
theorem dX11_seatsOf_7 : decode cX11_seatsOf 7 = .ok (.if_icmp .ge 26, 3) := by decide +kernel
theorem dX11_seatsOf_10 : decode cX11_seatsOf 10 = .ok (.iload_n 1, 1) := by decide +kernel
theorem dX11_seatsOf_11 : decode cX11_seatsOf 11 = .ok (.iload_n 3, 1) := by decide +kernel
theorem dX11_seatsOf_12 : decode cX11_seatsOf 12 = .ok (.ishr, 1) := by decide +kernel
theorem dX11_seatsOf_13 : decode cX11_seatsOf 13 = .ok (.iconst 1, 1) := by decide +kernel
theorem dX11_seatsOf_14 : decode cX11_seatsOf 14 = .ok (.iand, 1) := by decide +kernel
theorem dX11_seatsOf_15 : decode cX11_seatsOf 15 = .ok (.ifCond .eq 12, 3) := by decide +kernel
theorem dX11_seatsOf_18 : decode cX11_seatsOf 18 = .ok (.iload_n 2, 1) := by decide +kernel
theorem dX11_seatsOf_19 : decode cX11_seatsOf 19 = .ok (.aload_n 0, 1) := by decide +kernel
theorem dX11_seatsOf_20 : decode cX11_seatsOf 20 = .ok (.getfield 47, 3) := by decide +kernel
theorem dX11_seatsOf_23 : decode cX11_seatsOf 23 = .ok (.iload_n 3, 1) := by decide +kernel
theorem dX11_seatsOf_24 : decode cX11_seatsOf 24 = .ok (.iaload, 1) := by decide +kernel
theorem dX11_seatsOf_25 : decode cX11_seatsOf 25 = .ok (.iadd, 1) := by decide +kernel
theorem dX11_seatsOf_26 : decode cX11_seatsOf 26 = .ok (.istore_n 2, 1) := by decide +kernel
theorem dX11_seatsOf_27 : decode cX11_seatsOf 27 = .ok (.iinc 3 1, 3) := by decide +kernel
theorem dX11_seatsOf_30 : decode cX11_seatsOf 30 = .ok (.goto (-26), 3) := by decide +kernel
theorem dX11_seatsOf_33 : decode cX11_seatsOf 33 = .ok (.iload_n 2, 1) := by decide +kernel
theorem dX11_seatsOf_34 : decode cX11_seatsOf 34 = .ok (.ireturn, 1) := by decide +kernel
theorem dX11_metBy_0 : decode cX11_metBy 0 = .ok (.aload_n 0, 1) := by decide +kernel
theorem dX11_metBy_1 : decode cX11_metBy 1 = .ok (.getfield 39, 3) := by decide +kernel
theorem dX11_metBy_4 : decode cX11_metBy 4 = .ok (.aload_n 0, 1) := by decide +kernel
theorem dX11_metBy_5 : decode cX11_metBy 5 = .ok (.getfield 12, 3) := by decide +kernel
theorem dX11_metBy_8 : decode cX11_metBy 8 = .ok (.getfield 28, 3) := by decide +kernel
theorem dX11_metBy_11 : decode cX11_metBy 11 = .ok (.getfield 85, 3) := by decide +kernel
theorem dX11_metBy_14 : decode cX11_metBy 14 = .ok (.invokevirtual 131, 3) := by decide +kernel
theorem dX11_metBy_17 : decode cX11_metBy 17 = .ok (.iconst 0, 1) := by decide +kernel
theorem dX11_metBy_18 : decode cX11_metBy 18 = .ok (.istore_n 2, 1) := by decide +kernel
theorem dX11_metBy_19 : decode cX11_metBy 19 = .ok (.iconst 0, 1) := by decide +kernel
theorem dX11_metBy_20 : decode cX11_metBy 20 = .ok (.istore_n 3, 1) := by decide +kernel
theorem dX11_metBy_21 : decode cX11_metBy 21 = .ok (.iload_n 3, 1) := by decide +kernel
theorem dX11_metBy_22 : decode cX11_metBy 22 = .ok (.aload_n 0, 1) := by decide +kernel
theorem dX11_metBy_23 : decode cX11_metBy 23 = .ok (.getfield 12, 3) := by decide +kernel
theorem dX11_metBy_26 : decode cX11_metBy 26 = .ok (.getfield 403, 3) := by decide +kernel
theorem dX11_metBy_29 : decode cX11_metBy 29 = .ok (.getfield 419, 3) := by decide +kernel
theorem dX11_metBy_32 : decode cX11_metBy 32 = .ok (.if_icmp .ge 76, 3) := by decide +kernel
theorem dX11_metBy_35 : decode cX11_metBy 35 = .ok (.aload_n 0, 1) := by decide +kernel
theorem dX11_metBy_36 : decode cX11_metBy 36 = .ok (.getfield 12, 3) := by decide +kernel
theorem dX11_metBy_39 : decode cX11_metBy 39 = .ok (.getfield 403, 3) := by decide +kernel
theorem dX11_metBy_42 : decode cX11_metBy 42 = .ok (.getfield 455, 3) := by decide +kernel
theorem dX11_metBy_45 : decode cX11_metBy 45 = .ok (.iload_n 3, 1) := by decide +kernel
theorem dX11_metBy_46 : decode cX11_metBy 46 = .ok (.iaload, 1) := by decide +kernel
theorem dX11_metBy_47 : decode cX11_metBy 47 = .ok (.istore 4, 2) := by decide +kernel
theorem dX11_metBy_49 : decode cX11_metBy 49 = .ok (.aload_n 0, 1) := by decide +kernel
theorem dX11_metBy_50 : decode cX11_metBy 50 = .ok (.getfield 12, 3) := by decide +kernel
theorem dX11_metBy_53 : decode cX11_metBy 53 = .ok (.getfield 403, 3) := by decide +kernel
theorem dX11_metBy_56 : decode cX11_metBy 56 = .ok (.iload 4, 2) := by decide +kernel
theorem dX11_metBy_58 : decode cX11_metBy 58 = .ok (.bipush 24, 2) := by decide +kernel
theorem dX11_metBy_60 : decode cX11_metBy 60 = .ok (.idiv, 1) := by decide +kernel
theorem dX11_metBy_61 : decode cX11_metBy 61 = .ok (.sipush 150, 3) := by decide +kernel
theorem dX11_metBy_64 : decode cX11_metBy 64 = .ok (.irem, 1) := by decide +kernel
theorem dX11_metBy_65 : decode cX11_metBy 65 = .ok (.invokevirtual 458, 3) := by decide +kernel
theorem dX11_metBy_68 : decode cX11_metBy 68 = .ok (.istore 5, 2) := by decide +kernel
theorem dX11_metBy_70 : decode cX11_metBy 70 = .ok (.iload 5, 2) := by decide +kernel
theorem dX11_metBy_72 : decode cX11_metBy 72 = .ok (.ifCond .ge 18, 3) := by decide +kernel
theorem dX11_metBy_75 : decode cX11_metBy 75 = .ok (.aload_n 0, 1) := by decide +kernel
theorem dX11_metBy_76 : decode cX11_metBy 76 = .ok (.getfield 39, 3) := by decide +kernel
theorem dX11_metBy_79 : decode cX11_metBy 79 = .ok (.iload 4, 2) := by decide +kernel
theorem dX11_metBy_81 : decode cX11_metBy 81 = .ok (.invokevirtual 134, 3) := by decide +kernel
theorem dX11_metBy_84 : decode cX11_metBy 84 = .ok (.ifCond .eq 18, 3) := by decide +kernel
theorem dX11_metBy_87 : decode cX11_metBy 87 = .ok (.goto 12, 3) := by decide +kernel
theorem dX11_metBy_90 : decode cX11_metBy 90 = .ok (.iload_n 1, 1) := by decide +kernel
theorem dX11_metBy_91 : decode cX11_metBy 91 = .ok (.iload 5, 2) := by decide +kernel
theorem dX11_metBy_93 : decode cX11_metBy 93 = .ok (.ishr, 1) := by decide +kernel
theorem dX11_metBy_94 : decode cX11_metBy 94 = .ok (.iconst 1, 1) := by decide +kernel
theorem dX11_metBy_95 : decode cX11_metBy 95 = .ok (.iand, 1) := by decide +kernel
theorem dX11_metBy_96 : decode cX11_metBy 96 = .ok (.ifCond .eq 6, 3) := by decide +kernel
theorem dX11_metBy_99 : decode cX11_metBy 99 = .ok (.iinc 2 1, 3) := by decide +kernel
theorem dX11_metBy_102 : decode cX11_metBy 102 = .ok (.iinc 3 1, 3) := by decide +kernel
theorem dX11_metBy_105 : decode cX11_metBy 105 = .ok (.goto (-84), 3) := by decide +kernel
theorem dX11_metBy_108 : decode cX11_metBy 108 = .ok (.iload_n 2, 1) := by decide +kernel
theorem dX11_metBy_109 : decode cX11_metBy 109 = .ok (.ireturn, 1) := by decide +kernel
theorem dX11_neededAnswers_0 : decode cX11_neededAnswers 0 = .ok (.aload_n 0, 1) := by decide +kernel
theorem dX11_neededAnswers_1 : decode cX11_neededAnswers 1 = .ok (.getfield 39, 3) := by decide +kernel
theorem dX11_neededAnswers_4 : decode cX11_neededAnswers 4 = .ok (.aload_n 0, 1) := by decide +kernel
theorem dX11_neededAnswers_5 : decode cX11_neededAnswers 5 = .ok (.getfield 12, 3) := by decide +kernel
theorem dX11_neededAnswers_8 : decode cX11_neededAnswers 8 = .ok (.getfield 28, 3) := by decide +kernel
theorem dX11_neededAnswers_11 : decode cX11_neededAnswers 11 = .ok (.getfield 85, 3) := by decide +kernel
theorem dX11_neededAnswers_14 : decode cX11_neededAnswers 14 = .ok (.invokevirtual 131, 3) := by decide +kernel
theorem dX11_neededAnswers_17 : decode cX11_neededAnswers 17 = .ok (.iconst 0, 1) := by decide +kernel
theorem dX11_neededAnswers_18 : decode cX11_neededAnswers 18 = .ok (.istore_n 1, 1) := by decide +kernel
theorem dX11_neededAnswers_19 : decode cX11_neededAnswers 19 = .ok (.iconst 0, 1) := by decide +kernel
theorem dX11_neededAnswers_20 : decode cX11_neededAnswers 20 = .ok (.istore_n 2, 1) := by decide +kernel
theorem dX11_neededAnswers_21 : decode cX11_neededAnswers 21 = .ok (.iload_n 2, 1) := by decide +kernel
theorem dX11_neededAnswers_22 : decode cX11_neededAnswers 22 = .ok (.aload_n 0, 1) := by decide +kernel
theorem dX11_neededAnswers_23 : decode cX11_neededAnswers 23 = .ok (.getfield 12, 3) := by decide +kernel
theorem dX11_neededAnswers_26 : decode cX11_neededAnswers 26 = .ok (.getfield 403, 3) := by decide +kernel
theorem dX11_neededAnswers_29 : decode cX11_neededAnswers 29 = .ok (.getfield 419, 3) := by decide +kernel
theorem dX11_neededAnswers_32 : decode cX11_neededAnswers 32 = .ok (.if_icmp .ge 71, 3) := by decide +kernel
theorem dX11_neededAnswers_35 : decode cX11_neededAnswers 35 = .ok (.aload_n 0, 1) := by decide +kernel
theorem dX11_neededAnswers_36 : decode cX11_neededAnswers 36 = .ok (.getfield 12, 3) := by decide +kernel
theorem dX11_neededAnswers_39 : decode cX11_neededAnswers 39 = .ok (.getfield 403, 3) := by decide +kernel
theorem dX11_neededAnswers_42 : decode cX11_neededAnswers 42 = .ok (.getfield 455, 3) := by decide +kernel
theorem dX11_neededAnswers_45 : decode cX11_neededAnswers 45 = .ok (.iload_n 2, 1) := by decide +kernel
theorem dX11_neededAnswers_46 : decode cX11_neededAnswers 46 = .ok (.iaload, 1) := by decide +kernel
theorem dX11_neededAnswers_47 : decode cX11_neededAnswers 47 = .ok (.istore_n 3, 1) := by decide +kernel
theorem dX11_neededAnswers_48 : decode cX11_neededAnswers 48 = .ok (.aload_n 0, 1) := by decide +kernel
theorem dX11_neededAnswers_49 : decode cX11_neededAnswers 49 = .ok (.getfield 12, 3) := by decide +kernel
theorem dX11_neededAnswers_52 : decode cX11_neededAnswers 52 = .ok (.getfield 403, 3) := by decide +kernel
theorem dX11_neededAnswers_55 : decode cX11_neededAnswers 55 = .ok (.iload_n 3, 1) := by decide +kernel
theorem dX11_neededAnswers_56 : decode cX11_neededAnswers 56 = .ok (.bipush 24, 2) := by decide +kernel
theorem dX11_neededAnswers_58 : decode cX11_neededAnswers 58 = .ok (.idiv, 1) := by decide +kernel
theorem dX11_neededAnswers_59 : decode cX11_neededAnswers 59 = .ok (.sipush 150, 3) := by decide +kernel
theorem dX11_neededAnswers_62 : decode cX11_neededAnswers 62 = .ok (.irem, 1) := by decide +kernel
theorem dX11_neededAnswers_63 : decode cX11_neededAnswers 63 = .ok (.invokevirtual 458, 3) := by decide +kernel
theorem dX11_neededAnswers_66 : decode cX11_neededAnswers 66 = .ok (.istore 4, 2) := by decide +kernel
theorem dX11_neededAnswers_68 : decode cX11_neededAnswers 68 = .ok (.iload 4, 2) := by decide +kernel
theorem dX11_neededAnswers_70 : decode cX11_neededAnswers 70 = .ok (.ifCond .lt 13, 3) := by decide +kernel
theorem dX11_neededAnswers_73 : decode cX11_neededAnswers 73 = .ok (.iload_n 1, 1) := by decide +kernel
theorem dX11_neededAnswers_74 : decode cX11_neededAnswers 74 = .ok (.iconst 1, 1) := by decide +kernel
theorem dX11_neededAnswers_75 : decode cX11_neededAnswers 75 = .ok (.iload 4, 2) := by decide +kernel
theorem dX11_neededAnswers_77 : decode cX11_neededAnswers 77 = .ok (.ishl, 1) := by decide +kernel
theorem dX11_neededAnswers_78 : decode cX11_neededAnswers 78 = .ok (.ior, 1) := by decide +kernel
theorem dX11_neededAnswers_79 : decode cX11_neededAnswers 79 = .ok (.istore_n 1, 1) := by decide +kernel
theorem dX11_neededAnswers_80 : decode cX11_neededAnswers 80 = .ok (.goto 17, 3) := by decide +kernel
theorem dX11_neededAnswers_83 : decode cX11_neededAnswers 83 = .ok (.aload_n 0, 1) := by decide +kernel
theorem dX11_neededAnswers_84 : decode cX11_neededAnswers 84 = .ok (.getfield 39, 3) := by decide +kernel
theorem dX11_neededAnswers_87 : decode cX11_neededAnswers 87 = .ok (.iload_n 3, 1) := by decide +kernel
theorem dX11_neededAnswers_88 : decode cX11_neededAnswers 88 = .ok (.invokevirtual 134, 3) := by decide +kernel
theorem dX11_neededAnswers_91 : decode cX11_neededAnswers 91 = .ok (.ifCond .ne 6, 3) := by decide +kernel
theorem dX11_neededAnswers_94 : decode cX11_neededAnswers 94 = .ok (.bipush (-5), 2) := by decide +kernel
theorem dX11_neededAnswers_96 : decode cX11_neededAnswers 96 = .ok (.ireturn, 1) := by decide +kernel
theorem dX11_neededAnswers_97 : decode cX11_neededAnswers 97 = .ok (.iinc 2 1, 3) := by decide +kernel
theorem dX11_neededAnswers_100 : decode cX11_neededAnswers 100 = .ok (.goto (-79), 3) := by decide +kernel
theorem dX11_neededAnswers_103 : decode cX11_neededAnswers 103 = .ok (.iload_n 1, 1) := by decide +kernel
theorem dX11_neededAnswers_104 : decode cX11_neededAnswers 104 = .ok (.ireturn, 1) := by decide +kernel
theorem dX11_fallsBy_0 : decode cX11_fallsBy 0 = .ok (.aload_n 0, 1) := by decide +kernel
theorem dX11_fallsBy_1 : decode cX11_fallsBy 1 = .ok (.getfield 12, 3) := by decide +kernel
theorem dX11_fallsBy_4 : decode cX11_fallsBy 4 = .ok (.getfield 32, 3) := by decide +kernel
theorem dX11_fallsBy_7 : decode cX11_fallsBy 7 = .ok (.aload_n 0, 1) := by decide +kernel
theorem dX11_fallsBy_8 : decode cX11_fallsBy 8 = .ok (.getfield 12, 3) := by decide +kernel
theorem dX11_fallsBy_11 : decode cX11_fallsBy 11 = .ok (.getfield 403, 3) := by decide +kernel
theorem dX11_fallsBy_14 : decode cX11_fallsBy 14 = .ok (.iload_n 1, 1) := by decide +kernel
theorem dX11_fallsBy_15 : decode cX11_fallsBy 15 = .ok (.invokevirtual 461, 3) := by decide +kernel
theorem dX11_fallsBy_18 : decode cX11_fallsBy 18 = .ok (.invokevirtual 232, 3) := by decide +kernel
theorem dX11_fallsBy_21 : decode cX11_fallsBy 21 = .ok (.lload_n 2, 1) := by decide +kernel
theorem dX11_fallsBy_22 : decode cX11_fallsBy 22 = .ok (.land, 1) := by decide +kernel
theorem dX11_fallsBy_23 : decode cX11_fallsBy 23 = .ok (.invokestatic 203, 3) := by decide +kernel
theorem dX11_fallsBy_26 : decode cX11_fallsBy 26 = .ok (.ireturn, 1) := by decide +kernel
theorem dX11_wantedLet_0 : decode cX11_wantedLet 0 = .ok (.iconst 0, 1) := by decide +kernel
theorem dX11_wantedLet_1 : decode cX11_wantedLet 1 = .ok (.istore_n 1, 1) := by decide +kernel
theorem dX11_wantedLet_2 : decode cX11_wantedLet 2 = .ok (.iconst 0, 1) := by decide +kernel
theorem dX11_wantedLet_3 : decode cX11_wantedLet 3 = .ok (.istore_n 2, 1) := by decide +kernel
theorem dX11_wantedLet_4 : decode cX11_wantedLet 4 = .ok (.iload_n 2, 1) := by decide +kernel
theorem dX11_wantedLet_5 : decode cX11_wantedLet 5 = .ok (.aload_n 0, 1) := by decide +kernel
theorem dX11_wantedLet_6 : decode cX11_wantedLet 6 = .ok (.getfield 12, 3) := by decide +kernel
theorem dX11_wantedLet_9 : decode cX11_wantedLet 9 = .ok (.getfield 403, 3) := by decide +kernel
theorem dX11_wantedLet_12 : decode cX11_wantedLet 12 = .ok (.getfield 419, 3) := by decide +kernel
theorem dX11_wantedLet_15 : decode cX11_wantedLet 15 = .ok (.if_icmp .ge 34, 3) := by decide +kernel
theorem dX11_wantedLet_18 : decode cX11_wantedLet 18 = .ok (.aload_n 0, 1) := by decide +kernel
theorem dX11_wantedLet_19 : decode cX11_wantedLet 19 = .ok (.getfield 39, 3) := by decide +kernel
theorem dX11_wantedLet_22 : decode cX11_wantedLet 22 = .ok (.aload_n 0, 1) := by decide +kernel
theorem dX11_wantedLet_23 : decode cX11_wantedLet 23 = .ok (.getfield 12, 3) := by decide +kernel
theorem dX11_wantedLet_26 : decode cX11_wantedLet 26 = .ok (.getfield 403, 3) := by decide +kernel
theorem dX11_wantedLet_29 : decode cX11_wantedLet 29 = .ok (.getfield 455, 3) := by decide +kernel
theorem dX11_wantedLet_32 : decode cX11_wantedLet 32 = .ok (.iload_n 2, 1) := by decide +kernel
theorem dX11_wantedLet_33 : decode cX11_wantedLet 33 = .ok (.iaload, 1) := by decide +kernel
theorem dX11_wantedLet_34 : decode cX11_wantedLet 34 = .ok (.invokevirtual 134, 3) := by decide +kernel
theorem dX11_wantedLet_37 : decode cX11_wantedLet 37 = .ok (.ifCond .eq 6, 3) := by decide +kernel
theorem dX11_wantedLet_40 : decode cX11_wantedLet 40 = .ok (.iinc 1 1, 3) := by decide +kernel
theorem dX11_wantedLet_43 : decode cX11_wantedLet 43 = .ok (.iinc 2 1, 3) := by decide +kernel
theorem dX11_wantedLet_46 : decode cX11_wantedLet 46 = .ok (.goto (-42), 3) := by decide +kernel
theorem dX11_wantedLet_49 : decode cX11_wantedLet 49 = .ok (.iload_n 1, 1) := by decide +kernel
theorem dX11_wantedLet_50 : decode cX11_wantedLet 50 = .ok (.ireturn, 1) := by decide +kernel
theorem dX11_isWithin_0 : decode cX11_isWithin 0 = .ok (.iload_n 0, 1) := by decide +kernel
theorem dX11_isWithin_1 : decode cX11_isWithin 1 = .ok (.iload_n 1, 1) := by decide +kernel
theorem dX11_isWithin_2 : decode cX11_isWithin 2 = .ok (.if_icmp .lt 12, 3) := by decide +kernel
theorem dX11_isWithin_5 : decode cX11_isWithin 5 = .ok (.iload_n 0, 1) := by decide +kernel
theorem dX11_isWithin_6 : decode cX11_isWithin 6 = .ok (.iload_n 2, 1) := by decide +kernel
theorem dX11_isWithin_7 : decode cX11_isWithin 7 = .ok (.if_icmp .gt 7, 3) := by decide +kernel
theorem dX11_isWithin_10 : decode cX11_isWithin 10 = .ok (.iconst 1, 1) := by decide +kernel
theorem dX11_isWithin_11 : decode cX11_isWithin 11 = .ok (.goto 4, 3) := by decide +kernel
theorem dX11_isWithin_14 : decode cX11_isWithin 14 = .ok (.iconst 0, 1) := by decide +kernel
theorem dX11_isWithin_15 : decode cX11_isWithin 15 = .ok (.ireturn, 1) := by decide +kernel
theorem dX11_isSpot_0 : decode cX11_isSpot 0 = .ok (.iload_n 0, 1) := by decide +kernel
theorem dX11_isSpot_1 : decode cX11_isSpot 1 = .ok (.iconst 0, 1) := by decide +kernel
theorem dX11_isSpot_2 : decode cX11_isSpot 2 = .ok (.bipush 29, 2) := by decide +kernel
theorem dX11_isSpot_4 : decode cX11_isSpot 4 = .ok (.invokestatic 54, 3) := by decide +kernel
theorem dX11_isSpot_7 : decode cX11_isSpot 7 = .ok (.ireturn, 1) := by decide +kernel
theorem dX11_isSide_0 : decode cX11_isSide 0 = .ok (.iload_n 0, 1) := by decide +kernel
theorem dX11_isSide_1 : decode cX11_isSide 1 = .ok (.iconst 0, 1) := by decide +kernel
theorem dX11_isSide_2 : decode cX11_isSide 2 = .ok (.iconst 2, 1) := by decide +kernel
theorem dX11_isSide_3 : decode cX11_isSide 3 = .ok (.invokestatic 54, 3) := by decide +kernel
theorem dX11_isSide_6 : decode cX11_isSide 6 = .ok (.ireturn, 1) := by decide +kernel
theorem dX11_isTongue_0 : decode cX11_isTongue 0 = .ok (.iload_n 0, 1) := by decide +kernel
theorem dX11_isTongue_1 : decode cX11_isTongue 1 = .ok (.iconst 0, 1) := by decide +kernel
theorem dX11_isTongue_2 : decode cX11_isTongue 2 = .ok (.iconst 2, 1) := by decide +kernel
theorem dX11_isTongue_3 : decode cX11_isTongue 3 = .ok (.invokestatic 54, 3) := by decide +kernel
theorem dX11_isTongue_6 : decode cX11_isTongue 6 = .ok (.ireturn, 1) := by decide +kernel
theorem dX11_isMatter_0 : decode cX11_isMatter 0 = .ok (.iload_n 0, 1) := by decide +kernel
theorem dX11_isMatter_1 : decode cX11_isMatter 1 = .ok (.iconst 0, 1) := by decide +kernel
theorem dX11_isMatter_2 : decode cX11_isMatter 2 = .ok (.iconst 4, 1) := by decide +kernel
theorem dX11_isMatter_3 : decode cX11_isMatter 3 = .ok (.invokestatic 54, 3) := by decide +kernel
theorem dX11_isMatter_6 : decode cX11_isMatter 6 = .ok (.ireturn, 1) := by decide +kernel
theorem dX11_isHour_0 : decode cX11_isHour 0 = .ok (.iload_n 0, 1) := by decide +kernel
theorem dX11_isHour_1 : decode cX11_isHour 1 = .ok (.iconst 0, 1) := by decide +kernel
theorem dX11_isHour_2 : decode cX11_isHour 2 = .ok (.bipush 23, 2) := by decide +kernel
theorem dX11_isHour_4 : decode cX11_isHour 4 = .ok (.invokestatic 54, 3) := by decide +kernel
theorem dX11_isHour_7 : decode cX11_isHour 7 = .ok (.ireturn, 1) := by decide +kernel
theorem dX11_isDay_0 : decode cX11_isDay 0 = .ok (.iload_n 0, 1) := by decide +kernel
theorem dX11_isDay_1 : decode cX11_isDay 1 = .ok (.iconst 0, 1) := by decide +kernel
theorem dX11_isDay_2 : decode cX11_isDay 2 = .ok (.sipush 999, 3) := by decide +kernel
theorem dX11_isDay_5 : decode cX11_isDay 5 = .ok (.invokestatic 54, 3) := by decide +kernel
theorem dX11_isDay_8 : decode cX11_isDay 8 = .ok (.ireturn, 1) := by decide +kernel
theorem dX11_isAct_0 : decode cX11_isAct 0 = .ok (.iload_n 0, 1) := by decide +kernel
theorem dX11_isAct_1 : decode cX11_isAct 1 = .ok (.iconst 0, 1) := by decide +kernel
theorem dX11_isAct_2 : decode cX11_isAct 2 = .ok (.sipush 10799, 3) := by decide +kernel
theorem dX11_isAct_5 : decode cX11_isAct 5 = .ok (.invokestatic 54, 3) := by decide +kernel
theorem dX11_isAct_8 : decode cX11_isAct 8 = .ok (.ireturn, 1) := by decide +kernel
theorem dX11_isGood_0 : decode cX11_isGood 0 = .ok (.iload_n 0, 1) := by decide +kernel
theorem dX11_isGood_1 : decode cX11_isGood 1 = .ok (.iconst 0, 1) := by decide +kernel
theorem dX11_isGood_2 : decode cX11_isGood 2 = .ok (.iconst 3, 1) := by decide +kernel
theorem dX11_isGood_3 : decode cX11_isGood 3 = .ok (.invokestatic 54, 3) := by decide +kernel
theorem dX11_isGood_6 : decode cX11_isGood 6 = .ok (.ireturn, 1) := by decide +kernel
theorem dX11_isPerson_0 : decode cX11_isPerson 0 = .ok (.iload_n 0, 1) := by decide +kernel
theorem dX11_isPerson_1 : decode cX11_isPerson 1 = .ok (.iconst 0, 1) := by decide +kernel
theorem dX11_isPerson_2 : decode cX11_isPerson 2 = .ok (.bipush 7, 2) := by decide +kernel
theorem dX11_isPerson_4 : decode cX11_isPerson 4 = .ok (.invokestatic 54, 3) := by decide +kernel
theorem dX11_isPerson_7 : decode cX11_isPerson 7 = .ok (.ireturn, 1) := by decide +kernel
theorem dX11_cellOf_0 : decode cX11_cellOf 0 = .ok (.iload_n 0, 1) := by decide +kernel
theorem dX11_cellOf_1 : decode cX11_cellOf 1 = .ok (.iconst 5, 1) := by decide +kernel
theorem dX11_cellOf_2 : decode cX11_cellOf 2 = .ok (.imul, 1) := by decide +kernel
theorem dX11_cellOf_3 : decode cX11_cellOf 3 = .ok (.iload_n 1, 1) := by decide +kernel
theorem dX11_cellOf_4 : decode cX11_cellOf 4 = .ok (.iadd, 1) := by decide +kernel
theorem dX11_cellOf_5 : decode cX11_cellOf 5 = .ok (.ireturn, 1) := by decide +kernel
theorem dX11_hasBit_0 : decode cX11_hasBit 0 = .ok (.lload_n 0, 1) := by decide +kernel
theorem dX11_hasBit_1 : decode cX11_hasBit 1 = .ok (.iload_n 2, 1) := by decide +kernel
theorem dX11_hasBit_2 : decode cX11_hasBit 2 = .ok (.lshr, 1) := by decide +kernel
theorem dX11_hasBit_3 : decode cX11_hasBit 3 = .ok (.lconst 1, 1) := by decide +kernel
theorem dX11_hasBit_4 : decode cX11_hasBit 4 = .ok (.land, 1) := by decide +kernel
theorem dX11_hasBit_5 : decode cX11_hasBit 5 = .ok (.lconst 0, 1) := by decide +kernel
theorem dX11_hasBit_6 : decode cX11_hasBit 6 = .ok (.lcmp, 1) := by decide +kernel
theorem dX11_hasBit_7 : decode cX11_hasBit 7 = .ok (.ifCond .eq 7, 3) := by decide +kernel
theorem dX11_hasBit_10 : decode cX11_hasBit 10 = .ok (.iconst 1, 1) := by decide +kernel
theorem dX11_hasBit_11 : decode cX11_hasBit 11 = .ok (.goto 4, 3) := by decide +kernel
theorem dX11_hasBit_14 : decode cX11_hasBit 14 = .ok (.iconst 0, 1) := by decide +kernel
theorem dX11_hasBit_15 : decode cX11_hasBit 15 = .ok (.ireturn, 1) := by decide +kernel
theorem dX11_leastBit_0 : decode cX11_leastBit 0 = .ok (.lload_n 0, 1) := by decide +kernel
theorem dX11_leastBit_1 : decode cX11_leastBit 1 = .ok (.lconst 1, 1) := by decide +kernel
theorem dX11_leastBit_2 : decode cX11_leastBit 2 = .ok (.lsub, 1) := by decide +kernel
theorem dX11_leastBit_3 : decode cX11_leastBit 3 = .ok (.lload_n 0, 1) := by decide +kernel
theorem dX11_leastBit_4 : decode cX11_leastBit 4 = .ok (.ldc2_w 236, 3) := by decide +kernel
theorem dX11_leastBit_7 : decode cX11_leastBit 7 = .ok (.lxor, 1) := by decide +kernel
theorem dX11_leastBit_8 : decode cX11_leastBit 8 = .ok (.land, 1) := by decide +kernel
theorem dX11_leastBit_9 : decode cX11_leastBit 9 = .ok (.invokestatic 203, 3) := by decide +kernel
theorem dX11_leastBit_12 : decode cX11_leastBit 12 = .ok (.ireturn, 1) := by decide +kernel
theorem dX11_asInt_0 : decode cX11_asInt 0 = .ok (.iload_n 0, 1) := by decide +kernel
theorem dX11_asInt_1 : decode cX11_asInt 1 = .ok (.ifCond .eq 7, 3) := by decide +kernel
theorem dX11_asInt_4 : decode cX11_asInt 4 = .ok (.iconst 1, 1) := by decide +kernel
theorem dX11_asInt_5 : decode cX11_asInt 5 = .ok (.goto 4, 3) := by decide +kernel
theorem dX11_asInt_8 : decode cX11_asInt 8 = .ok (.iconst 0, 1) := by decide +kernel
theorem dX11_asInt_9 : decode cX11_asInt 9 = .ok (.ireturn, 1) := by decide +kernel
theorem dX11_withBeside_0 : decode cX11_withBeside 0 = .ok (.iload_n 0, 1) := by decide +kernel
theorem dX11_withBeside_1 : decode cX11_withBeside 1 = .ok (.ldc_w 465, 3) := by decide +kernel
theorem dX11_withBeside_4 : decode cX11_withBeside 4 = .ok (.iand, 1) := by decide +kernel
theorem dX11_withBeside_5 : decode cX11_withBeside 5 = .ok (.iconst 1, 1) := by decide +kernel
theorem dX11_withBeside_6 : decode cX11_withBeside 6 = .ok (.ishl, 1) := by decide +kernel
theorem dX11_withBeside_7 : decode cX11_withBeside 7 = .ok (.iload_n 0, 1) := by decide +kernel
theorem dX11_withBeside_8 : decode cX11_withBeside 8 = .ok (.ldc_w 466, 3) := by decide +kernel
theorem dX11_withBeside_11 : decode cX11_withBeside 11 = .ok (.iand, 1) := by decide +kernel
theorem dX11_withBeside_12 : decode cX11_withBeside 12 = .ok (.iconst 1, 1) := by decide +kernel
theorem dX11_withBeside_13 : decode cX11_withBeside 13 = .ok (.iushr, 1) := by decide +kernel
theorem dX11_withBeside_14 : decode cX11_withBeside 14 = .ok (.ior, 1) := by decide +kernel
theorem dX11_withBeside_15 : decode cX11_withBeside 15 = .ok (.istore_n 1, 1) := by decide +kernel
theorem dX11_withBeside_16 : decode cX11_withBeside 16 = .ok (.iload_n 0, 1) := by decide +kernel
theorem dX11_withBeside_17 : decode cX11_withBeside 17 = .ok (.iload_n 1, 1) := by decide +kernel
theorem dX11_withBeside_18 : decode cX11_withBeside 18 = .ok (.ior, 1) := by decide +kernel
theorem dX11_withBeside_19 : decode cX11_withBeside 19 = .ok (.iload_n 0, 1) := by decide +kernel
theorem dX11_withBeside_20 : decode cX11_withBeside 20 = .ok (.bipush 6, 2) := by decide +kernel
theorem dX11_withBeside_22 : decode cX11_withBeside 22 = .ok (.ishl, 1) := by decide +kernel
theorem dX11_withBeside_23 : decode cX11_withBeside 23 = .ok (.ior, 1) := by decide +kernel
theorem dX11_withBeside_24 : decode cX11_withBeside 24 = .ok (.iload_n 0, 1) := by decide +kernel
theorem dX11_withBeside_25 : decode cX11_withBeside 25 = .ok (.bipush 6, 2) := by decide +kernel
theorem dX11_withBeside_27 : decode cX11_withBeside 27 = .ok (.iushr, 1) := by decide +kernel
theorem dX11_withBeside_28 : decode cX11_withBeside 28 = .ok (.ior, 1) := by decide +kernel
theorem dX11_withBeside_29 : decode cX11_withBeside 29 = .ok (.ldc_w 467, 3) := by decide +kernel
theorem dX11_withBeside_32 : decode cX11_withBeside 32 = .ok (.iand, 1) := by decide +kernel
theorem dX11_withBeside_33 : decode cX11_withBeside 33 = .ok (.ireturn, 1) := by decide +kernel
theorem dX11_copyRow_0 : decode cX11_copyRow 0 = .ok (.aload_n 0, 1) := by decide +kernel
theorem dX11_copyRow_1 : decode cX11_copyRow 1 = .ok (.iconst 0, 1) := by decide +kernel
theorem dX11_copyRow_2 : decode cX11_copyRow 2 = .ok (.aload_n 1, 1) := by decide +kernel
theorem dX11_copyRow_3 : decode cX11_copyRow 3 = .ok (.iconst 0, 1) := by decide +kernel
theorem dX11_copyRow_4 : decode cX11_copyRow 4 = .ok (.aload_n 0, 1) := by decide +kernel
theorem dX11_copyRow_5 : decode cX11_copyRow 5 = .ok (.arraylength, 1) := by decide +kernel
theorem dX11_copyRow_6 : decode cX11_copyRow 6 = .ok (.aload_n 1, 1) := by decide +kernel
theorem dX11_copyRow_7 : decode cX11_copyRow 7 = .ok (.arraylength, 1) := by decide +kernel
theorem dX11_copyRow_8 : decode cX11_copyRow 8 = .ok (.invokestatic 468, 3) := by decide +kernel
theorem dX11_copyRow_11 : decode cX11_copyRow 11 = .ok (.invokestatic 473, 3) := by decide +kernel
theorem dX11_copyRow_14 : decode cX11_copyRow 14 = .ok (.return_, 1) := by decide +kernel
theorem dX11_copyRow__0 : decode cX11_copyRow_ 0 = .ok (.aload_n 0, 1) := by decide +kernel
