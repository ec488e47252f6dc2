theorem dX12_who_43 : decode cX12_who 43 = .ok (.imul, 1) := by decide +kernel
theorem dX12_who_44 : decode cX12_who 44 = .ok (.iload_n 2, 1) := by decide +kernel
theorem dX12_who_45 : decode cX12_who 45 = .ok (.iadd, 1) := by decide +kernel
theorem dX12_who_46 : decode cX12_who 46 = .ok (.baload, 1) := by decide +kernel
theorem dX12_who_47 : decode cX12_who 47 = .ok (.ifCond .eq 7, 3) := by decide +kernel
theorem dX12_who_50 : decode cX12_who 50 = .ok (.iconst 1, 1) := by decide +kernel
theorem dX12_who_51 : decode cX12_who 51 = .ok (.goto 4, 3) := by decide +kernel
theorem dX12_who_54 : decode cX12_who 54 = .ok (.iconst 0, 1) := by decide +kernel
theorem dX12_who_55 : decode cX12_who 55 = .ok (.ireturn, 1) := by decide +kernel
theorem dX12_many_0 : decode cX12_many 0 = .ok (.iconst 0, 1) := by decide +kernel
theorem dX12_many_1 : decode cX12_many 1 = .ok (.istore_n 1, 1) := by decide +kernel
theorem dX12_many_2 : decode cX12_many 2 = .ok (.iconst 0, 1) := by decide +kernel
theorem dX12_many_3 : decode cX12_many 3 = .ok (.istore_n 2, 1) := by decide +kernel
theorem dX12_many_4 : decode cX12_many 4 = .ok (.iload_n 2, 1) := by decide +kernel
theorem dX12_many_5 : decode cX12_many 5 = .ok (.bipush 20, 2) := by decide +kernel
theorem dX12_many_7 : decode cX12_many 7 = .ok (.if_icmp .ge 17, 3) := by decide +kernel
theorem dX12_many_10 : decode cX12_many 10 = .ok (.iload_n 1, 1) := by decide +kernel
theorem dX12_many_11 : decode cX12_many 11 = .ok (.iload_n 0, 1) := by decide +kernel
theorem dX12_many_12 : decode cX12_many 12 = .ok (.iload_n 2, 1) := by decide +kernel
theorem dX12_many_13 : decode cX12_many 13 = .ok (.ishr, 1) := by decide +kernel
theorem dX12_many_14 : decode cX12_many 14 = .ok (.iconst 1, 1) := by decide +kernel
theorem dX12_many_15 : decode cX12_many 15 = .ok (.iand, 1) := by decide +kernel
theorem dX12_many_16 : decode cX12_many 16 = .ok (.iadd, 1) := by decide +kernel
theorem dX12_many_17 : decode cX12_many 17 = .ok (.istore_n 1, 1) := by decide +kernel
theorem dX12_many_18 : decode cX12_many 18 = .ok (.iinc 2 1, 3) := by decide +kernel
theorem dX12_many_21 : decode cX12_many 21 = .ok (.goto (-17), 3) := by decide +kernel
theorem dX12_many_24 : decode cX12_many 24 = .ok (.iload_n 1, 1) := by decide +kernel
theorem dX12_many_25 : decode cX12_many 25 = .ok (.ireturn, 1) := by decide +kernel
theorem dX12_night_0 : decode cX12_night 0 = .ok (.iload_n 1, 1) := by decide +kernel
theorem dX12_night_1 : decode cX12_night 1 = .ok (.invokestatic 231, 3) := by decide +kernel
theorem dX12_night_4 : decode cX12_night 4 = .ok (.ifCond .eq 12, 3) := by decide +kernel
theorem dX12_night_7 : decode cX12_night 7 = .ok (.iload_n 2, 1) := by decide +kernel
theorem dX12_night_8 : decode cX12_night 8 = .ok (.iconst 0, 1) := by decide +kernel
theorem dX12_night_9 : decode cX12_night 9 = .ok (.iconst 1, 1) := by decide +kernel
theorem dX12_night_10 : decode cX12_night 10 = .ok (.invokestatic 74, 3) := by decide +kernel
theorem dX12_night_13 : decode cX12_night 13 = .ok (.ifCond .ne 5, 3) := by decide +kernel
theorem dX12_night_16 : decode cX12_night 16 = .ok (.iconst (-1), 1) := by decide +kernel
theorem dX12_night_17 : decode cX12_night 17 = .ok (.ireturn, 1) := by decide +kernel
theorem dX12_night_18 : decode cX12_night 18 = .ok (.aload_n 0, 1) := by decide +kernel
theorem dX12_night_19 : decode cX12_night 19 = .ok (.iload_n 1, 1) := by decide +kernel
theorem dX12_night_20 : decode cX12_night 20 = .ok (.invokevirtual 240, 3) := by decide +kernel
theorem dX12_night_23 : decode cX12_night 23 = .ok (.iconst 0, 1) := by decide +kernel
theorem dX12_night_24 : decode cX12_night 24 = .ok (.istore_n 3, 1) := by decide +kernel
theorem dX12_night_25 : decode cX12_night 25 = .ok (.iconst 0, 1) := by decide +kernel
theorem dX12_night_26 : decode cX12_night 26 = .ok (.istore 4, 2) := by decide +kernel
theorem dX12_night_28 : decode cX12_night 28 = .ok (.iload 4, 2) := by decide +kernel
theorem dX12_night_30 : decode cX12_night 30 = .ok (.iconst 1, 1) := by decide +kernel
theorem dX12_night_31 : decode cX12_night 31 = .ok (.aload_n 0, 1) := by decide +kernel
theorem dX12_night_32 : decode cX12_night 32 = .ok (.getfield 7, 3) := by decide +kernel
theorem dX12_night_35 : decode cX12_night 35 = .ok (.bipush 6, 2) := by decide +kernel
theorem dX12_night_37 : decode cX12_night 37 = .ok (.iaload, 1) := by decide +kernel
theorem dX12_night_38 : decode cX12_night 38 = .ok (.ishl, 1) := by decide +kernel
theorem dX12_night_39 : decode cX12_night 39 = .ok (.if_icmp .ge 43, 3) := by decide +kernel
theorem dX12_night_42 : decode cX12_night 42 = .ok (.aload_n 0, 1) := by decide +kernel
theorem dX12_night_43 : decode cX12_night 43 = .ok (.getfield 59, 3) := by decide +kernel
theorem dX12_night_46 : decode cX12_night 46 = .ok (.bipush 64, 2) := by decide +kernel
theorem dX12_night_48 : decode cX12_night 48 = .ok (.iload_n 1, 1) := by decide +kernel
theorem dX12_night_49 : decode cX12_night 49 = .ok (.imul, 1) := by decide +kernel
theorem dX12_night_50 : decode cX12_night 50 = .ok (.iload 4, 2) := by decide +kernel
theorem dX12_night_52 : decode cX12_night 52 = .ok (.iadd, 1) := by decide +kernel
theorem dX12_night_53 : decode cX12_night 53 = .ok (.baload, 1) := by decide +kernel
theorem dX12_night_54 : decode cX12_night 54 = .ok (.ifCond .eq 20, 3) := by decide +kernel
theorem dX12_night_57 : decode cX12_night 57 = .ok (.iload 4, 2) := by decide +kernel
theorem dX12_night_59 : decode cX12_night 59 = .ok (.invokestatic 243, 3) := by decide +kernel
theorem dX12_night_62 : decode cX12_night 62 = .ok (.iload_n 3, 1) := by decide +kernel
theorem dX12_night_63 : decode cX12_night 63 = .ok (.invokestatic 243, 3) := by decide +kernel
theorem dX12_night_66 : decode cX12_night 66 = .ok (.if_icmp .le 8, 3) := by decide +kernel
theorem dX12_night_69 : decode cX12_night 69 = .ok (.iload 4, 2) := by decide +kernel
theorem dX12_night_71 : decode cX12_night 71 = .ok (.goto 4, 3) := by decide +kernel
theorem dX12_night_74 : decode cX12_night 74 = .ok (.iload_n 3, 1) := by decide +kernel
theorem dX12_night_75 : decode cX12_night 75 = .ok (.istore_n 3, 1) := by decide +kernel
theorem dX12_night_76 : decode cX12_night 76 = .ok (.iinc 4 1, 3) := by decide +kernel
theorem dX12_night_79 : decode cX12_night 79 = .ok (.goto (-51), 3) := by decide +kernel
theorem dX12_night_82 : decode cX12_night 82 = .ok (.iload_n 2, 1) := by decide +kernel
theorem dX12_night_83 : decode cX12_night 83 = .ok (.ifCond .ne 10, 3) := by decide +kernel
theorem dX12_night_86 : decode cX12_night 86 = .ok (.iload_n 3, 1) := by decide +kernel
theorem dX12_night_87 : decode cX12_night 87 = .ok (.invokestatic 243, 3) := by decide +kernel
theorem dX12_night_90 : decode cX12_night 90 = .ok (.goto 4, 3) := by decide +kernel
theorem dX12_night_93 : decode cX12_night 93 = .ok (.iload_n 3, 1) := by decide +kernel
theorem dX12_night_94 : decode cX12_night 94 = .ok (.ireturn, 1) := by decide +kernel
theorem dX12_sure_0 : decode cX12_sure 0 = .ok (.iload_n 1, 1) := by decide +kernel
theorem dX12_sure_1 : decode cX12_sure 1 = .ok (.iconst 0, 1) := by decide +kernel
theorem dX12_sure_2 : decode cX12_sure 2 = .ok (.aload_n 0, 1) := by decide +kernel
theorem dX12_sure_3 : decode cX12_sure 3 = .ok (.getfield 7, 3) := by decide +kernel
theorem dX12_sure_6 : decode cX12_sure 6 = .ok (.bipush 6, 2) := by decide +kernel
theorem dX12_sure_8 : decode cX12_sure 8 = .ok (.iaload, 1) := by decide +kernel
theorem dX12_sure_9 : decode cX12_sure 9 = .ok (.iconst 1, 1) := by decide +kernel
theorem dX12_sure_10 : decode cX12_sure 10 = .ok (.isub, 1) := by decide +kernel
theorem dX12_sure_11 : decode cX12_sure 11 = .ok (.invokestatic 74, 3) := by decide +kernel
theorem dX12_sure_14 : decode cX12_sure 14 = .ok (.ifCond .ne 5, 3) := by decide +kernel
theorem dX12_sure_17 : decode cX12_sure 17 = .ok (.iconst (-1), 1) := by decide +kernel
theorem dX12_sure_18 : decode cX12_sure 18 = .ok (.ireturn, 1) := by decide +kernel
theorem dX12_sure_19 : decode cX12_sure 19 = .ok (.bipush (-5), 2) := by decide +kernel
theorem dX12_sure_21 : decode cX12_sure 21 = .ok (.istore_n 2, 1) := by decide +kernel
theorem dX12_sure_22 : decode cX12_sure 22 = .ok (.iconst 0, 1) := by decide +kernel
theorem dX12_sure_23 : decode cX12_sure 23 = .ok (.istore_n 3, 1) := by decide +kernel
theorem dX12_sure_24 : decode cX12_sure 24 = .ok (.iconst 0, 1) := by decide +kernel
theorem dX12_sure_25 : decode cX12_sure 25 = .ok (.istore 4, 2) := by decide +kernel
theorem dX12_sure_27 : decode cX12_sure 27 = .ok (.iload 4, 2) := by decide +kernel
theorem dX12_sure_29 : decode cX12_sure 29 = .ok (.bipush 8, 2) := by decide +kernel
theorem dX12_sure_31 : decode cX12_sure 31 = .ok (.if_icmp .ge 56, 3) := by decide +kernel
theorem dX12_sure_34 : decode cX12_sure 34 = .ok (.aload_n 0, 1) := by decide +kernel
theorem dX12_sure_35 : decode cX12_sure 35 = .ok (.iload 4, 2) := by decide +kernel
theorem dX12_sure_37 : decode cX12_sure 37 = .ok (.invokevirtual 240, 3) := by decide +kernel
theorem dX12_sure_40 : decode cX12_sure 40 = .ok (.aload_n 0, 1) := by decide +kernel
theorem dX12_sure_41 : decode cX12_sure 41 = .ok (.getfield 59, 3) := by decide +kernel
theorem dX12_sure_44 : decode cX12_sure 44 = .ok (.bipush 64, 2) := by decide +kernel
theorem dX12_sure_46 : decode cX12_sure 46 = .ok (.iload 4, 2) := by decide +kernel
theorem dX12_sure_48 : decode cX12_sure 48 = .ok (.imul, 1) := by decide +kernel
theorem dX12_sure_49 : decode cX12_sure 49 = .ok (.iconst 1, 1) := by decide +kernel
theorem dX12_sure_50 : decode cX12_sure 50 = .ok (.iload_n 1, 1) := by decide +kernel
theorem dX12_sure_51 : decode cX12_sure 51 = .ok (.ishl, 1) := by decide +kernel
theorem dX12_sure_52 : decode cX12_sure 52 = .ok (.iadd, 1) := by decide +kernel
theorem dX12_sure_53 : decode cX12_sure 53 = .ok (.baload, 1) := by decide +kernel
theorem dX12_sure_54 : decode cX12_sure 54 = .ok (.istore 5, 2) := by decide +kernel
theorem dX12_sure_56 : decode cX12_sure 56 = .ok (.iload 5, 2) := by decide +kernel
theorem dX12_sure_58 : decode cX12_sure 58 = .ok (.ifCond .eq 8, 3) := by decide +kernel
theorem dX12_sure_61 : decode cX12_sure 61 = .ok (.iload 4, 2) := by decide +kernel
theorem dX12_sure_63 : decode cX12_sure 63 = .ok (.goto 4, 3) := by decide +kernel
theorem dX12_sure_66 : decode cX12_sure 66 = .ok (.iload_n 2, 1) := by decide +kernel
theorem dX12_sure_67 : decode cX12_sure 67 = .ok (.istore_n 2, 1) := by decide +kernel
theorem dX12_sure_68 : decode cX12_sure 68 = .ok (.iload_n 3, 1) := by decide +kernel
theorem dX12_sure_69 : decode cX12_sure 69 = .ok (.iload 5, 2) := by decide +kernel
theorem dX12_sure_71 : decode cX12_sure 71 = .ok (.ifCond .eq 7, 3) := by decide +kernel
theorem dX12_sure_74 : decode cX12_sure 74 = .ok (.iconst 1, 1) := by decide +kernel
theorem dX12_sure_75 : decode cX12_sure 75 = .ok (.goto 4, 3) := by decide +kernel
theorem dX12_sure_78 : decode cX12_sure 78 = .ok (.iconst 0, 1) := by decide +kernel
theorem dX12_sure_79 : decode cX12_sure 79 = .ok (.iadd, 1) := by decide +kernel
theorem dX12_sure_80 : decode cX12_sure 80 = .ok (.istore_n 3, 1) := by decide +kernel
theorem dX12_sure_81 : decode cX12_sure 81 = .ok (.iinc 4 1, 3) := by decide +kernel
theorem dX12_sure_84 : decode cX12_sure 84 = .ok (.goto (-57), 3) := by decide +kernel
theorem dX12_sure_87 : decode cX12_sure 87 = .ok (.iload_n 3, 1) := by decide +kernel
theorem dX12_sure_88 : decode cX12_sure 88 = .ok (.iconst 1, 1) := by decide +kernel
theorem dX12_sure_89 : decode cX12_sure 89 = .ok (.if_icmp .ne 7, 3) := by decide +kernel
theorem dX12_sure_92 : decode cX12_sure 92 = .ok (.iload_n 2, 1) := by decide +kernel
theorem dX12_sure_93 : decode cX12_sure 93 = .ok (.goto 5, 3) := by decide +kernel
theorem dX12_sure_96 : decode cX12_sure 96 = .ok (.bipush (-5), 2) := by decide +kernel
theorem dX12_sure_98 : decode cX12_sure 98 = .ok (.ireturn, 1) := by decide +kernel
theorem dX12_vote_0 : decode cX12_vote 0 = .ok (.iload_n 1, 1) := by decide +kernel
theorem dX12_vote_1 : decode cX12_vote 1 = .ok (.iconst 0, 1) := by decide +kernel
theorem dX12_vote_2 : decode cX12_vote 2 = .ok (.iconst 5, 1) := by decide +kernel
theorem dX12_vote_3 : decode cX12_vote 3 = .ok (.invokestatic 74, 3) := by decide +kernel
theorem dX12_vote_6 : decode cX12_vote 6 = .ok (.ifCond .ne 5, 3) := by decide +kernel
theorem dX12_vote_9 : decode cX12_vote 9 = .ok (.iconst (-1), 1) := by decide +kernel
theorem dX12_vote_10 : decode cX12_vote 10 = .ok (.ireturn, 1) := by decide +kernel
theorem dX12_vote_11 : decode cX12_vote 11 = .ok (.iload_n 2, 1) := by decide +kernel
theorem dX12_vote_12 : decode cX12_vote 12 = .ok (.iconst 0, 1) := by decide +kernel
theorem dX12_vote_13 : decode cX12_vote 13 = .ok (.ldc 246, 2) := by decide +kernel
theorem dX12_vote_15 : decode cX12_vote 15 = .ok (.invokestatic 74, 3) := by decide +kernel
theorem dX12_vote_18 : decode cX12_vote 18 = .ok (.ifCond .ne 6, 3) := by decide +kernel
theorem dX12_vote_21 : decode cX12_vote 21 = .ok (.bipush (-2), 2) := by decide +kernel
theorem dX12_vote_23 : decode cX12_vote 23 = .ok (.ireturn, 1) := by decide +kernel
theorem dX12_vote_24 : decode cX12_vote 24 = .ok (.aload_n 0, 1) := by decide +kernel
theorem dX12_vote_25 : decode cX12_vote 25 = .ok (.getfield 7, 3) := by decide +kernel
theorem dX12_vote_28 : decode cX12_vote 28 = .ok (.bipush 75, 2) := by decide +kernel
theorem dX12_vote_30 : decode cX12_vote 30 = .ok (.iload_n 1, 1) := by decide +kernel
theorem dX12_vote_31 : decode cX12_vote 31 = .ok (.iadd, 1) := by decide +kernel
theorem dX12_vote_32 : decode cX12_vote 32 = .ok (.iaload, 1) := by decide +kernel
theorem dX12_vote_33 : decode cX12_vote 33 = .ok (.istore_n 3, 1) := by decide +kernel
theorem dX12_vote_34 : decode cX12_vote 34 = .ok (.aload_n 0, 1) := by decide +kernel
theorem dX12_vote_35 : decode cX12_vote 35 = .ok (.getfield 7, 3) := by decide +kernel
theorem dX12_vote_38 : decode cX12_vote 38 = .ok (.bipush 75, 2) := by decide +kernel
theorem dX12_vote_40 : decode cX12_vote 40 = .ok (.iload_n 1, 1) := by decide +kernel
theorem dX12_vote_41 : decode cX12_vote 41 = .ok (.iadd, 1) := by decide +kernel
theorem dX12_vote_42 : decode cX12_vote 42 = .ok (.iload_n 2, 1) := by decide +kernel
theorem dX12_vote_43 : decode cX12_vote 43 = .ok (.iastore, 1) := by decide +kernel
theorem dX12_vote_44 : decode cX12_vote 44 = .ok (.iload_n 3, 1) := by decide +kernel
theorem dX12_vote_45 : decode cX12_vote 45 = .ok (.ireturn, 1) := by decide +kernel
theorem dX12_seats_0 : decode cX12_seats 0 = .ok (.iconst 0, 1) := by decide +kernel
theorem dX12_seats_1 : decode cX12_seats 1 = .ok (.istore_n 2, 1) := by decide +kernel
theorem dX12_seats_2 : decode cX12_seats 2 = .ok (.iload_n 2, 1) := by decide +kernel
theorem dX12_seats_3 : decode cX12_seats 3 = .ok (.bipush 6, 2) := by decide +kernel
theorem dX12_seats_5 : decode cX12_seats 5 = .ok (.if_icmp .ge 16, 3) := by decide +kernel
theorem dX12_seats_8 : decode cX12_seats 8 = .ok (.aload_n 0, 1) := by decide +kernel
theorem dX12_seats_9 : decode cX12_seats 9 = .ok (.getfield 68, 3) := by decide +kernel
theorem dX12_seats_12 : decode cX12_seats 12 = .ok (.iload_n 2, 1) := by decide +kernel
theorem dX12_seats_13 : decode cX12_seats 13 = .ok (.iconst 0, 1) := by decide +kernel
theorem dX12_seats_14 : decode cX12_seats 14 = .ok (.iastore, 1) := by decide +kernel
theorem dX12_seats_15 : decode cX12_seats 15 = .ok (.iinc 2 1, 3) := by decide +kernel
theorem dX12_seats_18 : decode cX12_seats 18 = .ok (.goto (-16), 3) := by decide +kernel
theorem dX12_seats_21 : decode cX12_seats 21 = .ok (.iconst 0, 1) := by decide +kernel
theorem dX12_seats_22 : decode cX12_seats 22 = .ok (.istore_n 2, 1) := by decide +kernel
theorem dX12_seats_23 : decode cX12_seats 23 = .ok (.iload_n 2, 1) := by decide +kernel
theorem dX12_seats_24 : decode cX12_seats 24 = .ok (.iload_n 1, 1) := by decide +kernel
theorem dX12_seats_25 : decode cX12_seats 25 = .ok (.if_icmp .ge 112, 3) := by decide +kernel
theorem dX12_seats_28 : decode cX12_seats 28 = .ok (.iconst 0, 1) := by decide +kernel
theorem dX12_seats_29 : decode cX12_seats 29 = .ok (.istore_n 3, 1) := by decide +kernel
theorem dX12_seats_30 : decode cX12_seats 30 = .ok (.iconst 1, 1) := by decide +kernel
theorem dX12_seats_31 : decode cX12_seats 31 = .ok (.istore 4, 2) := by decide +kernel
theorem dX12_seats_33 : decode cX12_seats 33 = .ok (.iload 4, 2) := by decide +kernel
theorem dX12_seats_35 : decode cX12_seats 35 = .ok (.bipush 6, 2) := by decide +kernel
theorem dX12_seats_37 : decode cX12_seats 37 = .ok (.if_icmp .ge 68, 3) := by decide +kernel
theorem dX12_seats_40 : decode cX12_seats 40 = .ok (.aload_n 0, 1) := by decide +kernel
theorem dX12_seats_41 : decode cX12_seats 41 = .ok (.getfield 7, 3) := by decide +kernel
theorem dX12_seats_44 : decode cX12_seats 44 = .ok (.bipush 75, 2) := by decide +kernel
theorem dX12_seats_46 : decode cX12_seats 46 = .ok (.iload 4, 2) := by decide +kernel
theorem dX12_seats_48 : decode cX12_seats 48 = .ok (.iadd, 1) := by decide +kernel
theorem dX12_seats_49 : decode cX12_seats 49 = .ok (.iaload, 1) := by decide +kernel
theorem dX12_seats_50 : decode cX12_seats 50 = .ok (.i2l, 1) := by decide +kernel
theorem dX12_seats_51 : decode cX12_seats 51 = .ok (.aload_n 0, 1) := by decide +kernel
theorem dX12_seats_52 : decode cX12_seats 52 = .ok (.getfield 68, 3) := by decide +kernel
theorem dX12_seats_55 : decode cX12_seats 55 = .ok (.iload_n 3, 1) := by decide +kernel
theorem dX12_seats_56 : decode cX12_seats 56 = .ok (.iaload, 1) := by decide +kernel
theorem dX12_seats_57 : decode cX12_seats 57 = .ok (.iconst 1, 1) := by decide +kernel
theorem dX12_seats_58 : decode cX12_seats 58 = .ok (.iadd, 1) := by decide +kernel
theorem dX12_seats_59 : decode cX12_seats 59 = .ok (.i2l, 1) := by decide +kernel
theorem dX12_seats_60 : decode cX12_seats 60 = .ok (.lmul, 1) := by decide +kernel
theorem dX12_seats_61 : decode cX12_seats 61 = .ok (.aload_n 0, 1) := by decide +kernel
theorem dX12_seats_62 : decode cX12_seats 62 = .ok (.getfield 7, 3) := by decide +kernel
theorem dX12_seats_65 : decode cX12_seats 65 = .ok (.bipush 75, 2) := by decide +kernel
theorem dX12_seats_67 : decode cX12_seats 67 = .ok (.iload_n 3, 1) := by decide +kernel
theorem dX12_seats_68 : decode cX12_seats 68 = .ok (.iadd, 1) := by decide +kernel
theorem dX12_seats_69 : decode cX12_seats 69 = .ok (.iaload, 1) := by decide +kernel
theorem dX12_seats_70 : decode cX12_seats 70 = .ok (.i2l, 1) := by decide +kernel
theorem dX12_seats_71 : decode cX12_seats 71 = .ok (.aload_n 0, 1) := by decide +kernel
theorem dX12_seats_72 : decode cX12_seats 72 = .ok (.getfield 68, 3) := by decide +kernel
theorem dX12_seats_75 : decode cX12_seats 75 = .ok (.iload 4, 2) := by decide +kernel
theorem dX12_seats_77 : decode cX12_seats 77 = .ok (.iaload, 1) := by decide +kernel
theorem dX12_seats_78 : decode cX12_seats 78 = .ok (.iconst 1, 1) := by decide +kernel
theorem dX12_seats_79 : decode cX12_seats 79 = .ok (.iadd, 1) := by decide +kernel
theorem dX12_seats_80 : decode cX12_seats 80 = .ok (.i2l, 1) := by decide +kernel
theorem dX12_seats_81 : decode cX12_seats 81 = .ok (.lmul, 1) := by decide +kernel
theorem dX12_seats_82 : decode cX12_seats 82 = .ok (.lsub, 1) := by decide +kernel
theorem dX12_seats_83 : decode cX12_seats 83 = .ok (.lstore 5, 2) := by decide +kernel
theorem dX12_seats_85 : decode cX12_seats 85 = .ok (.lload 5, 2) := by decide +kernel
theorem dX12_seats_87 : decode cX12_seats 87 = .ok (.lconst 0, 1) := by decide +kernel
theorem dX12_seats_88 : decode cX12_seats 88 = .ok (.lcmp, 1) := by decide +kernel
theorem dX12_seats_89 : decode cX12_seats 89 = .ok (.ifCond .le 8, 3) := by decide +kernel
theorem dX12_seats_92 : decode cX12_seats 92 = .ok (.iload 4, 2) := by decide +kernel
theorem dX12_seats_94 : decode cX12_seats 94 = .ok (.goto 4, 3) := by decide +kernel
theorem dX12_seats_97 : decode cX12_seats 97 = .ok (.iload_n 3, 1) := by decide +kernel
theorem dX12_seats_98 : decode cX12_seats 98 = .ok (.istore_n 3, 1) := by decide +kernel
theorem dX12_seats_99 : decode cX12_seats 99 = .ok (.iinc 4 1, 3) := by decide +kernel
theorem dX12_seats_102 : decode cX12_seats 102 = .ok (.goto (-69), 3) := by decide +kernel
theorem dX12_seats_105 : decode cX12_seats 105 = .ok (.aload_n 0, 1) := by decide +kernel
theorem dX12_seats_106 : decode cX12_seats 106 = .ok (.getfield 68, 3) := by decide +kernel
theorem dX12_seats_109 : decode cX12_seats 109 = .ok (.iload_n 3, 1) := by decide +kernel
theorem dX12_seats_110 : decode cX12_seats 110 = .ok (.dup2, 1) := by decide +kernel
theorem dX12_seats_111 : decode cX12_seats 111 = .ok (.iaload, 1) := by decide +kernel
theorem dX12_seats_112 : decode cX12_seats 112 = .ok (.aload_n 0, 1) := by decide +kernel
theorem dX12_seats_113 : decode cX12_seats 113 = .ok (.getfield 7, 3) := by decide +kernel
theorem dX12_seats_116 : decode cX12_seats 116 = .ok (.bipush 75, 2) := by decide +kernel
theorem dX12_seats_118 : decode cX12_seats 118 = .ok (.iload_n 3, 1) := by decide +kernel
theorem dX12_seats_119 : decode cX12_seats 119 = .ok (.iadd, 1) := by decide +kernel
theorem dX12_seats_120 : decode cX12_seats 120 = .ok (.iaload, 1) := by decide +kernel
theorem dX12_seats_121 : decode cX12_seats 121 = .ok (.ifCond .le 7, 3) := by decide +kernel
theorem dX12_seats_124 : decode cX12_seats 124 = .ok (.iconst 1, 1) := by decide +kernel
theorem dX12_seats_125 : decode cX12_seats 125 = .ok (.goto 4, 3) := by decide +kernel
theorem dX12_seats_128 : decode cX12_seats 128 = .ok (.iconst 0, 1) := by decide +kernel
theorem dX12_seats_129 : decode cX12_seats 129 = .ok (.iadd, 1) := by decide +kernel
theorem dX12_seats_130 : decode cX12_seats 130 = .ok (.iastore, 1) := by decide +kernel
theorem dX12_seats_131 : decode cX12_seats 131 = .ok (.iinc 2 1, 3) := by decide +kernel
theorem dX12_seats_134 : decode cX12_seats 134 = .ok (.goto (-111), 3) := by decide +kernel
theorem dX12_seats_137 : decode cX12_seats 137 = .ok (.return_, 1) := by decide +kernel
theorem dX12_seat_0 : decode cX12_seat 0 = .ok (.iload_n 1, 1) := by decide +kernel
theorem dX12_seat_1 : decode cX12_seat 1 = .ok (.iconst 0, 1) := by decide +kernel
theorem dX12_seat_2 : decode cX12_seat 2 = .ok (.iconst 5, 1) := by decide +kernel
theorem dX12_seat_3 : decode cX12_seat 3 = .ok (.invokestatic 74, 3) := by decide +kernel
theorem dX12_seat_6 : decode cX12_seat 6 = .ok (.ifCond .ne 5, 3) := by decide +kernel
theorem dX12_seat_9 : decode cX12_seat 9 = .ok (.iconst (-1), 1) := by decide +kernel
theorem dX12_seat_10 : decode cX12_seat 10 = .ok (.ireturn, 1) := by decide +kernel
theorem dX12_seat_11 : decode cX12_seat 11 = .ok (.iload_n 2, 1) := by decide +kernel
theorem dX12_seat_12 : decode cX12_seat 12 = .ok (.iconst 1, 1) := by decide +kernel
theorem dX12_seat_13 : decode cX12_seat 13 = .ok (.bipush 60, 2) := by decide +kernel
theorem dX12_seat_15 : decode cX12_seat 15 = .ok (.invokestatic 74, 3) := by decide +kernel
theorem dX12_seat_18 : decode cX12_seat 18 = .ok (.ifCond .ne 6, 3) := by decide +kernel
theorem dX12_seat_21 : decode cX12_seat 21 = .ok (.bipush (-2), 2) := by decide +kernel
theorem dX12_seat_23 : decode cX12_seat 23 = .ok (.ireturn, 1) := by decide +kernel
theorem dX12_seat_24 : decode cX12_seat 24 = .ok (.aload_n 0, 1) := by decide +kernel
theorem dX12_seat_25 : decode cX12_seat 25 = .ok (.iload_n 2, 1) := by decide +kernel
theorem dX12_seat_26 : decode cX12_seat 26 = .ok (.invokevirtual 247, 3) := by decide +kernel
theorem dX12_seat_29 : decode cX12_seat 29 = .ok (.aload_n 0, 1) := by decide +kernel
theorem dX12_seat_30 : decode cX12_seat 30 = .ok (.getfield 68, 3) := by decide +kernel
theorem dX12_seat_33 : decode cX12_seat 33 = .ok (.iload_n 1, 1) := by decide +kernel
theorem dX12_seat_34 : decode cX12_seat 34 = .ok (.iaload, 1) := by decide +kernel
theorem dX12_seat_35 : decode cX12_seat 35 = .ok (.ireturn, 1) := by decide +kernel
theorem dX12_turn_0 : decode cX12_turn 0 = .ok (.iload_n 1, 1) := by decide +kernel
theorem dX12_turn_1 : decode cX12_turn 1 = .ok (.iconst 1, 1) := by decide +kernel
theorem dX12_turn_2 : decode cX12_turn 2 = .ok (.bipush 60, 2) := by decide +kernel
theorem dX12_turn_4 : decode cX12_turn 4 = .ok (.invokestatic 74, 3) := by decide +kernel
theorem dX12_turn_7 : decode cX12_turn 7 = .ok (.ifCond .eq 13, 3) := by decide +kernel
theorem dX12_turn_10 : decode cX12_turn 10 = .ok (.iload_n 2, 1) := by decide +kernel
theorem dX12_turn_11 : decode cX12_turn 11 = .ok (.iconst 1, 1) := by decide +kernel
theorem dX12_turn_12 : decode cX12_turn 12 = .ok (.bipush 60, 2) := by decide +kernel
theorem dX12_turn_14 : decode cX12_turn 14 = .ok (.invokestatic 74, 3) := by decide +kernel
theorem dX12_turn_17 : decode cX12_turn 17 = .ok (.ifCond .ne 6, 3) := by decide +kernel
theorem dX12_turn_20 : decode cX12_turn 20 = .ok (.bipush (-2), 2) := by decide +kernel
theorem dX12_turn_22 : decode cX12_turn 22 = .ok (.ireturn, 1) := by decide +kernel
theorem dX12_turn_23 : decode cX12_turn 23 = .ok (.aload_n 0, 1) := by decide +kernel
theorem dX12_turn_24 : decode cX12_turn 24 = .ok (.iload_n 1, 1) := by decide +kernel
theorem dX12_turn_25 : decode cX12_turn 25 = .ok (.invokevirtual 247, 3) := by decide +kernel
theorem dX12_turn_28 : decode cX12_turn 28 = .ok (.bipush (-5), 2) := by decide +kernel
theorem dX12_turn_30 : decode cX12_turn 30 = .ok (.istore_n 3, 1) := by decide +kernel
theorem dX12_turn_31 : decode cX12_turn 31 = .ok (.iconst 0, 1) := by decide +kernel
theorem dX12_turn_32 : decode cX12_turn 32 = .ok (.istore 4, 2) := by decide +kernel
theorem dX12_turn_34 : decode cX12_turn 34 = .ok (.iload 4, 2) := by decide +kernel
theorem dX12_turn_36 : decode cX12_turn 36 = .ok (.bipush 64, 2) := by decide +kernel
theorem dX12_turn_38 : decode cX12_turn 38 = .ok (.if_icmp .ge 86, 3) := by decide +kernel
theorem dX12_turn_41 : decode cX12_turn 41 = .ok (.iconst 0, 1) := by decide +kernel
theorem dX12_turn_42 : decode cX12_turn 42 = .ok (.istore 5, 2) := by decide +kernel
theorem dX12_turn_44 : decode cX12_turn 44 = .ok (.iconst 0, 1) := by decide +kernel
theorem dX12_turn_45 : decode cX12_turn 45 = .ok (.istore 6, 2) := by decide +kernel
theorem dX12_turn_47 : decode cX12_turn 47 = .ok (.iload 6, 2) := by decide +kernel
theorem dX12_turn_49 : decode cX12_turn 49 = .ok (.bipush 6, 2) := by decide +kernel
theorem dX12_turn_51 : decode cX12_turn 51 = .ok (.if_icmp .ge 36, 3) := by decide +kernel
theorem dX12_turn_54 : decode cX12_turn 54 = .ok (.iload 5, 2) := by decide +kernel
theorem dX12_turn_56 : decode cX12_turn 56 = .ok (.iload 4, 2) := by decide +kernel
theorem dX12_turn_58 : decode cX12_turn 58 = .ok (.iload 6, 2) := by decide +kernel
theorem dX12_turn_60 : decode cX12_turn 60 = .ok (.ishr, 1) := by decide +kernel
theorem dX12_turn_61 : decode cX12_turn 61 = .ok (.iconst 1, 1) := by decide +kernel
theorem dX12_turn_62 : decode cX12_turn 62 = .ok (.iand, 1) := by decide +kernel
theorem dX12_turn_63 : decode cX12_turn 63 = .ok (.iconst 1, 1) := by decide +kernel
theorem dX12_turn_64 : decode cX12_turn 64 = .ok (.if_icmp .ne 13, 3) := by decide +kernel
theorem dX12_turn_67 : decode cX12_turn 67 = .ok (.aload_n 0, 1) := by decide +kernel
theorem dX12_turn_68 : decode cX12_turn 68 = .ok (.getfield 68, 3) := by decide +kernel
theorem dX12_turn_71 : decode cX12_turn 71 = .ok (.iload 6, 2) := by decide +kernel
theorem dX12_turn_73 : decode cX12_turn 73 = .ok (.iaload, 1) := by decide +kernel
theorem dX12_turn_74 : decode cX12_turn 74 = .ok (.goto 4, 3) := by decide +kernel
theorem dX12_turn_77 : decode cX12_turn 77 = .ok (.iconst 0, 1) := by decide +kernel
theorem dX12_turn_78 : decode cX12_turn 78 = .ok (.iadd, 1) := by decide +kernel
theorem dX12_turn_79 : decode cX12_turn 79 = .ok (.istore 5, 2) := by decide +kernel
theorem dX12_turn_81 : decode cX12_turn 81 = .ok (.iinc 6 1, 3) := by decide +kernel
theorem dX12_turn_84 : decode cX12_turn 84 = .ok (.goto (-37), 3) := by decide +kernel
theorem dX12_turn_87 : decode cX12_turn 87 = .ok (.iload 5, 2) := by decide +kernel
theorem dX12_turn_89 : decode cX12_turn 89 = .ok (.iload_n 2, 1) := by decide +kernel
theorem dX12_turn_90 : decode cX12_turn 90 = .ok (.if_icmp .lt 26, 3) := by decide +kernel
theorem dX12_turn_93 : decode cX12_turn 93 = .ok (.iload_n 3, 1) := by decide +kernel
theorem dX12_turn_94 : decode cX12_turn 94 = .ok (.bipush (-5), 2) := by decide +kernel
theorem dX12_turn_96 : decode cX12_turn 96 = .ok (.if_icmp .eq 15, 3) := by decide +kernel
theorem dX12_turn_99 : decode cX12_turn 99 = .ok (.iload 4, 2) := by decide +kernel
theorem dX12_turn_101 : decode cX12_turn 101 = .ok (.invokestatic 243, 3) := by decide +kernel
theorem dX12_turn_104 : decode cX12_turn 104 = .ok (.iload_n 3, 1) := by decide +kernel
theorem dX12_turn_105 : decode cX12_turn 105 = .ok (.invokestatic 243, 3) := by decide +kernel
theorem dX12_turn_108 : decode cX12_turn 108 = .ok (.if_icmp .ge 8, 3) := by decide +kernel
theorem dX12_turn_111 : decode cX12_turn 111 = .ok (.iload 4, 2) := by decide +kernel
theorem dX12_turn_113 : decode cX12_turn 113 = .ok (.goto 4, 3) := by decide +kernel
theorem dX12_turn_116 : decode cX12_turn 116 = .ok (.iload_n 3, 1) := by decide +kernel
theorem dX12_turn_117 : decode cX12_turn 117 = .ok (.istore_n 3, 1) := by decide +kernel
theorem dX12_turn_118 : decode cX12_turn 118 = .ok (.iinc 4 1, 3) := by decide +kernel
theorem dX12_turn_121 : decode cX12_turn 121 = .ok (.goto (-87), 3) := by decide +kernel
theorem dX12_turn_124 : decode cX12_turn 124 = .ok (.iload_n 3, 1) := by decide +kernel
theorem dX12_turn_125 : decode cX12_turn 125 = .ok (.ireturn, 1) := by decide +kernel
theorem dX12_say_0 : decode cX12_say 0 = .ok (.iload_n 1, 1) := by decide +kernel
theorem dX12_say_1 : decode cX12_say 1 = .ok (.invokestatic 231, 3) := by decide +kernel
theorem dX12_say_4 : decode cX12_say 4 = .ok (.ifCond .eq 24, 3) := by decide +kernel
theorem dX12_say_7 : decode cX12_say 7 = .ok (.iload_n 3, 1) := by decide +kernel
theorem dX12_say_8 : decode cX12_say 8 = .ok (.iconst 0, 1) := by decide +kernel
theorem dX12_say_9 : decode cX12_say 9 = .ok (.bipush 7, 2) := by decide +kernel
theorem dX12_say_11 : decode cX12_say 11 = .ok (.invokestatic 74, 3) := by decide +kernel
theorem dX12_say_14 : decode cX12_say 14 = .ok (.ifCond .eq 14, 3) := by decide +kernel
theorem dX12_say_17 : decode cX12_say 17 = .ok (.iload 5, 2) := by decide +kernel
theorem dX12_say_19 : decode cX12_say 19 = .ok (.iconst (-1), 1) := by decide +kernel
theorem dX12_say_20 : decode cX12_say 20 = .ok (.bipush 7, 2) := by decide +kernel
theorem dX12_say_22 : decode cX12_say 22 = .ok (.invokestatic 74, 3) := by decide +kernel
theorem dX12_say_25 : decode cX12_say 25 = .ok (.ifCond .ne 5, 3) := by decide +kernel
theorem dX12_say_28 : decode cX12_say 28 = .ok (.iconst (-1), 1) := by decide +kernel
theorem dX12_say_29 : decode cX12_say 29 = .ok (.ireturn, 1) := by decide +kernel
theorem dX12_say_30 : decode cX12_say 30 = .ok (.iload_n 2, 1) := by decide +kernel
theorem dX12_say_31 : decode cX12_say 31 = .ok (.invokestatic 148, 3) := by decide +kernel
theorem dX12_say_34 : decode cX12_say 34 = .ok (.ifCond .ne 6, 3) := by decide +kernel
theorem dX12_say_37 : decode cX12_say 37 = .ok (.bipush (-2), 2) := by decide +kernel
theorem dX12_say_39 : decode cX12_say 39 = .ok (.ireturn, 1) := by decide +kernel
theorem dX12_say_40 : decode cX12_say 40 = .ok (.aload_n 0, 1) := by decide +kernel
theorem dX12_say_41 : decode cX12_say 41 = .ok (.getfield 7, 3) := by decide +kernel
theorem dX12_say_44 : decode cX12_say 44 = .ok (.bipush 7, 2) := by decide +kernel
theorem dX12_say_46 : decode cX12_say 46 = .ok (.iaload, 1) := by decide +kernel
theorem dX12_say_47 : decode cX12_say 47 = .ok (.bipush 20, 2) := by decide +kernel
theorem dX12_say_49 : decode cX12_say 49 = .ok (.if_icmp .ne 6, 3) := by decide +kernel
theorem dX12_say_52 : decode cX12_say 52 = .ok (.bipush (-4), 2) := by decide +kernel
theorem dX12_say_54 : decode cX12_say 54 = .ok (.ireturn, 1) := by decide +kernel
theorem dX12_say_55 : decode cX12_say 55 = .ok (.aload_n 0, 1) := by decide +kernel
theorem dX12_say_56 : decode cX12_say 56 = .ok (.getfield 7, 3) := by decide +kernel
theorem dX12_say_59 : decode cX12_say 59 = .ok (.bipush 7, 2) := by decide +kernel
theorem dX12_say_61 : decode cX12_say 61 = .ok (.iaload, 1) := by decide +kernel
theorem dX12_say_62 : decode cX12_say 62 = .ok (.istore 7, 2) := by decide +kernel
theorem dX12_say_64 : decode cX12_say 64 = .ok (.aload_n 0, 1) := by decide +kernel
theorem dX12_say_65 : decode cX12_say 65 = .ok (.getfield 7, 3) := by decide +kernel
theorem dX12_say_68 : decode cX12_say 68 = .ok (.sipush 460, 3) := by decide +kernel
theorem dX12_say_71 : decode cX12_say 71 = .ok (.iload 7, 2) := by decide +kernel
theorem dX12_say_73 : decode cX12_say 73 = .ok (.iadd, 1) := by decide +kernel
theorem dX12_say_74 : decode cX12_say 74 = .ok (.iload_n 2, 1) := by decide +kernel
theorem dX12_say_75 : decode cX12_say 75 = .ok (.iastore, 1) := by decide +kernel
theorem dX12_say_76 : decode cX12_say 76 = .ok (.aload_n 0, 1) := by decide +kernel
theorem dX12_say_77 : decode cX12_say 77 = .ok (.getfield 7, 3) := by decide +kernel
theorem dX12_say_80 : decode cX12_say 80 = .ok (.sipush 480, 3) := by decide +kernel
theorem dX12_say_83 : decode cX12_say 83 = .ok (.iload 7, 2) := by decide +kernel
theorem dX12_say_85 : decode cX12_say 85 = .ok (.iadd, 1) := by decide +kernel
theorem dX12_say_86 : decode cX12_say 86 = .ok (.iload_n 3, 1) := by decide +kernel
theorem dX12_say_87 : decode cX12_say 87 = .ok (.iastore, 1) := by decide +kernel
theorem dX12_say_88 : decode cX12_say 88 = .ok (.aload_n 0, 1) := by decide +kernel
theorem dX12_say_89 : decode cX12_say 89 = .ok (.getfield 7, 3) := by decide +kernel
theorem dX12_say_92 : decode cX12_say 92 = .ok (.sipush 500, 3) := by decide +kernel
theorem dX12_say_95 : decode cX12_say 95 = .ok (.iload 7, 2) := by decide +kernel
theorem dX12_say_97 : decode cX12_say 97 = .ok (.iadd, 1) := by decide +kernel
theorem dX12_say_98 : decode cX12_say 98 = .ok (.iload 4, 2) := by decide +kernel
theorem dX12_say_100 : decode cX12_say 100 = .ok (.ifCond .eq 7, 3) := by decide +kernel
theorem dX12_say_103 : decode cX12_say 103 = .ok (.iconst 1, 1) := by decide +kernel
theorem dX12_say_104 : decode cX12_say 104 = .ok (.goto 4, 3) := by decide +kernel
theorem dX12_say_107 : decode cX12_say 107 = .ok (.iconst 0, 1) := by decide +kernel
theorem dX12_say_108 : decode cX12_say 108 = .ok (.iastore, 1) := by decide +kernel
theorem dX12_say_109 : decode cX12_say 109 = .ok (.aload_n 0, 1) := by decide +kernel
theorem dX12_say_110 : decode cX12_say 110 = .ok (.getfield 7, 3) := by decide +kernel
theorem dX12_say_113 : decode cX12_say 113 = .ok (.sipush 520, 3) := by decide +kernel
theorem dX12_say_116 : decode cX12_say 116 = .ok (.iload 7, 2) := by decide +kernel
theorem dX12_say_118 : decode cX12_say 118 = .ok (.iadd, 1) := by decide +kernel
theorem dX12_say_119 : decode cX12_say 119 = .ok (.iload 5, 2) := by decide +kernel
theorem dX12_say_121 : decode cX12_say 121 = .ok (.iastore, 1) := by decide +kernel
theorem dX12_say_122 : decode cX12_say 122 = .ok (.aload_n 0, 1) := by decide +kernel
theorem dX12_say_123 : decode cX12_say 123 = .ok (.getfield 7, 3) := by decide +kernel
theorem dX12_say_126 : decode cX12_say 126 = .ok (.sipush 540, 3) := by decide +kernel
theorem dX12_say_129 : decode cX12_say 129 = .ok (.iload 7, 2) := by decide +kernel
theorem dX12_say_131 : decode cX12_say 131 = .ok (.iadd, 1) := by decide +kernel
theorem dX12_say_132 : decode cX12_say 132 = .ok (.iload 6, 2) := by decide +kernel
theorem dX12_say_134 : decode cX12_say 134 = .ok (.ifCond .eq 7, 3) := by decide +kernel
theorem dX12_say_137 : decode cX12_say 137 = .ok (.iconst 1, 1) := by decide +kernel
theorem dX12_say_138 : decode cX12_say 138 = .ok (.goto 4, 3) := by decide +kernel
theorem dX12_say_141 : decode cX12_say 141 = .ok (.iconst 0, 1) := by decide +kernel
theorem dX12_say_142 : decode cX12_say 142 = .ok (.iastore, 1) := by decide +kernel
theorem dX12_say_143 : decode cX12_say 143 = .ok (.aload_n 0, 1) := by decide +kernel
theorem dX12_say_144 : decode cX12_say 144 = .ok (.getfield 7, 3) := by decide +kernel
theorem dX12_say_147 : decode cX12_say 147 = .ok (.bipush 7, 2) := by decide +kernel
theorem dX12_say_149 : decode cX12_say 149 = .ok (.dup2, 1) := by decide +kernel
theorem dX12_say_150 : decode cX12_say 150 = .ok (.iaload, 1) := by decide +kernel
theorem dX12_say_151 : decode cX12_say 151 = .ok (.iconst 1, 1) := by decide +kernel
theorem dX12_say_152 : decode cX12_say 152 = .ok (.iadd, 1) := by decide +kernel
theorem dX12_say_153 : decode cX12_say 153 = .ok (.iastore, 1) := by decide +kernel
theorem dX12_say_154 : decode cX12_say 154 = .ok (.aload_n 0, 1) := by decide +kernel
theorem dX12_say_155 : decode cX12_say 155 = .ok (.getfield 7, 3) := by decide +kernel
theorem dX12_say_158 : decode cX12_say 158 = .ok (.bipush 7, 2) := by decide +kernel
theorem dX12_say_160 : decode cX12_say 160 = .ok (.iaload, 1) := by decide +kernel
theorem dX12_say_161 : decode cX12_say 161 = .ok (.ireturn, 1) := by decide +kernel
theorem dX12_isTrue_0 : decode cX12_isTrue 0 = .ok (.iload_n 2, 1) := by decide +kernel
theorem dX12_isTrue_1 : decode cX12_isTrue 1 = .ok (.aload_n 0, 1) := by decide +kernel
theorem dX12_isTrue_2 : decode cX12_isTrue 2 = .ok (.getfield 7, 3) := by decide +kernel
theorem dX12_isTrue_5 : decode cX12_isTrue 5 = .ok (.sipush 480, 3) := by decide +kernel
theorem dX12_isTrue_8 : decode cX12_isTrue 8 = .ok (.iload_n 1, 1) := by decide +kernel
theorem dX12_isTrue_9 : decode cX12_isTrue 9 = .ok (.iadd, 1) := by decide +kernel
theorem dX12_isTrue_10 : decode cX12_isTrue 10 = .ok (.iaload, 1) := by decide +kernel
theorem dX12_isTrue_11 : decode cX12_isTrue 11 = .ok (.ishr, 1) := by decide +kernel
theorem dX12_isTrue_12 : decode cX12_isTrue 12 = .ok (.iconst 1, 1) := by decide +kernel
theorem dX12_isTrue_13 : decode cX12_isTrue 13 = .ok (.iand, 1) := by decide +kernel
theorem dX12_isTrue_14 : decode cX12_isTrue 14 = .ok (.aload_n 0, 1) := by decide +kernel
theorem dX12_isTrue_15 : decode cX12_isTrue 15 = .ok (.getfield 7, 3) := by decide +kernel
theorem dX12_isTrue_18 : decode cX12_isTrue 18 = .ok (.sipush 500, 3) := by decide +kernel
theorem dX12_isTrue_21 : decode cX12_isTrue 21 = .ok (.iload_n 1, 1) := by decide +kernel
theorem dX12_isTrue_22 : decode cX12_isTrue 22 = .ok (.iadd, 1) := by decide +kernel
theorem dX12_isTrue_23 : decode cX12_isTrue 23 = .ok (.iaload, 1) := by decide +kernel
theorem dX12_isTrue_24 : decode cX12_isTrue 24 = .ok (.if_icmp .ne 7, 3) := by decide +kernel
theorem dX12_isTrue_27 : decode cX12_isTrue 27 = .ok (.iconst 1, 1) := by decide +kernel
theorem dX12_isTrue_28 : decode cX12_isTrue 28 = .ok (.goto 4, 3) := by decide +kernel
theorem dX12_isTrue_31 : decode cX12_isTrue 31 = .ok (.iconst 0, 1) := by decide +kernel
theorem dX12_isTrue_32 : decode cX12_isTrue 32 = .ok (.istore_n 3, 1) := by decide +kernel
theorem dX12_isTrue_33 : decode cX12_isTrue 33 = .ok (.iload_n 3, 1) := by decide +kernel
theorem dX12_isTrue_34 : decode cX12_isTrue 34 = .ok (.ifCond .ne 44, 3) := by decide +kernel
theorem dX12_isTrue_37 : decode cX12_isTrue 37 = .ok (.aload_n 0, 1) := by decide +kernel
theorem dX12_isTrue_38 : decode cX12_isTrue 38 = .ok (.getfield 7, 3) := by decide +kernel
theorem dX12_isTrue_41 : decode cX12_isTrue 41 = .ok (.sipush 520, 3) := by decide +kernel
theorem dX12_isTrue_44 : decode cX12_isTrue 44 = .ok (.iload_n 1, 1) := by decide +kernel
theorem dX12_isTrue_45 : decode cX12_isTrue 45 = .ok (.iadd, 1) := by decide +kernel
theorem dX12_isTrue_46 : decode cX12_isTrue 46 = .ok (.iaload, 1) := by decide +kernel
theorem dX12_isTrue_47 : decode cX12_isTrue 47 = .ok (.iconst (-1), 1) := by decide +kernel
theorem dX12_isTrue_48 : decode cX12_isTrue 48 = .ok (.if_icmp .eq 34, 3) := by decide +kernel
theorem dX12_isTrue_51 : decode cX12_isTrue 51 = .ok (.iload_n 2, 1) := by decide +kernel
theorem dX12_isTrue_52 : decode cX12_isTrue 52 = .ok (.aload_n 0, 1) := by decide +kernel
theorem dX12_isTrue_53 : decode cX12_isTrue 53 = .ok (.getfield 7, 3) := by decide +kernel
theorem dX12_isTrue_56 : decode cX12_isTrue 56 = .ok (.sipush 520, 3) := by decide +kernel
theorem dX12_isTrue_59 : decode cX12_isTrue 59 = .ok (.iload_n 1, 1) := by decide +kernel
theorem dX12_isTrue_60 : decode cX12_isTrue 60 = .ok (.iadd, 1) := by decide +kernel
theorem dX12_isTrue_61 : decode cX12_isTrue 61 = .ok (.iaload, 1) := by decide +kernel
theorem dX12_isTrue_62 : decode cX12_isTrue 62 = .ok (.ishr, 1) := by decide +kernel
theorem dX12_isTrue_63 : decode cX12_isTrue 63 = .ok (.iconst 1, 1) := by decide +kernel
theorem dX12_isTrue_64 : decode cX12_isTrue 64 = .ok (.iand, 1) := by decide +kernel
theorem dX12_isTrue_65 : decode cX12_isTrue 65 = .ok (.aload_n 0, 1) := by decide +kernel
theorem dX12_isTrue_66 : decode cX12_isTrue 66 = .ok (.getfield 7, 3) := by decide +kernel
theorem dX12_isTrue_69 : decode cX12_isTrue 69 = .ok (.sipush 540, 3) := by decide +kernel
theorem dX12_isTrue_72 : decode cX12_isTrue 72 = .ok (.iload_n 1, 1) := by decide +kernel
theorem dX12_isTrue_73 : decode cX12_isTrue 73 = .ok (.iadd, 1) := by decide +kernel
theorem dX12_isTrue_74 : decode cX12_isTrue 74 = .ok (.iaload, 1) := by decide +kernel
theorem dX12_isTrue_75 : decode cX12_isTrue 75 = .ok (.if_icmp .ne 7, 3) := by decide +kernel
theorem dX12_isTrue_78 : decode cX12_isTrue 78 = .ok (.iconst 1, 1) := by decide +kernel
theorem dX12_isTrue_79 : decode cX12_isTrue 79 = .ok (.goto 4, 3) := by decide +kernel
theorem dX12_isTrue_82 : decode cX12_isTrue 82 = .ok (.iconst 0, 1) := by decide +kernel
theorem dX12_isTrue_83 : decode cX12_isTrue 83 = .ok (.ireturn, 1) := by decide +kernel
theorem dX12_hold_0 : decode cX12_hold 0 = .ok (.iload_n 2, 1) := by decide +kernel
theorem dX12_hold_1 : decode cX12_hold 1 = .ok (.iconst 0, 1) := by decide +kernel
theorem dX12_hold_2 : decode cX12_hold 2 = .ok (.iconst 1, 1) := by decide +kernel
theorem dX12_hold_3 : decode cX12_hold 3 = .ok (.invokestatic 74, 3) := by decide +kernel
theorem dX12_hold_6 : decode cX12_hold 6 = .ok (.ifCond .ne 5, 3) := by decide +kernel
theorem dX12_hold_9 : decode cX12_hold 9 = .ok (.iconst (-1), 1) := by decide +kernel
theorem dX12_hold_10 : decode cX12_hold 10 = .ok (.ireturn, 1) := by decide +kernel
theorem dX12_hold_11 : decode cX12_hold 11 = .ok (.iload_n 1, 1) := by decide +kernel
theorem dX12_hold_12 : decode cX12_hold 12 = .ok (.invokestatic 148, 3) := by decide +kernel
theorem dX12_hold_15 : decode cX12_hold 15 = .ok (.ifCond .ne 6, 3) := by decide +kernel
theorem dX12_hold_18 : decode cX12_hold 18 = .ok (.bipush (-2), 2) := by decide +kernel
theorem dX12_hold_20 : decode cX12_hold 20 = .ok (.ireturn, 1) := by decide +kernel
theorem dX12_hold_21 : decode cX12_hold 21 = .ok (.iconst (-1), 1) := by decide +kernel
theorem dX12_hold_22 : decode cX12_hold 22 = .ok (.istore_n 3, 1) := by decide +kernel
theorem dX12_hold_23 : decode cX12_hold 23 = .ok (.iconst 0, 1) := by decide +kernel
theorem dX12_hold_24 : decode cX12_hold 24 = .ok (.istore 4, 2) := by decide +kernel
theorem dX12_hold_26 : decode cX12_hold 26 = .ok (.iconst 0, 1) := by decide +kernel
theorem dX12_hold_27 : decode cX12_hold 27 = .ok (.istore 5, 2) := by decide +kernel
theorem dX12_hold_29 : decode cX12_hold 29 = .ok (.iload 5, 2) := by decide +kernel
theorem dX12_hold_31 : decode cX12_hold 31 = .ok (.sipush 256, 3) := by decide +kernel
theorem dX12_hold_34 : decode cX12_hold 34 = .ok (.if_icmp .ge 97, 3) := by decide +kernel
theorem dX12_hold_37 : decode cX12_hold 37 = .ok (.iconst 0, 1) := by decide +kernel
theorem dX12_hold_38 : decode cX12_hold 38 = .ok (.istore 6, 2) := by decide +kernel
theorem dX12_hold_40 : decode cX12_hold 40 = .ok (.iconst 0, 1) := by decide +kernel
theorem dX12_hold_41 : decode cX12_hold 41 = .ok (.istore 7, 2) := by decide +kernel
theorem dX12_hold_43 : decode cX12_hold 43 = .ok (.iload 7, 2) := by decide +kernel
theorem dX12_hold_45 : decode cX12_hold 45 = .ok (.aload_n 0, 1) := by decide +kernel
theorem dX12_hold_46 : decode cX12_hold 46 = .ok (.getfield 7, 3) := by decide +kernel
theorem dX12_hold_49 : decode cX12_hold 49 = .ok (.bipush 7, 2) := by decide +kernel
theorem dX12_hold_51 : decode cX12_hold 51 = .ok (.iaload, 1) := by decide +kernel
theorem dX12_hold_52 : decode cX12_hold 52 = .ok (.if_icmp .ge 45, 3) := by decide +kernel
theorem dX12_hold_55 : decode cX12_hold 55 = .ok (.iload 6, 2) := by decide +kernel
theorem dX12_hold_57 : decode cX12_hold 57 = .ok (.aload_n 0, 1) := by decide +kernel
theorem dX12_hold_58 : decode cX12_hold 58 = .ok (.getfield 7, 3) := by decide +kernel
theorem dX12_hold_61 : decode cX12_hold 61 = .ok (.sipush 460, 3) := by decide +kernel
theorem dX12_hold_64 : decode cX12_hold 64 = .ok (.iload 7, 2) := by decide +kernel
theorem dX12_hold_66 : decode cX12_hold 66 = .ok (.iadd, 1) := by decide +kernel
theorem dX12_hold_67 : decode cX12_hold 67 = .ok (.iaload, 1) := by decide +kernel
theorem dX12_hold_68 : decode cX12_hold 68 = .ok (.iload_n 1, 1) := by decide +kernel
theorem dX12_hold_69 : decode cX12_hold 69 = .ok (.if_icmp .gt 18, 3) := by decide +kernel
theorem dX12_hold_72 : decode cX12_hold 72 = .ok (.aload_n 0, 1) := by decide +kernel
theorem dX12_hold_73 : decode cX12_hold 73 = .ok (.iload 7, 2) := by decide +kernel
theorem dX12_hold_75 : decode cX12_hold 75 = .ok (.iload 5, 2) := by decide +kernel
theorem dX12_hold_77 : decode cX12_hold 77 = .ok (.invokevirtual 249, 3) := by decide +kernel
theorem dX12_hold_80 : decode cX12_hold 80 = .ok (.ifCond .eq 7, 3) := by decide +kernel
theorem dX12_hold_83 : decode cX12_hold 83 = .ok (.iconst 1, 1) := by decide +kernel
theorem dX12_hold_84 : decode cX12_hold 84 = .ok (.goto 4, 3) := by decide +kernel
theorem dX12_hold_87 : decode cX12_hold 87 = .ok (.iconst 0, 1) := by decide +kernel
theorem dX12_hold_88 : decode cX12_hold 88 = .ok (.iadd, 1) := by decide +kernel
theorem dX12_hold_89 : decode cX12_hold 89 = .ok (.istore 6, 2) := by decide +kernel
theorem dX12_hold_91 : decode cX12_hold 91 = .ok (.iinc 7 1, 3) := by decide +kernel
theorem dX12_hold_94 : decode cX12_hold 94 = .ok (.goto (-51), 3) := by decide +kernel
theorem dX12_hold_97 : decode cX12_hold 97 = .ok (.iload 6, 2) := by decide +kernel
theorem dX12_hold_99 : decode cX12_hold 99 = .ok (.iload_n 3, 1) := by decide +kernel
theorem dX12_hold_100 : decode cX12_hold 100 = .ok (.if_icmp .le 8, 3) := by decide +kernel
theorem dX12_hold_103 : decode cX12_hold 103 = .ok (.iload 5, 2) := by decide +kernel
theorem dX12_hold_105 : decode cX12_hold 105 = .ok (.goto 5, 3) := by decide +kernel
theorem dX12_hold_108 : decode cX12_hold 108 = .ok (.iload 4, 2) := by decide +kernel
theorem dX12_hold_110 : decode cX12_hold 110 = .ok (.istore 4, 2) := by decide +kernel
theorem dX12_hold_112 : decode cX12_hold 112 = .ok (.iload 6, 2) := by decide +kernel
theorem dX12_hold_114 : decode cX12_hold 114 = .ok (.iload_n 3, 1) := by decide +kernel
theorem dX12_hold_115 : decode cX12_hold 115 = .ok (.if_icmp .le 8, 3) := by decide +kernel
theorem dX12_hold_118 : decode cX12_hold 118 = .ok (.iload 6, 2) := by decide +kernel
theorem dX12_hold_120 : decode cX12_hold 120 = .ok (.goto 4, 3) := by decide +kernel
theorem dX12_hold_123 : decode cX12_hold 123 = .ok (.iload_n 3, 1) := by decide +kernel
theorem dX12_hold_124 : decode cX12_hold 124 = .ok (.istore_n 3, 1) := by decide +kernel
theorem dX12_hold_125 : decode cX12_hold 125 = .ok (.iinc 5 1, 3) := by decide +kernel
theorem dX12_hold_128 : decode cX12_hold 128 = .ok (.goto (-99), 3) := by decide +kernel
theorem dX12_hold_131 : decode cX12_hold 131 = .ok (.iload_n 2, 1) := by decide +kernel
theorem dX12_hold_132 : decode cX12_hold 132 = .ok (.ifCond .ne 7, 3) := by decide +kernel
theorem dX12_hold_135 : decode cX12_hold 135 = .ok (.iload_n 3, 1) := by decide +kernel
theorem dX12_hold_136 : decode cX12_hold 136 = .ok (.goto 5, 3) := by decide +kernel
theorem dX12_hold_139 : decode cX12_hold 139 = .ok (.iload 4, 2) := by decide +kernel
theorem dX12_hold_141 : decode cX12_hold 141 = .ok (.ireturn, 1) := by decide +kernel
theorem dX12_areRulings_0 : decode cX12_areRulings 0 = .ok (.iconst 1, 1) := by decide +kernel
theorem dX12_areRulings_1 : decode cX12_areRulings 1 = .ok (.istore_n 3, 1) := by decide +kernel
theorem dX12_areRulings_2 : decode cX12_areRulings 2 = .ok (.iconst 0, 1) := by decide +kernel
theorem dX12_areRulings_3 : decode cX12_areRulings 3 = .ok (.istore 4, 2) := by decide +kernel
theorem dX12_areRulings_5 : decode cX12_areRulings 5 = .ok (.iload 4, 2) := by decide +kernel
theorem dX12_areRulings_7 : decode cX12_areRulings 7 = .ok (.bipush 64, 2) := by decide +kernel
theorem dX12_areRulings_9 : decode cX12_areRulings 9 = .ok (.if_icmp .ge 41, 3) := by decide +kernel
theorem dX12_areRulings_12 : decode cX12_areRulings 12 = .ok (.iload_n 3, 1) := by decide +kernel
theorem dX12_areRulings_13 : decode cX12_areRulings 13 = .ok (.ifCond .eq 29, 3) := by decide +kernel
theorem dX12_areRulings_16 : decode cX12_areRulings 16 = .ok (.lload_n 1, 1) := by decide +kernel
theorem dX12_areRulings_17 : decode cX12_areRulings 17 = .ok (.iload 4, 2) := by decide +kernel
theorem dX12_areRulings_19 : decode cX12_areRulings 19 = .ok (.lshr, 1) := by decide +kernel
theorem dX12_areRulings_20 : decode cX12_areRulings 20 = .ok (.lconst 1, 1) := by decide +kernel
theorem dX12_areRulings_21 : decode cX12_areRulings 21 = .ok (.land, 1) := by decide +kernel
theorem dX12_areRulings_22 : decode cX12_areRulings 22 = .ok (.lconst 0, 1) := by decide +kernel
theorem dX12_areRulings_23 : decode cX12_areRulings 23 = .ok (.lcmp, 1) := by decide +kernel
theorem dX12_areRulings_24 : decode cX12_areRulings 24 = .ok (.ifCond .eq 14, 3) := by decide +kernel
theorem dX12_areRulings_27 : decode cX12_areRulings 27 = .ok (.aload_n 0, 1) := by decide +kernel
theorem dX12_areRulings_28 : decode cX12_areRulings 28 = .ok (.iload 4, 2) := by decide +kernel
theorem dX12_areRulings_30 : decode cX12_areRulings 30 = .ok (.bipush 6, 2) := by decide +kernel
theorem dX12_areRulings_32 : decode cX12_areRulings 32 = .ok (.invokevirtual 187, 3) := by decide +kernel
theorem dX12_areRulings_35 : decode cX12_areRulings 35 = .ok (.ifCond .eq 7, 3) := by decide +kernel
theorem dX12_areRulings_38 : decode cX12_areRulings 38 = .ok (.iconst 1, 1) := by decide +kernel
theorem dX12_areRulings_39 : decode cX12_areRulings 39 = .ok (.goto 4, 3) := by decide +kernel
theorem dX12_areRulings_42 : decode cX12_areRulings 42 = .ok (.iconst 0, 1) := by decide +kernel
theorem dX12_areRulings_43 : decode cX12_areRulings 43 = .ok (.istore_n 3, 1) := by decide +kernel
theorem dX12_areRulings_44 : decode cX12_areRulings 44 = .ok (.iinc 4 1, 3) := by decide +kernel
theorem dX12_areRulings_47 : decode cX12_areRulings 47 = .ok (.goto (-42), 3) := by decide +kernel
theorem dX12_areRulings_50 : decode cX12_areRulings 50 = .ok (.iload_n 3, 1) := by decide +kernel
theorem dX12_areRulings_51 : decode cX12_areRulings 51 = .ok (.ireturn, 1) := by decide +kernel
theorem dX12_ask_0 : decode cX12_ask 0 = .ok (.iload_n 1, 1) := by decide +kernel
theorem dX12_ask_1 : decode cX12_ask 1 = .ok (.invokestatic 78, 3) := by decide +kernel
theorem dX12_ask_4 : decode cX12_ask 4 = .ok (.ifCond .eq 12, 3) := by decide +kernel
theorem dX12_ask_7 : decode cX12_ask 7 = .ok (.iload_n 2, 1) := by decide +kernel
theorem dX12_ask_8 : decode cX12_ask 8 = .ok (.iconst 0, 1) := by decide +kernel
theorem dX12_ask_9 : decode cX12_ask 9 = .ok (.iconst 4, 1) := by decide +kernel
theorem dX12_ask_10 : decode cX12_ask 10 = .ok (.invokestatic 74, 3) := by decide +kernel
theorem dX12_ask_13 : decode cX12_ask 13 = .ok (.ifCond .ne 5, 3) := by decide +kernel
theorem dX12_ask_16 : decode cX12_ask 16 = .ok (.iconst (-1), 1) := by decide +kernel
theorem dX12_ask_17 : decode cX12_ask 17 = .ok (.ireturn, 1) := by decide +kernel
theorem dX12_ask_18 : decode cX12_ask 18 = .ok (.aload_n 0, 1) := by decide +kernel
theorem dX12_ask_19 : decode cX12_ask 19 = .ok (.lload_n 3, 1) := by decide +kernel
theorem dX12_ask_20 : decode cX12_ask 20 = .ok (.invokevirtual 252, 3) := by decide +kernel
theorem dX12_ask_23 : decode cX12_ask 23 = .ok (.ifCond .eq 12, 3) := by decide +kernel
theorem dX12_ask_26 : decode cX12_ask 26 = .ok (.aload_n 0, 1) := by decide +kernel
theorem dX12_ask_27 : decode cX12_ask 27 = .ok (.lload 5, 2) := by decide +kernel
theorem dX12_ask_29 : decode cX12_ask 29 = .ok (.invokevirtual 252, 3) := by decide +kernel
theorem dX12_ask_32 : decode cX12_ask 32 = .ok (.ifCond .ne 6, 3) := by decide +kernel
theorem dX12_ask_35 : decode cX12_ask 35 = .ok (.bipush (-2), 2) := by decide +kernel
theorem dX12_ask_37 : decode cX12_ask 37 = .ok (.ireturn, 1) := by decide +kernel
theorem dX12_ask_38 : decode cX12_ask 38 = .ok (.aload_n 0, 1) := by decide +kernel
theorem dX12_ask_39 : decode cX12_ask 39 = .ok (.getfield 7, 3) := by decide +kernel
theorem dX12_ask_42 : decode cX12_ask 42 = .ok (.bipush 8, 2) := by decide +kernel
theorem dX12_ask_44 : decode cX12_ask 44 = .ok (.iaload, 1) := by decide +kernel
theorem dX12_ask_45 : decode cX12_ask 45 = .ok (.bipush 6, 2) := by decide +kernel
theorem dX12_ask_47 : decode cX12_ask 47 = .ok (.if_icmp .ne 6, 3) := by decide +kernel
theorem dX12_ask_50 : decode cX12_ask 50 = .ok (.bipush (-4), 2) := by decide +kernel
theorem dX12_ask_52 : decode cX12_ask 52 = .ok (.ireturn, 1) := by decide +kernel
theorem dX12_ask_53 : decode cX12_ask 53 = .ok (.aload_n 0, 1) := by decide +kernel
theorem dX12_ask_54 : decode cX12_ask 54 = .ok (.getfield 7, 3) := by decide +kernel
theorem dX12_ask_57 : decode cX12_ask 57 = .ok (.bipush 8, 2) := by decide +kernel
theorem dX12_ask_59 : decode cX12_ask 59 = .ok (.iaload, 1) := by decide +kernel
theorem dX12_ask_60 : decode cX12_ask 60 = .ok (.istore 7, 2) := by decide +kernel
theorem dX12_ask_62 : decode cX12_ask 62 = .ok (.aload_n 0, 1) := by decide +kernel
theorem dX12_ask_63 : decode cX12_ask 63 = .ok (.getfield 7, 3) := by decide +kernel
theorem dX12_ask_66 : decode cX12_ask 66 = .ok (.sipush 560, 3) := by decide +kernel
theorem dX12_ask_69 : decode cX12_ask 69 = .ok (.iload 7, 2) := by decide +kernel
theorem dX12_ask_71 : decode cX12_ask 71 = .ok (.iadd, 1) := by decide +kernel
theorem dX12_ask_72 : decode cX12_ask 72 = .ok (.iload_n 1, 1) := by decide +kernel
theorem dX12_ask_73 : decode cX12_ask 73 = .ok (.iastore, 1) := by decide +kernel
theorem dX12_ask_74 : decode cX12_ask 74 = .ok (.aload_n 0, 1) := by decide +kernel
theorem dX12_ask_75 : decode cX12_ask 75 = .ok (.getfield 7, 3) := by decide +kernel
theorem dX12_ask_78 : decode cX12_ask 78 = .ok (.sipush 566, 3) := by decide +kernel
theorem dX12_ask_81 : decode cX12_ask 81 = .ok (.iload 7, 2) := by decide +kernel
theorem dX12_ask_83 : decode cX12_ask 83 = .ok (.iadd, 1) := by decide +kernel
theorem dX12_ask_84 : decode cX12_ask 84 = .ok (.iload_n 2, 1) := by decide +kernel
theorem dX12_ask_85 : decode cX12_ask 85 = .ok (.iastore, 1) := by decide +kernel
theorem dX12_ask_86 : decode cX12_ask 86 = .ok (.iconst 0, 1) := by decide +kernel
theorem dX12_ask_87 : decode cX12_ask 87 = .ok (.istore 8, 2) := by decide +kernel
theorem dX12_ask_89 : decode cX12_ask 89 = .ok (.iload 8, 2) := by decide +kernel
theorem dX12_ask_91 : decode cX12_ask 91 = .ok (.bipush 50, 2) := by decide +kernel
theorem dX12_ask_93 : decode cX12_ask 93 = .ok (.if_icmp .ge 58, 3) := by decide +kernel
theorem dX12_ask_96 : decode cX12_ask 96 = .ok (.aload_n 0, 1) := by decide +kernel
theorem dX12_ask_97 : decode cX12_ask 97 = .ok (.getfield 7, 3) := by decide +kernel
theorem dX12_ask_100 : decode cX12_ask 100 = .ok (.sipush 572, 3) := by decide +kernel
theorem dX12_ask_103 : decode cX12_ask 103 = .ok (.bipush 50, 2) := by decide +kernel
theorem dX12_ask_105 : decode cX12_ask 105 = .ok (.iload 7, 2) := by decide +kernel
theorem dX12_ask_107 : decode cX12_ask 107 = .ok (.imul, 1) := by decide +kernel
theorem dX12_ask_108 : decode cX12_ask 108 = .ok (.iadd, 1) := by decide +kernel
theorem dX12_ask_109 : decode cX12_ask 109 = .ok (.iload 8, 2) := by decide +kernel
theorem dX12_ask_111 : decode cX12_ask 111 = .ok (.iadd, 1) := by decide +kernel
theorem dX12_ask_112 : decode cX12_ask 112 = .ok (.lload_n 3, 1) := by decide +kernel
theorem dX12_ask_113 : decode cX12_ask 113 = .ok (.iload 8, 2) := by decide +kernel
theorem dX12_ask_115 : decode cX12_ask 115 = .ok (.lshr, 1) := by decide +kernel
theorem dX12_ask_116 : decode cX12_ask 116 = .ok (.lconst 1, 1) := by decide +kernel
theorem dX12_ask_117 : decode cX12_ask 117 = .ok (.land, 1) := by decide +kernel
theorem dX12_ask_118 : decode cX12_ask 118 = .ok (.l2i, 1) := by decide +kernel
theorem dX12_ask_119 : decode cX12_ask 119 = .ok (.iastore, 1) := by decide +kernel
theorem dX12_ask_120 : decode cX12_ask 120 = .ok (.aload_n 0, 1) := by decide +kernel
theorem dX12_ask_121 : decode cX12_ask 121 = .ok (.getfield 7, 3) := by decide +kernel
theorem dX12_ask_124 : decode cX12_ask 124 = .ok (.sipush 872, 3) := by decide +kernel
theorem dX12_ask_127 : decode cX12_ask 127 = .ok (.bipush 50, 2) := by decide +kernel
theorem dX12_ask_129 : decode cX12_ask 129 = .ok (.iload 7, 2) := by decide +kernel
theorem dX12_ask_131 : decode cX12_ask 131 = .ok (.imul, 1) := by decide +kernel
theorem dX12_ask_132 : decode cX12_ask 132 = .ok (.iadd, 1) := by decide +kernel
theorem dX12_ask_133 : decode cX12_ask 133 = .ok (.iload 8, 2) := by decide +kernel
theorem dX12_ask_135 : decode cX12_ask 135 = .ok (.iadd, 1) := by decide +kernel
theorem dX12_ask_136 : decode cX12_ask 136 = .ok (.lload 5, 2) := by decide +kernel
theorem dX12_ask_138 : decode cX12_ask 138 = .ok (.iload 8, 2) := by decide +kernel
theorem dX12_ask_140 : decode cX12_ask 140 = .ok (.lshr, 1) := by decide +kernel
theorem dX12_ask_141 : decode cX12_ask 141 = .ok (.lconst 1, 1) := by decide +kernel
theorem dX12_ask_142 : decode cX12_ask 142 = .ok (.land, 1) := by decide +kernel
theorem dX12_ask_143 : decode cX12_ask 143 = .ok (.l2i, 1) := by decide +kernel
theorem dX12_ask_144 : decode cX12_ask 144 = .ok (.iastore, 1) := by decide +kernel
theorem dX12_ask_145 : decode cX12_ask 145 = .ok (.iinc 8 1, 3) := by decide +kernel
theorem dX12_ask_148 : decode cX12_ask 148 = .ok (.goto (-59), 3) := by decide +kernel
theorem dX12_ask_151 : decode cX12_ask 151 = .ok (.aload_n 0, 1) := by decide +kernel
theorem dX12_ask_152 : decode cX12_ask 152 = .ok (.getfield 7, 3) := by decide +kernel
theorem dX12_ask_155 : decode cX12_ask 155 = .ok (.bipush 8, 2) := by decide +kernel
theorem dX12_ask_157 : decode cX12_ask 157 = .ok (.dup2, 1) := by decide +kernel
theorem dX12_ask_158 : decode cX12_ask 158 = .ok (.iaload, 1) := by decide +kernel
theorem dX12_ask_159 : decode cX12_ask 159 = .ok (.iconst 1, 1) := by decide +kernel
theorem dX12_ask_160 : decode cX12_ask 160 = .ok (.iadd, 1) := by decide +kernel
theorem dX12_ask_161 : decode cX12_ask 161 = .ok (.iastore, 1) := by decide +kernel
theorem dX12_ask_162 : decode cX12_ask 162 = .ok (.iload 7, 2) := by decide +kernel
theorem dX12_ask_164 : decode cX12_ask 164 = .ok (.ireturn, 1) := by decide +kernel
theorem dX12_want_0 : decode cX12_want 0 = .ok (.iload_n 1, 1) := by decide +kernel
theorem dX12_want_1 : decode cX12_want 1 = .ok (.iconst 0, 1) := by decide +kernel
theorem dX12_want_2 : decode cX12_want 2 = .ok (.sipush 10799, 3) := by decide +kernel
theorem dX12_want_5 : decode cX12_want 5 = .ok (.invokestatic 74, 3) := by decide +kernel
theorem dX12_want_8 : decode cX12_want 8 = .ok (.ifCond .ne 6, 3) := by decide +kernel
theorem dX12_want_11 : decode cX12_want 11 = .ok (.bipush (-2), 2) := by decide +kernel
theorem dX12_want_13 : decode cX12_want 13 = .ok (.ireturn, 1) := by decide +kernel
theorem dX12_want_14 : decode cX12_want 14 = .ok (.iconst 0, 1) := by decide +kernel
theorem dX12_want_15 : decode cX12_want 15 = .ok (.istore_n 2, 1) := by decide +kernel
theorem dX12_want_16 : decode cX12_want 16 = .ok (.iload_n 2, 1) := by decide +kernel
theorem dX12_want_17 : decode cX12_want 17 = .ok (.aload_n 0, 1) := by decide +kernel
theorem dX12_want_18 : decode cX12_want 18 = .ok (.getfield 7, 3) := by decide +kernel
theorem dX12_want_21 : decode cX12_want 21 = .ok (.bipush 9, 2) := by decide +kernel
theorem dX12_want_23 : decode cX12_want 23 = .ok (.iaload, 1) := by decide +kernel
theorem dX12_want_24 : decode cX12_want 24 = .ok (.if_icmp .ge 26, 3) := by decide +kernel
theorem dX12_want_27 : decode cX12_want 27 = .ok (.aload_n 0, 1) := by decide +kernel
theorem dX12_want_28 : decode cX12_want 28 = .ok (.getfield 7, 3) := by decide +kernel
theorem dX12_want_31 : decode cX12_want 31 = .ok (.sipush 1172, 3) := by decide +kernel
theorem dX12_want_34 : decode cX12_want 34 = .ok (.iload_n 2, 1) := by decide +kernel
theorem dX12_want_35 : decode cX12_want 35 = .ok (.iadd, 1) := by decide +kernel
theorem dX12_want_36 : decode cX12_want 36 = .ok (.iaload, 1) := by decide +kernel
theorem dX12_want_37 : decode cX12_want 37 = .ok (.iload_n 1, 1) := by decide +kernel
theorem dX12_want_38 : decode cX12_want 38 = .ok (.if_icmp .ne 6, 3) := by decide +kernel
theorem dX12_want_41 : decode cX12_want 41 = .ok (.bipush (-3), 2) := by decide +kernel
theorem dX12_want_43 : decode cX12_want 43 = .ok (.ireturn, 1) := by decide +kernel
theorem dX12_want_44 : decode cX12_want 44 = .ok (.iinc 2 1, 3) := by decide +kernel
theorem dX12_want_47 : decode cX12_want 47 = .ok (.goto (-31), 3) := by decide +kernel
theorem dX12_want_50 : decode cX12_want 50 = .ok (.aload_n 0, 1) := by decide +kernel
theorem dX12_want_51 : decode cX12_want 51 = .ok (.getfield 7, 3) := by decide +kernel
theorem dX12_want_54 : decode cX12_want 54 = .ok (.bipush 9, 2) := by decide +kernel
theorem dX12_want_56 : decode cX12_want 56 = .ok (.iaload, 1) := by decide +kernel
theorem dX12_want_57 : decode cX12_want 57 = .ok (.bipush 10, 2) := by decide +kernel
theorem dX12_want_59 : decode cX12_want 59 = .ok (.if_icmp .ne 6, 3) := by decide +kernel
theorem dX12_want_62 : decode cX12_want 62 = .ok (.bipush (-4), 2) := by decide +kernel
theorem dX12_want_64 : decode cX12_want 64 = .ok (.ireturn, 1) := by decide +kernel
theorem dX12_want_65 : decode cX12_want 65 = .ok (.aload_n 0, 1) := by decide +kernel
theorem dX12_want_66 : decode cX12_want 66 = .ok (.getfield 7, 3) := by decide +kernel
theorem dX12_want_69 : decode cX12_want 69 = .ok (.sipush 1172, 3) := by decide +kernel
theorem dX12_want_72 : decode cX12_want 72 = .ok (.aload_n 0, 1) := by decide +kernel
theorem dX12_want_73 : decode cX12_want 73 = .ok (.getfield 7, 3) := by decide +kernel
theorem dX12_want_76 : decode cX12_want 76 = .ok (.bipush 9, 2) := by decide +kernel
theorem dX12_want_78 : decode cX12_want 78 = .ok (.iaload, 1) := by decide +kernel
theorem dX12_want_79 : decode cX12_want 79 = .ok (.iadd, 1) := by decide +kernel
theorem dX12_want_80 : decode cX12_want 80 = .ok (.iload_n 1, 1) := by decide +kernel
theorem dX12_want_81 : decode cX12_want 81 = .ok (.iastore, 1) := by decide +kernel
theorem dX12_want_82 : decode cX12_want 82 = .ok (.aload_n 0, 1) := by decide +kernel
theorem dX12_want_83 : decode cX12_want 83 = .ok (.getfield 7, 3) := by decide +kernel
theorem dX12_want_86 : decode cX12_want 86 = .ok (.bipush 9, 2) := by decide +kernel
theorem dX12_want_88 : decode cX12_want 88 = .ok (.dup2, 1) := by decide +kernel
theorem dX12_want_89 : decode cX12_want 89 = .ok (.iaload, 1) := by decide +kernel
theorem dX12_want_90 : decode cX12_want 90 = .ok (.iconst 1, 1) := by decide +kernel
theorem dX12_want_91 : decode cX12_want 91 = .ok (.iadd, 1) := by decide +kernel
theorem dX12_want_92 : decode cX12_want 92 = .ok (.iastore, 1) := by decide +kernel
theorem dX12_want_93 : decode cX12_want 93 = .ok (.aload_n 0, 1) := by decide +kernel
theorem dX12_want_94 : decode cX12_want 94 = .ok (.getfield 7, 3) := by decide +kernel
theorem dX12_want_97 : decode cX12_want 97 = .ok (.bipush 9, 2) := by decide +kernel
theorem dX12_want_99 : decode cX12_want 99 = .ok (.iaload, 1) := by decide +kernel
theorem dX12_want_100 : decode cX12_want 100 = .ok (.ireturn, 1) := by decide +kernel
theorem dX12_questionOf_0 : decode cX12_questionOf 0 = .ok (.iconst (-1), 1) := by decide +kernel
theorem dX12_questionOf_1 : decode cX12_questionOf 1 = .ok (.istore_n 2, 1) := by decide +kernel
theorem dX12_questionOf_2 : decode cX12_questionOf 2 = .ok (.iconst 0, 1) := by decide +kernel
theorem dX12_questionOf_3 : decode cX12_questionOf 3 = .ok (.istore_n 3, 1) := by decide +kernel
theorem dX12_questionOf_4 : decode cX12_questionOf 4 = .ok (.iload_n 3, 1) := by decide +kernel
theorem dX12_questionOf_5 : decode cX12_questionOf 5 = .ok (.aload_n 0, 1) := by decide +kernel
theorem dX12_questionOf_6 : decode cX12_questionOf 6 = .ok (.getfield 7, 3) := by decide +kernel
theorem dX12_questionOf_9 : decode cX12_questionOf 9 = .ok (.bipush 8, 2) := by decide +kernel
theorem dX12_questionOf_11 : decode cX12_questionOf 11 = .ok (.iaload, 1) := by decide +kernel
theorem dX12_questionOf_12 : decode cX12_questionOf 12 = .ok (.if_icmp .ge 49, 3) := by decide +kernel
theorem dX12_questionOf_15 : decode cX12_questionOf 15 = .ok (.aload_n 0, 1) := by decide +kernel
theorem dX12_questionOf_16 : decode cX12_questionOf 16 = .ok (.getfield 7, 3) := by decide +kernel
theorem dX12_questionOf_19 : decode cX12_questionOf 19 = .ok (.sipush 560, 3) := by decide +kernel
theorem dX12_questionOf_22 : decode cX12_questionOf 22 = .ok (.iload_n 3, 1) := by decide +kernel
theorem dX12_questionOf_23 : decode cX12_questionOf 23 = .ok (.iadd, 1) := by decide +kernel
theorem dX12_questionOf_24 : decode cX12_questionOf 24 = .ok (.iaload, 1) := by decide +kernel
theorem dX12_questionOf_25 : decode cX12_questionOf 25 = .ok (.iload_n 1, 1) := by decide +kernel
theorem dX12_questionOf_26 : decode cX12_questionOf 26 = .ok (.invokestatic 136, 3) := by decide +kernel
theorem dX12_questionOf_29 : decode cX12_questionOf 29 = .ok (.if_icmp .ne 24, 3) := by decide +kernel
theorem dX12_questionOf_32 : decode cX12_questionOf 32 = .ok (.aload_n 0, 1) := by decide +kernel
theorem dX12_questionOf_33 : decode cX12_questionOf 33 = .ok (.getfield 7, 3) := by decide +kernel
theorem dX12_questionOf_36 : decode cX12_questionOf 36 = .ok (.sipush 566, 3) := by decide +kernel
theorem dX12_questionOf_39 : decode cX12_questionOf 39 = .ok (.iload_n 3, 1) := by decide +kernel
theorem dX12_questionOf_40 : decode cX12_questionOf 40 = .ok (.iadd, 1) := by decide +kernel
theorem dX12_questionOf_41 : decode cX12_questionOf 41 = .ok (.iaload, 1) := by decide +kernel
theorem dX12_questionOf_42 : decode cX12_questionOf 42 = .ok (.iload_n 1, 1) := by decide +kernel
theorem dX12_questionOf_43 : decode cX12_questionOf 43 = .ok (.invokestatic 139, 3) := by decide +kernel
theorem dX12_questionOf_46 : decode cX12_questionOf 46 = .ok (.if_icmp .ne 7, 3) := by decide +kernel
theorem dX12_questionOf_49 : decode cX12_questionOf 49 = .ok (.iload_n 3, 1) := by decide +kernel
theorem dX12_questionOf_50 : decode cX12_questionOf 50 = .ok (.goto 4, 3) := by decide +kernel
theorem dX12_questionOf_53 : decode cX12_questionOf 53 = .ok (.iload_n 2, 1) := by decide +kernel
theorem dX12_questionOf_54 : decode cX12_questionOf 54 = .ok (.istore_n 2, 1) := by decide +kernel
theorem dX12_questionOf_55 : decode cX12_questionOf 55 = .ok (.iinc 3 1, 3) := by decide +kernel
theorem dX12_questionOf_58 : decode cX12_questionOf 58 = .ok (.goto (-54), 3) := by decide +kernel
theorem dX12_questionOf_61 : decode cX12_questionOf 61 = .ok (.iload_n 2, 1) := by decide +kernel
theorem dX12_questionOf_62 : decode cX12_questionOf 62 = .ok (.ireturn, 1) := by decide +kernel
theorem dX12_metBy_0 : decode cX12_metBy 0 = .ok (.iconst 0, 1) := by decide +kernel
theorem dX12_metBy_1 : decode cX12_metBy 1 = .ok (.istore_n 2, 1) := by decide +kernel
theorem dX12_metBy_2 : decode cX12_metBy 2 = .ok (.iconst 0, 1) := by decide +kernel
theorem dX12_metBy_3 : decode cX12_metBy 3 = .ok (.istore_n 3, 1) := by decide +kernel
theorem dX12_metBy_4 : decode cX12_metBy 4 = .ok (.iload_n 3, 1) := by decide +kernel
theorem dX12_metBy_5 : decode cX12_metBy 5 = .ok (.aload_n 0, 1) := by decide +kernel
theorem dX12_metBy_6 : decode cX12_metBy 6 = .ok (.getfield 7, 3) := by decide +kernel
theorem dX12_metBy_9 : decode cX12_metBy 9 = .ok (.bipush 9, 2) := by decide +kernel
theorem dX12_metBy_11 : decode cX12_metBy 11 = .ok (.iaload, 1) := by decide +kernel
theorem dX12_metBy_12 : decode cX12_metBy 12 = .ok (.if_icmp .ge 84, 3) := by decide +kernel
theorem dX12_metBy_15 : decode cX12_metBy 15 = .ok (.aload_n 0, 1) := by decide +kernel
theorem dX12_metBy_16 : decode cX12_metBy 16 = .ok (.aload_n 0, 1) := by decide +kernel
theorem dX12_metBy_17 : decode cX12_metBy 17 = .ok (.getfield 7, 3) := by decide +kernel
theorem dX12_metBy_20 : decode cX12_metBy 20 = .ok (.sipush 1172, 3) := by decide +kernel
theorem dX12_metBy_23 : decode cX12_metBy 23 = .ok (.iload_n 3, 1) := by decide +kernel
theorem dX12_metBy_24 : decode cX12_metBy 24 = .ok (.iadd, 1) := by decide +kernel
theorem dX12_metBy_25 : decode cX12_metBy 25 = .ok (.iaload, 1) := by decide +kernel
theorem dX12_metBy_26 : decode cX12_metBy 26 = .ok (.invokevirtual 256, 3) := by decide +kernel
theorem dX12_metBy_29 : decode cX12_metBy 29 = .ok (.istore 4, 2) := by decide +kernel
theorem dX12_metBy_31 : decode cX12_metBy 31 = .ok (.iload 4, 2) := by decide +kernel
theorem dX12_metBy_33 : decode cX12_metBy 33 = .ok (.iconst (-1), 1) := by decide +kernel
theorem dX12_metBy_34 : decode cX12_metBy 34 = .ok (.if_icmp .eq 21, 3) := by decide +kernel
theorem dX12_metBy_37 : decode cX12_metBy 37 = .ok (.iload_n 1, 1) := by decide +kernel
theorem dX12_metBy_38 : decode cX12_metBy 38 = .ok (.iload 4, 2) := by decide +kernel
theorem dX12_metBy_40 : decode cX12_metBy 40 = .ok (.ishr, 1) := by decide +kernel
theorem dX12_metBy_41 : decode cX12_metBy 41 = .ok (.iconst 1, 1) := by decide +kernel
theorem dX12_metBy_42 : decode cX12_metBy 42 = .ok (.iand, 1) := by decide +kernel
theorem dX12_metBy_43 : decode cX12_metBy 43 = .ok (.iconst 1, 1) := by decide +kernel
theorem dX12_metBy_44 : decode cX12_metBy 44 = .ok (.if_icmp .ne 7, 3) := by decide +kernel
theorem dX12_metBy_47 : decode cX12_metBy 47 = .ok (.iconst 1, 1) := by decide +kernel
theorem dX12_metBy_48 : decode cX12_metBy 48 = .ok (.goto 27, 3) := by decide +kernel
theorem dX12_metBy_51 : decode cX12_metBy 51 = .ok (.iconst 0, 1) := by decide +kernel
theorem dX12_metBy_52 : decode cX12_metBy 52 = .ok (.goto 23, 3) := by decide +kernel
theorem dX12_metBy_55 : decode cX12_metBy 55 = .ok (.aload_n 0, 1) := by decide +kernel
theorem dX12_metBy_56 : decode cX12_metBy 56 = .ok (.aload_n 0, 1) := by decide +kernel
theorem dX12_metBy_57 : decode cX12_metBy 57 = .ok (.getfield 7, 3) := by decide +kernel
theorem dX12_metBy_60 : decode cX12_metBy 60 = .ok (.sipush 1172, 3) := by decide +kernel
theorem dX12_metBy_63 : decode cX12_metBy 63 = .ok (.iload_n 3, 1) := by decide +kernel
theorem dX12_metBy_64 : decode cX12_metBy 64 = .ok (.iadd, 1) := by decide +kernel
theorem dX12_metBy_65 : decode cX12_metBy 65 = .ok (.iaload, 1) := by decide +kernel
theorem dX12_metBy_66 : decode cX12_metBy 66 = .ok (.aload_n 0, 1) := by decide +kernel
theorem dX12_metBy_67 : decode cX12_metBy 67 = .ok (.getfield 7, 3) := by decide +kernel
theorem dX12_metBy_70 : decode cX12_metBy 70 = .ok (.iconst 0, 1) := by decide +kernel
theorem dX12_metBy_71 : decode cX12_metBy 71 = .ok (.iaload, 1) := by decide +kernel
theorem dX12_metBy_72 : decode cX12_metBy 72 = .ok (.invokevirtual 172, 3) := by decide +kernel
theorem dX12_metBy_75 : decode cX12_metBy 75 = .ok (.istore 5, 2) := by decide +kernel
theorem dX12_metBy_77 : decode cX12_metBy 77 = .ok (.iload_n 2, 1) := by decide +kernel
theorem dX12_metBy_78 : decode cX12_metBy 78 = .ok (.iload 5, 2) := by decide +kernel
theorem dX12_metBy_80 : decode cX12_metBy 80 = .ok (.ifCond .eq 7, 3) := by decide +kernel
theorem dX12_metBy_83 : decode cX12_metBy 83 = .ok (.iconst 1, 1) := by decide +kernel
theorem dX12_metBy_84 : decode cX12_metBy 84 = .ok (.goto 4, 3) := by decide +kernel
theorem dX12_metBy_87 : decode cX12_metBy 87 = .ok (.iconst 0, 1) := by decide +kernel
theorem dX12_metBy_88 : decode cX12_metBy 88 = .ok (.iadd, 1) := by decide +kernel
theorem dX12_metBy_89 : decode cX12_metBy 89 = .ok (.istore_n 2, 1) := by decide +kernel
theorem dX12_metBy_90 : decode cX12_metBy 90 = .ok (.iinc 3 1, 3) := by decide +kernel
theorem dX12_metBy_93 : decode cX12_metBy 93 = .ok (.goto (-89), 3) := by decide +kernel
theorem dX12_metBy_96 : decode cX12_metBy 96 = .ok (.iload_n 2, 1) := by decide +kernel
theorem dX12_metBy_97 : decode cX12_metBy 97 = .ok (.ireturn, 1) := by decide +kernel
theorem dX12_fallsBy_0 : decode cX12_fallsBy 0 = .ok (.iconst 0, 1) := by decide +kernel
theorem dX12_fallsBy_1 : decode cX12_fallsBy 1 = .ok (.istore_n 2, 1) := by decide +kernel
theorem dX12_fallsBy_2 : decode cX12_fallsBy 2 = .ok (.iload_n 2, 1) := by decide +kernel
theorem dX12_fallsBy_3 : decode cX12_fallsBy 3 = .ok (.bipush 50, 2) := by decide +kernel
theorem dX12_fallsBy_5 : decode cX12_fallsBy 5 = .ok (.if_icmp .ge 89, 3) := by decide +kernel
theorem dX12_fallsBy_8 : decode cX12_fallsBy 8 = .ok (.aload_n 0, 1) := by decide +kernel
theorem dX12_fallsBy_9 : decode cX12_fallsBy 9 = .ok (.getfield 40, 3) := by decide +kernel
theorem dX12_fallsBy_12 : decode cX12_fallsBy 12 = .ok (.iload_n 2, 1) := by decide +kernel
theorem dX12_fallsBy_13 : decode cX12_fallsBy 13 = .ok (.iconst 0, 1) := by decide +kernel
theorem dX12_fallsBy_14 : decode cX12_fallsBy 14 = .ok (.bastore, 1) := by decide +kernel
theorem dX12_fallsBy_15 : decode cX12_fallsBy 15 = .ok (.iconst 0, 1) := by decide +kernel
theorem dX12_fallsBy_16 : decode cX12_fallsBy 16 = .ok (.istore_n 3, 1) := by decide +kernel
theorem dX12_fallsBy_17 : decode cX12_fallsBy 17 = .ok (.iload_n 3, 1) := by decide +kernel
theorem dX12_fallsBy_18 : decode cX12_fallsBy 18 = .ok (.aload_n 0, 1) := by decide +kernel
theorem dX12_fallsBy_19 : decode cX12_fallsBy 19 = .ok (.getfield 7, 3) := by decide +kernel
theorem dX12_fallsBy_22 : decode cX12_fallsBy 22 = .ok (.bipush 8, 2) := by decide +kernel
theorem dX12_fallsBy_24 : decode cX12_fallsBy 24 = .ok (.iaload, 1) := by decide +kernel
theorem dX12_fallsBy_25 : decode cX12_fallsBy 25 = .ok (.if_icmp .ge 63, 3) := by decide +kernel
theorem dX12_fallsBy_28 : decode cX12_fallsBy 28 = .ok (.aload_n 0, 1) := by decide +kernel
theorem dX12_fallsBy_29 : decode cX12_fallsBy 29 = .ok (.getfield 40, 3) := by decide +kernel
theorem dX12_fallsBy_32 : decode cX12_fallsBy 32 = .ok (.iload_n 2, 1) := by decide +kernel
theorem dX12_fallsBy_33 : decode cX12_fallsBy 33 = .ok (.aload_n 0, 1) := by decide +kernel
theorem dX12_fallsBy_34 : decode cX12_fallsBy 34 = .ok (.getfield 40, 3) := by decide +kernel
theorem dX12_fallsBy_37 : decode cX12_fallsBy 37 = .ok (.iload_n 2, 1) := by decide +kernel
theorem dX12_fallsBy_38 : decode cX12_fallsBy 38 = .ok (.baload, 1) := by decide +kernel
theorem dX12_fallsBy_39 : decode cX12_fallsBy 39 = .ok (.ifCond .ne 37, 3) := by decide +kernel
theorem dX12_fallsBy_42 : decode cX12_fallsBy 42 = .ok (.aload_n 0, 1) := by decide +kernel
theorem dX12_fallsBy_43 : decode cX12_fallsBy 43 = .ok (.getfield 7, 3) := by decide +kernel
theorem dX12_fallsBy_46 : decode cX12_fallsBy 46 = .ok (.iload_n 1, 1) := by decide +kernel
theorem dX12_fallsBy_47 : decode cX12_fallsBy 47 = .ok (.iload_n 3, 1) := by decide +kernel
theorem dX12_fallsBy_48 : decode cX12_fallsBy 48 = .ok (.ishr, 1) := by decide +kernel
theorem dX12_fallsBy_49 : decode cX12_fallsBy 49 = .ok (.iconst 1, 1) := by decide +kernel
theorem dX12_fallsBy_50 : decode cX12_fallsBy 50 = .ok (.iand, 1) := by decide +kernel
theorem dX12_fallsBy_51 : decode cX12_fallsBy 51 = .ok (.iconst 1, 1) := by decide +kernel
theorem dX12_fallsBy_52 : decode cX12_fallsBy 52 = .ok (.if_icmp .ne 9, 3) := by decide +kernel
theorem dX12_fallsBy_55 : decode cX12_fallsBy 55 = .ok (.sipush 572, 3) := by decide +kernel
theorem dX12_fallsBy_58 : decode cX12_fallsBy 58 = .ok (.goto 6, 3) := by decide +kernel
theorem dX12_fallsBy_61 : decode cX12_fallsBy 61 = .ok (.sipush 872, 3) := by decide +kernel
theorem dX12_fallsBy_64 : decode cX12_fallsBy 64 = .ok (.bipush 50, 2) := by decide +kernel
theorem dX12_fallsBy_66 : decode cX12_fallsBy 66 = .ok (.iload_n 3, 1) := by decide +kernel
theorem dX12_fallsBy_67 : decode cX12_fallsBy 67 = .ok (.imul, 1) := by decide +kernel
theorem dX12_fallsBy_68 : decode cX12_fallsBy 68 = .ok (.iadd, 1) := by decide +kernel
theorem dX12_fallsBy_69 : decode cX12_fallsBy 69 = .ok (.iload_n 2, 1) := by decide +kernel
theorem dX12_fallsBy_70 : decode cX12_fallsBy 70 = .ok (.iadd, 1) := by decide +kernel
theorem dX12_fallsBy_71 : decode cX12_fallsBy 71 = .ok (.iaload, 1) := by decide +kernel
theorem dX12_fallsBy_72 : decode cX12_fallsBy 72 = .ok (.iconst 1, 1) := by decide +kernel
theorem dX12_fallsBy_73 : decode cX12_fallsBy 73 = .ok (.if_icmp .ne 7, 3) := by decide +kernel
theorem dX12_fallsBy_76 : decode cX12_fallsBy 76 = .ok (.iconst 1, 1) := by decide +kernel
theorem dX12_fallsBy_77 : decode cX12_fallsBy 77 = .ok (.goto 4, 3) := by decide +kernel
theorem dX12_fallsBy_80 : decode cX12_fallsBy 80 = .ok (.iconst 0, 1) := by decide +kernel
theorem dX12_fallsBy_81 : decode cX12_fallsBy 81 = .ok (.bastore, 1) := by decide +kernel
theorem dX12_fallsBy_82 : decode cX12_fallsBy 82 = .ok (.iinc 3 1, 3) := by decide +kernel
theorem dX12_fallsBy_85 : decode cX12_fallsBy 85 = .ok (.goto (-68), 3) := by decide +kernel
theorem dX12_fallsBy_88 : decode cX12_fallsBy 88 = .ok (.iinc 2 1, 3) := by decide +kernel
theorem dX12_fallsBy_91 : decode cX12_fallsBy 91 = .ok (.goto (-89), 3) := by decide +kernel
theorem dX12_fallsBy_94 : decode cX12_fallsBy 94 = .ok (.aload_n 0, 1) := by decide +kernel
theorem dX12_fallsBy_95 : decode cX12_fallsBy 95 = .ok (.aload_n 0, 1) := by decide +kernel
theorem dX12_fallsBy_96 : decode cX12_fallsBy 96 = .ok (.getfield 40, 3) := by decide +kernel
theorem dX12_fallsBy_99 : decode cX12_fallsBy 99 = .ok (.invokevirtual 193, 3) := by decide +kernel
theorem dX12_fallsBy_102 : decode cX12_fallsBy 102 = .ok (.iconst 0, 1) := by decide +kernel
theorem dX12_fallsBy_103 : decode cX12_fallsBy 103 = .ok (.istore_n 2, 1) := by decide +kernel
theorem dX12_fallsBy_104 : decode cX12_fallsBy 104 = .ok (.iconst 0, 1) := by decide +kernel
theorem dX12_fallsBy_105 : decode cX12_fallsBy 105 = .ok (.istore_n 3, 1) := by decide +kernel
theorem dX12_fallsBy_106 : decode cX12_fallsBy 106 = .ok (.iload_n 3, 1) := by decide +kernel
theorem dX12_fallsBy_107 : decode cX12_fallsBy 107 = .ok (.bipush 50, 2) := by decide +kernel
theorem dX12_fallsBy_109 : decode cX12_fallsBy 109 = .ok (.if_icmp .ge 35, 3) := by decide +kernel
theorem dX12_fallsBy_112 : decode cX12_fallsBy 112 = .ok (.iload_n 2, 1) := by decide +kernel
theorem dX12_fallsBy_113 : decode cX12_fallsBy 113 = .ok (.aload_n 0, 1) := by decide +kernel
theorem dX12_fallsBy_114 : decode cX12_fallsBy 114 = .ok (.getfield 40, 3) := by decide +kernel
theorem dX12_fallsBy_117 : decode cX12_fallsBy 117 = .ok (.iload_n 3, 1) := by decide +kernel
theorem dX12_fallsBy_118 : decode cX12_fallsBy 118 = .ok (.baload, 1) := by decide +kernel
theorem dX12_fallsBy_119 : decode cX12_fallsBy 119 = .ok (.ifCond .eq 16, 3) := by decide +kernel
theorem dX12_fallsBy_122 : decode cX12_fallsBy 122 = .ok (.aload_n 0, 1) := by decide +kernel
theorem dX12_fallsBy_123 : decode cX12_fallsBy 123 = .ok (.getfield 37, 3) := by decide +kernel
theorem dX12_fallsBy_126 : decode cX12_fallsBy 126 = .ok (.iload_n 3, 1) := by decide +kernel
theorem dX12_fallsBy_127 : decode cX12_fallsBy 127 = .ok (.baload, 1) := by decide +kernel
theorem dX12_fallsBy_128 : decode cX12_fallsBy 128 = .ok (.ifCond .eq 7, 3) := by decide +kernel
theorem dX12_fallsBy_131 : decode cX12_fallsBy 131 = .ok (.iconst 1, 1) := by decide +kernel
theorem dX12_fallsBy_132 : decode cX12_fallsBy 132 = .ok (.goto 4, 3) := by decide +kernel
theorem dX12_fallsBy_135 : decode cX12_fallsBy 135 = .ok (.iconst 0, 1) := by decide +kernel
theorem dX12_fallsBy_136 : decode cX12_fallsBy 136 = .ok (.iadd, 1) := by decide +kernel
theorem dX12_fallsBy_137 : decode cX12_fallsBy 137 = .ok (.istore_n 2, 1) := by decide +kernel
theorem dX12_fallsBy_138 : decode cX12_fallsBy 138 = .ok (.iinc 3 1, 3) := by decide +kernel
theorem dX12_fallsBy_141 : decode cX12_fallsBy 141 = .ok (.goto (-35), 3) := by decide +kernel
theorem dX12_fallsBy_144 : decode cX12_fallsBy 144 = .ok (.iload_n 2, 1) := by decide +kernel
theorem dX12_fallsBy_145 : decode cX12_fallsBy 145 = .ok (.ireturn, 1) := by decide +kernel
theorem dX12_judge_0 : decode cX12_judge 0 = .ok (.iload_n 2, 1) := by decide +kernel
theorem dX12_judge_1 : decode cX12_judge 1 = .ok (.iconst 0, 1) := by decide +kernel
theorem dX12_judge_2 : decode cX12_judge 2 = .ok (.iconst 1, 1) := by decide +kernel
theorem dX12_judge_3 : decode cX12_judge 3 = .ok (.invokestatic 74, 3) := by decide +kernel
theorem dX12_judge_6 : decode cX12_judge 6 = .ok (.ifCond .ne 5, 3) := by decide +kernel
theorem dX12_judge_9 : decode cX12_judge 9 = .ok (.iconst (-1), 1) := by decide +kernel
theorem dX12_judge_10 : decode cX12_judge 10 = .ok (.ireturn, 1) := by decide +kernel
theorem dX12_judge_11 : decode cX12_judge 11 = .ok (.iload_n 1, 1) := by decide +kernel
theorem dX12_judge_12 : decode cX12_judge 12 = .ok (.iconst 0, 1) := by decide +kernel
theorem dX12_judge_13 : decode cX12_judge 13 = .ok (.iconst 1, 1) := by decide +kernel
theorem dX12_judge_14 : decode cX12_judge 14 = .ok (.aload_n 0, 1) := by decide +kernel
theorem dX12_judge_15 : decode cX12_judge 15 = .ok (.getfield 7, 3) := by decide +kernel
theorem dX12_judge_18 : decode cX12_judge 18 = .ok (.bipush 8, 2) := by decide +kernel
theorem dX12_judge_20 : decode cX12_judge 20 = .ok (.iaload, 1) := by decide +kernel
theorem dX12_judge_21 : decode cX12_judge 21 = .ok (.ishl, 1) := by decide +kernel
theorem dX12_judge_22 : decode cX12_judge 22 = .ok (.iconst 1, 1) := by decide +kernel
theorem dX12_judge_23 : decode cX12_judge 23 = .ok (.isub, 1) := by decide +kernel
theorem dX12_judge_24 : decode cX12_judge 24 = .ok (.invokestatic 74, 3) := by decide +kernel
theorem dX12_judge_27 : decode cX12_judge 27 = .ok (.ifCond .ne 6, 3) := by decide +kernel
theorem dX12_judge_30 : decode cX12_judge 30 = .ok (.bipush (-2), 2) := by decide +kernel
theorem dX12_judge_32 : decode cX12_judge 32 = .ok (.ireturn, 1) := by decide +kernel
theorem dX12_judge_33 : decode cX12_judge 33 = .ok (.aload_n 0, 1) := by decide +kernel
theorem dX12_judge_34 : decode cX12_judge 34 = .ok (.invokevirtual 169, 3) := by decide +kernel
theorem dX12_judge_37 : decode cX12_judge 37 = .ok (.iload_n 2, 1) := by decide +kernel
theorem dX12_judge_38 : decode cX12_judge 38 = .ok (.ifCond .ne 11, 3) := by decide +kernel
theorem dX12_judge_41 : decode cX12_judge 41 = .ok (.aload_n 0, 1) := by decide +kernel
theorem dX12_judge_42 : decode cX12_judge 42 = .ok (.iload_n 1, 1) := by decide +kernel
theorem dX12_judge_43 : decode cX12_judge 43 = .ok (.invokevirtual 259, 3) := by decide +kernel
theorem dX12_judge_46 : decode cX12_judge 46 = .ok (.goto 8, 3) := by decide +kernel
theorem dX12_judge_49 : decode cX12_judge 49 = .ok (.aload_n 0, 1) := by decide +kernel
theorem dX12_judge_50 : decode cX12_judge 50 = .ok (.iload_n 1, 1) := by decide +kernel
theorem dX12_judge_51 : decode cX12_judge 51 = .ok (.invokevirtual 262, 3) := by decide +kernel
theorem dX12_judge_54 : decode cX12_judge 54 = .ok (.ireturn, 1) := by decide +kernel
theorem dX12_best_0 : decode cX12_best 0 = .ok (.aload_n 0, 1) := by decide +kernel
theorem dX12_best_1 : decode cX12_best 1 = .ok (.invokevirtual 169, 3) := by decide +kernel
theorem dX12_best_4 : decode cX12_best 4 = .ok (.bipush (-5), 2) := by decide +kernel
theorem dX12_best_6 : decode cX12_best 6 = .ok (.istore_n 1, 1) := by decide +kernel
theorem dX12_best_7 : decode cX12_best 7 = .ok (.iconst 0, 1) := by decide +kernel
theorem dX12_best_8 : decode cX12_best 8 = .ok (.istore_n 2, 1) := by decide +kernel
theorem dX12_best_9 : decode cX12_best 9 = .ok (.iconst 0, 1) := by decide +kernel
theorem dX12_best_10 : decode cX12_best 10 = .ok (.istore_n 3, 1) := by decide +kernel
theorem dX12_best_11 : decode cX12_best 11 = .ok (.iload_n 3, 1) := by decide +kernel
theorem dX12_best_12 : decode cX12_best 12 = .ok (.iconst 1, 1) := by decide +kernel
theorem dX12_best_13 : decode cX12_best 13 = .ok (.aload_n 0, 1) := by decide +kernel
theorem dX12_best_14 : decode cX12_best 14 = .ok (.getfield 7, 3) := by decide +kernel
theorem dX12_best_17 : decode cX12_best 17 = .ok (.bipush 8, 2) := by decide +kernel
theorem dX12_best_19 : decode cX12_best 19 = .ok (.iaload, 1) := by decide +kernel
theorem dX12_best_20 : decode cX12_best 20 = .ok (.ishl, 1) := by decide +kernel
theorem dX12_best_21 : decode cX12_best 21 = .ok (.if_icmp .ge 48, 3) := by decide +kernel
theorem dX12_best_24 : decode cX12_best 24 = .ok (.aload_n 0, 1) := by decide +kernel
theorem dX12_best_25 : decode cX12_best 25 = .ok (.iload_n 3, 1) := by decide +kernel
theorem dX12_best_26 : decode cX12_best 26 = .ok (.invokevirtual 262, 3) := by decide +kernel
theorem dX12_best_29 : decode cX12_best 29 = .ok (.istore 4, 2) := by decide +kernel
theorem dX12_best_31 : decode cX12_best 31 = .ok (.aload_n 0, 1) := by decide +kernel
theorem dX12_best_32 : decode cX12_best 32 = .ok (.iload_n 3, 1) := by decide +kernel
theorem dX12_best_33 : decode cX12_best 33 = .ok (.invokevirtual 259, 3) := by decide +kernel
theorem dX12_best_36 : decode cX12_best 36 = .ok (.aload_n 0, 1) := by decide +kernel
theorem dX12_best_37 : decode cX12_best 37 = .ok (.getfield 7, 3) := by decide +kernel
theorem dX12_best_40 : decode cX12_best 40 = .ok (.bipush 9, 2) := by decide +kernel
theorem dX12_best_42 : decode cX12_best 42 = .ok (.iaload, 1) := by decide +kernel
theorem dX12_best_43 : decode cX12_best 43 = .ok (.if_icmp .ne 20, 3) := by decide +kernel
theorem dX12_best_46 : decode cX12_best 46 = .ok (.iload_n 1, 1) := by decide +kernel
theorem dX12_best_47 : decode cX12_best 47 = .ok (.bipush (-5), 2) := by decide +kernel
theorem dX12_best_49 : decode cX12_best 49 = .ok (.if_icmp .eq 9, 3) := by decide +kernel
theorem dX12_best_52 : decode cX12_best 52 = .ok (.iload 4, 2) := by decide +kernel
theorem dX12_best_54 : decode cX12_best 54 = .ok (.iload_n 2, 1) := by decide +kernel
theorem dX12_best_55 : decode cX12_best 55 = .ok (.if_icmp .ge 8, 3) := by decide +kernel
theorem dX12_best_58 : decode cX12_best 58 = .ok (.iload_n 3, 1) := by decide +kernel
theorem dX12_best_59 : decode cX12_best 59 = .ok (.istore_n 1, 1) := by decide +kernel
theorem dX12_best_60 : decode cX12_best 60 = .ok (.iload 4, 2) := by decide +kernel
theorem dX12_best_62 : decode cX12_best 62 = .ok (.istore_n 2, 1) := by decide +kernel
theorem dX12_best_63 : decode cX12_best 63 = .ok (.iinc 3 1, 3) := by decide +kernel
theorem dX12_best_66 : decode cX12_best 66 = .ok (.goto (-55), 3) := by decide +kernel
theorem dX12_best_69 : decode cX12_best 69 = .ok (.iload_n 1, 1) := by decide +kernel
theorem dX12_best_70 : decode cX12_best 70 = .ok (.ireturn, 1) := by decide +kernel
theorem dX12_tried_0 : decode cX12_tried 0 = .ok (.iload_n 1, 1) := by decide +kernel
theorem dX12_tried_1 : decode cX12_tried 1 = .ok (.iconst 0, 1) := by decide +kernel
theorem dX12_tried_2 : decode cX12_tried 2 = .ok (.iconst 2, 1) := by decide +kernel
theorem dX12_tried_3 : decode cX12_tried 3 = .ok (.invokestatic 74, 3) := by decide +kernel
theorem dX12_tried_6 : decode cX12_tried 6 = .ok (.ifCond .eq 12, 3) := by decide +kernel
theorem dX12_tried_9 : decode cX12_tried 9 = .ok (.iload_n 2, 1) := by decide +kernel
theorem dX12_tried_10 : decode cX12_tried 10 = .ok (.iconst 0, 1) := by decide +kernel
theorem dX12_tried_11 : decode cX12_tried 11 = .ok (.iconst 2, 1) := by decide +kernel
theorem dX12_tried_12 : decode cX12_tried 12 = .ok (.invokestatic 74, 3) := by decide +kernel
theorem dX12_tried_15 : decode cX12_tried 15 = .ok (.ifCond .ne 5, 3) := by decide +kernel
theorem dX12_tried_18 : decode cX12_tried 18 = .ok (.iconst (-1), 1) := by decide +kernel
theorem dX12_tried_19 : decode cX12_tried 19 = .ok (.ireturn, 1) := by decide +kernel
theorem dX12_tried_20 : decode cX12_tried 20 = .ok (.aload_n 0, 1) := by decide +kernel
theorem dX12_tried_21 : decode cX12_tried 21 = .ok (.aload_n 0, 1) := by decide +kernel
theorem dX12_tried_22 : decode cX12_tried 22 = .ok (.getfield 7, 3) := by decide +kernel
theorem dX12_tried_25 : decode cX12_tried 25 = .ok (.iconst 1, 1) := by decide +kernel
theorem dX12_tried_26 : decode cX12_tried 26 = .ok (.iaload, 1) := by decide +kernel
theorem dX12_tried_27 : decode cX12_tried 27 = .ok (.iload_n 1, 1) := by decide +kernel
theorem dX12_tried_28 : decode cX12_tried 28 = .ok (.aload_n 0, 1) := by decide +kernel
theorem dX12_tried_29 : decode cX12_tried 29 = .ok (.getfield 7, 3) := by decide +kernel
theorem dX12_tried_32 : decode cX12_tried 32 = .ok (.iconst 0, 1) := by decide +kernel
theorem dX12_tried_33 : decode cX12_tried 33 = .ok (.iaload, 1) := by decide +kernel
theorem dX12_tried_34 : decode cX12_tried 34 = .ok (.invokevirtual 151, 3) := by decide +kernel
theorem dX12_tried_37 : decode cX12_tried 37 = .ok (.ifCond .ne 11, 3) := by decide +kernel
theorem dX12_tried_40 : decode cX12_tried 40 = .ok (.bipush (-10), 2) := by decide +kernel
theorem dX12_tried_42 : decode cX12_tried 42 = .ok (.aload_n 0, 1) := by decide +kernel
theorem dX12_tried_43 : decode cX12_tried 43 = .ok (.getfield 95, 3) := by decide +kernel
theorem dX12_tried_46 : decode cX12_tried 46 = .ok (.isub, 1) := by decide +kernel
theorem dX12_tried_47 : decode cX12_tried 47 = .ok (.ireturn, 1) := by decide +kernel
theorem dX12_tried_48 : decode cX12_tried 48 = .ok (.aload_n 0, 1) := by decide +kernel
theorem dX12_tried_49 : decode cX12_tried 49 = .ok (.getfield 7, 3) := by decide +kernel
theorem dX12_tried_52 : decode cX12_tried 52 = .ok (.iconst 1, 1) := by decide +kernel
theorem dX12_tried_53 : decode cX12_tried 53 = .ok (.dup2, 1) := by decide +kernel
theorem dX12_tried_54 : decode cX12_tried 54 = .ok (.iaload, 1) := by decide +kernel
theorem dX12_tried_55 : decode cX12_tried 55 = .ok (.iconst 1, 1) := by decide +kernel
theorem dX12_tried_56 : decode cX12_tried 56 = .ok (.iadd, 1) := by decide +kernel
theorem dX12_tried_57 : decode cX12_tried 57 = .ok (.iastore, 1) := by decide +kernel
theorem dX12_tried_58 : decode cX12_tried 58 = .ok (.aload_n 0, 1) := by decide +kernel
theorem dX12_tried_59 : decode cX12_tried 59 = .ok (.invokevirtual 169, 3) := by decide +kernel
theorem dX12_tried_62 : decode cX12_tried 62 = .ok (.iload_n 2, 1) := by decide +kernel
theorem dX12_tried_63 : decode cX12_tried 63 = .ok (.ifCond .ne 19, 3) := by decide +kernel
theorem dX12_tried_66 : decode cX12_tried 66 = .ok (.aload_n 0, 1) := by decide +kernel
theorem dX12_tried_67 : decode cX12_tried 67 = .ok (.iconst 0, 1) := by decide +kernel
theorem dX12_tried_68 : decode cX12_tried 68 = .ok (.iconst 1, 1) := by decide +kernel
theorem dX12_tried_69 : decode cX12_tried 69 = .ok (.aload_n 0, 1) := by decide +kernel
theorem dX12_tried_70 : decode cX12_tried 70 = .ok (.getfield 7, 3) := by decide +kernel
theorem dX12_tried_73 : decode cX12_tried 73 = .ok (.iconst 0, 1) := by decide +kernel
theorem dX12_tried_74 : decode cX12_tried 74 = .ok (.iaload, 1) := by decide +kernel
theorem dX12_tried_75 : decode cX12_tried 75 = .ok (.iconst 0, 1) := by decide +kernel
theorem dX12_tried_76 : decode cX12_tried 76 = .ok (.invokevirtual 179, 3) := by decide +kernel
theorem dX12_tried_79 : decode cX12_tried 79 = .ok (.goto 4, 3) := by decide +kernel
theorem dX12_tried_82 : decode cX12_tried 82 = .ok (.iconst 0, 1) := by decide +kernel
theorem dX12_tried_83 : decode cX12_tried 83 = .ok (.istore_n 3, 1) := by decide +kernel
theorem dX12_tried_84 : decode cX12_tried 84 = .ok (.iconst 0, 1) := by decide +kernel
theorem dX12_tried_85 : decode cX12_tried 85 = .ok (.istore 4, 2) := by decide +kernel
theorem dX12_tried_87 : decode cX12_tried 87 = .ok (.iload 4, 2) := by decide +kernel
theorem dX12_tried_89 : decode cX12_tried 89 = .ok (.sipush 10800, 3) := by decide +kernel
theorem dX12_tried_92 : decode cX12_tried 92 = .ok (.if_icmp .ge 37, 3) := by decide +kernel
theorem dX12_tried_95 : decode cX12_tried 95 = .ok (.iload_n 2, 1) := by decide +kernel
theorem dX12_tried_96 : decode cX12_tried 96 = .ok (.iconst 1, 1) := by decide +kernel
theorem dX12_tried_97 : decode cX12_tried 97 = .ok (.if_icmp .ne 32, 3) := by decide +kernel
theorem dX12_tried_100 : decode cX12_tried 100 = .ok (.iload_n 3, 1) := by decide +kernel
theorem dX12_tried_101 : decode cX12_tried 101 = .ok (.aload_n 0, 1) := by decide +kernel
theorem dX12_tried_102 : decode cX12_tried 102 = .ok (.iload 4, 2) := by decide +kernel
theorem dX12_tried_104 : decode cX12_tried 104 = .ok (.aload_n 0, 1) := by decide +kernel
theorem dX12_tried_105 : decode cX12_tried 105 = .ok (.getfield 7, 3) := by decide +kernel
theorem dX12_tried_108 : decode cX12_tried 108 = .ok (.iconst 0, 1) := by decide +kernel
theorem dX12_tried_109 : decode cX12_tried 109 = .ok (.iaload, 1) := by decide +kernel
theorem dX12_tried_110 : decode cX12_tried 110 = .ok (.invokevirtual 172, 3) := by decide +kernel
theorem dX12_tried_113 : decode cX12_tried 113 = .ok (.ifCond .eq 7, 3) := by decide +kernel
theorem dX12_tried_116 : decode cX12_tried 116 = .ok (.iconst 1, 1) := by decide +kernel
theorem dX12_tried_117 : decode cX12_tried 117 = .ok (.goto 4, 3) := by decide +kernel
theorem dX12_tried_120 : decode cX12_tried 120 = .ok (.iconst 0, 1) := by decide +kernel
theorem dX12_tried_121 : decode cX12_tried 121 = .ok (.iadd, 1) := by decide +kernel
theorem dX12_tried_122 : decode cX12_tried 122 = .ok (.istore_n 3, 1) := by decide +kernel
theorem dX12_tried_123 : decode cX12_tried 123 = .ok (.iinc 4 1, 3) := by decide +kernel
theorem dX12_tried_126 : decode cX12_tried 126 = .ok (.goto (-39), 3) := by decide +kernel
theorem dX12_tried_129 : decode cX12_tried 129 = .ok (.iconst 0, 1) := by decide +kernel
theorem dX12_tried_130 : decode cX12_tried 130 = .ok (.istore 4, 2) := by decide +kernel
theorem dX12_tried_132 : decode cX12_tried 132 = .ok (.iload 4, 2) := by decide +kernel
theorem dX12_tried_134 : decode cX12_tried 134 = .ok (.aload_n 0, 1) := by decide +kernel
theorem dX12_tried_135 : decode cX12_tried 135 = .ok (.getfield 7, 3) := by decide +kernel
theorem dX12_tried_138 : decode cX12_tried 138 = .ok (.bipush 9, 2) := by decide +kernel
theorem dX12_tried_140 : decode cX12_tried 140 = .ok (.iaload, 1) := by decide +kernel
theorem dX12_tried_141 : decode cX12_tried 141 = .ok (.if_icmp .ge 46, 3) := by decide +kernel
theorem dX12_tried_144 : decode cX12_tried 144 = .ok (.iload_n 2, 1) := by decide +kernel
theorem dX12_tried_145 : decode cX12_tried 145 = .ok (.iconst 2, 1) := by decide +kernel
theorem dX12_tried_146 : decode cX12_tried 146 = .ok (.if_icmp .ne 41, 3) := by decide +kernel
theorem dX12_tried_149 : decode cX12_tried 149 = .ok (.iload_n 3, 1) := by decide +kernel
theorem dX12_tried_150 : decode cX12_tried 150 = .ok (.aload_n 0, 1) := by decide +kernel
theorem dX12_tried_151 : decode cX12_tried 151 = .ok (.aload_n 0, 1) := by decide +kernel
theorem dX12_tried_152 : decode cX12_tried 152 = .ok (.getfield 7, 3) := by decide +kernel
theorem dX12_tried_155 : decode cX12_tried 155 = .ok (.sipush 1172, 3) := by decide +kernel
theorem dX12_tried_158 : decode cX12_tried 158 = .ok (.iload 4, 2) := by decide +kernel
theorem dX12_tried_160 : decode cX12_tried 160 = .ok (.iadd, 1) := by decide +kernel
theorem dX12_tried_161 : decode cX12_tried 161 = .ok (.iaload, 1) := by decide +kernel
theorem dX12_tried_162 : decode cX12_tried 162 = .ok (.aload_n 0, 1) := by decide +kernel
theorem dX12_tried_163 : decode cX12_tried 163 = .ok (.getfield 7, 3) := by decide +kernel
theorem dX12_tried_166 : decode cX12_tried 166 = .ok (.iconst 0, 1) := by decide +kernel
theorem dX12_tried_167 : decode cX12_tried 167 = .ok (.iaload, 1) := by decide +kernel
theorem dX12_tried_168 : decode cX12_tried 168 = .ok (.invokevirtual 172, 3) := by decide +kernel
theorem dX12_tried_171 : decode cX12_tried 171 = .ok (.ifCond .eq 7, 3) := by decide +kernel
theorem dX12_tried_174 : decode cX12_tried 174 = .ok (.iconst 1, 1) := by decide +kernel
theorem dX12_tried_175 : decode cX12_tried 175 = .ok (.goto 4, 3) := by decide +kernel
