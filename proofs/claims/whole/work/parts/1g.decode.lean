theorem dX12_text_68 : decode cX12_text 68 = .ok (.aload_n 0, 1) := by decide +kernel
theorem dX12_text_69 : decode cX12_text 69 = .ok (.getfield 7, 3) := by decide +kernel
theorem dX12_text_72 : decode cX12_text 72 = .ok (.iconst 1, 1) := by decide +kernel
theorem dX12_text_73 : decode cX12_text 73 = .ok (.iaload, 1) := by decide +kernel
theorem dX12_text_74 : decode cX12_text 74 = .ok (.iconst 1, 1) := by decide +kernel
theorem dX12_text_75 : decode cX12_text 75 = .ok (.isub, 1) := by decide +kernel
theorem dX12_text_76 : decode cX12_text 76 = .ok (.ireturn, 1) := by decide +kernel
theorem dX12_textOf_0 : decode cX12_textOf 0 = .ok (.iconst (-1), 1) := by decide +kernel
theorem dX12_textOf_1 : decode cX12_textOf 1 = .ok (.istore_n 3, 1) := by decide +kernel
theorem dX12_textOf_2 : decode cX12_textOf 2 = .ok (.iconst 0, 1) := by decide +kernel
theorem dX12_textOf_3 : decode cX12_textOf 3 = .ok (.istore 4, 2) := by decide +kernel
theorem dX12_textOf_5 : decode cX12_textOf 5 = .ok (.iload 4, 2) := by decide +kernel
theorem dX12_textOf_7 : decode cX12_textOf 7 = .ok (.aload_n 0, 1) := by decide +kernel
theorem dX12_textOf_8 : decode cX12_textOf 8 = .ok (.getfield 7, 3) := by decide +kernel
theorem dX12_textOf_11 : decode cX12_textOf 11 = .ok (.iconst 1, 1) := by decide +kernel
theorem dX12_textOf_12 : decode cX12_textOf 12 = .ok (.iaload, 1) := by decide +kernel
theorem dX12_textOf_13 : decode cX12_textOf 13 = .ok (.if_icmp .ge 75, 3) := by decide +kernel
theorem dX12_textOf_16 : decode cX12_textOf 16 = .ok (.aload_n 0, 1) := by decide +kernel
theorem dX12_textOf_17 : decode cX12_textOf 17 = .ok (.getfield 7, 3) := by decide +kernel
theorem dX12_textOf_20 : decode cX12_textOf 20 = .ok (.sipush 4410, 3) := by decide +kernel
theorem dX12_textOf_23 : decode cX12_textOf 23 = .ok (.iload 4, 2) := by decide +kernel
theorem dX12_textOf_25 : decode cX12_textOf 25 = .ok (.iadd, 1) := by decide +kernel
theorem dX12_textOf_26 : decode cX12_textOf 26 = .ok (.iaload, 1) := by decide +kernel
theorem dX12_textOf_27 : decode cX12_textOf 27 = .ok (.iload_n 1, 1) := by decide +kernel
theorem dX12_textOf_28 : decode cX12_textOf 28 = .ok (.if_icmp .ne 52, 3) := by decide +kernel
theorem dX12_textOf_31 : decode cX12_textOf 31 = .ok (.aload_n 0, 1) := by decide +kernel
theorem dX12_textOf_32 : decode cX12_textOf 32 = .ok (.getfield 7, 3) := by decide +kernel
theorem dX12_textOf_35 : decode cX12_textOf 35 = .ok (.sipush 4430, 3) := by decide +kernel
theorem dX12_textOf_38 : decode cX12_textOf 38 = .ok (.iload 4, 2) := by decide +kernel
theorem dX12_textOf_40 : decode cX12_textOf 40 = .ok (.iadd, 1) := by decide +kernel
theorem dX12_textOf_41 : decode cX12_textOf 41 = .ok (.iaload, 1) := by decide +kernel
theorem dX12_textOf_42 : decode cX12_textOf 42 = .ok (.iload_n 2, 1) := by decide +kernel
theorem dX12_textOf_43 : decode cX12_textOf 43 = .ok (.if_icmp .gt 37, 3) := by decide +kernel
theorem dX12_textOf_46 : decode cX12_textOf 46 = .ok (.iload_n 3, 1) := by decide +kernel
theorem dX12_textOf_47 : decode cX12_textOf 47 = .ok (.iconst (-1), 1) := by decide +kernel
theorem dX12_textOf_48 : decode cX12_textOf 48 = .ok (.if_icmp .eq 27, 3) := by decide +kernel
theorem dX12_textOf_51 : decode cX12_textOf 51 = .ok (.aload_n 0, 1) := by decide +kernel
theorem dX12_textOf_52 : decode cX12_textOf 52 = .ok (.getfield 7, 3) := by decide +kernel
theorem dX12_textOf_55 : decode cX12_textOf 55 = .ok (.sipush 4430, 3) := by decide +kernel
theorem dX12_textOf_58 : decode cX12_textOf 58 = .ok (.iload 4, 2) := by decide +kernel
theorem dX12_textOf_60 : decode cX12_textOf 60 = .ok (.iadd, 1) := by decide +kernel
theorem dX12_textOf_61 : decode cX12_textOf 61 = .ok (.iaload, 1) := by decide +kernel
theorem dX12_textOf_62 : decode cX12_textOf 62 = .ok (.aload_n 0, 1) := by decide +kernel
theorem dX12_textOf_63 : decode cX12_textOf 63 = .ok (.getfield 7, 3) := by decide +kernel
theorem dX12_textOf_66 : decode cX12_textOf 66 = .ok (.sipush 4430, 3) := by decide +kernel
theorem dX12_textOf_69 : decode cX12_textOf 69 = .ok (.iload_n 3, 1) := by decide +kernel
theorem dX12_textOf_70 : decode cX12_textOf 70 = .ok (.iadd, 1) := by decide +kernel
theorem dX12_textOf_71 : decode cX12_textOf 71 = .ok (.iaload, 1) := by decide +kernel
theorem dX12_textOf_72 : decode cX12_textOf 72 = .ok (.if_icmp .lt 8, 3) := by decide +kernel
theorem dX12_textOf_75 : decode cX12_textOf 75 = .ok (.iload 4, 2) := by decide +kernel
theorem dX12_textOf_77 : decode cX12_textOf 77 = .ok (.goto 4, 3) := by decide +kernel
theorem dX12_textOf_80 : decode cX12_textOf 80 = .ok (.iload_n 3, 1) := by decide +kernel
theorem dX12_textOf_81 : decode cX12_textOf 81 = .ok (.istore_n 3, 1) := by decide +kernel
theorem dX12_textOf_82 : decode cX12_textOf 82 = .ok (.iinc 4 1, 3) := by decide +kernel
theorem dX12_textOf_85 : decode cX12_textOf 85 = .ok (.goto (-80), 3) := by decide +kernel
theorem dX12_textOf_88 : decode cX12_textOf 88 = .ok (.iload_n 3, 1) := by decide +kernel
theorem dX12_textOf_89 : decode cX12_textOf 89 = .ok (.ireturn, 1) := by decide +kernel
theorem dX12_clauseOf_0 : decode cX12_clauseOf 0 = .ok (.aload_n 0, 1) := by decide +kernel
theorem dX12_clauseOf_1 : decode cX12_clauseOf 1 = .ok (.iload_n 1, 1) := by decide +kernel
theorem dX12_clauseOf_2 : decode cX12_clauseOf 2 = .ok (.iload_n 3, 1) := by decide +kernel
theorem dX12_clauseOf_3 : decode cX12_clauseOf 3 = .ok (.invokevirtual 154, 3) := by decide +kernel
theorem dX12_clauseOf_6 : decode cX12_clauseOf 6 = .ok (.istore 4, 2) := by decide +kernel
theorem dX12_clauseOf_8 : decode cX12_clauseOf 8 = .ok (.iload 4, 2) := by decide +kernel
theorem dX12_clauseOf_10 : decode cX12_clauseOf 10 = .ok (.iconst (-1), 1) := by decide +kernel
theorem dX12_clauseOf_11 : decode cX12_clauseOf 11 = .ok (.if_icmp .ne 7, 3) := by decide +kernel
theorem dX12_clauseOf_14 : decode cX12_clauseOf 14 = .ok (.iconst (-1), 1) := by decide +kernel
theorem dX12_clauseOf_15 : decode cX12_clauseOf 15 = .ok (.goto 10, 3) := by decide +kernel
theorem dX12_clauseOf_18 : decode cX12_clauseOf 18 = .ok (.aload_n 0, 1) := by decide +kernel
theorem dX12_clauseOf_19 : decode cX12_clauseOf 19 = .ok (.iload 4, 2) := by decide +kernel
theorem dX12_clauseOf_21 : decode cX12_clauseOf 21 = .ok (.iload_n 2, 1) := by decide +kernel
theorem dX12_clauseOf_22 : decode cX12_clauseOf 22 = .ok (.invokevirtual 157, 3) := by decide +kernel
theorem dX12_clauseOf_25 : decode cX12_clauseOf 25 = .ok (.ireturn, 1) := by decide +kernel
theorem dX12_clauseIn_0 : decode cX12_clauseIn 0 = .ok (.iconst (-1), 1) := by decide +kernel
theorem dX12_clauseIn_1 : decode cX12_clauseIn 1 = .ok (.istore_n 3, 1) := by decide +kernel
theorem dX12_clauseIn_2 : decode cX12_clauseIn 2 = .ok (.iconst 0, 1) := by decide +kernel
theorem dX12_clauseIn_3 : decode cX12_clauseIn 3 = .ok (.istore 4, 2) := by decide +kernel
theorem dX12_clauseIn_5 : decode cX12_clauseIn 5 = .ok (.iload 4, 2) := by decide +kernel
theorem dX12_clauseIn_7 : decode cX12_clauseIn 7 = .ok (.aload_n 0, 1) := by decide +kernel
theorem dX12_clauseIn_8 : decode cX12_clauseIn 8 = .ok (.getfield 7, 3) := by decide +kernel
theorem dX12_clauseIn_11 : decode cX12_clauseIn 11 = .ok (.sipush 4470, 3) := by decide +kernel
theorem dX12_clauseIn_14 : decode cX12_clauseIn 14 = .ok (.iload_n 1, 1) := by decide +kernel
theorem dX12_clauseIn_15 : decode cX12_clauseIn 15 = .ok (.iadd, 1) := by decide +kernel
theorem dX12_clauseIn_16 : decode cX12_clauseIn 16 = .ok (.iaload, 1) := by decide +kernel
theorem dX12_clauseIn_17 : decode cX12_clauseIn 17 = .ok (.if_icmp .ge 68, 3) := by decide +kernel
theorem dX12_clauseIn_20 : decode cX12_clauseIn 20 = .ok (.aload_n 0, 1) := by decide +kernel
theorem dX12_clauseIn_21 : decode cX12_clauseIn 21 = .ok (.iload_n 1, 1) := by decide +kernel
theorem dX12_clauseIn_22 : decode cX12_clauseIn 22 = .ok (.putfield 98, 3) := by decide +kernel
theorem dX12_clauseIn_25 : decode cX12_clauseIn 25 = .ok (.aload_n 0, 1) := by decide +kernel
theorem dX12_clauseIn_26 : decode cX12_clauseIn 26 = .ok (.aload_n 0, 1) := by decide +kernel
theorem dX12_clauseIn_27 : decode cX12_clauseIn 27 = .ok (.getfield 7, 3) := by decide +kernel
theorem dX12_clauseIn_30 : decode cX12_clauseIn 30 = .ok (.sipush 4620, 3) := by decide +kernel
theorem dX12_clauseIn_33 : decode cX12_clauseIn 33 = .ok (.bipush 8, 2) := by decide +kernel
theorem dX12_clauseIn_35 : decode cX12_clauseIn 35 = .ok (.iload_n 1, 1) := by decide +kernel
theorem dX12_clauseIn_36 : decode cX12_clauseIn 36 = .ok (.imul, 1) := by decide +kernel
theorem dX12_clauseIn_37 : decode cX12_clauseIn 37 = .ok (.iadd, 1) := by decide +kernel
theorem dX12_clauseIn_38 : decode cX12_clauseIn 38 = .ok (.iload 4, 2) := by decide +kernel
theorem dX12_clauseIn_40 : decode cX12_clauseIn 40 = .ok (.iadd, 1) := by decide +kernel
theorem dX12_clauseIn_41 : decode cX12_clauseIn 41 = .ok (.iaload, 1) := by decide +kernel
theorem dX12_clauseIn_42 : decode cX12_clauseIn 42 = .ok (.putfield 95, 3) := by decide +kernel
theorem dX12_clauseIn_45 : decode cX12_clauseIn 45 = .ok (.aload_n 0, 1) := by decide +kernel
theorem dX12_clauseIn_46 : decode cX12_clauseIn 46 = .ok (.iconst 0, 1) := by decide +kernel
theorem dX12_clauseIn_47 : decode cX12_clauseIn 47 = .ok (.putfield 109, 3) := by decide +kernel
theorem dX12_clauseIn_50 : decode cX12_clauseIn 50 = .ok (.aload_n 0, 1) := by decide +kernel
theorem dX12_clauseIn_51 : decode cX12_clauseIn 51 = .ok (.iconst 0, 1) := by decide +kernel
theorem dX12_clauseIn_52 : decode cX12_clauseIn 52 = .ok (.putfield 101, 3) := by decide +kernel
theorem dX12_clauseIn_55 : decode cX12_clauseIn 55 = .ok (.aload_n 0, 1) := by decide +kernel
theorem dX12_clauseIn_56 : decode cX12_clauseIn 56 = .ok (.iload_n 2, 1) := by decide +kernel
theorem dX12_clauseIn_57 : decode cX12_clauseIn 57 = .ok (.putfield 126, 3) := by decide +kernel
theorem dX12_clauseIn_60 : decode cX12_clauseIn 60 = .ok (.aload_n 0, 1) := by decide +kernel
theorem dX12_clauseIn_61 : decode cX12_clauseIn 61 = .ok (.invokevirtual 116, 3) := by decide +kernel
theorem dX12_clauseIn_64 : decode cX12_clauseIn 64 = .ok (.ifCond .eq 13, 3) := by decide +kernel
theorem dX12_clauseIn_67 : decode cX12_clauseIn 67 = .ok (.bipush 8, 2) := by decide +kernel
theorem dX12_clauseIn_69 : decode cX12_clauseIn 69 = .ok (.iload_n 1, 1) := by decide +kernel
theorem dX12_clauseIn_70 : decode cX12_clauseIn 70 = .ok (.imul, 1) := by decide +kernel
theorem dX12_clauseIn_71 : decode cX12_clauseIn 71 = .ok (.iload 4, 2) := by decide +kernel
theorem dX12_clauseIn_73 : decode cX12_clauseIn 73 = .ok (.iadd, 1) := by decide +kernel
theorem dX12_clauseIn_74 : decode cX12_clauseIn 74 = .ok (.goto 4, 3) := by decide +kernel
theorem dX12_clauseIn_77 : decode cX12_clauseIn 77 = .ok (.iload_n 3, 1) := by decide +kernel
theorem dX12_clauseIn_78 : decode cX12_clauseIn 78 = .ok (.istore_n 3, 1) := by decide +kernel
theorem dX12_clauseIn_79 : decode cX12_clauseIn 79 = .ok (.iinc 4 1, 3) := by decide +kernel
theorem dX12_clauseIn_82 : decode cX12_clauseIn 82 = .ok (.goto (-77), 3) := by decide +kernel
theorem dX12_clauseIn_85 : decode cX12_clauseIn 85 = .ok (.iload_n 3, 1) := by decide +kernel
theorem dX12_clauseIn_86 : decode cX12_clauseIn 86 = .ok (.ireturn, 1) := by decide +kernel
theorem dX12_finds_0 : decode cX12_finds 0 = .ok (.aload_n 0, 1) := by decide +kernel
theorem dX12_finds_1 : decode cX12_finds 1 = .ok (.getfield 24, 3) := by decide +kernel
theorem dX12_finds_4 : decode cX12_finds 4 = .ok (.iload_n 1, 1) := by decide +kernel
theorem dX12_finds_5 : decode cX12_finds 5 = .ok (.iaload, 1) := by decide +kernel
theorem dX12_finds_6 : decode cX12_finds 6 = .ok (.aload_n 0, 1) := by decide +kernel
theorem dX12_finds_7 : decode cX12_finds 7 = .ok (.getfield 27, 3) := by decide +kernel
theorem dX12_finds_10 : decode cX12_finds 10 = .ok (.if_icmp .ne 4, 3) := by decide +kernel
theorem dX12_finds_13 : decode cX12_finds 13 = .ok (.return_, 1) := by decide +kernel
theorem dX12_finds_14 : decode cX12_finds 14 = .ok (.aload_n 0, 1) := by decide +kernel
theorem dX12_finds_15 : decode cX12_finds 15 = .ok (.getfield 24, 3) := by decide +kernel
theorem dX12_finds_18 : decode cX12_finds 18 = .ok (.iload_n 1, 1) := by decide +kernel
theorem dX12_finds_19 : decode cX12_finds 19 = .ok (.aload_n 0, 1) := by decide +kernel
theorem dX12_finds_20 : decode cX12_finds 20 = .ok (.getfield 27, 3) := by decide +kernel
theorem dX12_finds_23 : decode cX12_finds 23 = .ok (.iastore, 1) := by decide +kernel
theorem dX12_finds_24 : decode cX12_finds 24 = .ok (.iconst 0, 1) := by decide +kernel
theorem dX12_finds_25 : decode cX12_finds 25 = .ok (.istore_n 2, 1) := by decide +kernel
theorem dX12_finds_26 : decode cX12_finds 26 = .ok (.iload_n 2, 1) := by decide +kernel
theorem dX12_finds_27 : decode cX12_finds 27 = .ok (.sipush 10800, 3) := by decide +kernel
theorem dX12_finds_30 : decode cX12_finds 30 = .ok (.if_icmp .ge 52, 3) := by decide +kernel
theorem dX12_finds_33 : decode cX12_finds 33 = .ok (.aload_n 0, 1) := by decide +kernel
theorem dX12_finds_34 : decode cX12_finds 34 = .ok (.iload_n 1, 1) := by decide +kernel
theorem dX12_finds_35 : decode cX12_finds 35 = .ok (.iload_n 2, 1) := by decide +kernel
theorem dX12_finds_36 : decode cX12_finds 36 = .ok (.invokevirtual 157, 3) := by decide +kernel
theorem dX12_finds_39 : decode cX12_finds 39 = .ok (.istore_n 3, 1) := by decide +kernel
theorem dX12_finds_40 : decode cX12_finds 40 = .ok (.aload_n 0, 1) := by decide +kernel
theorem dX12_finds_41 : decode cX12_finds 41 = .ok (.getfield 20, 3) := by decide +kernel
theorem dX12_finds_44 : decode cX12_finds 44 = .ok (.sipush 10800, 3) := by decide +kernel
theorem dX12_finds_47 : decode cX12_finds 47 = .ok (.iload_n 1, 1) := by decide +kernel
theorem dX12_finds_48 : decode cX12_finds 48 = .ok (.imul, 1) := by decide +kernel
theorem dX12_finds_49 : decode cX12_finds 49 = .ok (.iload_n 2, 1) := by decide +kernel
theorem dX12_finds_50 : decode cX12_finds 50 = .ok (.iadd, 1) := by decide +kernel
theorem dX12_finds_51 : decode cX12_finds 51 = .ok (.iload_n 3, 1) := by decide +kernel
theorem dX12_finds_52 : decode cX12_finds 52 = .ok (.iconst (-1), 1) := by decide +kernel
theorem dX12_finds_53 : decode cX12_finds 53 = .ok (.if_icmp .eq 21, 3) := by decide +kernel
theorem dX12_finds_56 : decode cX12_finds 56 = .ok (.aload_n 0, 1) := by decide +kernel
theorem dX12_finds_57 : decode cX12_finds 57 = .ok (.getfield 7, 3) := by decide +kernel
theorem dX12_finds_60 : decode cX12_finds 60 = .ok (.sipush 4490, 3) := by decide +kernel
theorem dX12_finds_63 : decode cX12_finds 63 = .ok (.iload_n 3, 1) := by decide +kernel
theorem dX12_finds_64 : decode cX12_finds 64 = .ok (.iadd, 1) := by decide +kernel
theorem dX12_finds_65 : decode cX12_finds 65 = .ok (.iaload, 1) := by decide +kernel
theorem dX12_finds_66 : decode cX12_finds 66 = .ok (.iconst 1, 1) := by decide +kernel
theorem dX12_finds_67 : decode cX12_finds 67 = .ok (.if_icmp .ne 7, 3) := by decide +kernel
theorem dX12_finds_70 : decode cX12_finds 70 = .ok (.iconst 1, 1) := by decide +kernel
theorem dX12_finds_71 : decode cX12_finds 71 = .ok (.goto 4, 3) := by decide +kernel
theorem dX12_finds_74 : decode cX12_finds 74 = .ok (.iconst 0, 1) := by decide +kernel
theorem dX12_finds_75 : decode cX12_finds 75 = .ok (.bastore, 1) := by decide +kernel
theorem dX12_finds_76 : decode cX12_finds 76 = .ok (.iinc 2 1, 3) := by decide +kernel
theorem dX12_finds_79 : decode cX12_finds 79 = .ok (.goto (-53), 3) := by decide +kernel
theorem dX12_finds_82 : decode cX12_finds 82 = .ok (.return_, 1) := by decide +kernel
theorem dX12_letsBy_0 : decode cX12_letsBy 0 = .ok (.aload_n 0, 1) := by decide +kernel
theorem dX12_letsBy_1 : decode cX12_letsBy 1 = .ok (.iload_n 1, 1) := by decide +kernel
theorem dX12_letsBy_2 : decode cX12_letsBy 2 = .ok (.iload_n 3, 1) := by decide +kernel
theorem dX12_letsBy_3 : decode cX12_letsBy 3 = .ok (.invokevirtual 154, 3) := by decide +kernel
theorem dX12_letsBy_6 : decode cX12_letsBy 6 = .ok (.istore 4, 2) := by decide +kernel
theorem dX12_letsBy_8 : decode cX12_letsBy 8 = .ok (.iload 4, 2) := by decide +kernel
theorem dX12_letsBy_10 : decode cX12_letsBy 10 = .ok (.iconst (-1), 1) := by decide +kernel
theorem dX12_letsBy_11 : decode cX12_letsBy 11 = .ok (.if_icmp .ne 5, 3) := by decide +kernel
theorem dX12_letsBy_14 : decode cX12_letsBy 14 = .ok (.iconst 0, 1) := by decide +kernel
theorem dX12_letsBy_15 : decode cX12_letsBy 15 = .ok (.ireturn, 1) := by decide +kernel
theorem dX12_letsBy_16 : decode cX12_letsBy 16 = .ok (.aload_n 0, 1) := by decide +kernel
theorem dX12_letsBy_17 : decode cX12_letsBy 17 = .ok (.iload 4, 2) := by decide +kernel
theorem dX12_letsBy_19 : decode cX12_letsBy 19 = .ok (.invokevirtual 160, 3) := by decide +kernel
theorem dX12_letsBy_22 : decode cX12_letsBy 22 = .ok (.aload_n 0, 1) := by decide +kernel
theorem dX12_letsBy_23 : decode cX12_letsBy 23 = .ok (.getfield 20, 3) := by decide +kernel
theorem dX12_letsBy_26 : decode cX12_letsBy 26 = .ok (.sipush 10800, 3) := by decide +kernel
theorem dX12_letsBy_29 : decode cX12_letsBy 29 = .ok (.iload 4, 2) := by decide +kernel
theorem dX12_letsBy_31 : decode cX12_letsBy 31 = .ok (.imul, 1) := by decide +kernel
theorem dX12_letsBy_32 : decode cX12_letsBy 32 = .ok (.iload_n 2, 1) := by decide +kernel
theorem dX12_letsBy_33 : decode cX12_letsBy 33 = .ok (.iadd, 1) := by decide +kernel
theorem dX12_letsBy_34 : decode cX12_letsBy 34 = .ok (.baload, 1) := by decide +kernel
theorem dX12_letsBy_35 : decode cX12_letsBy 35 = .ok (.ireturn, 1) := by decide +kernel
theorem dX12_rulingOf_0 : decode cX12_rulingOf 0 = .ok (.iconst (-1), 1) := by decide +kernel
theorem dX12_rulingOf_1 : decode cX12_rulingOf 1 = .ok (.istore_n 2, 1) := by decide +kernel
theorem dX12_rulingOf_2 : decode cX12_rulingOf 2 = .ok (.iconst 0, 1) := by decide +kernel
theorem dX12_rulingOf_3 : decode cX12_rulingOf 3 = .ok (.istore_n 3, 1) := by decide +kernel
theorem dX12_rulingOf_4 : decode cX12_rulingOf 4 = .ok (.iload_n 3, 1) := by decide +kernel
theorem dX12_rulingOf_5 : decode cX12_rulingOf 5 = .ok (.aload_n 0, 1) := by decide +kernel
theorem dX12_rulingOf_6 : decode cX12_rulingOf 6 = .ok (.getfield 7, 3) := by decide +kernel
theorem dX12_rulingOf_9 : decode cX12_rulingOf 9 = .ok (.iconst 2, 1) := by decide +kernel
theorem dX12_rulingOf_10 : decode cX12_rulingOf 10 = .ok (.iaload, 1) := by decide +kernel
theorem dX12_rulingOf_11 : decode cX12_rulingOf 11 = .ok (.if_icmp .ge 73, 3) := by decide +kernel
theorem dX12_rulingOf_14 : decode cX12_rulingOf 14 = .ok (.aload_n 0, 1) := by decide +kernel
theorem dX12_rulingOf_15 : decode cX12_rulingOf 15 = .ok (.getfield 7, 3) := by decide +kernel
theorem dX12_rulingOf_18 : decode cX12_rulingOf 18 = .ok (.sipush 1310, 3) := by decide +kernel
theorem dX12_rulingOf_21 : decode cX12_rulingOf 21 = .ok (.iload_n 3, 1) := by decide +kernel
theorem dX12_rulingOf_22 : decode cX12_rulingOf 22 = .ok (.iadd, 1) := by decide +kernel
theorem dX12_rulingOf_23 : decode cX12_rulingOf 23 = .ok (.iaload, 1) := by decide +kernel
theorem dX12_rulingOf_24 : decode cX12_rulingOf 24 = .ok (.bipush 6, 2) := by decide +kernel
theorem dX12_rulingOf_26 : decode cX12_rulingOf 26 = .ok (.if_icmp .ne 50, 3) := by decide +kernel
theorem dX12_rulingOf_29 : decode cX12_rulingOf 29 = .ok (.aload_n 0, 1) := by decide +kernel
theorem dX12_rulingOf_30 : decode cX12_rulingOf 30 = .ok (.getfield 7, 3) := by decide +kernel
theorem dX12_rulingOf_33 : decode cX12_rulingOf 33 = .ok (.sipush 1410, 3) := by decide +kernel
theorem dX12_rulingOf_36 : decode cX12_rulingOf 36 = .ok (.iload_n 3, 1) := by decide +kernel
theorem dX12_rulingOf_37 : decode cX12_rulingOf 37 = .ok (.iadd, 1) := by decide +kernel
theorem dX12_rulingOf_38 : decode cX12_rulingOf 38 = .ok (.iaload, 1) := by decide +kernel
theorem dX12_rulingOf_39 : decode cX12_rulingOf 39 = .ok (.iload_n 1, 1) := by decide +kernel
theorem dX12_rulingOf_40 : decode cX12_rulingOf 40 = .ok (.invokestatic 136, 3) := by decide +kernel
theorem dX12_rulingOf_43 : decode cX12_rulingOf 43 = .ok (.if_icmp .ne 33, 3) := by decide +kernel
theorem dX12_rulingOf_46 : decode cX12_rulingOf 46 = .ok (.aload_n 0, 1) := by decide +kernel
theorem dX12_rulingOf_47 : decode cX12_rulingOf 47 = .ok (.getfield 7, 3) := by decide +kernel
theorem dX12_rulingOf_50 : decode cX12_rulingOf 50 = .ok (.sipush 1460, 3) := by decide +kernel
theorem dX12_rulingOf_53 : decode cX12_rulingOf 53 = .ok (.iload_n 3, 1) := by decide +kernel
theorem dX12_rulingOf_54 : decode cX12_rulingOf 54 = .ok (.iadd, 1) := by decide +kernel
theorem dX12_rulingOf_55 : decode cX12_rulingOf 55 = .ok (.iaload, 1) := by decide +kernel
theorem dX12_rulingOf_56 : decode cX12_rulingOf 56 = .ok (.iload_n 1, 1) := by decide +kernel
theorem dX12_rulingOf_57 : decode cX12_rulingOf 57 = .ok (.invokestatic 139, 3) := by decide +kernel
theorem dX12_rulingOf_60 : decode cX12_rulingOf 60 = .ok (.if_icmp .ne 16, 3) := by decide +kernel
theorem dX12_rulingOf_63 : decode cX12_rulingOf 63 = .ok (.aload_n 0, 1) := by decide +kernel
theorem dX12_rulingOf_64 : decode cX12_rulingOf 64 = .ok (.getfield 37, 3) := by decide +kernel
theorem dX12_rulingOf_67 : decode cX12_rulingOf 67 = .ok (.iload_n 3, 1) := by decide +kernel
theorem dX12_rulingOf_68 : decode cX12_rulingOf 68 = .ok (.baload, 1) := by decide +kernel
theorem dX12_rulingOf_69 : decode cX12_rulingOf 69 = .ok (.ifCond .eq 7, 3) := by decide +kernel
theorem dX12_rulingOf_72 : decode cX12_rulingOf 72 = .ok (.iload_n 3, 1) := by decide +kernel
theorem dX12_rulingOf_73 : decode cX12_rulingOf 73 = .ok (.goto 4, 3) := by decide +kernel
theorem dX12_rulingOf_76 : decode cX12_rulingOf 76 = .ok (.iload_n 2, 1) := by decide +kernel
theorem dX12_rulingOf_77 : decode cX12_rulingOf 77 = .ok (.istore_n 2, 1) := by decide +kernel
theorem dX12_rulingOf_78 : decode cX12_rulingOf 78 = .ok (.iinc 3 1, 3) := by decide +kernel
theorem dX12_rulingOf_81 : decode cX12_rulingOf 81 = .ok (.goto (-77), 3) := by decide +kernel
theorem dX12_rulingOf_84 : decode cX12_rulingOf 84 = .ok (.iload_n 2, 1) := by decide +kernel
theorem dX12_rulingOf_85 : decode cX12_rulingOf 85 = .ok (.ireturn, 1) := by decide +kernel
theorem dX12_lets_0 : decode cX12_lets 0 = .ok (.aload_n 0, 1) := by decide +kernel
theorem dX12_lets_1 : decode cX12_lets 1 = .ok (.iload_n 1, 1) := by decide +kernel
theorem dX12_lets_2 : decode cX12_lets 2 = .ok (.invokevirtual 163, 3) := by decide +kernel
theorem dX12_lets_5 : decode cX12_lets 5 = .ok (.istore_n 3, 1) := by decide +kernel
theorem dX12_lets_6 : decode cX12_lets 6 = .ok (.iload_n 3, 1) := by decide +kernel
theorem dX12_lets_7 : decode cX12_lets 7 = .ok (.iconst (-1), 1) := by decide +kernel
theorem dX12_lets_8 : decode cX12_lets 8 = .ok (.if_icmp .eq 23, 3) := by decide +kernel
theorem dX12_lets_11 : decode cX12_lets 11 = .ok (.aload_n 0, 1) := by decide +kernel
theorem dX12_lets_12 : decode cX12_lets 12 = .ok (.getfield 7, 3) := by decide +kernel
theorem dX12_lets_15 : decode cX12_lets 15 = .ok (.sipush 1560, 3) := by decide +kernel
theorem dX12_lets_18 : decode cX12_lets 18 = .ok (.iload_n 3, 1) := by decide +kernel
theorem dX12_lets_19 : decode cX12_lets 19 = .ok (.iadd, 1) := by decide +kernel
theorem dX12_lets_20 : decode cX12_lets 20 = .ok (.iaload, 1) := by decide +kernel
theorem dX12_lets_21 : decode cX12_lets 21 = .ok (.iconst 1, 1) := by decide +kernel
theorem dX12_lets_22 : decode cX12_lets 22 = .ok (.if_icmp .ne 7, 3) := by decide +kernel
theorem dX12_lets_25 : decode cX12_lets 25 = .ok (.iconst 1, 1) := by decide +kernel
theorem dX12_lets_26 : decode cX12_lets 26 = .ok (.goto 4, 3) := by decide +kernel
theorem dX12_lets_29 : decode cX12_lets 29 = .ok (.iconst 0, 1) := by decide +kernel
theorem dX12_lets_30 : decode cX12_lets 30 = .ok (.ireturn, 1) := by decide +kernel
theorem dX12_lets_31 : decode cX12_lets 31 = .ok (.iconst 0, 1) := by decide +kernel
theorem dX12_lets_32 : decode cX12_lets 32 = .ok (.istore 4, 2) := by decide +kernel
theorem dX12_lets_34 : decode cX12_lets 34 = .ok (.iconst 0, 1) := by decide +kernel
theorem dX12_lets_35 : decode cX12_lets 35 = .ok (.istore 5, 2) := by decide +kernel
theorem dX12_lets_37 : decode cX12_lets 37 = .ok (.iload 5, 2) := by decide +kernel
theorem dX12_lets_39 : decode cX12_lets 39 = .ok (.iconst 3, 1) := by decide +kernel
theorem dX12_lets_40 : decode cX12_lets 40 = .ok (.if_icmp .ge 30, 3) := by decide +kernel
theorem dX12_lets_43 : decode cX12_lets 43 = .ok (.iload 4, 2) := by decide +kernel
theorem dX12_lets_45 : decode cX12_lets 45 = .ok (.aload_n 0, 1) := by decide +kernel
theorem dX12_lets_46 : decode cX12_lets 46 = .ok (.iload 5, 2) := by decide +kernel
theorem dX12_lets_48 : decode cX12_lets 48 = .ok (.iload_n 1, 1) := by decide +kernel
theorem dX12_lets_49 : decode cX12_lets 49 = .ok (.iload_n 2, 1) := by decide +kernel
theorem dX12_lets_50 : decode cX12_lets 50 = .ok (.invokevirtual 166, 3) := by decide +kernel
theorem dX12_lets_53 : decode cX12_lets 53 = .ok (.ifCond .eq 7, 3) := by decide +kernel
theorem dX12_lets_56 : decode cX12_lets 56 = .ok (.iconst 1, 1) := by decide +kernel
theorem dX12_lets_57 : decode cX12_lets 57 = .ok (.goto 4, 3) := by decide +kernel
theorem dX12_lets_60 : decode cX12_lets 60 = .ok (.iconst 0, 1) := by decide +kernel
theorem dX12_lets_61 : decode cX12_lets 61 = .ok (.iadd, 1) := by decide +kernel
theorem dX12_lets_62 : decode cX12_lets 62 = .ok (.istore 4, 2) := by decide +kernel
theorem dX12_lets_64 : decode cX12_lets 64 = .ok (.iinc 5 1, 3) := by decide +kernel
theorem dX12_lets_67 : decode cX12_lets 67 = .ok (.goto (-30), 3) := by decide +kernel
theorem dX12_lets_70 : decode cX12_lets 70 = .ok (.iload 4, 2) := by decide +kernel
theorem dX12_lets_72 : decode cX12_lets 72 = .ok (.iconst 1, 1) := by decide +kernel
theorem dX12_lets_73 : decode cX12_lets 73 = .ok (.if_icmp .le 7, 3) := by decide +kernel
theorem dX12_lets_76 : decode cX12_lets 76 = .ok (.iconst 1, 1) := by decide +kernel
theorem dX12_lets_77 : decode cX12_lets 77 = .ok (.goto 4, 3) := by decide +kernel
theorem dX12_lets_80 : decode cX12_lets 80 = .ok (.iconst 0, 1) := by decide +kernel
theorem dX12_lets_81 : decode cX12_lets 81 = .ok (.ireturn, 1) := by decide +kernel
theorem dX12_force_0 : decode cX12_force 0 = .ok (.iload_n 1, 1) := by decide +kernel
theorem dX12_force_1 : decode cX12_force 1 = .ok (.iconst 0, 1) := by decide +kernel
theorem dX12_force_2 : decode cX12_force 2 = .ok (.iconst 3, 1) := by decide +kernel
theorem dX12_force_3 : decode cX12_force 3 = .ok (.invokestatic 74, 3) := by decide +kernel
theorem dX12_force_6 : decode cX12_force 6 = .ok (.ifCond .ne 5, 3) := by decide +kernel
theorem dX12_force_9 : decode cX12_force 9 = .ok (.iconst (-1), 1) := by decide +kernel
theorem dX12_force_10 : decode cX12_force 10 = .ok (.ireturn, 1) := by decide +kernel
theorem dX12_force_11 : decode cX12_force 11 = .ok (.iload_n 2, 1) := by decide +kernel
theorem dX12_force_12 : decode cX12_force 12 = .ok (.iconst 0, 1) := by decide +kernel
theorem dX12_force_13 : decode cX12_force 13 = .ok (.sipush 10799, 3) := by decide +kernel
theorem dX12_force_16 : decode cX12_force 16 = .ok (.invokestatic 74, 3) := by decide +kernel
theorem dX12_force_19 : decode cX12_force 19 = .ok (.ifCond .eq 10, 3) := by decide +kernel
theorem dX12_force_22 : decode cX12_force 22 = .ok (.iload_n 3, 1) := by decide +kernel
theorem dX12_force_23 : decode cX12_force 23 = .ok (.invokestatic 148, 3) := by decide +kernel
theorem dX12_force_26 : decode cX12_force 26 = .ok (.ifCond .ne 6, 3) := by decide +kernel
theorem dX12_force_29 : decode cX12_force 29 = .ok (.bipush (-2), 2) := by decide +kernel
theorem dX12_force_31 : decode cX12_force 31 = .ok (.ireturn, 1) := by decide +kernel
theorem dX12_force_32 : decode cX12_force 32 = .ok (.aload_n 0, 1) := by decide +kernel
theorem dX12_force_33 : decode cX12_force 33 = .ok (.invokevirtual 169, 3) := by decide +kernel
theorem dX12_force_36 : decode cX12_force 36 = .ok (.iload_n 1, 1) := by decide +kernel
theorem dX12_force_37 : decode cX12_force 37 = .ok (.iconst 3, 1) := by decide +kernel
theorem dX12_force_38 : decode cX12_force 38 = .ok (.if_icmp .ne 15, 3) := by decide +kernel
theorem dX12_force_41 : decode cX12_force 41 = .ok (.aload_n 0, 1) := by decide +kernel
theorem dX12_force_42 : decode cX12_force 42 = .ok (.iload_n 2, 1) := by decide +kernel
theorem dX12_force_43 : decode cX12_force 43 = .ok (.iload_n 3, 1) := by decide +kernel
theorem dX12_force_44 : decode cX12_force 44 = .ok (.invokevirtual 172, 3) := by decide +kernel
theorem dX12_force_47 : decode cX12_force 47 = .ok (.ifCond .eq 20, 3) := by decide +kernel
theorem dX12_force_50 : decode cX12_force 50 = .ok (.goto 13, 3) := by decide +kernel
theorem dX12_force_53 : decode cX12_force 53 = .ok (.aload_n 0, 1) := by decide +kernel
theorem dX12_force_54 : decode cX12_force 54 = .ok (.iload_n 1, 1) := by decide +kernel
theorem dX12_force_55 : decode cX12_force 55 = .ok (.iload_n 2, 1) := by decide +kernel
theorem dX12_force_56 : decode cX12_force 56 = .ok (.iload_n 3, 1) := by decide +kernel
theorem dX12_force_57 : decode cX12_force 57 = .ok (.invokevirtual 166, 3) := by decide +kernel
theorem dX12_force_60 : decode cX12_force 60 = .ok (.ifCond .eq 7, 3) := by decide +kernel
theorem dX12_force_63 : decode cX12_force 63 = .ok (.iconst 1, 1) := by decide +kernel
theorem dX12_force_64 : decode cX12_force 64 = .ok (.goto 4, 3) := by decide +kernel
theorem dX12_force_67 : decode cX12_force 67 = .ok (.iconst 0, 1) := by decide +kernel
theorem dX12_force_68 : decode cX12_force 68 = .ok (.ireturn, 1) := by decide +kernel
theorem dX12_why_0 : decode cX12_why 0 = .ok (.iload_n 1, 1) := by decide +kernel
theorem dX12_why_1 : decode cX12_why 1 = .ok (.iconst 0, 1) := by decide +kernel
theorem dX12_why_2 : decode cX12_why 2 = .ok (.iconst 3, 1) := by decide +kernel
theorem dX12_why_3 : decode cX12_why 3 = .ok (.invokestatic 74, 3) := by decide +kernel
theorem dX12_why_6 : decode cX12_why 6 = .ok (.ifCond .ne 5, 3) := by decide +kernel
theorem dX12_why_9 : decode cX12_why 9 = .ok (.iconst (-1), 1) := by decide +kernel
theorem dX12_why_10 : decode cX12_why 10 = .ok (.ireturn, 1) := by decide +kernel
theorem dX12_why_11 : decode cX12_why 11 = .ok (.iload_n 2, 1) := by decide +kernel
theorem dX12_why_12 : decode cX12_why 12 = .ok (.iconst 0, 1) := by decide +kernel
theorem dX12_why_13 : decode cX12_why 13 = .ok (.sipush 10799, 3) := by decide +kernel
theorem dX12_why_16 : decode cX12_why 16 = .ok (.invokestatic 74, 3) := by decide +kernel
theorem dX12_why_19 : decode cX12_why 19 = .ok (.ifCond .eq 10, 3) := by decide +kernel
theorem dX12_why_22 : decode cX12_why 22 = .ok (.iload_n 3, 1) := by decide +kernel
theorem dX12_why_23 : decode cX12_why 23 = .ok (.invokestatic 148, 3) := by decide +kernel
theorem dX12_why_26 : decode cX12_why 26 = .ok (.ifCond .ne 6, 3) := by decide +kernel
theorem dX12_why_29 : decode cX12_why 29 = .ok (.bipush (-2), 2) := by decide +kernel
theorem dX12_why_31 : decode cX12_why 31 = .ok (.ireturn, 1) := by decide +kernel
theorem dX12_why_32 : decode cX12_why 32 = .ok (.aload_n 0, 1) := by decide +kernel
theorem dX12_why_33 : decode cX12_why 33 = .ok (.invokevirtual 169, 3) := by decide +kernel
theorem dX12_why_36 : decode cX12_why 36 = .ok (.iload_n 1, 1) := by decide +kernel
theorem dX12_why_37 : decode cX12_why 37 = .ok (.iconst 3, 1) := by decide +kernel
theorem dX12_why_38 : decode cX12_why 38 = .ok (.if_icmp .ne 28, 3) := by decide +kernel
theorem dX12_why_41 : decode cX12_why 41 = .ok (.aload_n 0, 1) := by decide +kernel
theorem dX12_why_42 : decode cX12_why 42 = .ok (.iload_n 2, 1) := by decide +kernel
theorem dX12_why_43 : decode cX12_why 43 = .ok (.invokevirtual 163, 3) := by decide +kernel
theorem dX12_why_46 : decode cX12_why 46 = .ok (.istore 4, 2) := by decide +kernel
theorem dX12_why_48 : decode cX12_why 48 = .ok (.iload 4, 2) := by decide +kernel
theorem dX12_why_50 : decode cX12_why 50 = .ok (.iconst (-1), 1) := by decide +kernel
theorem dX12_why_51 : decode cX12_why 51 = .ok (.if_icmp .ne 8, 3) := by decide +kernel
theorem dX12_why_54 : decode cX12_why 54 = .ok (.bipush (-5), 2) := by decide +kernel
theorem dX12_why_56 : decode cX12_why 56 = .ok (.goto 9, 3) := by decide +kernel
theorem dX12_why_59 : decode cX12_why 59 = .ok (.sipush 10000, 3) := by decide +kernel
theorem dX12_why_62 : decode cX12_why 62 = .ok (.iload 4, 2) := by decide +kernel
theorem dX12_why_64 : decode cX12_why 64 = .ok (.iadd, 1) := by decide +kernel
theorem dX12_why_65 : decode cX12_why 65 = .ok (.ireturn, 1) := by decide +kernel
theorem dX12_why_66 : decode cX12_why 66 = .ok (.aload_n 0, 1) := by decide +kernel
theorem dX12_why_67 : decode cX12_why 67 = .ok (.iload_n 1, 1) := by decide +kernel
theorem dX12_why_68 : decode cX12_why 68 = .ok (.iload_n 2, 1) := by decide +kernel
theorem dX12_why_69 : decode cX12_why 69 = .ok (.iload_n 3, 1) := by decide +kernel
theorem dX12_why_70 : decode cX12_why 70 = .ok (.invokevirtual 175, 3) := by decide +kernel
theorem dX12_why_73 : decode cX12_why 73 = .ok (.istore 4, 2) := by decide +kernel
theorem dX12_why_75 : decode cX12_why 75 = .ok (.iload 4, 2) := by decide +kernel
theorem dX12_why_77 : decode cX12_why 77 = .ok (.iconst (-1), 1) := by decide +kernel
theorem dX12_why_78 : decode cX12_why 78 = .ok (.if_icmp .ne 8, 3) := by decide +kernel
theorem dX12_why_81 : decode cX12_why 81 = .ok (.bipush (-5), 2) := by decide +kernel
theorem dX12_why_83 : decode cX12_why 83 = .ok (.goto 17, 3) := by decide +kernel
theorem dX12_why_86 : decode cX12_why 86 = .ok (.bipush 100, 2) := by decide +kernel
theorem dX12_why_88 : decode cX12_why 88 = .ok (.iload 4, 2) := by decide +kernel
theorem dX12_why_90 : decode cX12_why 90 = .ok (.bipush 8, 2) := by decide +kernel
theorem dX12_why_92 : decode cX12_why 92 = .ok (.idiv, 1) := by decide +kernel
theorem dX12_why_93 : decode cX12_why 93 = .ok (.imul, 1) := by decide +kernel
theorem dX12_why_94 : decode cX12_why 94 = .ok (.iload 4, 2) := by decide +kernel
theorem dX12_why_96 : decode cX12_why 96 = .ok (.bipush 8, 2) := by decide +kernel
theorem dX12_why_98 : decode cX12_why 98 = .ok (.irem, 1) := by decide +kernel
theorem dX12_why_99 : decode cX12_why 99 = .ok (.iadd, 1) := by decide +kernel
theorem dX12_why_100 : decode cX12_why 100 = .ok (.ireturn, 1) := by decide +kernel
theorem dX12_unlikeOf_0 : decode cX12_unlikeOf 0 = .ok (.iconst 0, 1) := by decide +kernel
theorem dX12_unlikeOf_1 : decode cX12_unlikeOf 1 = .ok (.istore 5, 2) := by decide +kernel
theorem dX12_unlikeOf_3 : decode cX12_unlikeOf 3 = .ok (.iconst 0, 1) := by decide +kernel
theorem dX12_unlikeOf_4 : decode cX12_unlikeOf 4 = .ok (.istore 6, 2) := by decide +kernel
theorem dX12_unlikeOf_6 : decode cX12_unlikeOf 6 = .ok (.iload 6, 2) := by decide +kernel
theorem dX12_unlikeOf_8 : decode cX12_unlikeOf 8 = .ok (.sipush 10800, 3) := by decide +kernel
theorem dX12_unlikeOf_11 : decode cX12_unlikeOf 11 = .ok (.if_icmp .ge 40, 3) := by decide +kernel
theorem dX12_unlikeOf_14 : decode cX12_unlikeOf 14 = .ok (.aload_n 0, 1) := by decide +kernel
theorem dX12_unlikeOf_15 : decode cX12_unlikeOf 15 = .ok (.iload_n 1, 1) := by decide +kernel
theorem dX12_unlikeOf_16 : decode cX12_unlikeOf 16 = .ok (.iload 6, 2) := by decide +kernel
theorem dX12_unlikeOf_18 : decode cX12_unlikeOf 18 = .ok (.iload_n 3, 1) := by decide +kernel
theorem dX12_unlikeOf_19 : decode cX12_unlikeOf 19 = .ok (.invokevirtual 166, 3) := by decide +kernel
theorem dX12_unlikeOf_22 : decode cX12_unlikeOf 22 = .ok (.aload_n 0, 1) := by decide +kernel
theorem dX12_unlikeOf_23 : decode cX12_unlikeOf 23 = .ok (.iload_n 2, 1) := by decide +kernel
theorem dX12_unlikeOf_24 : decode cX12_unlikeOf 24 = .ok (.iload 6, 2) := by decide +kernel
theorem dX12_unlikeOf_26 : decode cX12_unlikeOf 26 = .ok (.iload_n 3, 1) := by decide +kernel
theorem dX12_unlikeOf_27 : decode cX12_unlikeOf 27 = .ok (.invokevirtual 166, 3) := by decide +kernel
theorem dX12_unlikeOf_30 : decode cX12_unlikeOf 30 = .ok (.if_icmp .eq 15, 3) := by decide +kernel
theorem dX12_unlikeOf_33 : decode cX12_unlikeOf 33 = .ok (.iinc 5 1, 3) := by decide +kernel
theorem dX12_unlikeOf_36 : decode cX12_unlikeOf 36 = .ok (.iload 4, 2) := by decide +kernel
theorem dX12_unlikeOf_38 : decode cX12_unlikeOf 38 = .ok (.iconst 1, 1) := by decide +kernel
theorem dX12_unlikeOf_39 : decode cX12_unlikeOf 39 = .ok (.if_icmp .ne 6, 3) := by decide +kernel
theorem dX12_unlikeOf_42 : decode cX12_unlikeOf 42 = .ok (.iload 6, 2) := by decide +kernel
theorem dX12_unlikeOf_44 : decode cX12_unlikeOf 44 = .ok (.ireturn, 1) := by decide +kernel
theorem dX12_unlikeOf_45 : decode cX12_unlikeOf 45 = .ok (.iinc 6 1, 3) := by decide +kernel
theorem dX12_unlikeOf_48 : decode cX12_unlikeOf 48 = .ok (.goto (-42), 3) := by decide +kernel
theorem dX12_unlikeOf_51 : decode cX12_unlikeOf 51 = .ok (.iload 4, 2) := by decide +kernel
theorem dX12_unlikeOf_53 : decode cX12_unlikeOf 53 = .ok (.ifCond .ne 8, 3) := by decide +kernel
theorem dX12_unlikeOf_56 : decode cX12_unlikeOf 56 = .ok (.iload 5, 2) := by decide +kernel
theorem dX12_unlikeOf_58 : decode cX12_unlikeOf 58 = .ok (.goto 5, 3) := by decide +kernel
theorem dX12_unlikeOf_61 : decode cX12_unlikeOf 61 = .ok (.bipush (-5), 2) := by decide +kernel
theorem dX12_unlikeOf_63 : decode cX12_unlikeOf 63 = .ok (.ireturn, 1) := by decide +kernel
theorem dX12_unlike_0 : decode cX12_unlike 0 = .ok (.iload_n 1, 1) := by decide +kernel
theorem dX12_unlike_1 : decode cX12_unlike 1 = .ok (.iconst 0, 1) := by decide +kernel
theorem dX12_unlike_2 : decode cX12_unlike 2 = .ok (.iconst 2, 1) := by decide +kernel
theorem dX12_unlike_3 : decode cX12_unlike 3 = .ok (.invokestatic 74, 3) := by decide +kernel
theorem dX12_unlike_6 : decode cX12_unlike 6 = .ok (.ifCond .eq 22, 3) := by decide +kernel
theorem dX12_unlike_9 : decode cX12_unlike 9 = .ok (.iload_n 2, 1) := by decide +kernel
theorem dX12_unlike_10 : decode cX12_unlike 10 = .ok (.iconst 0, 1) := by decide +kernel
theorem dX12_unlike_11 : decode cX12_unlike 11 = .ok (.iconst 2, 1) := by decide +kernel
theorem dX12_unlike_12 : decode cX12_unlike 12 = .ok (.invokestatic 74, 3) := by decide +kernel
theorem dX12_unlike_15 : decode cX12_unlike 15 = .ok (.ifCond .eq 13, 3) := by decide +kernel
theorem dX12_unlike_18 : decode cX12_unlike 18 = .ok (.iload 4, 2) := by decide +kernel
theorem dX12_unlike_20 : decode cX12_unlike 20 = .ok (.iconst 0, 1) := by decide +kernel
theorem dX12_unlike_21 : decode cX12_unlike 21 = .ok (.iconst 1, 1) := by decide +kernel
theorem dX12_unlike_22 : decode cX12_unlike 22 = .ok (.invokestatic 74, 3) := by decide +kernel
theorem dX12_unlike_25 : decode cX12_unlike 25 = .ok (.ifCond .ne 5, 3) := by decide +kernel
theorem dX12_unlike_28 : decode cX12_unlike 28 = .ok (.iconst (-1), 1) := by decide +kernel
theorem dX12_unlike_29 : decode cX12_unlike 29 = .ok (.ireturn, 1) := by decide +kernel
theorem dX12_unlike_30 : decode cX12_unlike 30 = .ok (.iload_n 1, 1) := by decide +kernel
theorem dX12_unlike_31 : decode cX12_unlike 31 = .ok (.iload_n 2, 1) := by decide +kernel
theorem dX12_unlike_32 : decode cX12_unlike 32 = .ok (.if_icmp .eq 10, 3) := by decide +kernel
theorem dX12_unlike_35 : decode cX12_unlike 35 = .ok (.iload_n 3, 1) := by decide +kernel
theorem dX12_unlike_36 : decode cX12_unlike 36 = .ok (.invokestatic 148, 3) := by decide +kernel
theorem dX12_unlike_39 : decode cX12_unlike 39 = .ok (.ifCond .ne 8, 3) := by decide +kernel
theorem dX12_unlike_42 : decode cX12_unlike 42 = .ok (.bipush (-2), 2) := by decide +kernel
theorem dX12_unlike_44 : decode cX12_unlike 44 = .ok (.goto 12, 3) := by decide +kernel
theorem dX12_unlike_47 : decode cX12_unlike 47 = .ok (.aload_n 0, 1) := by decide +kernel
theorem dX12_unlike_48 : decode cX12_unlike 48 = .ok (.iload_n 1, 1) := by decide +kernel
theorem dX12_unlike_49 : decode cX12_unlike 49 = .ok (.iload_n 2, 1) := by decide +kernel
theorem dX12_unlike_50 : decode cX12_unlike 50 = .ok (.iload_n 3, 1) := by decide +kernel
theorem dX12_unlike_51 : decode cX12_unlike 51 = .ok (.iload 4, 2) := by decide +kernel
theorem dX12_unlike_53 : decode cX12_unlike 53 = .ok (.invokevirtual 179, 3) := by decide +kernel
theorem dX12_unlike_56 : decode cX12_unlike 56 = .ok (.ireturn, 1) := by decide +kernel
theorem dX12_right_0 : decode cX12_right 0 = .ok (.aload_n 0, 1) := by decide +kernel
theorem dX12_right_1 : decode cX12_right 1 = .ok (.getfield 7, 3) := by decide +kernel
theorem dX12_right_4 : decode cX12_right 4 = .ok (.iconst 2, 1) := by decide +kernel
theorem dX12_right_5 : decode cX12_right 5 = .ok (.iaload, 1) := by decide +kernel
theorem dX12_right_6 : decode cX12_right 6 = .ok (.istore 6, 2) := by decide +kernel
theorem dX12_right_8 : decode cX12_right 8 = .ok (.aload_n 0, 1) := by decide +kernel
theorem dX12_right_9 : decode cX12_right 9 = .ok (.getfield 7, 3) := by decide +kernel
theorem dX12_right_12 : decode cX12_right 12 = .ok (.sipush 1310, 3) := by decide +kernel
theorem dX12_right_15 : decode cX12_right 15 = .ok (.iload 6, 2) := by decide +kernel
theorem dX12_right_17 : decode cX12_right 17 = .ok (.iadd, 1) := by decide +kernel
theorem dX12_right_18 : decode cX12_right 18 = .ok (.iload_n 1, 1) := by decide +kernel
theorem dX12_right_19 : decode cX12_right 19 = .ok (.iastore, 1) := by decide +kernel
theorem dX12_right_20 : decode cX12_right 20 = .ok (.aload_n 0, 1) := by decide +kernel
theorem dX12_right_21 : decode cX12_right 21 = .ok (.getfield 7, 3) := by decide +kernel
theorem dX12_right_24 : decode cX12_right 24 = .ok (.sipush 1360, 3) := by decide +kernel
theorem dX12_right_27 : decode cX12_right 27 = .ok (.iload 6, 2) := by decide +kernel
theorem dX12_right_29 : decode cX12_right 29 = .ok (.iadd, 1) := by decide +kernel
theorem dX12_right_30 : decode cX12_right 30 = .ok (.iload_n 2, 1) := by decide +kernel
theorem dX12_right_31 : decode cX12_right 31 = .ok (.iastore, 1) := by decide +kernel
theorem dX12_right_32 : decode cX12_right 32 = .ok (.aload_n 0, 1) := by decide +kernel
theorem dX12_right_33 : decode cX12_right 33 = .ok (.getfield 7, 3) := by decide +kernel
theorem dX12_right_36 : decode cX12_right 36 = .ok (.sipush 1410, 3) := by decide +kernel
theorem dX12_right_39 : decode cX12_right 39 = .ok (.iload 6, 2) := by decide +kernel
theorem dX12_right_41 : decode cX12_right 41 = .ok (.iadd, 1) := by decide +kernel
theorem dX12_right_42 : decode cX12_right 42 = .ok (.iload_n 3, 1) := by decide +kernel
theorem dX12_right_43 : decode cX12_right 43 = .ok (.iastore, 1) := by decide +kernel
theorem dX12_right_44 : decode cX12_right 44 = .ok (.aload_n 0, 1) := by decide +kernel
theorem dX12_right_45 : decode cX12_right 45 = .ok (.getfield 7, 3) := by decide +kernel
theorem dX12_right_48 : decode cX12_right 48 = .ok (.sipush 1460, 3) := by decide +kernel
theorem dX12_right_51 : decode cX12_right 51 = .ok (.iload 6, 2) := by decide +kernel
theorem dX12_right_53 : decode cX12_right 53 = .ok (.iadd, 1) := by decide +kernel
theorem dX12_right_54 : decode cX12_right 54 = .ok (.iload 4, 2) := by decide +kernel
theorem dX12_right_56 : decode cX12_right 56 = .ok (.iastore, 1) := by decide +kernel
theorem dX12_right_57 : decode cX12_right 57 = .ok (.aload_n 0, 1) := by decide +kernel
theorem dX12_right_58 : decode cX12_right 58 = .ok (.getfield 7, 3) := by decide +kernel
theorem dX12_right_61 : decode cX12_right 61 = .ok (.sipush 1510, 3) := by decide +kernel
theorem dX12_right_64 : decode cX12_right 64 = .ok (.iload 6, 2) := by decide +kernel
theorem dX12_right_66 : decode cX12_right 66 = .ok (.iadd, 1) := by decide +kernel
theorem dX12_right_67 : decode cX12_right 67 = .ok (.iload 5, 2) := by decide +kernel
theorem dX12_right_69 : decode cX12_right 69 = .ok (.iastore, 1) := by decide +kernel
theorem dX12_right_70 : decode cX12_right 70 = .ok (.aload_n 0, 1) := by decide +kernel
theorem dX12_right_71 : decode cX12_right 71 = .ok (.getfield 7, 3) := by decide +kernel
theorem dX12_right_74 : decode cX12_right 74 = .ok (.sipush 1660, 3) := by decide +kernel
theorem dX12_right_77 : decode cX12_right 77 = .ok (.iload 6, 2) := by decide +kernel
theorem dX12_right_79 : decode cX12_right 79 = .ok (.iadd, 1) := by decide +kernel
theorem dX12_right_80 : decode cX12_right 80 = .ok (.aload_n 0, 1) := by decide +kernel
theorem dX12_right_81 : decode cX12_right 81 = .ok (.getfield 7, 3) := by decide +kernel
theorem dX12_right_84 : decode cX12_right 84 = .ok (.iconst 0, 1) := by decide +kernel
theorem dX12_right_85 : decode cX12_right 85 = .ok (.iaload, 1) := by decide +kernel
theorem dX12_right_86 : decode cX12_right 86 = .ok (.iastore, 1) := by decide +kernel
theorem dX12_right_87 : decode cX12_right 87 = .ok (.aload_n 0, 1) := by decide +kernel
theorem dX12_right_88 : decode cX12_right 88 = .ok (.getfield 7, 3) := by decide +kernel
theorem dX12_right_91 : decode cX12_right 91 = .ok (.sipush 1760, 3) := by decide +kernel
theorem dX12_right_94 : decode cX12_right 94 = .ok (.iload 6, 2) := by decide +kernel
theorem dX12_right_96 : decode cX12_right 96 = .ok (.iadd, 1) := by decide +kernel
theorem dX12_right_97 : decode cX12_right 97 = .ok (.iconst 0, 1) := by decide +kernel
theorem dX12_right_98 : decode cX12_right 98 = .ok (.iastore, 1) := by decide +kernel
theorem dX12_right_99 : decode cX12_right 99 = .ok (.aload_n 0, 1) := by decide +kernel
theorem dX12_right_100 : decode cX12_right 100 = .ok (.getfield 7, 3) := by decide +kernel
theorem dX12_right_103 : decode cX12_right 103 = .ok (.sipush 1810, 3) := by decide +kernel
theorem dX12_right_106 : decode cX12_right 106 = .ok (.iload 6, 2) := by decide +kernel
theorem dX12_right_108 : decode cX12_right 108 = .ok (.iadd, 1) := by decide +kernel
theorem dX12_right_109 : decode cX12_right 109 = .ok (.bipush (-5), 2) := by decide +kernel
theorem dX12_right_111 : decode cX12_right 111 = .ok (.iastore, 1) := by decide +kernel
theorem dX12_right_112 : decode cX12_right 112 = .ok (.aload_n 0, 1) := by decide +kernel
theorem dX12_right_113 : decode cX12_right 113 = .ok (.getfield 7, 3) := by decide +kernel
theorem dX12_right_116 : decode cX12_right 116 = .ok (.sipush 1860, 3) := by decide +kernel
theorem dX12_right_119 : decode cX12_right 119 = .ok (.iload 6, 2) := by decide +kernel
theorem dX12_right_121 : decode cX12_right 121 = .ok (.iadd, 1) := by decide +kernel
theorem dX12_right_122 : decode cX12_right 122 = .ok (.iconst 0, 1) := by decide +kernel
theorem dX12_right_123 : decode cX12_right 123 = .ok (.iastore, 1) := by decide +kernel
theorem dX12_right_124 : decode cX12_right 124 = .ok (.iconst 0, 1) := by decide +kernel
theorem dX12_right_125 : decode cX12_right 125 = .ok (.istore 7, 2) := by decide +kernel
theorem dX12_right_127 : decode cX12_right 127 = .ok (.iload 7, 2) := by decide +kernel
theorem dX12_right_129 : decode cX12_right 129 = .ok (.bipush 50, 2) := by decide +kernel
theorem dX12_right_131 : decode cX12_right 131 = .ok (.if_icmp .ge 45, 3) := by decide +kernel
theorem dX12_right_134 : decode cX12_right 134 = .ok (.aload_n 0, 1) := by decide +kernel
theorem dX12_right_135 : decode cX12_right 135 = .ok (.getfield 7, 3) := by decide +kernel
theorem dX12_right_138 : decode cX12_right 138 = .ok (.sipush 1910, 3) := by decide +kernel
theorem dX12_right_141 : decode cX12_right 141 = .ok (.bipush 50, 2) := by decide +kernel
theorem dX12_right_143 : decode cX12_right 143 = .ok (.iload 6, 2) := by decide +kernel
theorem dX12_right_145 : decode cX12_right 145 = .ok (.imul, 1) := by decide +kernel
theorem dX12_right_146 : decode cX12_right 146 = .ok (.iadd, 1) := by decide +kernel
theorem dX12_right_147 : decode cX12_right 147 = .ok (.iload 7, 2) := by decide +kernel
theorem dX12_right_149 : decode cX12_right 149 = .ok (.iadd, 1) := by decide +kernel
theorem dX12_right_150 : decode cX12_right 150 = .ok (.iconst 0, 1) := by decide +kernel
theorem dX12_right_151 : decode cX12_right 151 = .ok (.iastore, 1) := by decide +kernel
theorem dX12_right_152 : decode cX12_right 152 = .ok (.aload_n 0, 1) := by decide +kernel
theorem dX12_right_153 : decode cX12_right 153 = .ok (.getfield 7, 3) := by decide +kernel
theorem dX12_right_156 : decode cX12_right 156 = .ok (.sipush 1910, 3) := by decide +kernel
theorem dX12_right_159 : decode cX12_right 159 = .ok (.bipush 50, 2) := by decide +kernel
theorem dX12_right_161 : decode cX12_right 161 = .ok (.iload 7, 2) := by decide +kernel
theorem dX12_right_163 : decode cX12_right 163 = .ok (.imul, 1) := by decide +kernel
theorem dX12_right_164 : decode cX12_right 164 = .ok (.iadd, 1) := by decide +kernel
theorem dX12_right_165 : decode cX12_right 165 = .ok (.iload 6, 2) := by decide +kernel
theorem dX12_right_167 : decode cX12_right 167 = .ok (.iadd, 1) := by decide +kernel
theorem dX12_right_168 : decode cX12_right 168 = .ok (.iconst 0, 1) := by decide +kernel
theorem dX12_right_169 : decode cX12_right 169 = .ok (.iastore, 1) := by decide +kernel
theorem dX12_right_170 : decode cX12_right 170 = .ok (.iinc 7 1, 3) := by decide +kernel
theorem dX12_right_173 : decode cX12_right 173 = .ok (.goto (-46), 3) := by decide +kernel
theorem dX12_right_176 : decode cX12_right 176 = .ok (.aload_n 0, 1) := by decide +kernel
theorem dX12_right_177 : decode cX12_right 177 = .ok (.getfield 7, 3) := by decide +kernel
theorem dX12_right_180 : decode cX12_right 180 = .ok (.iconst 2, 1) := by decide +kernel
theorem dX12_right_181 : decode cX12_right 181 = .ok (.dup2, 1) := by decide +kernel
theorem dX12_right_182 : decode cX12_right 182 = .ok (.iaload, 1) := by decide +kernel
theorem dX12_right_183 : decode cX12_right 183 = .ok (.iconst 1, 1) := by decide +kernel
theorem dX12_right_184 : decode cX12_right 184 = .ok (.iadd, 1) := by decide +kernel
theorem dX12_right_185 : decode cX12_right 185 = .ok (.iastore, 1) := by decide +kernel
theorem dX12_right_186 : decode cX12_right 186 = .ok (.iload 6, 2) := by decide +kernel
theorem dX12_right_188 : decode cX12_right 188 = .ok (.ireturn, 1) := by decide +kernel
theorem dX12_use_0 : decode cX12_use 0 = .ok (.iload_n 1, 1) := by decide +kernel
theorem dX12_use_1 : decode cX12_use 1 = .ok (.iconst 1, 1) := by decide +kernel
theorem dX12_use_2 : decode cX12_use 2 = .ok (.iconst 3, 1) := by decide +kernel
theorem dX12_use_3 : decode cX12_use 3 = .ok (.invokestatic 74, 3) := by decide +kernel
theorem dX12_use_6 : decode cX12_use 6 = .ok (.ifCond .eq 29, 3) := by decide +kernel
theorem dX12_use_9 : decode cX12_use 9 = .ok (.iload_n 2, 1) := by decide +kernel
theorem dX12_use_10 : decode cX12_use 10 = .ok (.iconst 0, 1) := by decide +kernel
theorem dX12_use_11 : decode cX12_use 11 = .ok (.iconst 2, 1) := by decide +kernel
theorem dX12_use_12 : decode cX12_use 12 = .ok (.invokestatic 74, 3) := by decide +kernel
theorem dX12_use_15 : decode cX12_use 15 = .ok (.ifCond .eq 20, 3) := by decide +kernel
theorem dX12_use_18 : decode cX12_use 18 = .ok (.iload_n 3, 1) := by decide +kernel
theorem dX12_use_19 : decode cX12_use 19 = .ok (.invokestatic 78, 3) := by decide +kernel
theorem dX12_use_22 : decode cX12_use 22 = .ok (.ifCond .eq 13, 3) := by decide +kernel
theorem dX12_use_25 : decode cX12_use 25 = .ok (.iload 4, 2) := by decide +kernel
theorem dX12_use_27 : decode cX12_use 27 = .ok (.iconst 0, 1) := by decide +kernel
theorem dX12_use_28 : decode cX12_use 28 = .ok (.iconst 4, 1) := by decide +kernel
theorem dX12_use_29 : decode cX12_use 29 = .ok (.invokestatic 74, 3) := by decide +kernel
theorem dX12_use_32 : decode cX12_use 32 = .ok (.ifCond .ne 5, 3) := by decide +kernel
theorem dX12_use_35 : decode cX12_use 35 = .ok (.iconst (-1), 1) := by decide +kernel
theorem dX12_use_36 : decode cX12_use 36 = .ok (.ireturn, 1) := by decide +kernel
theorem dX12_use_37 : decode cX12_use 37 = .ok (.aload_n 0, 1) := by decide +kernel
theorem dX12_use_38 : decode cX12_use 38 = .ok (.getfield 7, 3) := by decide +kernel
theorem dX12_use_41 : decode cX12_use 41 = .ok (.iconst 2, 1) := by decide +kernel
theorem dX12_use_42 : decode cX12_use 42 = .ok (.iaload, 1) := by decide +kernel
theorem dX12_use_43 : decode cX12_use 43 = .ok (.bipush 50, 2) := by decide +kernel
theorem dX12_use_45 : decode cX12_use 45 = .ok (.if_icmp .ne 8, 3) := by decide +kernel
theorem dX12_use_48 : decode cX12_use 48 = .ok (.bipush (-4), 2) := by decide +kernel
theorem dX12_use_50 : decode cX12_use 50 = .ok (.goto 16, 3) := by decide +kernel
theorem dX12_use_53 : decode cX12_use 53 = .ok (.aload_n 0, 1) := by decide +kernel
theorem dX12_use_54 : decode cX12_use 54 = .ok (.iload_n 1, 1) := by decide +kernel
theorem dX12_use_55 : decode cX12_use 55 = .ok (.iload_n 2, 1) := by decide +kernel
theorem dX12_use_56 : decode cX12_use 56 = .ok (.iload_n 3, 1) := by decide +kernel
theorem dX12_use_57 : decode cX12_use 57 = .ok (.iload 4, 2) := by decide +kernel
theorem dX12_use_59 : decode cX12_use 59 = .ok (.iload_n 3, 1) := by decide +kernel
theorem dX12_use_60 : decode cX12_use 60 = .ok (.iload 4, 2) := by decide +kernel
theorem dX12_use_62 : decode cX12_use 62 = .ok (.iadd, 1) := by decide +kernel
theorem dX12_use_63 : decode cX12_use 63 = .ok (.invokevirtual 183, 3) := by decide +kernel
theorem dX12_use_66 : decode cX12_use 66 = .ok (.ireturn, 1) := by decide +kernel
theorem dX12_quota_0 : decode cX12_quota 0 = .ok (.iload_n 1, 1) := by decide +kernel
theorem dX12_quota_1 : decode cX12_quota 1 = .ok (.iconst 4, 1) := by decide +kernel
theorem dX12_quota_2 : decode cX12_quota 2 = .ok (.iconst 5, 1) := by decide +kernel
theorem dX12_quota_3 : decode cX12_quota 3 = .ok (.invokestatic 74, 3) := by decide +kernel
theorem dX12_quota_6 : decode cX12_quota 6 = .ok (.ifCond .eq 12, 3) := by decide +kernel
theorem dX12_quota_9 : decode cX12_quota 9 = .ok (.iload_n 2, 1) := by decide +kernel
theorem dX12_quota_10 : decode cX12_quota 10 = .ok (.iconst 0, 1) := by decide +kernel
theorem dX12_quota_11 : decode cX12_quota 11 = .ok (.iconst 2, 1) := by decide +kernel
theorem dX12_quota_12 : decode cX12_quota 12 = .ok (.invokestatic 74, 3) := by decide +kernel
theorem dX12_quota_15 : decode cX12_quota 15 = .ok (.ifCond .ne 5, 3) := by decide +kernel
theorem dX12_quota_18 : decode cX12_quota 18 = .ok (.iconst (-1), 1) := by decide +kernel
theorem dX12_quota_19 : decode cX12_quota 19 = .ok (.ireturn, 1) := by decide +kernel
theorem dX12_quota_20 : decode cX12_quota 20 = .ok (.iload_n 3, 1) := by decide +kernel
theorem dX12_quota_21 : decode cX12_quota 21 = .ok (.iconst 0, 1) := by decide +kernel
theorem dX12_quota_22 : decode cX12_quota 22 = .ok (.sipush 9999, 3) := by decide +kernel
theorem dX12_quota_25 : decode cX12_quota 25 = .ok (.invokestatic 74, 3) := by decide +kernel
theorem dX12_quota_28 : decode cX12_quota 28 = .ok (.ifCond .ne 6, 3) := by decide +kernel
theorem dX12_quota_31 : decode cX12_quota 31 = .ok (.bipush (-2), 2) := by decide +kernel
theorem dX12_quota_33 : decode cX12_quota 33 = .ok (.ireturn, 1) := by decide +kernel
theorem dX12_quota_34 : decode cX12_quota 34 = .ok (.aload_n 0, 1) := by decide +kernel
theorem dX12_quota_35 : decode cX12_quota 35 = .ok (.getfield 7, 3) := by decide +kernel
theorem dX12_quota_38 : decode cX12_quota 38 = .ok (.iconst 2, 1) := by decide +kernel
theorem dX12_quota_39 : decode cX12_quota 39 = .ok (.iaload, 1) := by decide +kernel
theorem dX12_quota_40 : decode cX12_quota 40 = .ok (.bipush 50, 2) := by decide +kernel
theorem dX12_quota_42 : decode cX12_quota 42 = .ok (.if_icmp .ne 6, 3) := by decide +kernel
theorem dX12_quota_45 : decode cX12_quota 45 = .ok (.bipush (-4), 2) := by decide +kernel
theorem dX12_quota_47 : decode cX12_quota 47 = .ok (.ireturn, 1) := by decide +kernel
theorem dX12_quota_48 : decode cX12_quota 48 = .ok (.aload_n 0, 1) := by decide +kernel
theorem dX12_quota_49 : decode cX12_quota 49 = .ok (.getfield 7, 3) := by decide +kernel
theorem dX12_quota_52 : decode cX12_quota 52 = .ok (.bipush 72, 2) := by decide +kernel
theorem dX12_quota_54 : decode cX12_quota 54 = .ok (.iload_n 2, 1) := by decide +kernel
theorem dX12_quota_55 : decode cX12_quota 55 = .ok (.iadd, 1) := by decide +kernel
theorem dX12_quota_56 : decode cX12_quota 56 = .ok (.iload_n 1, 1) := by decide +kernel
theorem dX12_quota_57 : decode cX12_quota 57 = .ok (.iconst 5, 1) := by decide +kernel
theorem dX12_quota_58 : decode cX12_quota 58 = .ok (.if_icmp .ne 7, 3) := by decide +kernel
theorem dX12_quota_61 : decode cX12_quota 61 = .ok (.iload_n 3, 1) := by decide +kernel
theorem dX12_quota_62 : decode cX12_quota 62 = .ok (.goto 12, 3) := by decide +kernel
theorem dX12_quota_65 : decode cX12_quota 65 = .ok (.aload_n 0, 1) := by decide +kernel
theorem dX12_quota_66 : decode cX12_quota 66 = .ok (.getfield 7, 3) := by decide +kernel
theorem dX12_quota_69 : decode cX12_quota 69 = .ok (.bipush 72, 2) := by decide +kernel
theorem dX12_quota_71 : decode cX12_quota 71 = .ok (.iload_n 2, 1) := by decide +kernel
theorem dX12_quota_72 : decode cX12_quota 72 = .ok (.iadd, 1) := by decide +kernel
theorem dX12_quota_73 : decode cX12_quota 73 = .ok (.iaload, 1) := by decide +kernel
theorem dX12_quota_74 : decode cX12_quota 74 = .ok (.iastore, 1) := by decide +kernel
theorem dX12_quota_75 : decode cX12_quota 75 = .ok (.aload_n 0, 1) := by decide +kernel
theorem dX12_quota_76 : decode cX12_quota 76 = .ok (.iload_n 1, 1) := by decide +kernel
theorem dX12_quota_77 : decode cX12_quota 77 = .ok (.iload_n 2, 1) := by decide +kernel
theorem dX12_quota_78 : decode cX12_quota 78 = .ok (.iconst (-1), 1) := by decide +kernel
theorem dX12_quota_79 : decode cX12_quota 79 = .ok (.iconst (-1), 1) := by decide +kernel
theorem dX12_quota_80 : decode cX12_quota 80 = .ok (.iload_n 3, 1) := by decide +kernel
theorem dX12_quota_81 : decode cX12_quota 81 = .ok (.invokevirtual 183, 3) := by decide +kernel
theorem dX12_quota_84 : decode cX12_quota 84 = .ok (.ireturn, 1) := by decide +kernel
theorem dX12_rule_0 : decode cX12_rule 0 = .ok (.iload_n 1, 1) := by decide +kernel
theorem dX12_rule_1 : decode cX12_rule 1 = .ok (.invokestatic 78, 3) := by decide +kernel
theorem dX12_rule_4 : decode cX12_rule 4 = .ok (.ifCond .eq 12, 3) := by decide +kernel
theorem dX12_rule_7 : decode cX12_rule 7 = .ok (.iload_n 2, 1) := by decide +kernel
theorem dX12_rule_8 : decode cX12_rule 8 = .ok (.iconst 0, 1) := by decide +kernel
theorem dX12_rule_9 : decode cX12_rule 9 = .ok (.iconst 4, 1) := by decide +kernel
theorem dX12_rule_10 : decode cX12_rule 10 = .ok (.invokestatic 74, 3) := by decide +kernel
theorem dX12_rule_13 : decode cX12_rule 13 = .ok (.ifCond .ne 5, 3) := by decide +kernel
theorem dX12_rule_16 : decode cX12_rule 16 = .ok (.iconst (-1), 1) := by decide +kernel
theorem dX12_rule_17 : decode cX12_rule 17 = .ok (.ireturn, 1) := by decide +kernel
theorem dX12_rule_18 : decode cX12_rule 18 = .ok (.aload_n 0, 1) := by decide +kernel
theorem dX12_rule_19 : decode cX12_rule 19 = .ok (.getfield 7, 3) := by decide +kernel
theorem dX12_rule_22 : decode cX12_rule 22 = .ok (.iconst 2, 1) := by decide +kernel
theorem dX12_rule_23 : decode cX12_rule 23 = .ok (.iaload, 1) := by decide +kernel
theorem dX12_rule_24 : decode cX12_rule 24 = .ok (.bipush 50, 2) := by decide +kernel
theorem dX12_rule_26 : decode cX12_rule 26 = .ok (.if_icmp .ne 6, 3) := by decide +kernel
theorem dX12_rule_29 : decode cX12_rule 29 = .ok (.bipush (-4), 2) := by decide +kernel
theorem dX12_rule_31 : decode cX12_rule 31 = .ok (.ireturn, 1) := by decide +kernel
theorem dX12_rule_32 : decode cX12_rule 32 = .ok (.aload_n 0, 1) := by decide +kernel
theorem dX12_rule_33 : decode cX12_rule 33 = .ok (.bipush 6, 2) := by decide +kernel
theorem dX12_rule_35 : decode cX12_rule 35 = .ok (.iconst 2, 1) := by decide +kernel
theorem dX12_rule_36 : decode cX12_rule 36 = .ok (.iload_n 1, 1) := by decide +kernel
theorem dX12_rule_37 : decode cX12_rule 37 = .ok (.iload_n 2, 1) := by decide +kernel
theorem dX12_rule_38 : decode cX12_rule 38 = .ok (.iload_n 3, 1) := by decide +kernel
theorem dX12_rule_39 : decode cX12_rule 39 = .ok (.ifCond .eq 8, 3) := by decide +kernel
theorem dX12_rule_42 : decode cX12_rule 42 = .ok (.bipush 10, 2) := by decide +kernel
theorem dX12_rule_44 : decode cX12_rule 44 = .ok (.goto 5, 3) := by decide +kernel
theorem dX12_rule_47 : decode cX12_rule 47 = .ok (.bipush 20, 2) := by decide +kernel
theorem dX12_rule_49 : decode cX12_rule 49 = .ok (.invokevirtual 183, 3) := by decide +kernel
theorem dX12_rule_52 : decode cX12_rule 52 = .ok (.istore 4, 2) := by decide +kernel
theorem dX12_rule_54 : decode cX12_rule 54 = .ok (.aload_n 0, 1) := by decide +kernel
theorem dX12_rule_55 : decode cX12_rule 55 = .ok (.getfield 7, 3) := by decide +kernel
theorem dX12_rule_58 : decode cX12_rule 58 = .ok (.sipush 1560, 3) := by decide +kernel
theorem dX12_rule_61 : decode cX12_rule 61 = .ok (.iload 4, 2) := by decide +kernel
theorem dX12_rule_63 : decode cX12_rule 63 = .ok (.iadd, 1) := by decide +kernel
theorem dX12_rule_64 : decode cX12_rule 64 = .ok (.iload_n 3, 1) := by decide +kernel
theorem dX12_rule_65 : decode cX12_rule 65 = .ok (.ifCond .eq 7, 3) := by decide +kernel
theorem dX12_rule_68 : decode cX12_rule 68 = .ok (.iconst 1, 1) := by decide +kernel
theorem dX12_rule_69 : decode cX12_rule 69 = .ok (.goto 4, 3) := by decide +kernel
theorem dX12_rule_72 : decode cX12_rule 72 = .ok (.iconst 0, 1) := by decide +kernel
theorem dX12_rule_73 : decode cX12_rule 73 = .ok (.iastore, 1) := by decide +kernel
theorem dX12_rule_74 : decode cX12_rule 74 = .ok (.iload 4, 2) := by decide +kernel
theorem dX12_rule_76 : decode cX12_rule 76 = .ok (.ireturn, 1) := by decide +kernel
theorem dX12_isOf_0 : decode cX12_isOf 0 = .ok (.iload_n 1, 1) := by decide +kernel
theorem dX12_isOf_1 : decode cX12_isOf 1 = .ok (.iconst 0, 1) := by decide +kernel
theorem dX12_isOf_2 : decode cX12_isOf 2 = .ok (.aload_n 0, 1) := by decide +kernel
theorem dX12_isOf_3 : decode cX12_isOf 3 = .ok (.getfield 7, 3) := by decide +kernel
theorem dX12_isOf_6 : decode cX12_isOf 6 = .ok (.iconst 2, 1) := by decide +kernel
theorem dX12_isOf_7 : decode cX12_isOf 7 = .ok (.iaload, 1) := by decide +kernel
theorem dX12_isOf_8 : decode cX12_isOf 8 = .ok (.iconst 1, 1) := by decide +kernel
theorem dX12_isOf_9 : decode cX12_isOf 9 = .ok (.isub, 1) := by decide +kernel
theorem dX12_isOf_10 : decode cX12_isOf 10 = .ok (.invokestatic 74, 3) := by decide +kernel
theorem dX12_isOf_13 : decode cX12_isOf 13 = .ok (.ifCond .eq 21, 3) := by decide +kernel
theorem dX12_isOf_16 : decode cX12_isOf 16 = .ok (.aload_n 0, 1) := by decide +kernel
theorem dX12_isOf_17 : decode cX12_isOf 17 = .ok (.getfield 7, 3) := by decide +kernel
theorem dX12_isOf_20 : decode cX12_isOf 20 = .ok (.sipush 1310, 3) := by decide +kernel
theorem dX12_isOf_23 : decode cX12_isOf 23 = .ok (.iload_n 1, 1) := by decide +kernel
theorem dX12_isOf_24 : decode cX12_isOf 24 = .ok (.iadd, 1) := by decide +kernel
theorem dX12_isOf_25 : decode cX12_isOf 25 = .ok (.iaload, 1) := by decide +kernel
theorem dX12_isOf_26 : decode cX12_isOf 26 = .ok (.iload_n 2, 1) := by decide +kernel
theorem dX12_isOf_27 : decode cX12_isOf 27 = .ok (.if_icmp .ne 7, 3) := by decide +kernel
theorem dX12_isOf_30 : decode cX12_isOf 30 = .ok (.iconst 1, 1) := by decide +kernel
theorem dX12_isOf_31 : decode cX12_isOf 31 = .ok (.goto 4, 3) := by decide +kernel
theorem dX12_isOf_34 : decode cX12_isOf 34 = .ok (.iconst 0, 1) := by decide +kernel
theorem dX12_isOf_35 : decode cX12_isOf 35 = .ok (.ireturn, 1) := by decide +kernel
theorem dX12_leans_0 : decode cX12_leans 0 = .ok (.aload_n 0, 1) := by decide +kernel
theorem dX12_leans_1 : decode cX12_leans 1 = .ok (.getfield 7, 3) := by decide +kernel
theorem dX12_leans_4 : decode cX12_leans 4 = .ok (.sipush 1910, 3) := by decide +kernel
theorem dX12_leans_7 : decode cX12_leans 7 = .ok (.bipush 50, 2) := by decide +kernel
theorem dX12_leans_9 : decode cX12_leans 9 = .ok (.iload_n 1, 1) := by decide +kernel
theorem dX12_leans_10 : decode cX12_leans 10 = .ok (.imul, 1) := by decide +kernel
theorem dX12_leans_11 : decode cX12_leans 11 = .ok (.iadd, 1) := by decide +kernel
theorem dX12_leans_12 : decode cX12_leans 12 = .ok (.iload_n 2, 1) := by decide +kernel
theorem dX12_leans_13 : decode cX12_leans 13 = .ok (.iadd, 1) := by decide +kernel
theorem dX12_leans_14 : decode cX12_leans 14 = .ok (.iaload, 1) := by decide +kernel
theorem dX12_leans_15 : decode cX12_leans 15 = .ok (.iconst 1, 1) := by decide +kernel
theorem dX12_leans_16 : decode cX12_leans 16 = .ok (.if_icmp .ne 7, 3) := by decide +kernel
theorem dX12_leans_19 : decode cX12_leans 19 = .ok (.iconst 1, 1) := by decide +kernel
theorem dX12_leans_20 : decode cX12_leans 20 = .ok (.goto 4, 3) := by decide +kernel
theorem dX12_leans_23 : decode cX12_leans 23 = .ok (.iconst 0, 1) := by decide +kernel
theorem dX12_leans_24 : decode cX12_leans 24 = .ok (.ireturn, 1) := by decide +kernel
theorem dX12_lean_0 : decode cX12_lean 0 = .ok (.aload_n 0, 1) := by decide +kernel
theorem dX12_lean_1 : decode cX12_lean 1 = .ok (.iload_n 1, 1) := by decide +kernel
theorem dX12_lean_2 : decode cX12_lean 2 = .ok (.bipush 6, 2) := by decide +kernel
theorem dX12_lean_4 : decode cX12_lean 4 = .ok (.invokevirtual 187, 3) := by decide +kernel
theorem dX12_lean_7 : decode cX12_lean 7 = .ok (.ifCond .eq 13, 3) := by decide +kernel
theorem dX12_lean_10 : decode cX12_lean 10 = .ok (.aload_n 0, 1) := by decide +kernel
theorem dX12_lean_11 : decode cX12_lean 11 = .ok (.iload_n 2, 1) := by decide +kernel
theorem dX12_lean_12 : decode cX12_lean 12 = .ok (.bipush 6, 2) := by decide +kernel
theorem dX12_lean_14 : decode cX12_lean 14 = .ok (.invokevirtual 187, 3) := by decide +kernel
theorem dX12_lean_17 : decode cX12_lean 17 = .ok (.ifCond .ne 5, 3) := by decide +kernel
theorem dX12_lean_20 : decode cX12_lean 20 = .ok (.iconst (-1), 1) := by decide +kernel
theorem dX12_lean_21 : decode cX12_lean 21 = .ok (.ireturn, 1) := by decide +kernel
theorem dX12_lean_22 : decode cX12_lean 22 = .ok (.iload_n 1, 1) := by decide +kernel
theorem dX12_lean_23 : decode cX12_lean 23 = .ok (.iload_n 2, 1) := by decide +kernel
theorem dX12_lean_24 : decode cX12_lean 24 = .ok (.if_icmp .ne 6, 3) := by decide +kernel
theorem dX12_lean_27 : decode cX12_lean 27 = .ok (.bipush (-2), 2) := by decide +kernel
theorem dX12_lean_29 : decode cX12_lean 29 = .ok (.ireturn, 1) := by decide +kernel
theorem dX12_lean_30 : decode cX12_lean 30 = .ok (.aload_n 0, 1) := by decide +kernel
theorem dX12_lean_31 : decode cX12_lean 31 = .ok (.iload_n 1, 1) := by decide +kernel
theorem dX12_lean_32 : decode cX12_lean 32 = .ok (.iload_n 2, 1) := by decide +kernel
theorem dX12_lean_33 : decode cX12_lean 33 = .ok (.invokevirtual 190, 3) := by decide +kernel
theorem dX12_lean_36 : decode cX12_lean 36 = .ok (.ifCond .eq 6, 3) := by decide +kernel
theorem dX12_lean_39 : decode cX12_lean 39 = .ok (.bipush (-3), 2) := by decide +kernel
theorem dX12_lean_41 : decode cX12_lean 41 = .ok (.ireturn, 1) := by decide +kernel
theorem dX12_lean_42 : decode cX12_lean 42 = .ok (.aload_n 0, 1) := by decide +kernel
theorem dX12_lean_43 : decode cX12_lean 43 = .ok (.getfield 7, 3) := by decide +kernel
theorem dX12_lean_46 : decode cX12_lean 46 = .ok (.sipush 1910, 3) := by decide +kernel
theorem dX12_lean_49 : decode cX12_lean 49 = .ok (.bipush 50, 2) := by decide +kernel
theorem dX12_lean_51 : decode cX12_lean 51 = .ok (.iload_n 1, 1) := by decide +kernel
theorem dX12_lean_52 : decode cX12_lean 52 = .ok (.imul, 1) := by decide +kernel
theorem dX12_lean_53 : decode cX12_lean 53 = .ok (.iadd, 1) := by decide +kernel
theorem dX12_lean_54 : decode cX12_lean 54 = .ok (.iload_n 2, 1) := by decide +kernel
theorem dX12_lean_55 : decode cX12_lean 55 = .ok (.iadd, 1) := by decide +kernel
theorem dX12_lean_56 : decode cX12_lean 56 = .ok (.iconst 1, 1) := by decide +kernel
theorem dX12_lean_57 : decode cX12_lean 57 = .ok (.iastore, 1) := by decide +kernel
theorem dX12_lean_58 : decode cX12_lean 58 = .ok (.iconst 0, 1) := by decide +kernel
theorem dX12_lean_59 : decode cX12_lean 59 = .ok (.istore_n 3, 1) := by decide +kernel
theorem dX12_lean_60 : decode cX12_lean 60 = .ok (.iconst 0, 1) := by decide +kernel
theorem dX12_lean_61 : decode cX12_lean 61 = .ok (.istore 4, 2) := by decide +kernel
theorem dX12_lean_63 : decode cX12_lean 63 = .ok (.iload 4, 2) := by decide +kernel
theorem dX12_lean_65 : decode cX12_lean 65 = .ok (.bipush 50, 2) := by decide +kernel
theorem dX12_lean_67 : decode cX12_lean 67 = .ok (.if_icmp .ge 27, 3) := by decide +kernel
theorem dX12_lean_70 : decode cX12_lean 70 = .ok (.iload_n 3, 1) := by decide +kernel
theorem dX12_lean_71 : decode cX12_lean 71 = .ok (.aload_n 0, 1) := by decide +kernel
theorem dX12_lean_72 : decode cX12_lean 72 = .ok (.iload_n 1, 1) := by decide +kernel
theorem dX12_lean_73 : decode cX12_lean 73 = .ok (.iload 4, 2) := by decide +kernel
theorem dX12_lean_75 : decode cX12_lean 75 = .ok (.invokevirtual 190, 3) := by decide +kernel
theorem dX12_lean_78 : decode cX12_lean 78 = .ok (.ifCond .eq 7, 3) := by decide +kernel
theorem dX12_lean_81 : decode cX12_lean 81 = .ok (.iconst 1, 1) := by decide +kernel
theorem dX12_lean_82 : decode cX12_lean 82 = .ok (.goto 4, 3) := by decide +kernel
theorem dX12_lean_85 : decode cX12_lean 85 = .ok (.iconst 0, 1) := by decide +kernel
theorem dX12_lean_86 : decode cX12_lean 86 = .ok (.iadd, 1) := by decide +kernel
theorem dX12_lean_87 : decode cX12_lean 87 = .ok (.istore_n 3, 1) := by decide +kernel
theorem dX12_lean_88 : decode cX12_lean 88 = .ok (.iinc 4 1, 3) := by decide +kernel
theorem dX12_lean_91 : decode cX12_lean 91 = .ok (.goto (-28), 3) := by decide +kernel
theorem dX12_lean_94 : decode cX12_lean 94 = .ok (.iload_n 3, 1) := by decide +kernel
theorem dX12_lean_95 : decode cX12_lean 95 = .ok (.ireturn, 1) := by decide +kernel
theorem dX12_spreads_0 : decode cX12_spreads 0 = .ok (.iconst 1, 1) := by decide +kernel
theorem dX12_spreads_1 : decode cX12_spreads 1 = .ok (.istore_n 2, 1) := by decide +kernel
theorem dX12_spreads_2 : decode cX12_spreads 2 = .ok (.iload_n 2, 1) := by decide +kernel
theorem dX12_spreads_3 : decode cX12_spreads 3 = .ok (.ifCond .eq 75, 3) := by decide +kernel
theorem dX12_spreads_6 : decode cX12_spreads 6 = .ok (.iconst 0, 1) := by decide +kernel
theorem dX12_spreads_7 : decode cX12_spreads 7 = .ok (.istore_n 2, 1) := by decide +kernel
theorem dX12_spreads_8 : decode cX12_spreads 8 = .ok (.iconst 0, 1) := by decide +kernel
theorem dX12_spreads_9 : decode cX12_spreads 9 = .ok (.istore_n 3, 1) := by decide +kernel
theorem dX12_spreads_10 : decode cX12_spreads 10 = .ok (.iload_n 3, 1) := by decide +kernel
theorem dX12_spreads_11 : decode cX12_spreads 11 = .ok (.aload_n 0, 1) := by decide +kernel
theorem dX12_spreads_12 : decode cX12_spreads 12 = .ok (.getfield 7, 3) := by decide +kernel
theorem dX12_spreads_15 : decode cX12_spreads 15 = .ok (.iconst 2, 1) := by decide +kernel
theorem dX12_spreads_16 : decode cX12_spreads 16 = .ok (.iaload, 1) := by decide +kernel
theorem dX12_spreads_17 : decode cX12_spreads 17 = .ok (.if_icmp .ge 58, 3) := by decide +kernel
theorem dX12_spreads_20 : decode cX12_spreads 20 = .ok (.iconst 0, 1) := by decide +kernel
theorem dX12_spreads_21 : decode cX12_spreads 21 = .ok (.istore 4, 2) := by decide +kernel
theorem dX12_spreads_23 : decode cX12_spreads 23 = .ok (.iload 4, 2) := by decide +kernel
theorem dX12_spreads_25 : decode cX12_spreads 25 = .ok (.aload_n 0, 1) := by decide +kernel
theorem dX12_spreads_26 : decode cX12_spreads 26 = .ok (.getfield 7, 3) := by decide +kernel
theorem dX12_spreads_29 : decode cX12_spreads 29 = .ok (.iconst 2, 1) := by decide +kernel
theorem dX12_spreads_30 : decode cX12_spreads 30 = .ok (.iaload, 1) := by decide +kernel
theorem dX12_spreads_31 : decode cX12_spreads 31 = .ok (.if_icmp .ge 38, 3) := by decide +kernel
theorem dX12_spreads_34 : decode cX12_spreads 34 = .ok (.aload_n 1, 1) := by decide +kernel
theorem dX12_spreads_35 : decode cX12_spreads 35 = .ok (.iload_n 3, 1) := by decide +kernel
theorem dX12_spreads_36 : decode cX12_spreads 36 = .ok (.baload, 1) := by decide +kernel
theorem dX12_spreads_37 : decode cX12_spreads 37 = .ok (.ifCond .ne 26, 3) := by decide +kernel
theorem dX12_spreads_40 : decode cX12_spreads 40 = .ok (.aload_n 1, 1) := by decide +kernel
theorem dX12_spreads_41 : decode cX12_spreads 41 = .ok (.iload 4, 2) := by decide +kernel
theorem dX12_spreads_43 : decode cX12_spreads 43 = .ok (.baload, 1) := by decide +kernel
theorem dX12_spreads_44 : decode cX12_spreads 44 = .ok (.ifCond .eq 19, 3) := by decide +kernel
theorem dX12_spreads_47 : decode cX12_spreads 47 = .ok (.aload_n 0, 1) := by decide +kernel
theorem dX12_spreads_48 : decode cX12_spreads 48 = .ok (.iload_n 3, 1) := by decide +kernel
theorem dX12_spreads_49 : decode cX12_spreads 49 = .ok (.iload 4, 2) := by decide +kernel
theorem dX12_spreads_51 : decode cX12_spreads 51 = .ok (.invokevirtual 190, 3) := by decide +kernel
theorem dX12_spreads_54 : decode cX12_spreads 54 = .ok (.ifCond .eq 9, 3) := by decide +kernel
theorem dX12_spreads_57 : decode cX12_spreads 57 = .ok (.aload_n 1, 1) := by decide +kernel
theorem dX12_spreads_58 : decode cX12_spreads 58 = .ok (.iload_n 3, 1) := by decide +kernel
theorem dX12_spreads_59 : decode cX12_spreads 59 = .ok (.iconst 1, 1) := by decide +kernel
theorem dX12_spreads_60 : decode cX12_spreads 60 = .ok (.bastore, 1) := by decide +kernel
theorem dX12_spreads_61 : decode cX12_spreads 61 = .ok (.iconst 1, 1) := by decide +kernel
theorem dX12_spreads_62 : decode cX12_spreads 62 = .ok (.istore_n 2, 1) := by decide +kernel
theorem dX12_spreads_63 : decode cX12_spreads 63 = .ok (.iinc 4 1, 3) := by decide +kernel
theorem dX12_spreads_66 : decode cX12_spreads 66 = .ok (.goto (-43), 3) := by decide +kernel
theorem dX12_spreads_69 : decode cX12_spreads 69 = .ok (.iinc 3 1, 3) := by decide +kernel
theorem dX12_spreads_72 : decode cX12_spreads 72 = .ok (.goto (-62), 3) := by decide +kernel
theorem dX12_spreads_75 : decode cX12_spreads 75 = .ok (.goto (-73), 3) := by decide +kernel
theorem dX12_spreads_78 : decode cX12_spreads 78 = .ok (.return_, 1) := by decide +kernel
theorem dX12_looks_0 : decode cX12_looks 0 = .ok (.iconst 0, 1) := by decide +kernel
theorem dX12_looks_1 : decode cX12_looks 1 = .ok (.istore_n 1, 1) := by decide +kernel
theorem dX12_looks_2 : decode cX12_looks 2 = .ok (.iload_n 1, 1) := by decide +kernel
theorem dX12_looks_3 : decode cX12_looks 3 = .ok (.bipush 50, 2) := by decide +kernel
theorem dX12_looks_5 : decode cX12_looks 5 = .ok (.if_icmp .ge 66, 3) := by decide +kernel
theorem dX12_looks_8 : decode cX12_looks 8 = .ok (.aload_n 0, 1) := by decide +kernel
theorem dX12_looks_9 : decode cX12_looks 9 = .ok (.getfield 31, 3) := by decide +kernel
theorem dX12_looks_12 : decode cX12_looks 12 = .ok (.iload_n 1, 1) := by decide +kernel
theorem dX12_looks_13 : decode cX12_looks 13 = .ok (.iload_n 1, 1) := by decide +kernel
theorem dX12_looks_14 : decode cX12_looks 14 = .ok (.aload_n 0, 1) := by decide +kernel
theorem dX12_looks_15 : decode cX12_looks 15 = .ok (.getfield 7, 3) := by decide +kernel
theorem dX12_looks_18 : decode cX12_looks 18 = .ok (.iconst 2, 1) := by decide +kernel
theorem dX12_looks_19 : decode cX12_looks 19 = .ok (.iaload, 1) := by decide +kernel
theorem dX12_looks_20 : decode cX12_looks 20 = .ok (.if_icmp .ge 36, 3) := by decide +kernel
theorem dX12_looks_23 : decode cX12_looks 23 = .ok (.aload_n 0, 1) := by decide +kernel
theorem dX12_looks_24 : decode cX12_looks 24 = .ok (.getfield 7, 3) := by decide +kernel
theorem dX12_looks_27 : decode cX12_looks 27 = .ok (.sipush 1310, 3) := by decide +kernel
theorem dX12_looks_30 : decode cX12_looks 30 = .ok (.iload_n 1, 1) := by decide +kernel
theorem dX12_looks_31 : decode cX12_looks 31 = .ok (.iadd, 1) := by decide +kernel
theorem dX12_looks_32 : decode cX12_looks 32 = .ok (.iaload, 1) := by decide +kernel
theorem dX12_looks_33 : decode cX12_looks 33 = .ok (.bipush 6, 2) := by decide +kernel
theorem dX12_looks_35 : decode cX12_looks 35 = .ok (.if_icmp .ne 21, 3) := by decide +kernel
theorem dX12_looks_38 : decode cX12_looks 38 = .ok (.aload_n 0, 1) := by decide +kernel
theorem dX12_looks_39 : decode cX12_looks 39 = .ok (.getfield 7, 3) := by decide +kernel
theorem dX12_looks_42 : decode cX12_looks 42 = .ok (.sipush 1860, 3) := by decide +kernel
theorem dX12_looks_45 : decode cX12_looks 45 = .ok (.iload_n 1, 1) := by decide +kernel
theorem dX12_looks_46 : decode cX12_looks 46 = .ok (.iadd, 1) := by decide +kernel
theorem dX12_looks_47 : decode cX12_looks 47 = .ok (.iaload, 1) := by decide +kernel
theorem dX12_looks_48 : decode cX12_looks 48 = .ok (.iconst 1, 1) := by decide +kernel
theorem dX12_looks_49 : decode cX12_looks 49 = .ok (.if_icmp .ne 7, 3) := by decide +kernel
theorem dX12_looks_52 : decode cX12_looks 52 = .ok (.iconst 1, 1) := by decide +kernel
theorem dX12_looks_53 : decode cX12_looks 53 = .ok (.goto 4, 3) := by decide +kernel
theorem dX12_looks_56 : decode cX12_looks 56 = .ok (.iconst 0, 1) := by decide +kernel
theorem dX12_looks_57 : decode cX12_looks 57 = .ok (.bastore, 1) := by decide +kernel
theorem dX12_looks_58 : decode cX12_looks 58 = .ok (.aload_n 0, 1) := by decide +kernel
theorem dX12_looks_59 : decode cX12_looks 59 = .ok (.getfield 34, 3) := by decide +kernel
theorem dX12_looks_62 : decode cX12_looks 62 = .ok (.iload_n 1, 1) := by decide +kernel
theorem dX12_looks_63 : decode cX12_looks 63 = .ok (.iconst 0, 1) := by decide +kernel
theorem dX12_looks_64 : decode cX12_looks 64 = .ok (.bastore, 1) := by decide +kernel
theorem dX12_looks_65 : decode cX12_looks 65 = .ok (.iinc 1 1, 3) := by decide +kernel
theorem dX12_looks_68 : decode cX12_looks 68 = .ok (.goto (-66), 3) := by decide +kernel
theorem dX12_looks_71 : decode cX12_looks 71 = .ok (.iconst 0, 1) := by decide +kernel
theorem dX12_looks_72 : decode cX12_looks 72 = .ok (.istore_n 1, 1) := by decide +kernel
theorem dX12_looks_73 : decode cX12_looks 73 = .ok (.iload_n 1, 1) := by decide +kernel
theorem dX12_looks_74 : decode cX12_looks 74 = .ok (.aload_n 0, 1) := by decide +kernel
theorem dX12_looks_75 : decode cX12_looks 75 = .ok (.getfield 7, 3) := by decide +kernel
theorem dX12_looks_78 : decode cX12_looks 78 = .ok (.iconst 2, 1) := by decide +kernel
theorem dX12_looks_79 : decode cX12_looks 79 = .ok (.iaload, 1) := by decide +kernel
theorem dX12_looks_80 : decode cX12_looks 80 = .ok (.if_icmp .ge 53, 3) := by decide +kernel
theorem dX12_looks_83 : decode cX12_looks 83 = .ok (.aload_n 0, 1) := by decide +kernel
theorem dX12_looks_84 : decode cX12_looks 84 = .ok (.getfield 7, 3) := by decide +kernel
theorem dX12_looks_87 : decode cX12_looks 87 = .ok (.sipush 1310, 3) := by decide +kernel
theorem dX12_looks_90 : decode cX12_looks 90 = .ok (.iload_n 1, 1) := by decide +kernel
theorem dX12_looks_91 : decode cX12_looks 91 = .ok (.iadd, 1) := by decide +kernel
theorem dX12_looks_92 : decode cX12_looks 92 = .ok (.iaload, 1) := by decide +kernel
theorem dX12_looks_93 : decode cX12_looks 93 = .ok (.bipush 7, 2) := by decide +kernel
theorem dX12_looks_95 : decode cX12_looks 95 = .ok (.if_icmp .ne 32, 3) := by decide +kernel
theorem dX12_looks_98 : decode cX12_looks 98 = .ok (.aload_n 0, 1) := by decide +kernel
theorem dX12_looks_99 : decode cX12_looks 99 = .ok (.getfield 7, 3) := by decide +kernel
theorem dX12_looks_102 : decode cX12_looks 102 = .ok (.sipush 1760, 3) := by decide +kernel
theorem dX12_looks_105 : decode cX12_looks 105 = .ok (.iload_n 1, 1) := by decide +kernel
theorem dX12_looks_106 : decode cX12_looks 106 = .ok (.iadd, 1) := by decide +kernel
theorem dX12_looks_107 : decode cX12_looks 107 = .ok (.iaload, 1) := by decide +kernel
theorem dX12_looks_108 : decode cX12_looks 108 = .ok (.ifCond .ne 19, 3) := by decide +kernel
theorem dX12_looks_111 : decode cX12_looks 111 = .ok (.aload_n 0, 1) := by decide +kernel
theorem dX12_looks_112 : decode cX12_looks 112 = .ok (.getfield 34, 3) := by decide +kernel
theorem dX12_looks_115 : decode cX12_looks 115 = .ok (.aload_n 0, 1) := by decide +kernel
theorem dX12_looks_116 : decode cX12_looks 116 = .ok (.getfield 7, 3) := by decide +kernel
theorem dX12_looks_119 : decode cX12_looks 119 = .ok (.sipush 1610, 3) := by decide +kernel
theorem dX12_looks_122 : decode cX12_looks 122 = .ok (.iload_n 1, 1) := by decide +kernel
theorem dX12_looks_123 : decode cX12_looks 123 = .ok (.iadd, 1) := by decide +kernel
theorem dX12_looks_124 : decode cX12_looks 124 = .ok (.iaload, 1) := by decide +kernel
theorem dX12_looks_125 : decode cX12_looks 125 = .ok (.iconst 1, 1) := by decide +kernel
theorem dX12_looks_126 : decode cX12_looks 126 = .ok (.bastore, 1) := by decide +kernel
theorem dX12_looks_127 : decode cX12_looks 127 = .ok (.iinc 1 1, 3) := by decide +kernel
theorem dX12_looks_130 : decode cX12_looks 130 = .ok (.goto (-57), 3) := by decide +kernel
theorem dX12_looks_133 : decode cX12_looks 133 = .ok (.aload_n 0, 1) := by decide +kernel
theorem dX12_looks_134 : decode cX12_looks 134 = .ok (.aload_n 0, 1) := by decide +kernel
theorem dX12_looks_135 : decode cX12_looks 135 = .ok (.getfield 31, 3) := by decide +kernel
theorem dX12_looks_138 : decode cX12_looks 138 = .ok (.invokevirtual 193, 3) := by decide +kernel
theorem dX12_looks_141 : decode cX12_looks 141 = .ok (.aload_n 0, 1) := by decide +kernel
theorem dX12_looks_142 : decode cX12_looks 142 = .ok (.aload_n 0, 1) := by decide +kernel
theorem dX12_looks_143 : decode cX12_looks 143 = .ok (.getfield 34, 3) := by decide +kernel
theorem dX12_looks_146 : decode cX12_looks 146 = .ok (.invokevirtual 193, 3) := by decide +kernel
theorem dX12_looks_149 : decode cX12_looks 149 = .ok (.iconst 0, 1) := by decide +kernel
theorem dX12_looks_150 : decode cX12_looks 150 = .ok (.istore_n 1, 1) := by decide +kernel
theorem dX12_looks_151 : decode cX12_looks 151 = .ok (.iload_n 1, 1) := by decide +kernel
theorem dX12_looks_152 : decode cX12_looks 152 = .ok (.bipush 50, 2) := by decide +kernel
theorem dX12_looks_154 : decode cX12_looks 154 = .ok (.if_icmp .ge 63, 3) := by decide +kernel
theorem dX12_looks_157 : decode cX12_looks 157 = .ok (.aload_n 0, 1) := by decide +kernel
theorem dX12_looks_158 : decode cX12_looks 158 = .ok (.getfield 37, 3) := by decide +kernel
theorem dX12_looks_161 : decode cX12_looks 161 = .ok (.iload_n 1, 1) := by decide +kernel
theorem dX12_looks_162 : decode cX12_looks 162 = .ok (.iload_n 1, 1) := by decide +kernel
theorem dX12_looks_163 : decode cX12_looks 163 = .ok (.aload_n 0, 1) := by decide +kernel
theorem dX12_looks_164 : decode cX12_looks 164 = .ok (.getfield 7, 3) := by decide +kernel
theorem dX12_looks_167 : decode cX12_looks 167 = .ok (.iconst 2, 1) := by decide +kernel
theorem dX12_looks_168 : decode cX12_looks 168 = .ok (.iaload, 1) := by decide +kernel
theorem dX12_looks_169 : decode cX12_looks 169 = .ok (.if_icmp .ge 40, 3) := by decide +kernel
theorem dX12_looks_172 : decode cX12_looks 172 = .ok (.aload_n 0, 1) := by decide +kernel
theorem dX12_looks_173 : decode cX12_looks 173 = .ok (.getfield 7, 3) := by decide +kernel
theorem dX12_looks_176 : decode cX12_looks 176 = .ok (.sipush 1310, 3) := by decide +kernel
theorem dX12_looks_179 : decode cX12_looks 179 = .ok (.iload_n 1, 1) := by decide +kernel
theorem dX12_looks_180 : decode cX12_looks 180 = .ok (.iadd, 1) := by decide +kernel
theorem dX12_looks_181 : decode cX12_looks 181 = .ok (.iaload, 1) := by decide +kernel
theorem dX12_looks_182 : decode cX12_looks 182 = .ok (.bipush 6, 2) := by decide +kernel
theorem dX12_looks_184 : decode cX12_looks 184 = .ok (.if_icmp .ne 25, 3) := by decide +kernel
theorem dX12_looks_187 : decode cX12_looks 187 = .ok (.aload_n 0, 1) := by decide +kernel
theorem dX12_looks_188 : decode cX12_looks 188 = .ok (.getfield 31, 3) := by decide +kernel
theorem dX12_looks_191 : decode cX12_looks 191 = .ok (.iload_n 1, 1) := by decide +kernel
theorem dX12_looks_192 : decode cX12_looks 192 = .ok (.baload, 1) := by decide +kernel
theorem dX12_looks_193 : decode cX12_looks 193 = .ok (.ifCond .ne 16, 3) := by decide +kernel
theorem dX12_looks_196 : decode cX12_looks 196 = .ok (.aload_n 0, 1) := by decide +kernel
theorem dX12_looks_197 : decode cX12_looks 197 = .ok (.getfield 34, 3) := by decide +kernel
theorem dX12_looks_200 : decode cX12_looks 200 = .ok (.iload_n 1, 1) := by decide +kernel
theorem dX12_looks_201 : decode cX12_looks 201 = .ok (.baload, 1) := by decide +kernel
theorem dX12_looks_202 : decode cX12_looks 202 = .ok (.ifCond .ne 7, 3) := by decide +kernel
theorem dX12_looks_205 : decode cX12_looks 205 = .ok (.iconst 1, 1) := by decide +kernel
theorem dX12_looks_206 : decode cX12_looks 206 = .ok (.goto 4, 3) := by decide +kernel
theorem dX12_looks_209 : decode cX12_looks 209 = .ok (.iconst 0, 1) := by decide +kernel
theorem dX12_looks_210 : decode cX12_looks 210 = .ok (.bastore, 1) := by decide +kernel
theorem dX12_looks_211 : decode cX12_looks 211 = .ok (.iinc 1 1, 3) := by decide +kernel
theorem dX12_looks_214 : decode cX12_looks 214 = .ok (.goto (-63), 3) := by decide +kernel
theorem dX12_looks_217 : decode cX12_looks 217 = .ok (.return_, 1) := by decide +kernel
theorem dX12_appeal_0 : decode cX12_appeal 0 = .ok (.aload_n 0, 1) := by decide +kernel
theorem dX12_appeal_1 : decode cX12_appeal 1 = .ok (.iload_n 1, 1) := by decide +kernel
theorem dX12_appeal_2 : decode cX12_appeal 2 = .ok (.bipush 6, 2) := by decide +kernel
theorem dX12_appeal_4 : decode cX12_appeal 4 = .ok (.invokevirtual 187, 3) := by decide +kernel
theorem dX12_appeal_7 : decode cX12_appeal 7 = .ok (.ifCond .eq 12, 3) := by decide +kernel
theorem dX12_appeal_10 : decode cX12_appeal 10 = .ok (.iload_n 2, 1) := by decide +kernel
theorem dX12_appeal_11 : decode cX12_appeal 11 = .ok (.iconst 0, 1) := by decide +kernel
theorem dX12_appeal_12 : decode cX12_appeal 12 = .ok (.iconst 1, 1) := by decide +kernel
theorem dX12_appeal_13 : decode cX12_appeal 13 = .ok (.invokestatic 74, 3) := by decide +kernel
theorem dX12_appeal_16 : decode cX12_appeal 16 = .ok (.ifCond .ne 5, 3) := by decide +kernel
theorem dX12_appeal_19 : decode cX12_appeal 19 = .ok (.iconst (-1), 1) := by decide +kernel
theorem dX12_appeal_20 : decode cX12_appeal 20 = .ok (.ireturn, 1) := by decide +kernel
theorem dX12_appeal_21 : decode cX12_appeal 21 = .ok (.iload_n 3, 1) := by decide +kernel
theorem dX12_appeal_22 : decode cX12_appeal 22 = .ok (.iconst 0, 1) := by decide +kernel
theorem dX12_appeal_23 : decode cX12_appeal 23 = .ok (.bipush 100, 2) := by decide +kernel
theorem dX12_appeal_25 : decode cX12_appeal 25 = .ok (.invokestatic 74, 3) := by decide +kernel
theorem dX12_appeal_28 : decode cX12_appeal 28 = .ok (.ifCond .ne 6, 3) := by decide +kernel
theorem dX12_appeal_31 : decode cX12_appeal 31 = .ok (.bipush (-2), 2) := by decide +kernel
theorem dX12_appeal_33 : decode cX12_appeal 33 = .ok (.ireturn, 1) := by decide +kernel
theorem dX12_appeal_34 : decode cX12_appeal 34 = .ok (.aload_n 0, 1) := by decide +kernel
theorem dX12_appeal_35 : decode cX12_appeal 35 = .ok (.invokevirtual 169, 3) := by decide +kernel
theorem dX12_appeal_38 : decode cX12_appeal 38 = .ok (.aload_n 0, 1) := by decide +kernel
theorem dX12_appeal_39 : decode cX12_appeal 39 = .ok (.getfield 31, 3) := by decide +kernel
theorem dX12_appeal_42 : decode cX12_appeal 42 = .ok (.iload_n 1, 1) := by decide +kernel
theorem dX12_appeal_43 : decode cX12_appeal 43 = .ok (.baload, 1) := by decide +kernel
theorem dX12_appeal_44 : decode cX12_appeal 44 = .ok (.ifCond .ne 34, 3) := by decide +kernel
theorem dX12_appeal_47 : decode cX12_appeal 47 = .ok (.aload_n 0, 1) := by decide +kernel
theorem dX12_appeal_48 : decode cX12_appeal 48 = .ok (.getfield 7, 3) := by decide +kernel
theorem dX12_appeal_51 : decode cX12_appeal 51 = .ok (.iconst 0, 1) := by decide +kernel
theorem dX12_appeal_52 : decode cX12_appeal 52 = .ok (.iaload, 1) := by decide +kernel
theorem dX12_appeal_53 : decode cX12_appeal 53 = .ok (.aload_n 0, 1) := by decide +kernel
theorem dX12_appeal_54 : decode cX12_appeal 54 = .ok (.getfield 7, 3) := by decide +kernel
theorem dX12_appeal_57 : decode cX12_appeal 57 = .ok (.sipush 1660, 3) := by decide +kernel
theorem dX12_appeal_60 : decode cX12_appeal 60 = .ok (.iload_n 1, 1) := by decide +kernel
theorem dX12_appeal_61 : decode cX12_appeal 61 = .ok (.iadd, 1) := by decide +kernel
theorem dX12_appeal_62 : decode cX12_appeal 62 = .ok (.iaload, 1) := by decide +kernel
theorem dX12_appeal_63 : decode cX12_appeal 63 = .ok (.isub, 1) := by decide +kernel
theorem dX12_appeal_64 : decode cX12_appeal 64 = .ok (.aload_n 0, 1) := by decide +kernel
theorem dX12_appeal_65 : decode cX12_appeal 65 = .ok (.getfield 7, 3) := by decide +kernel
theorem dX12_appeal_68 : decode cX12_appeal 68 = .ok (.bipush 12, 2) := by decide +kernel
theorem dX12_appeal_70 : decode cX12_appeal 70 = .ok (.iaload, 1) := by decide +kernel
theorem dX12_appeal_71 : decode cX12_appeal 71 = .ok (.if_icmp .gt 7, 3) := by decide +kernel
theorem dX12_appeal_74 : decode cX12_appeal 74 = .ok (.iconst 1, 1) := by decide +kernel
theorem dX12_appeal_75 : decode cX12_appeal 75 = .ok (.goto 4, 3) := by decide +kernel
theorem dX12_appeal_78 : decode cX12_appeal 78 = .ok (.iconst 0, 1) := by decide +kernel
theorem dX12_appeal_79 : decode cX12_appeal 79 = .ok (.istore 4, 2) := by decide +kernel
theorem dX12_appeal_81 : decode cX12_appeal 81 = .ok (.iconst 0, 1) := by decide +kernel
theorem dX12_appeal_82 : decode cX12_appeal 82 = .ok (.istore 5, 2) := by decide +kernel
theorem dX12_appeal_84 : decode cX12_appeal 84 = .ok (.iload 5, 2) := by decide +kernel
theorem dX12_appeal_86 : decode cX12_appeal 86 = .ok (.aload_n 0, 1) := by decide +kernel
theorem dX12_appeal_87 : decode cX12_appeal 87 = .ok (.getfield 7, 3) := by decide +kernel
theorem dX12_appeal_90 : decode cX12_appeal 90 = .ok (.iconst 2, 1) := by decide +kernel
theorem dX12_appeal_91 : decode cX12_appeal 91 = .ok (.iaload, 1) := by decide +kernel
theorem dX12_appeal_92 : decode cX12_appeal 92 = .ok (.if_icmp .ge 67, 3) := by decide +kernel
theorem dX12_appeal_95 : decode cX12_appeal 95 = .ok (.iload 4, 2) := by decide +kernel
theorem dX12_appeal_97 : decode cX12_appeal 97 = .ok (.ifCond .eq 53, 3) := by decide +kernel
theorem dX12_appeal_100 : decode cX12_appeal 100 = .ok (.aload_n 0, 1) := by decide +kernel
theorem dX12_appeal_101 : decode cX12_appeal 101 = .ok (.getfield 7, 3) := by decide +kernel
theorem dX12_appeal_104 : decode cX12_appeal 104 = .ok (.sipush 1310, 3) := by decide +kernel
theorem dX12_appeal_107 : decode cX12_appeal 107 = .ok (.iload 5, 2) := by decide +kernel
theorem dX12_appeal_109 : decode cX12_appeal 109 = .ok (.iadd, 1) := by decide +kernel
theorem dX12_appeal_110 : decode cX12_appeal 110 = .ok (.iaload, 1) := by decide +kernel
theorem dX12_appeal_111 : decode cX12_appeal 111 = .ok (.bipush 7, 2) := by decide +kernel
theorem dX12_appeal_113 : decode cX12_appeal 113 = .ok (.if_icmp .ne 33, 3) := by decide +kernel
theorem dX12_appeal_116 : decode cX12_appeal 116 = .ok (.aload_n 0, 1) := by decide +kernel
theorem dX12_appeal_117 : decode cX12_appeal 117 = .ok (.getfield 7, 3) := by decide +kernel
theorem dX12_appeal_120 : decode cX12_appeal 120 = .ok (.sipush 1610, 3) := by decide +kernel
theorem dX12_appeal_123 : decode cX12_appeal 123 = .ok (.iload 5, 2) := by decide +kernel
theorem dX12_appeal_125 : decode cX12_appeal 125 = .ok (.iadd, 1) := by decide +kernel
theorem dX12_appeal_126 : decode cX12_appeal 126 = .ok (.iaload, 1) := by decide +kernel
theorem dX12_appeal_127 : decode cX12_appeal 127 = .ok (.iload_n 1, 1) := by decide +kernel
theorem dX12_appeal_128 : decode cX12_appeal 128 = .ok (.if_icmp .ne 18, 3) := by decide +kernel
theorem dX12_appeal_131 : decode cX12_appeal 131 = .ok (.aload_n 0, 1) := by decide +kernel
theorem dX12_appeal_132 : decode cX12_appeal 132 = .ok (.getfield 7, 3) := by decide +kernel
theorem dX12_appeal_135 : decode cX12_appeal 135 = .ok (.sipush 1360, 3) := by decide +kernel
theorem dX12_appeal_138 : decode cX12_appeal 138 = .ok (.iload 5, 2) := by decide +kernel
theorem dX12_appeal_140 : decode cX12_appeal 140 = .ok (.iadd, 1) := by decide +kernel
theorem dX12_appeal_141 : decode cX12_appeal 141 = .ok (.iaload, 1) := by decide +kernel
theorem dX12_appeal_142 : decode cX12_appeal 142 = .ok (.iload_n 2, 1) := by decide +kernel
theorem dX12_appeal_143 : decode cX12_appeal 143 = .ok (.if_icmp .eq 7, 3) := by decide +kernel
theorem dX12_appeal_146 : decode cX12_appeal 146 = .ok (.iconst 1, 1) := by decide +kernel
theorem dX12_appeal_147 : decode cX12_appeal 147 = .ok (.goto 4, 3) := by decide +kernel
theorem dX12_appeal_150 : decode cX12_appeal 150 = .ok (.iconst 0, 1) := by decide +kernel
theorem dX12_appeal_151 : decode cX12_appeal 151 = .ok (.istore 4, 2) := by decide +kernel
theorem dX12_appeal_153 : decode cX12_appeal 153 = .ok (.iinc 5 1, 3) := by decide +kernel
theorem dX12_appeal_156 : decode cX12_appeal 156 = .ok (.goto (-72), 3) := by decide +kernel
theorem dX12_appeal_159 : decode cX12_appeal 159 = .ok (.iload 4, 2) := by decide +kernel
theorem dX12_appeal_161 : decode cX12_appeal 161 = .ok (.ifCond .ne 6, 3) := by decide +kernel
theorem dX12_appeal_164 : decode cX12_appeal 164 = .ok (.bipush (-3), 2) := by decide +kernel
theorem dX12_appeal_166 : decode cX12_appeal 166 = .ok (.ireturn, 1) := by decide +kernel
theorem dX12_appeal_167 : decode cX12_appeal 167 = .ok (.aload_n 0, 1) := by decide +kernel
theorem dX12_appeal_168 : decode cX12_appeal 168 = .ok (.getfield 7, 3) := by decide +kernel
theorem dX12_appeal_171 : decode cX12_appeal 171 = .ok (.iconst 2, 1) := by decide +kernel
theorem dX12_appeal_172 : decode cX12_appeal 172 = .ok (.iaload, 1) := by decide +kernel
theorem dX12_appeal_173 : decode cX12_appeal 173 = .ok (.bipush 50, 2) := by decide +kernel
theorem dX12_appeal_175 : decode cX12_appeal 175 = .ok (.if_icmp .ne 6, 3) := by decide +kernel
theorem dX12_appeal_178 : decode cX12_appeal 178 = .ok (.bipush (-4), 2) := by decide +kernel
theorem dX12_appeal_180 : decode cX12_appeal 180 = .ok (.ireturn, 1) := by decide +kernel
theorem dX12_appeal_181 : decode cX12_appeal 181 = .ok (.aload_n 0, 1) := by decide +kernel
theorem dX12_appeal_182 : decode cX12_appeal 182 = .ok (.bipush 7, 2) := by decide +kernel
theorem dX12_appeal_184 : decode cX12_appeal 184 = .ok (.iload_n 2, 1) := by decide +kernel
theorem dX12_appeal_185 : decode cX12_appeal 185 = .ok (.aload_n 0, 1) := by decide +kernel
theorem dX12_appeal_186 : decode cX12_appeal 186 = .ok (.getfield 7, 3) := by decide +kernel
theorem dX12_appeal_189 : decode cX12_appeal 189 = .ok (.sipush 1410, 3) := by decide +kernel
theorem dX12_appeal_192 : decode cX12_appeal 192 = .ok (.iload_n 1, 1) := by decide +kernel
theorem dX12_appeal_193 : decode cX12_appeal 193 = .ok (.iadd, 1) := by decide +kernel
theorem dX12_appeal_194 : decode cX12_appeal 194 = .ok (.iaload, 1) := by decide +kernel
theorem dX12_appeal_195 : decode cX12_appeal 195 = .ok (.aload_n 0, 1) := by decide +kernel
theorem dX12_appeal_196 : decode cX12_appeal 196 = .ok (.getfield 7, 3) := by decide +kernel
theorem dX12_appeal_199 : decode cX12_appeal 199 = .ok (.sipush 1460, 3) := by decide +kernel
theorem dX12_appeal_202 : decode cX12_appeal 202 = .ok (.iload_n 1, 1) := by decide +kernel
theorem dX12_appeal_203 : decode cX12_appeal 203 = .ok (.iadd, 1) := by decide +kernel
theorem dX12_appeal_204 : decode cX12_appeal 204 = .ok (.iaload, 1) := by decide +kernel
theorem dX12_appeal_205 : decode cX12_appeal 205 = .ok (.aload_n 0, 1) := by decide +kernel
theorem dX12_appeal_206 : decode cX12_appeal 206 = .ok (.getfield 7, 3) := by decide +kernel
theorem dX12_appeal_209 : decode cX12_appeal 209 = .ok (.sipush 1510, 3) := by decide +kernel
theorem dX12_appeal_212 : decode cX12_appeal 212 = .ok (.iload_n 1, 1) := by decide +kernel
theorem dX12_appeal_213 : decode cX12_appeal 213 = .ok (.iadd, 1) := by decide +kernel
theorem dX12_appeal_214 : decode cX12_appeal 214 = .ok (.iaload, 1) := by decide +kernel
theorem dX12_appeal_215 : decode cX12_appeal 215 = .ok (.invokevirtual 183, 3) := by decide +kernel
theorem dX12_appeal_218 : decode cX12_appeal 218 = .ok (.istore 5, 2) := by decide +kernel
theorem dX12_appeal_220 : decode cX12_appeal 220 = .ok (.aload_n 0, 1) := by decide +kernel
theorem dX12_appeal_221 : decode cX12_appeal 221 = .ok (.getfield 7, 3) := by decide +kernel
theorem dX12_appeal_224 : decode cX12_appeal 224 = .ok (.sipush 1610, 3) := by decide +kernel
theorem dX12_appeal_227 : decode cX12_appeal 227 = .ok (.iload 5, 2) := by decide +kernel
theorem dX12_appeal_229 : decode cX12_appeal 229 = .ok (.iadd, 1) := by decide +kernel
theorem dX12_appeal_230 : decode cX12_appeal 230 = .ok (.iload_n 1, 1) := by decide +kernel
theorem dX12_appeal_231 : decode cX12_appeal 231 = .ok (.iastore, 1) := by decide +kernel
theorem dX12_appeal_232 : decode cX12_appeal 232 = .ok (.aload_n 0, 1) := by decide +kernel
theorem dX12_appeal_233 : decode cX12_appeal 233 = .ok (.getfield 7, 3) := by decide +kernel
theorem dX12_appeal_236 : decode cX12_appeal 236 = .ok (.sipush 1710, 3) := by decide +kernel
theorem dX12_appeal_239 : decode cX12_appeal 239 = .ok (.iload 5, 2) := by decide +kernel
theorem dX12_appeal_241 : decode cX12_appeal 241 = .ok (.iadd, 1) := by decide +kernel
theorem dX12_appeal_242 : decode cX12_appeal 242 = .ok (.iload_n 3, 1) := by decide +kernel
theorem dX12_appeal_243 : decode cX12_appeal 243 = .ok (.iastore, 1) := by decide +kernel
theorem dX12_appeal_244 : decode cX12_appeal 244 = .ok (.iload 5, 2) := by decide +kernel
theorem dX12_appeal_246 : decode cX12_appeal 246 = .ok (.ireturn, 1) := by decide +kernel
theorem dX12_hears_0 : decode cX12_hears 0 = .ok (.aload_n 0, 1) := by decide +kernel
theorem dX12_hears_1 : decode cX12_hears 1 = .ok (.getfield 7, 3) := by decide +kernel
theorem dX12_hears_4 : decode cX12_hears 4 = .ok (.iconst 0, 1) := by decide +kernel
theorem dX12_hears_5 : decode cX12_hears 5 = .ok (.iaload, 1) := by decide +kernel
theorem dX12_hears_6 : decode cX12_hears 6 = .ok (.aload_n 0, 1) := by decide +kernel
theorem dX12_hears_7 : decode cX12_hears 7 = .ok (.getfield 7, 3) := by decide +kernel
theorem dX12_hears_10 : decode cX12_hears 10 = .ok (.bipush 13, 2) := by decide +kernel
