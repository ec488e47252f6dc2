theorem dX0_init_0 : decode cX0_init 0 = .ok (.aload_n 0, 1) := by decide +kernel
theorem dX0_init_1 : decode cX0_init 1 = .ok (.invokespecial 3, 3) := by decide +kernel
theorem dX0_init_4 : decode cX0_init 4 = .ok (.aload_n 0, 1) := by decide +kernel
theorem dX0_init_5 : decode cX0_init 5 = .ok (.bipush 6, 2) := by decide +kernel
theorem dX0_init_7 : decode cX0_init 7 = .ok (.newarray .int, 2) := by decide +kernel
theorem dX0_init_9 : decode cX0_init 9 = .ok (.putfield 9, 3) := by decide +kernel
theorem dX0_init_12 : decode cX0_init 12 = .ok (.aload_n 0, 1) := by decide +kernel
theorem dX0_init_13 : decode cX0_init 13 = .ok (.bipush 6, 2) := by decide +kernel
theorem dX0_init_15 : decode cX0_init 15 = .ok (.newarray .long, 2) := by decide +kernel
theorem dX0_init_17 : decode cX0_init 17 = .ok (.putfield 15, 3) := by decide +kernel
theorem dX0_init_20 : decode cX0_init 20 = .ok (.aload_n 0, 1) := by decide +kernel
theorem dX0_init_21 : decode cX0_init 21 = .ok (.bipush 6, 2) := by decide +kernel
theorem dX0_init_23 : decode cX0_init 23 = .ok (.newarray .long, 2) := by decide +kernel
theorem dX0_init_25 : decode cX0_init 25 = .ok (.putfield 19, 3) := by decide +kernel
theorem dX0_init_28 : decode cX0_init 28 = .ok (.aload_n 0, 1) := by decide +kernel
theorem dX0_init_29 : decode cX0_init 29 = .ok (.bipush 10, 2) := by decide +kernel
theorem dX0_init_31 : decode cX0_init 31 = .ok (.newarray .int, 2) := by decide +kernel
theorem dX0_init_33 : decode cX0_init 33 = .ok (.putfield 22, 3) := by decide +kernel
theorem dX0_init_36 : decode cX0_init 36 = .ok (.return_, 1) := by decide +kernel
theorem dX0_copyFrom_0 : decode cX0_copyFrom 0 = .ok (.aload_n 1, 1) := by decide +kernel
theorem dX0_copyFrom_1 : decode cX0_copyFrom 1 = .ok (.getfield 9, 3) := by decide +kernel
theorem dX0_copyFrom_4 : decode cX0_copyFrom 4 = .ok (.aload_n 0, 1) := by decide +kernel
theorem dX0_copyFrom_5 : decode cX0_copyFrom 5 = .ok (.getfield 9, 3) := by decide +kernel
theorem dX0_copyFrom_8 : decode cX0_copyFrom 8 = .ok (.invokestatic 25, 3) := by decide +kernel
theorem dX0_copyFrom_11 : decode cX0_copyFrom 11 = .ok (.aload_n 1, 1) := by decide +kernel
theorem dX0_copyFrom_12 : decode cX0_copyFrom 12 = .ok (.getfield 15, 3) := by decide +kernel
theorem dX0_copyFrom_15 : decode cX0_copyFrom 15 = .ok (.aload_n 0, 1) := by decide +kernel
theorem dX0_copyFrom_16 : decode cX0_copyFrom 16 = .ok (.getfield 15, 3) := by decide +kernel
theorem dX0_copyFrom_19 : decode cX0_copyFrom 19 = .ok (.invokestatic 29, 3) := by decide +kernel
theorem dX0_copyFrom_22 : decode cX0_copyFrom 22 = .ok (.aload_n 1, 1) := by decide +kernel
theorem dX0_copyFrom_23 : decode cX0_copyFrom 23 = .ok (.getfield 19, 3) := by decide +kernel
theorem dX0_copyFrom_26 : decode cX0_copyFrom 26 = .ok (.aload_n 0, 1) := by decide +kernel
theorem dX0_copyFrom_27 : decode cX0_copyFrom 27 = .ok (.getfield 19, 3) := by decide +kernel
theorem dX0_copyFrom_30 : decode cX0_copyFrom 30 = .ok (.invokestatic 29, 3) := by decide +kernel
theorem dX0_copyFrom_33 : decode cX0_copyFrom 33 = .ok (.aload_n 0, 1) := by decide +kernel
theorem dX0_copyFrom_34 : decode cX0_copyFrom 34 = .ok (.aload_n 1, 1) := by decide +kernel
theorem dX0_copyFrom_35 : decode cX0_copyFrom 35 = .ok (.getfield 32, 3) := by decide +kernel
theorem dX0_copyFrom_38 : decode cX0_copyFrom 38 = .ok (.putfield 32, 3) := by decide +kernel
theorem dX0_copyFrom_41 : decode cX0_copyFrom 41 = .ok (.aload_n 1, 1) := by decide +kernel
theorem dX0_copyFrom_42 : decode cX0_copyFrom 42 = .ok (.getfield 22, 3) := by decide +kernel
theorem dX0_copyFrom_45 : decode cX0_copyFrom 45 = .ok (.aload_n 0, 1) := by decide +kernel
theorem dX0_copyFrom_46 : decode cX0_copyFrom 46 = .ok (.getfield 22, 3) := by decide +kernel
theorem dX0_copyFrom_49 : decode cX0_copyFrom 49 = .ok (.invokestatic 25, 3) := by decide +kernel
theorem dX0_copyFrom_52 : decode cX0_copyFrom 52 = .ok (.aload_n 0, 1) := by decide +kernel
theorem dX0_copyFrom_53 : decode cX0_copyFrom 53 = .ok (.aload_n 1, 1) := by decide +kernel
theorem dX0_copyFrom_54 : decode cX0_copyFrom 54 = .ok (.getfield 36, 3) := by decide +kernel
theorem dX0_copyFrom_57 : decode cX0_copyFrom 57 = .ok (.putfield 36, 3) := by decide +kernel
theorem dX0_copyFrom_60 : decode cX0_copyFrom 60 = .ok (.return_, 1) := by decide +kernel
theorem dX0_addQuestion_0 : decode cX0_addQuestion 0 = .ok (.aload_n 0, 1) := by decide +kernel
theorem dX0_addQuestion_1 : decode cX0_addQuestion 1 = .ok (.getfield 9, 3) := by decide +kernel
theorem dX0_addQuestion_4 : decode cX0_addQuestion 4 = .ok (.aload_n 0, 1) := by decide +kernel
theorem dX0_addQuestion_5 : decode cX0_addQuestion 5 = .ok (.getfield 32, 3) := by decide +kernel
theorem dX0_addQuestion_8 : decode cX0_addQuestion 8 = .ok (.iload_n 1, 1) := by decide +kernel
theorem dX0_addQuestion_9 : decode cX0_addQuestion 9 = .ok (.iastore, 1) := by decide +kernel
theorem dX0_addQuestion_10 : decode cX0_addQuestion 10 = .ok (.aload_n 0, 1) := by decide +kernel
theorem dX0_addQuestion_11 : decode cX0_addQuestion 11 = .ok (.getfield 15, 3) := by decide +kernel
theorem dX0_addQuestion_14 : decode cX0_addQuestion 14 = .ok (.aload_n 0, 1) := by decide +kernel
theorem dX0_addQuestion_15 : decode cX0_addQuestion 15 = .ok (.getfield 32, 3) := by decide +kernel
theorem dX0_addQuestion_18 : decode cX0_addQuestion 18 = .ok (.lload_n 2, 1) := by decide +kernel
theorem dX0_addQuestion_19 : decode cX0_addQuestion 19 = .ok (.lastore, 1) := by decide +kernel
theorem dX0_addQuestion_20 : decode cX0_addQuestion 20 = .ok (.aload_n 0, 1) := by decide +kernel
theorem dX0_addQuestion_21 : decode cX0_addQuestion 21 = .ok (.getfield 19, 3) := by decide +kernel
theorem dX0_addQuestion_24 : decode cX0_addQuestion 24 = .ok (.aload_n 0, 1) := by decide +kernel
theorem dX0_addQuestion_25 : decode cX0_addQuestion 25 = .ok (.getfield 32, 3) := by decide +kernel
theorem dX0_addQuestion_28 : decode cX0_addQuestion 28 = .ok (.lload 4, 2) := by decide +kernel
theorem dX0_addQuestion_30 : decode cX0_addQuestion 30 = .ok (.lastore, 1) := by decide +kernel
theorem dX0_addQuestion_31 : decode cX0_addQuestion 31 = .ok (.aload_n 0, 1) := by decide +kernel
theorem dX0_addQuestion_32 : decode cX0_addQuestion 32 = .ok (.dup, 1) := by decide +kernel
theorem dX0_addQuestion_33 : decode cX0_addQuestion 33 = .ok (.getfield 32, 3) := by decide +kernel
theorem dX0_addQuestion_36 : decode cX0_addQuestion 36 = .ok (.iconst 1, 1) := by decide +kernel
theorem dX0_addQuestion_37 : decode cX0_addQuestion 37 = .ok (.iadd, 1) := by decide +kernel
theorem dX0_addQuestion_38 : decode cX0_addQuestion 38 = .ok (.putfield 32, 3) := by decide +kernel
theorem dX0_addQuestion_41 : decode cX0_addQuestion 41 = .ok (.aload_n 0, 1) := by decide +kernel
theorem dX0_addQuestion_42 : decode cX0_addQuestion 42 = .ok (.getfield 32, 3) := by decide +kernel
theorem dX0_addQuestion_45 : decode cX0_addQuestion 45 = .ok (.iconst 1, 1) := by decide +kernel
theorem dX0_addQuestion_46 : decode cX0_addQuestion 46 = .ok (.isub, 1) := by decide +kernel
theorem dX0_addQuestion_47 : decode cX0_addQuestion 47 = .ok (.ireturn, 1) := by decide +kernel
theorem dX0_isWanted_0 : decode cX0_isWanted 0 = .ok (.iconst 0, 1) := by decide +kernel
theorem dX0_isWanted_1 : decode cX0_isWanted 1 = .ok (.istore_n 2, 1) := by decide +kernel
theorem dX0_isWanted_2 : decode cX0_isWanted 2 = .ok (.iload_n 2, 1) := by decide +kernel
theorem dX0_isWanted_3 : decode cX0_isWanted 3 = .ok (.aload_n 0, 1) := by decide +kernel
theorem dX0_isWanted_4 : decode cX0_isWanted 4 = .ok (.getfield 36, 3) := by decide +kernel
theorem dX0_isWanted_7 : decode cX0_isWanted 7 = .ok (.if_icmp .ge 21, 3) := by decide +kernel
theorem dX0_isWanted_10 : decode cX0_isWanted 10 = .ok (.aload_n 0, 1) := by decide +kernel
theorem dX0_isWanted_11 : decode cX0_isWanted 11 = .ok (.getfield 22, 3) := by decide +kernel
theorem dX0_isWanted_14 : decode cX0_isWanted 14 = .ok (.iload_n 2, 1) := by decide +kernel
theorem dX0_isWanted_15 : decode cX0_isWanted 15 = .ok (.iaload, 1) := by decide +kernel
theorem dX0_isWanted_16 : decode cX0_isWanted 16 = .ok (.iload_n 1, 1) := by decide +kernel
theorem dX0_isWanted_17 : decode cX0_isWanted 17 = .ok (.if_icmp .ne 5, 3) := by decide +kernel
theorem dX0_isWanted_20 : decode cX0_isWanted 20 = .ok (.iconst 1, 1) := by decide +kernel
theorem dX0_isWanted_21 : decode cX0_isWanted 21 = .ok (.ireturn, 1) := by decide +kernel
theorem dX0_isWanted_22 : decode cX0_isWanted 22 = .ok (.iinc 2 1, 3) := by decide +kernel
theorem dX0_isWanted_25 : decode cX0_isWanted 25 = .ok (.goto (-23), 3) := by decide +kernel
theorem dX0_isWanted_28 : decode cX0_isWanted 28 = .ok (.iconst 0, 1) := by decide +kernel
theorem dX0_isWanted_29 : decode cX0_isWanted 29 = .ok (.ireturn, 1) := by decide +kernel
theorem dX0_addWanted_0 : decode cX0_addWanted 0 = .ok (.aload_n 0, 1) := by decide +kernel
theorem dX0_addWanted_1 : decode cX0_addWanted 1 = .ok (.getfield 22, 3) := by decide +kernel
theorem dX0_addWanted_4 : decode cX0_addWanted 4 = .ok (.aload_n 0, 1) := by decide +kernel
theorem dX0_addWanted_5 : decode cX0_addWanted 5 = .ok (.getfield 36, 3) := by decide +kernel
theorem dX0_addWanted_8 : decode cX0_addWanted 8 = .ok (.iload_n 1, 1) := by decide +kernel
theorem dX0_addWanted_9 : decode cX0_addWanted 9 = .ok (.iastore, 1) := by decide +kernel
theorem dX0_addWanted_10 : decode cX0_addWanted 10 = .ok (.aload_n 0, 1) := by decide +kernel
theorem dX0_addWanted_11 : decode cX0_addWanted 11 = .ok (.dup, 1) := by decide +kernel
theorem dX0_addWanted_12 : decode cX0_addWanted 12 = .ok (.getfield 36, 3) := by decide +kernel
theorem dX0_addWanted_15 : decode cX0_addWanted 15 = .ok (.iconst 1, 1) := by decide +kernel
theorem dX0_addWanted_16 : decode cX0_addWanted 16 = .ok (.iadd, 1) := by decide +kernel
theorem dX0_addWanted_17 : decode cX0_addWanted 17 = .ok (.putfield 36, 3) := by decide +kernel
theorem dX0_addWanted_20 : decode cX0_addWanted 20 = .ok (.aload_n 0, 1) := by decide +kernel
theorem dX0_addWanted_21 : decode cX0_addWanted 21 = .ok (.getfield 36, 3) := by decide +kernel
theorem dX0_addWanted_24 : decode cX0_addWanted 24 = .ok (.ireturn, 1) := by decide +kernel
theorem dX0_allAnswers_0 : decode cX0_allAnswers 0 = .ok (.iconst 1, 1) := by decide +kernel
theorem dX0_allAnswers_1 : decode cX0_allAnswers 1 = .ok (.aload_n 0, 1) := by decide +kernel
theorem dX0_allAnswers_2 : decode cX0_allAnswers 2 = .ok (.getfield 32, 3) := by decide +kernel
theorem dX0_allAnswers_5 : decode cX0_allAnswers 5 = .ok (.ishl, 1) := by decide +kernel
theorem dX0_allAnswers_6 : decode cX0_allAnswers 6 = .ok (.iconst 1, 1) := by decide +kernel
theorem dX0_allAnswers_7 : decode cX0_allAnswers 7 = .ok (.isub, 1) := by decide +kernel
theorem dX0_allAnswers_8 : decode cX0_allAnswers 8 = .ok (.ireturn, 1) := by decide +kernel
theorem dX0_questionAbout_0 : decode cX0_questionAbout 0 = .ok (.aload_n 0, 1) := by decide +kernel
theorem dX0_questionAbout_1 : decode cX0_questionAbout 1 = .ok (.getfield 32, 3) := by decide +kernel
theorem dX0_questionAbout_4 : decode cX0_questionAbout 4 = .ok (.iconst 1, 1) := by decide +kernel
theorem dX0_questionAbout_5 : decode cX0_questionAbout 5 = .ok (.isub, 1) := by decide +kernel
theorem dX0_questionAbout_6 : decode cX0_questionAbout 6 = .ok (.istore_n 2, 1) := by decide +kernel
theorem dX0_questionAbout_7 : decode cX0_questionAbout 7 = .ok (.iload_n 2, 1) := by decide +kernel
theorem dX0_questionAbout_8 : decode cX0_questionAbout 8 = .ok (.ifCond .lt 21, 3) := by decide +kernel
theorem dX0_questionAbout_11 : decode cX0_questionAbout 11 = .ok (.aload_n 0, 1) := by decide +kernel
theorem dX0_questionAbout_12 : decode cX0_questionAbout 12 = .ok (.getfield 9, 3) := by decide +kernel
theorem dX0_questionAbout_15 : decode cX0_questionAbout 15 = .ok (.iload_n 2, 1) := by decide +kernel
theorem dX0_questionAbout_16 : decode cX0_questionAbout 16 = .ok (.iaload, 1) := by decide +kernel
theorem dX0_questionAbout_17 : decode cX0_questionAbout 17 = .ok (.iload_n 1, 1) := by decide +kernel
theorem dX0_questionAbout_18 : decode cX0_questionAbout 18 = .ok (.if_icmp .ne 5, 3) := by decide +kernel
theorem dX0_questionAbout_21 : decode cX0_questionAbout 21 = .ok (.iload_n 2, 1) := by decide +kernel
theorem dX0_questionAbout_22 : decode cX0_questionAbout 22 = .ok (.ireturn, 1) := by decide +kernel
theorem dX0_questionAbout_23 : decode cX0_questionAbout 23 = .ok (.iinc 2 (-1), 3) := by decide +kernel
theorem dX0_questionAbout_26 : decode cX0_questionAbout 26 = .ok (.goto (-19), 3) := by decide +kernel
theorem dX0_questionAbout_29 : decode cX0_questionAbout 29 = .ok (.iconst (-1), 1) := by decide +kernel
theorem dX0_questionAbout_30 : decode cX0_questionAbout 30 = .ok (.ireturn, 1) := by decide +kernel
theorem dX0_namedBy_0 : decode cX0_namedBy 0 = .ok (.lconst 0, 1) := by decide +kernel
theorem dX0_namedBy_1 : decode cX0_namedBy 1 = .ok (.lstore_n 2, 1) := by decide +kernel
theorem dX0_namedBy_2 : decode cX0_namedBy 2 = .ok (.iconst 0, 1) := by decide +kernel
theorem dX0_namedBy_3 : decode cX0_namedBy 3 = .ok (.istore 4, 2) := by decide +kernel
theorem dX0_namedBy_5 : decode cX0_namedBy 5 = .ok (.iload 4, 2) := by decide +kernel
theorem dX0_namedBy_7 : decode cX0_namedBy 7 = .ok (.aload_n 0, 1) := by decide +kernel
theorem dX0_namedBy_8 : decode cX0_namedBy 8 = .ok (.getfield 32, 3) := by decide +kernel
theorem dX0_namedBy_11 : decode cX0_namedBy 11 = .ok (.if_icmp .ge 38, 3) := by decide +kernel
theorem dX0_namedBy_14 : decode cX0_namedBy 14 = .ok (.lload_n 2, 1) := by decide +kernel
theorem dX0_namedBy_15 : decode cX0_namedBy 15 = .ok (.iload_n 1, 1) := by decide +kernel
theorem dX0_namedBy_16 : decode cX0_namedBy 16 = .ok (.iload 4, 2) := by decide +kernel
theorem dX0_namedBy_18 : decode cX0_namedBy 18 = .ok (.ishr, 1) := by decide +kernel
theorem dX0_namedBy_19 : decode cX0_namedBy 19 = .ok (.iconst 1, 1) := by decide +kernel
theorem dX0_namedBy_20 : decode cX0_namedBy 20 = .ok (.iand, 1) := by decide +kernel
theorem dX0_namedBy_21 : decode cX0_namedBy 21 = .ok (.ifCond .eq 13, 3) := by decide +kernel
theorem dX0_namedBy_24 : decode cX0_namedBy 24 = .ok (.aload_n 0, 1) := by decide +kernel
theorem dX0_namedBy_25 : decode cX0_namedBy 25 = .ok (.getfield 15, 3) := by decide +kernel
theorem dX0_namedBy_28 : decode cX0_namedBy 28 = .ok (.iload 4, 2) := by decide +kernel
theorem dX0_namedBy_30 : decode cX0_namedBy 30 = .ok (.laload, 1) := by decide +kernel
theorem dX0_namedBy_31 : decode cX0_namedBy 31 = .ok (.goto 10, 3) := by decide +kernel
theorem dX0_namedBy_34 : decode cX0_namedBy 34 = .ok (.aload_n 0, 1) := by decide +kernel
theorem dX0_namedBy_35 : decode cX0_namedBy 35 = .ok (.getfield 19, 3) := by decide +kernel
theorem dX0_namedBy_38 : decode cX0_namedBy 38 = .ok (.iload 4, 2) := by decide +kernel
theorem dX0_namedBy_40 : decode cX0_namedBy 40 = .ok (.laload, 1) := by decide +kernel
theorem dX0_namedBy_41 : decode cX0_namedBy 41 = .ok (.lor, 1) := by decide +kernel
theorem dX0_namedBy_42 : decode cX0_namedBy 42 = .ok (.lstore_n 2, 1) := by decide +kernel
theorem dX0_namedBy_43 : decode cX0_namedBy 43 = .ok (.iinc 4 1, 3) := by decide +kernel
theorem dX0_namedBy_46 : decode cX0_namedBy 46 = .ok (.goto (-41), 3) := by decide +kernel
theorem dX0_namedBy_49 : decode cX0_namedBy 49 = .ok (.lload_n 2, 1) := by decide +kernel
theorem dX0_namedBy_50 : decode cX0_namedBy 50 = .ok (.lreturn, 1) := by decide +kernel
theorem dX1_init_0 : decode cX1_init 0 = .ok (.aload_n 0, 1) := by decide +kernel
theorem dX1_init_1 : decode cX1_init 1 = .ok (.invokespecial 1, 3) := by decide +kernel
theorem dX1_init_4 : decode cX1_init 4 = .ok (.aload_n 0, 1) := by decide +kernel
theorem dX1_init_5 : decode cX1_init 5 = .ok (.new 7, 3) := by decide +kernel
theorem dX1_init_8 : decode cX1_init 8 = .ok (.dup, 1) := by decide +kernel
theorem dX1_init_9 : decode cX1_init 9 = .ok (.invokespecial 9, 3) := by decide +kernel
theorem dX1_init_12 : decode cX1_init 12 = .ok (.putfield 10, 3) := by decide +kernel
theorem dX1_init_15 : decode cX1_init 15 = .ok (.aload_n 0, 1) := by decide +kernel
theorem dX1_init_16 : decode cX1_init 16 = .ok (.new 16, 3) := by decide +kernel
theorem dX1_init_19 : decode cX1_init 19 = .ok (.dup, 1) := by decide +kernel
theorem dX1_init_20 : decode cX1_init 20 = .ok (.invokespecial 18, 3) := by decide +kernel
theorem dX1_init_23 : decode cX1_init 23 = .ok (.putfield 19, 3) := by decide +kernel
theorem dX1_init_26 : decode cX1_init 26 = .ok (.aload_n 0, 1) := by decide +kernel
theorem dX1_init_27 : decode cX1_init 27 = .ok (.new 23, 3) := by decide +kernel
theorem dX1_init_30 : decode cX1_init 30 = .ok (.dup, 1) := by decide +kernel
theorem dX1_init_31 : decode cX1_init 31 = .ok (.invokespecial 25, 3) := by decide +kernel
theorem dX1_init_34 : decode cX1_init 34 = .ok (.putfield 26, 3) := by decide +kernel
theorem dX1_init_37 : decode cX1_init 37 = .ok (.aload_n 0, 1) := by decide +kernel
theorem dX1_init_38 : decode cX1_init 38 = .ok (.new 30, 3) := by decide +kernel
theorem dX1_init_41 : decode cX1_init 41 = .ok (.dup, 1) := by decide +kernel
theorem dX1_init_42 : decode cX1_init 42 = .ok (.invokespecial 32, 3) := by decide +kernel
theorem dX1_init_45 : decode cX1_init 45 = .ok (.putfield 33, 3) := by decide +kernel
theorem dX1_init_48 : decode cX1_init 48 = .ok (.aload_n 0, 1) := by decide +kernel
theorem dX1_init_49 : decode cX1_init 49 = .ok (.new 37, 3) := by decide +kernel
theorem dX1_init_52 : decode cX1_init 52 = .ok (.dup, 1) := by decide +kernel
theorem dX1_init_53 : decode cX1_init 53 = .ok (.invokespecial 39, 3) := by decide +kernel
theorem dX1_init_56 : decode cX1_init 56 = .ok (.putfield 40, 3) := by decide +kernel
theorem dX1_init_59 : decode cX1_init 59 = .ok (.aload_n 0, 1) := by decide +kernel
theorem dX1_init_60 : decode cX1_init 60 = .ok (.new 44, 3) := by decide +kernel
theorem dX1_init_63 : decode cX1_init 63 = .ok (.dup, 1) := by decide +kernel
theorem dX1_init_64 : decode cX1_init 64 = .ok (.invokespecial 46, 3) := by decide +kernel
theorem dX1_init_67 : decode cX1_init 67 = .ok (.putfield 47, 3) := by decide +kernel
theorem dX1_init_70 : decode cX1_init 70 = .ok (.return_, 1) := by decide +kernel
theorem dX1_copyFrom_0 : decode cX1_copyFrom 0 = .ok (.aload_n 0, 1) := by decide +kernel
theorem dX1_copyFrom_1 : decode cX1_copyFrom 1 = .ok (.getfield 10, 3) := by decide +kernel
theorem dX1_copyFrom_4 : decode cX1_copyFrom 4 = .ok (.aload_n 1, 1) := by decide +kernel
theorem dX1_copyFrom_5 : decode cX1_copyFrom 5 = .ok (.getfield 10, 3) := by decide +kernel
theorem dX1_copyFrom_8 : decode cX1_copyFrom 8 = .ok (.invokevirtual 51, 3) := by decide +kernel
theorem dX1_copyFrom_11 : decode cX1_copyFrom 11 = .ok (.aload_n 0, 1) := by decide +kernel
theorem dX1_copyFrom_12 : decode cX1_copyFrom 12 = .ok (.getfield 19, 3) := by decide +kernel
theorem dX1_copyFrom_15 : decode cX1_copyFrom 15 = .ok (.aload_n 1, 1) := by decide +kernel
theorem dX1_copyFrom_16 : decode cX1_copyFrom 16 = .ok (.getfield 19, 3) := by decide +kernel
theorem dX1_copyFrom_19 : decode cX1_copyFrom 19 = .ok (.invokevirtual 55, 3) := by decide +kernel
theorem dX1_copyFrom_22 : decode cX1_copyFrom 22 = .ok (.aload_n 0, 1) := by decide +kernel
theorem dX1_copyFrom_23 : decode cX1_copyFrom 23 = .ok (.getfield 26, 3) := by decide +kernel
theorem dX1_copyFrom_26 : decode cX1_copyFrom 26 = .ok (.aload_n 1, 1) := by decide +kernel
theorem dX1_copyFrom_27 : decode cX1_copyFrom 27 = .ok (.getfield 26, 3) := by decide +kernel
theorem dX1_copyFrom_30 : decode cX1_copyFrom 30 = .ok (.invokevirtual 58, 3) := by decide +kernel
theorem dX1_copyFrom_33 : decode cX1_copyFrom 33 = .ok (.aload_n 0, 1) := by decide +kernel
theorem dX1_copyFrom_34 : decode cX1_copyFrom 34 = .ok (.getfield 33, 3) := by decide +kernel
theorem dX1_copyFrom_37 : decode cX1_copyFrom 37 = .ok (.aload_n 1, 1) := by decide +kernel
theorem dX1_copyFrom_38 : decode cX1_copyFrom 38 = .ok (.getfield 33, 3) := by decide +kernel
theorem dX1_copyFrom_41 : decode cX1_copyFrom 41 = .ok (.invokevirtual 61, 3) := by decide +kernel
theorem dX1_copyFrom_44 : decode cX1_copyFrom 44 = .ok (.aload_n 0, 1) := by decide +kernel
theorem dX1_copyFrom_45 : decode cX1_copyFrom 45 = .ok (.getfield 40, 3) := by decide +kernel
theorem dX1_copyFrom_48 : decode cX1_copyFrom 48 = .ok (.aload_n 1, 1) := by decide +kernel
theorem dX1_copyFrom_49 : decode cX1_copyFrom 49 = .ok (.getfield 40, 3) := by decide +kernel
theorem dX1_copyFrom_52 : decode cX1_copyFrom 52 = .ok (.invokevirtual 64, 3) := by decide +kernel
theorem dX1_copyFrom_55 : decode cX1_copyFrom 55 = .ok (.aload_n 0, 1) := by decide +kernel
theorem dX1_copyFrom_56 : decode cX1_copyFrom 56 = .ok (.getfield 47, 3) := by decide +kernel
theorem dX1_copyFrom_59 : decode cX1_copyFrom 59 = .ok (.aload_n 1, 1) := by decide +kernel
theorem dX1_copyFrom_60 : decode cX1_copyFrom 60 = .ok (.getfield 47, 3) := by decide +kernel
theorem dX1_copyFrom_63 : decode cX1_copyFrom 63 = .ok (.invokevirtual 67, 3) := by decide +kernel
theorem dX1_copyFrom_66 : decode cX1_copyFrom 66 = .ok (.return_, 1) := by decide +kernel
theorem dX2_init_0 : decode cX2_init 0 = .ok (.aload_n 0, 1) := by decide +kernel
theorem dX2_init_1 : decode cX2_init 1 = .ok (.invokespecial 3, 3) := by decide +kernel
theorem dX2_init_4 : decode cX2_init 4 = .ok (.aload_n 0, 1) := by decide +kernel
theorem dX2_init_5 : decode cX2_init 5 = .ok (.bipush 50, 2) := by decide +kernel
theorem dX2_init_7 : decode cX2_init 7 = .ok (.anewarray 9, 3) := by decide +kernel
theorem dX2_init_10 : decode cX2_init 10 = .ok (.putfield 11, 3) := by decide +kernel
theorem dX2_init_13 : decode cX2_init 13 = .ok (.aload_n 0, 1) := by decide +kernel
theorem dX2_init_14 : decode cX2_init 14 = .ok (.bipush 50, 2) := by decide +kernel
theorem dX2_init_16 : decode cX2_init 16 = .ok (.newarray .long, 2) := by decide +kernel
theorem dX2_init_18 : decode cX2_init 18 = .ok (.putfield 17, 3) := by decide +kernel
theorem dX2_init_21 : decode cX2_init 21 = .ok (.aload_n 0, 1) := by decide +kernel
theorem dX2_init_22 : decode cX2_init 22 = .ok (.bipush 50, 2) := by decide +kernel
theorem dX2_init_24 : decode cX2_init 24 = .ok (.newarray .int, 2) := by decide +kernel
theorem dX2_init_26 : decode cX2_init 26 = .ok (.putfield 21, 3) := by decide +kernel
theorem dX2_init_29 : decode cX2_init 29 = .ok (.aload_n 0, 1) := by decide +kernel
theorem dX2_init_30 : decode cX2_init 30 = .ok (.bipush 30, 2) := by decide +kernel
theorem dX2_init_32 : decode cX2_init 32 = .ok (.putfield 25, 3) := by decide +kernel
theorem dX2_init_35 : decode cX2_init 35 = .ok (.aload_n 0, 1) := by decide +kernel
theorem dX2_init_36 : decode cX2_init 36 = .ok (.bipush 7, 2) := by decide +kernel
theorem dX2_init_38 : decode cX2_init 38 = .ok (.putfield 29, 3) := by decide +kernel
theorem dX2_init_41 : decode cX2_init 41 = .ok (.return_, 1) := by decide +kernel
theorem dX2_copyFrom_0 : decode cX2_copyFrom 0 = .ok (.aload_n 1, 1) := by decide +kernel
theorem dX2_copyFrom_1 : decode cX2_copyFrom 1 = .ok (.getfield 11, 3) := by decide +kernel
theorem dX2_copyFrom_4 : decode cX2_copyFrom 4 = .ok (.iconst 0, 1) := by decide +kernel
theorem dX2_copyFrom_5 : decode cX2_copyFrom 5 = .ok (.aload_n 0, 1) := by decide +kernel
theorem dX2_copyFrom_6 : decode cX2_copyFrom 6 = .ok (.getfield 11, 3) := by decide +kernel
theorem dX2_copyFrom_9 : decode cX2_copyFrom 9 = .ok (.iconst 0, 1) := by decide +kernel
theorem dX2_copyFrom_10 : decode cX2_copyFrom 10 = .ok (.bipush 50, 2) := by decide +kernel
theorem dX2_copyFrom_12 : decode cX2_copyFrom 12 = .ok (.invokestatic 32, 3) := by decide +kernel
theorem dX2_copyFrom_15 : decode cX2_copyFrom 15 = .ok (.aload_n 0, 1) := by decide +kernel
theorem dX2_copyFrom_16 : decode cX2_copyFrom 16 = .ok (.aload_n 1, 1) := by decide +kernel
theorem dX2_copyFrom_17 : decode cX2_copyFrom 17 = .ok (.getfield 38, 3) := by decide +kernel
theorem dX2_copyFrom_20 : decode cX2_copyFrom 20 = .ok (.putfield 38, 3) := by decide +kernel
theorem dX2_copyFrom_23 : decode cX2_copyFrom 23 = .ok (.aload_n 1, 1) := by decide +kernel
theorem dX2_copyFrom_24 : decode cX2_copyFrom 24 = .ok (.getfield 17, 3) := by decide +kernel
theorem dX2_copyFrom_27 : decode cX2_copyFrom 27 = .ok (.aload_n 0, 1) := by decide +kernel
theorem dX2_copyFrom_28 : decode cX2_copyFrom 28 = .ok (.getfield 17, 3) := by decide +kernel
theorem dX2_copyFrom_31 : decode cX2_copyFrom 31 = .ok (.invokestatic 41, 3) := by decide +kernel
theorem dX2_copyFrom_34 : decode cX2_copyFrom 34 = .ok (.aload_n 1, 1) := by decide +kernel
theorem dX2_copyFrom_35 : decode cX2_copyFrom 35 = .ok (.getfield 21, 3) := by decide +kernel
theorem dX2_copyFrom_38 : decode cX2_copyFrom 38 = .ok (.aload_n 0, 1) := by decide +kernel
theorem dX2_copyFrom_39 : decode cX2_copyFrom 39 = .ok (.getfield 21, 3) := by decide +kernel
theorem dX2_copyFrom_42 : decode cX2_copyFrom 42 = .ok (.invokestatic 45, 3) := by decide +kernel
theorem dX2_copyFrom_45 : decode cX2_copyFrom 45 = .ok (.aload_n 0, 1) := by decide +kernel
theorem dX2_copyFrom_46 : decode cX2_copyFrom 46 = .ok (.aload_n 1, 1) := by decide +kernel
theorem dX2_copyFrom_47 : decode cX2_copyFrom 47 = .ok (.getfield 48, 3) := by decide +kernel
theorem dX2_copyFrom_50 : decode cX2_copyFrom 50 = .ok (.putfield 48, 3) := by decide +kernel
theorem dX2_copyFrom_53 : decode cX2_copyFrom 53 = .ok (.aload_n 0, 1) := by decide +kernel
theorem dX2_copyFrom_54 : decode cX2_copyFrom 54 = .ok (.aload_n 1, 1) := by decide +kernel
theorem dX2_copyFrom_55 : decode cX2_copyFrom 55 = .ok (.getfield 25, 3) := by decide +kernel
theorem dX2_copyFrom_58 : decode cX2_copyFrom 58 = .ok (.putfield 25, 3) := by decide +kernel
theorem dX2_copyFrom_61 : decode cX2_copyFrom 61 = .ok (.aload_n 0, 1) := by decide +kernel
theorem dX2_copyFrom_62 : decode cX2_copyFrom 62 = .ok (.aload_n 1, 1) := by decide +kernel
theorem dX2_copyFrom_63 : decode cX2_copyFrom 63 = .ok (.getfield 29, 3) := by decide +kernel
theorem dX2_copyFrom_66 : decode cX2_copyFrom 66 = .ok (.putfield 29, 3) := by decide +kernel
theorem dX2_copyFrom_69 : decode cX2_copyFrom 69 = .ok (.return_, 1) := by decide +kernel
theorem dX2_isFull_0 : decode cX2_isFull 0 = .ok (.aload_n 0, 1) := by decide +kernel
theorem dX2_isFull_1 : decode cX2_isFull 1 = .ok (.getfield 38, 3) := by decide +kernel
theorem dX2_isFull_4 : decode cX2_isFull 4 = .ok (.bipush 50, 2) := by decide +kernel
theorem dX2_isFull_6 : decode cX2_isFull 6 = .ok (.if_icmp .lt 7, 3) := by decide +kernel
theorem dX2_isFull_9 : decode cX2_isFull 9 = .ok (.iconst 1, 1) := by decide +kernel
theorem dX2_isFull_10 : decode cX2_isFull 10 = .ok (.goto 4, 3) := by decide +kernel
theorem dX2_isFull_13 : decode cX2_isFull 13 = .ok (.iconst 0, 1) := by decide +kernel
theorem dX2_isFull_14 : decode cX2_isFull 14 = .ok (.ireturn, 1) := by decide +kernel
theorem dX2_grant_0 : decode cX2_grant 0 = .ok (.aload_n 0, 1) := by decide +kernel
theorem dX2_grant_1 : decode cX2_grant 1 = .ok (.getfield 38, 3) := by decide +kernel
theorem dX2_grant_4 : decode cX2_grant 4 = .ok (.bipush 50, 2) := by decide +kernel
theorem dX2_grant_6 : decode cX2_grant 6 = .ok (.if_icmp .lt 6, 3) := by decide +kernel
theorem dX2_grant_9 : decode cX2_grant 9 = .ok (.bipush (-4), 2) := by decide +kernel
theorem dX2_grant_11 : decode cX2_grant 11 = .ok (.ireturn, 1) := by decide +kernel
theorem dX2_grant_12 : decode cX2_grant 12 = .ok (.aload_n 0, 1) := by decide +kernel
theorem dX2_grant_13 : decode cX2_grant 13 = .ok (.getfield 11, 3) := by decide +kernel
theorem dX2_grant_16 : decode cX2_grant 16 = .ok (.aload_n 0, 1) := by decide +kernel
theorem dX2_grant_17 : decode cX2_grant 17 = .ok (.getfield 38, 3) := by decide +kernel
theorem dX2_grant_20 : decode cX2_grant 20 = .ok (.aload_n 1, 1) := by decide +kernel
theorem dX2_grant_21 : decode cX2_grant 21 = .ok (.aastore, 1) := by decide +kernel
theorem dX2_grant_22 : decode cX2_grant 22 = .ok (.aload_n 0, 1) := by decide +kernel
theorem dX2_grant_23 : decode cX2_grant 23 = .ok (.getfield 17, 3) := by decide +kernel
theorem dX2_grant_26 : decode cX2_grant 26 = .ok (.aload_n 0, 1) := by decide +kernel
theorem dX2_grant_27 : decode cX2_grant 27 = .ok (.getfield 38, 3) := by decide +kernel
theorem dX2_grant_30 : decode cX2_grant 30 = .ok (.lconst 0, 1) := by decide +kernel
theorem dX2_grant_31 : decode cX2_grant 31 = .ok (.lastore, 1) := by decide +kernel
theorem dX2_grant_32 : decode cX2_grant 32 = .ok (.aload_n 0, 1) := by decide +kernel
theorem dX2_grant_33 : decode cX2_grant 33 = .ok (.getfield 21, 3) := by decide +kernel
theorem dX2_grant_36 : decode cX2_grant 36 = .ok (.aload_n 0, 1) := by decide +kernel
theorem dX2_grant_37 : decode cX2_grant 37 = .ok (.getfield 38, 3) := by decide +kernel
theorem dX2_grant_40 : decode cX2_grant 40 = .ok (.bipush (-5), 2) := by decide +kernel
theorem dX2_grant_42 : decode cX2_grant 42 = .ok (.iastore, 1) := by decide +kernel
theorem dX2_grant_43 : decode cX2_grant 43 = .ok (.aload_n 0, 1) := by decide +kernel
theorem dX2_grant_44 : decode cX2_grant 44 = .ok (.dup, 1) := by decide +kernel
theorem dX2_grant_45 : decode cX2_grant 45 = .ok (.getfield 38, 3) := by decide +kernel
theorem dX2_grant_48 : decode cX2_grant 48 = .ok (.iconst 1, 1) := by decide +kernel
theorem dX2_grant_49 : decode cX2_grant 49 = .ok (.iadd, 1) := by decide +kernel
theorem dX2_grant_50 : decode cX2_grant 50 = .ok (.putfield 38, 3) := by decide +kernel
theorem dX2_grant_53 : decode cX2_grant 53 = .ok (.aload_n 0, 1) := by decide +kernel
theorem dX2_grant_54 : decode cX2_grant 54 = .ok (.getfield 38, 3) := by decide +kernel
theorem dX2_grant_57 : decode cX2_grant 57 = .ok (.iconst 1, 1) := by decide +kernel
theorem dX2_grant_58 : decode cX2_grant 58 = .ok (.isub, 1) := by decide +kernel
theorem dX2_grant_59 : decode cX2_grant 59 = .ok (.ireturn, 1) := by decide +kernel
theorem dX2_find_0 : decode cX2_find 0 = .ok (.iload_n 1, 1) := by decide +kernel
theorem dX2_find_1 : decode cX2_find 1 = .ok (.ifCond .lt 20, 3) := by decide +kernel
theorem dX2_find_4 : decode cX2_find 4 = .ok (.iload_n 1, 1) := by decide +kernel
theorem dX2_find_5 : decode cX2_find 5 = .ok (.aload_n 0, 1) := by decide +kernel
theorem dX2_find_6 : decode cX2_find 6 = .ok (.getfield 38, 3) := by decide +kernel
theorem dX2_find_9 : decode cX2_find 9 = .ok (.if_icmp .ge 12, 3) := by decide +kernel
theorem dX2_find_12 : decode cX2_find 12 = .ok (.aload_n 0, 1) := by decide +kernel
theorem dX2_find_13 : decode cX2_find 13 = .ok (.getfield 11, 3) := by decide +kernel
theorem dX2_find_16 : decode cX2_find 16 = .ok (.iload_n 1, 1) := by decide +kernel
theorem dX2_find_17 : decode cX2_find 17 = .ok (.aaload, 1) := by decide +kernel
theorem dX2_find_18 : decode cX2_find 18 = .ok (.goto 4, 3) := by decide +kernel
theorem dX2_find_21 : decode cX2_find 21 = .ok (.aconst_null, 1) := by decide +kernel
theorem dX2_find_22 : decode cX2_find 22 = .ok (.areturn, 1) := by decide +kernel
theorem dX2_isRuling_0 : decode cX2_isRuling 0 = .ok (.aload_n 0, 1) := by decide +kernel
theorem dX2_isRuling_1 : decode cX2_isRuling 1 = .ok (.iload_n 1, 1) := by decide +kernel
theorem dX2_isRuling_2 : decode cX2_isRuling 2 = .ok (.invokevirtual 52, 3) := by decide +kernel
theorem dX2_isRuling_5 : decode cX2_isRuling 5 = .ok (.astore_n 2, 1) := by decide +kernel
theorem dX2_isRuling_6 : decode cX2_isRuling 6 = .ok (.aload_n 2, 1) := by decide +kernel
theorem dX2_isRuling_7 : decode cX2_isRuling 7 = .ok (.ifnull 16, 3) := by decide +kernel
theorem dX2_isRuling_10 : decode cX2_isRuling 10 = .ok (.aload_n 2, 1) := by decide +kernel
theorem dX2_isRuling_11 : decode cX2_isRuling 11 = .ok (.getfield 56, 3) := by decide +kernel
theorem dX2_isRuling_14 : decode cX2_isRuling 14 = .ok (.bipush 6, 2) := by decide +kernel
theorem dX2_isRuling_16 : decode cX2_isRuling 16 = .ok (.if_icmp .ne 7, 3) := by decide +kernel
theorem dX2_isRuling_19 : decode cX2_isRuling 19 = .ok (.iconst 1, 1) := by decide +kernel
theorem dX2_isRuling_20 : decode cX2_isRuling 20 = .ok (.goto 4, 3) := by decide +kernel
theorem dX2_isRuling_23 : decode cX2_isRuling 23 = .ok (.iconst 0, 1) := by decide +kernel
theorem dX2_isRuling_24 : decode cX2_isRuling 24 = .ok (.ireturn, 1) := by decide +kernel
theorem dX2_letsByRuling_0 : decode cX2_letsByRuling 0 = .ok (.aload_n 0, 1) := by decide +kernel
theorem dX2_letsByRuling_1 : decode cX2_letsByRuling 1 = .ok (.iload_n 1, 1) := by decide +kernel
theorem dX2_letsByRuling_2 : decode cX2_letsByRuling 2 = .ok (.invokevirtual 52, 3) := by decide +kernel
theorem dX2_letsByRuling_5 : decode cX2_letsByRuling 5 = .ok (.astore_n 2, 1) := by decide +kernel
theorem dX2_letsByRuling_6 : decode cX2_letsByRuling 6 = .ok (.aload_n 2, 1) := by decide +kernel
theorem dX2_letsByRuling_7 : decode cX2_letsByRuling 7 = .ok (.ifnull 16, 3) := by decide +kernel
theorem dX2_letsByRuling_10 : decode cX2_letsByRuling 10 = .ok (.aload_n 2, 1) := by decide +kernel
theorem dX2_letsByRuling_11 : decode cX2_letsByRuling 11 = .ok (.getfield 59, 3) := by decide +kernel
theorem dX2_letsByRuling_14 : decode cX2_letsByRuling 14 = .ok (.bipush 10, 2) := by decide +kernel
theorem dX2_letsByRuling_16 : decode cX2_letsByRuling 16 = .ok (.if_icmp .ne 7, 3) := by decide +kernel
theorem dX2_letsByRuling_19 : decode cX2_letsByRuling 19 = .ok (.iconst 1, 1) := by decide +kernel
theorem dX2_letsByRuling_20 : decode cX2_letsByRuling 20 = .ok (.goto 4, 3) := by decide +kernel
theorem dX2_letsByRuling_23 : decode cX2_letsByRuling 23 = .ok (.iconst 0, 1) := by decide +kernel
theorem dX2_letsByRuling_24 : decode cX2_letsByRuling 24 = .ok (.ireturn, 1) := by decide +kernel
theorem dX2_rulings_0 : decode cX2_rulings 0 = .ok (.lconst 0, 1) := by decide +kernel
theorem dX2_rulings_1 : decode cX2_rulings 1 = .ok (.lstore_n 1, 1) := by decide +kernel
theorem dX2_rulings_2 : decode cX2_rulings 2 = .ok (.iconst 0, 1) := by decide +kernel
theorem dX2_rulings_3 : decode cX2_rulings 3 = .ok (.istore_n 3, 1) := by decide +kernel
theorem dX2_rulings_4 : decode cX2_rulings 4 = .ok (.iload_n 3, 1) := by decide +kernel
theorem dX2_rulings_5 : decode cX2_rulings 5 = .ok (.aload_n 0, 1) := by decide +kernel
theorem dX2_rulings_6 : decode cX2_rulings 6 = .ok (.getfield 38, 3) := by decide +kernel
theorem dX2_rulings_9 : decode cX2_rulings 9 = .ok (.if_icmp .ge 23, 3) := by decide +kernel
theorem dX2_rulings_12 : decode cX2_rulings 12 = .ok (.aload_n 0, 1) := by decide +kernel
theorem dX2_rulings_13 : decode cX2_rulings 13 = .ok (.iload_n 3, 1) := by decide +kernel
theorem dX2_rulings_14 : decode cX2_rulings 14 = .ok (.invokevirtual 62, 3) := by decide +kernel
theorem dX2_rulings_17 : decode cX2_rulings 17 = .ok (.ifCond .eq 9, 3) := by decide +kernel
theorem dX2_rulings_20 : decode cX2_rulings 20 = .ok (.lload_n 1, 1) := by decide +kernel
theorem dX2_rulings_21 : decode cX2_rulings 21 = .ok (.lconst 1, 1) := by decide +kernel
theorem dX2_rulings_22 : decode cX2_rulings 22 = .ok (.iload_n 3, 1) := by decide +kernel
theorem dX2_rulings_23 : decode cX2_rulings 23 = .ok (.lshl, 1) := by decide +kernel
theorem dX2_rulings_24 : decode cX2_rulings 24 = .ok (.lor, 1) := by decide +kernel
theorem dX2_rulings_25 : decode cX2_rulings 25 = .ok (.lstore_n 1, 1) := by decide +kernel
theorem dX2_rulings_26 : decode cX2_rulings 26 = .ok (.iinc 3 1, 3) := by decide +kernel
theorem dX2_rulings_29 : decode cX2_rulings 29 = .ok (.goto (-25), 3) := by decide +kernel
theorem dX2_rulings_32 : decode cX2_rulings 32 = .ok (.lload_n 1, 1) := by decide +kernel
theorem dX2_rulings_33 : decode cX2_rulings 33 = .ok (.lreturn, 1) := by decide +kernel
theorem dX2_leaningOn_0 : decode cX2_leaningOn 0 = .ok (.lload_n 1, 1) := by decide +kernel
theorem dX2_leaningOn_1 : decode cX2_leaningOn 1 = .ok (.lstore_n 3, 1) := by decide +kernel
theorem dX2_leaningOn_2 : decode cX2_leaningOn 2 = .ok (.lload_n 3, 1) := by decide +kernel
theorem dX2_leaningOn_3 : decode cX2_leaningOn 3 = .ok (.lconst 0, 1) := by decide +kernel
theorem dX2_leaningOn_4 : decode cX2_leaningOn 4 = .ok (.lcmp, 1) := by decide +kernel
theorem dX2_leaningOn_5 : decode cX2_leaningOn 5 = .ok (.ifCond .eq 7, 3) := by decide +kernel
theorem dX2_leaningOn_8 : decode cX2_leaningOn 8 = .ok (.iconst 1, 1) := by decide +kernel
theorem dX2_leaningOn_9 : decode cX2_leaningOn 9 = .ok (.goto 4, 3) := by decide +kernel
theorem dX2_leaningOn_12 : decode cX2_leaningOn 12 = .ok (.iconst 0, 1) := by decide +kernel
theorem dX2_leaningOn_13 : decode cX2_leaningOn 13 = .ok (.istore 5, 2) := by decide +kernel
theorem dX2_leaningOn_15 : decode cX2_leaningOn 15 = .ok (.iconst 0, 1) := by decide +kernel
theorem dX2_leaningOn_16 : decode cX2_leaningOn 16 = .ok (.istore 6, 2) := by decide +kernel
theorem dX2_leaningOn_18 : decode cX2_leaningOn 18 = .ok (.iload 6, 2) := by decide +kernel
theorem dX2_leaningOn_20 : decode cX2_leaningOn 20 = .ok (.bipush 50, 2) := by decide +kernel
theorem dX2_leaningOn_22 : decode cX2_leaningOn 22 = .ok (.if_icmp .ge 68, 3) := by decide +kernel
theorem dX2_leaningOn_25 : decode cX2_leaningOn 25 = .ok (.iload 5, 2) := by decide +kernel
theorem dX2_leaningOn_27 : decode cX2_leaningOn 27 = .ok (.ifCond .eq 63, 3) := by decide +kernel
theorem dX2_leaningOn_30 : decode cX2_leaningOn 30 = .ok (.iconst 0, 1) := by decide +kernel
theorem dX2_leaningOn_31 : decode cX2_leaningOn 31 = .ok (.istore 5, 2) := by decide +kernel
theorem dX2_leaningOn_33 : decode cX2_leaningOn 33 = .ok (.iconst 0, 1) := by decide +kernel
theorem dX2_leaningOn_34 : decode cX2_leaningOn 34 = .ok (.istore 7, 2) := by decide +kernel
theorem dX2_leaningOn_36 : decode cX2_leaningOn 36 = .ok (.iload 7, 2) := by decide +kernel
theorem dX2_leaningOn_38 : decode cX2_leaningOn 38 = .ok (.aload_n 0, 1) := by decide +kernel
theorem dX2_leaningOn_39 : decode cX2_leaningOn 39 = .ok (.getfield 38, 3) := by decide +kernel
theorem dX2_leaningOn_42 : decode cX2_leaningOn 42 = .ok (.if_icmp .ge 42, 3) := by decide +kernel
theorem dX2_leaningOn_45 : decode cX2_leaningOn 45 = .ok (.lload_n 3, 1) := by decide +kernel
theorem dX2_leaningOn_46 : decode cX2_leaningOn 46 = .ok (.iload 7, 2) := by decide +kernel
theorem dX2_leaningOn_48 : decode cX2_leaningOn 48 = .ok (.invokestatic 66, 3) := by decide +kernel
theorem dX2_leaningOn_51 : decode cX2_leaningOn 51 = .ok (.ifCond .ne 27, 3) := by decide +kernel
theorem dX2_leaningOn_54 : decode cX2_leaningOn 54 = .ok (.aload_n 0, 1) := by decide +kernel
theorem dX2_leaningOn_55 : decode cX2_leaningOn 55 = .ok (.getfield 17, 3) := by decide +kernel
theorem dX2_leaningOn_58 : decode cX2_leaningOn 58 = .ok (.iload 7, 2) := by decide +kernel
theorem dX2_leaningOn_60 : decode cX2_leaningOn 60 = .ok (.laload, 1) := by decide +kernel
theorem dX2_leaningOn_61 : decode cX2_leaningOn 61 = .ok (.lload_n 3, 1) := by decide +kernel
theorem dX2_leaningOn_62 : decode cX2_leaningOn 62 = .ok (.land, 1) := by decide +kernel
theorem dX2_leaningOn_63 : decode cX2_leaningOn 63 = .ok (.lconst 0, 1) := by decide +kernel
theorem dX2_leaningOn_64 : decode cX2_leaningOn 64 = .ok (.lcmp, 1) := by decide +kernel
theorem dX2_leaningOn_65 : decode cX2_leaningOn 65 = .ok (.ifCond .eq 13, 3) := by decide +kernel
theorem dX2_leaningOn_68 : decode cX2_leaningOn 68 = .ok (.lload_n 3, 1) := by decide +kernel
theorem dX2_leaningOn_69 : decode cX2_leaningOn 69 = .ok (.lconst 1, 1) := by decide +kernel
theorem dX2_leaningOn_70 : decode cX2_leaningOn 70 = .ok (.iload 7, 2) := by decide +kernel
theorem dX2_leaningOn_72 : decode cX2_leaningOn 72 = .ok (.lshl, 1) := by decide +kernel
theorem dX2_leaningOn_73 : decode cX2_leaningOn 73 = .ok (.lor, 1) := by decide +kernel
theorem dX2_leaningOn_74 : decode cX2_leaningOn 74 = .ok (.lstore_n 3, 1) := by decide +kernel
theorem dX2_leaningOn_75 : decode cX2_leaningOn 75 = .ok (.iconst 1, 1) := by decide +kernel
theorem dX2_leaningOn_76 : decode cX2_leaningOn 76 = .ok (.istore 5, 2) := by decide +kernel
theorem dX2_leaningOn_78 : decode cX2_leaningOn 78 = .ok (.iinc 7 1, 3) := by decide +kernel
theorem dX2_leaningOn_81 : decode cX2_leaningOn 81 = .ok (.goto (-45), 3) := by decide +kernel
theorem dX2_leaningOn_84 : decode cX2_leaningOn 84 = .ok (.iinc 6 1, 3) := by decide +kernel
theorem dX2_leaningOn_87 : decode cX2_leaningOn 87 = .ok (.goto (-69), 3) := by decide +kernel
theorem dX2_leaningOn_90 : decode cX2_leaningOn 90 = .ok (.lload_n 3, 1) := by decide +kernel
theorem dX2_leaningOn_91 : decode cX2_leaningOn 91 = .ok (.lreturn, 1) := by decide +kernel
theorem dX2_fallen_0 : decode cX2_fallen 0 = .ok (.aload_n 0, 1) := by decide +kernel
theorem dX2_fallen_1 : decode cX2_fallen 1 = .ok (.aload_n 0, 1) := by decide +kernel
theorem dX2_fallen_2 : decode cX2_fallen 2 = .ok (.getfield 48, 3) := by decide +kernel
theorem dX2_fallen_5 : decode cX2_fallen 5 = .ok (.invokevirtual 70, 3) := by decide +kernel
theorem dX2_fallen_8 : decode cX2_fallen 8 = .ok (.lreturn, 1) := by decide +kernel
theorem dX2_heldUp_0 : decode cX2_heldUp 0 = .ok (.lconst 0, 1) := by decide +kernel
theorem dX2_heldUp_1 : decode cX2_heldUp 1 = .ok (.lstore_n 1, 1) := by decide +kernel
theorem dX2_heldUp_2 : decode cX2_heldUp 2 = .ok (.iconst 0, 1) := by decide +kernel
theorem dX2_heldUp_3 : decode cX2_heldUp 3 = .ok (.istore_n 3, 1) := by decide +kernel
theorem dX2_heldUp_4 : decode cX2_heldUp 4 = .ok (.iload_n 3, 1) := by decide +kernel
theorem dX2_heldUp_5 : decode cX2_heldUp 5 = .ok (.aload_n 0, 1) := by decide +kernel
theorem dX2_heldUp_6 : decode cX2_heldUp 6 = .ok (.getfield 38, 3) := by decide +kernel
theorem dX2_heldUp_9 : decode cX2_heldUp 9 = .ok (.if_icmp .ge 53, 3) := by decide +kernel
theorem dX2_heldUp_12 : decode cX2_heldUp 12 = .ok (.aload_n 0, 1) := by decide +kernel
theorem dX2_heldUp_13 : decode cX2_heldUp 13 = .ok (.getfield 11, 3) := by decide +kernel
theorem dX2_heldUp_16 : decode cX2_heldUp 16 = .ok (.iload_n 3, 1) := by decide +kernel
theorem dX2_heldUp_17 : decode cX2_heldUp 17 = .ok (.aaload, 1) := by decide +kernel
theorem dX2_heldUp_18 : decode cX2_heldUp 18 = .ok (.astore 4, 2) := by decide +kernel
theorem dX2_heldUp_20 : decode cX2_heldUp 20 = .ok (.aload 4, 2) := by decide +kernel
theorem dX2_heldUp_22 : decode cX2_heldUp 22 = .ok (.ifnull 34, 3) := by decide +kernel
theorem dX2_heldUp_25 : decode cX2_heldUp 25 = .ok (.aload 4, 2) := by decide +kernel
theorem dX2_heldUp_27 : decode cX2_heldUp 27 = .ok (.getfield 56, 3) := by decide +kernel
theorem dX2_heldUp_30 : decode cX2_heldUp 30 = .ok (.bipush 7, 2) := by decide +kernel
theorem dX2_heldUp_32 : decode cX2_heldUp 32 = .ok (.if_icmp .ne 24, 3) := by decide +kernel
theorem dX2_heldUp_35 : decode cX2_heldUp 35 = .ok (.aload_n 0, 1) := by decide +kernel
theorem dX2_heldUp_36 : decode cX2_heldUp 36 = .ok (.getfield 21, 3) := by decide +kernel
theorem dX2_heldUp_39 : decode cX2_heldUp 39 = .ok (.iload_n 3, 1) := by decide +kernel
theorem dX2_heldUp_40 : decode cX2_heldUp 40 = .ok (.iaload, 1) := by decide +kernel
theorem dX2_heldUp_41 : decode cX2_heldUp 41 = .ok (.bipush (-5), 2) := by decide +kernel
theorem dX2_heldUp_43 : decode cX2_heldUp 43 = .ok (.if_icmp .ne 13, 3) := by decide +kernel
theorem dX2_heldUp_46 : decode cX2_heldUp 46 = .ok (.lload_n 1, 1) := by decide +kernel
theorem dX2_heldUp_47 : decode cX2_heldUp 47 = .ok (.lconst 1, 1) := by decide +kernel
theorem dX2_heldUp_48 : decode cX2_heldUp 48 = .ok (.aload 4, 2) := by decide +kernel
theorem dX2_heldUp_50 : decode cX2_heldUp 50 = .ok (.getfield 74, 3) := by decide +kernel
theorem dX2_heldUp_53 : decode cX2_heldUp 53 = .ok (.lshl, 1) := by decide +kernel
theorem dX2_heldUp_54 : decode cX2_heldUp 54 = .ok (.lor, 1) := by decide +kernel
theorem dX2_heldUp_55 : decode cX2_heldUp 55 = .ok (.lstore_n 1, 1) := by decide +kernel
theorem dX2_heldUp_56 : decode cX2_heldUp 56 = .ok (.iinc 3 1, 3) := by decide +kernel
theorem dX2_heldUp_59 : decode cX2_heldUp 59 = .ok (.goto (-55), 3) := by decide +kernel
theorem dX2_heldUp_62 : decode cX2_heldUp 62 = .ok (.aload_n 0, 1) := by decide +kernel
theorem dX2_heldUp_63 : decode cX2_heldUp 63 = .ok (.lload_n 1, 1) := by decide +kernel
theorem dX2_heldUp_64 : decode cX2_heldUp 64 = .ok (.invokevirtual 70, 3) := by decide +kernel
theorem dX2_heldUp_67 : decode cX2_heldUp 67 = .ok (.lreturn, 1) := by decide +kernel
theorem dX2_standing_0 : decode cX2_standing 0 = .ok (.aload_n 0, 1) := by decide +kernel
theorem dX2_standing_1 : decode cX2_standing 1 = .ok (.invokevirtual 77, 3) := by decide +kernel
theorem dX2_standing_4 : decode cX2_standing 4 = .ok (.aload_n 0, 1) := by decide +kernel
theorem dX2_standing_5 : decode cX2_standing 5 = .ok (.invokevirtual 81, 3) := by decide +kernel
theorem dX2_standing_8 : decode cX2_standing 8 = .ok (.ldc2_w 84, 3) := by decide +kernel
theorem dX2_standing_11 : decode cX2_standing 11 = .ok (.lxor, 1) := by decide +kernel
theorem dX2_standing_12 : decode cX2_standing 12 = .ok (.land, 1) := by decide +kernel
theorem dX2_standing_13 : decode cX2_standing 13 = .ok (.aload_n 0, 1) := by decide +kernel
theorem dX2_standing_14 : decode cX2_standing 14 = .ok (.invokevirtual 86, 3) := by decide +kernel
theorem dX2_standing_17 : decode cX2_standing 17 = .ok (.ldc2_w 84, 3) := by decide +kernel
theorem dX2_standing_20 : decode cX2_standing 20 = .ok (.lxor, 1) := by decide +kernel
theorem dX2_standing_21 : decode cX2_standing 21 = .ok (.land, 1) := by decide +kernel
theorem dX2_standing_22 : decode cX2_standing 22 = .ok (.lreturn, 1) := by decide +kernel
theorem dX2_lastAbout_0 : decode cX2_lastAbout 0 = .ok (.aload_n 0, 1) := by decide +kernel
theorem dX2_lastAbout_1 : decode cX2_lastAbout 1 = .ok (.getfield 38, 3) := by decide +kernel
theorem dX2_lastAbout_4 : decode cX2_lastAbout 4 = .ok (.iconst 1, 1) := by decide +kernel
theorem dX2_lastAbout_5 : decode cX2_lastAbout 5 = .ok (.isub, 1) := by decide +kernel
theorem dX2_lastAbout_6 : decode cX2_lastAbout 6 = .ok (.istore 4, 2) := by decide +kernel
theorem dX2_lastAbout_8 : decode cX2_lastAbout 8 = .ok (.iload 4, 2) := by decide +kernel
theorem dX2_lastAbout_10 : decode cX2_lastAbout 10 = .ok (.ifCond .lt 50, 3) := by decide +kernel
theorem dX2_lastAbout_13 : decode cX2_lastAbout 13 = .ok (.lload_n 2, 1) := by decide +kernel
theorem dX2_lastAbout_14 : decode cX2_lastAbout 14 = .ok (.lconst 0, 1) := by decide +kernel
theorem dX2_lastAbout_15 : decode cX2_lastAbout 15 = .ok (.lcmp, 1) := by decide +kernel
theorem dX2_lastAbout_16 : decode cX2_lastAbout 16 = .ok (.ifCond .eq 44, 3) := by decide +kernel
theorem dX2_lastAbout_19 : decode cX2_lastAbout 19 = .ok (.aload_n 0, 1) := by decide +kernel
theorem dX2_lastAbout_20 : decode cX2_lastAbout 20 = .ok (.getfield 11, 3) := by decide +kernel
theorem dX2_lastAbout_23 : decode cX2_lastAbout 23 = .ok (.iload 4, 2) := by decide +kernel
theorem dX2_lastAbout_25 : decode cX2_lastAbout 25 = .ok (.aaload, 1) := by decide +kernel
theorem dX2_lastAbout_26 : decode cX2_lastAbout 26 = .ok (.astore 5, 2) := by decide +kernel
theorem dX2_lastAbout_28 : decode cX2_lastAbout 28 = .ok (.lload_n 2, 1) := by decide +kernel
theorem dX2_lastAbout_29 : decode cX2_lastAbout 29 = .ok (.iload 4, 2) := by decide +kernel
theorem dX2_lastAbout_31 : decode cX2_lastAbout 31 = .ok (.invokestatic 66, 3) := by decide +kernel
theorem dX2_lastAbout_34 : decode cX2_lastAbout 34 = .ok (.ifCond .eq 20, 3) := by decide +kernel
theorem dX2_lastAbout_37 : decode cX2_lastAbout 37 = .ok (.aload 5, 2) := by decide +kernel
theorem dX2_lastAbout_39 : decode cX2_lastAbout 39 = .ok (.ifnull 15, 3) := by decide +kernel
theorem dX2_lastAbout_42 : decode cX2_lastAbout 42 = .ok (.aload 5, 2) := by decide +kernel
theorem dX2_lastAbout_44 : decode cX2_lastAbout 44 = .ok (.getfield 89, 3) := by decide +kernel
theorem dX2_lastAbout_47 : decode cX2_lastAbout 47 = .ok (.iload_n 1, 1) := by decide +kernel
theorem dX2_lastAbout_48 : decode cX2_lastAbout 48 = .ok (.if_icmp .ne 6, 3) := by decide +kernel
theorem dX2_lastAbout_51 : decode cX2_lastAbout 51 = .ok (.iload 4, 2) := by decide +kernel
theorem dX2_lastAbout_53 : decode cX2_lastAbout 53 = .ok (.ireturn, 1) := by decide +kernel
theorem dX2_lastAbout_54 : decode cX2_lastAbout 54 = .ok (.iinc 4 (-1), 3) := by decide +kernel
theorem dX2_lastAbout_57 : decode cX2_lastAbout 57 = .ok (.goto (-49), 3) := by decide +kernel
theorem dX2_lastAbout_60 : decode cX2_lastAbout 60 = .ok (.iconst (-1), 1) := by decide +kernel
theorem dX2_lastAbout_61 : decode cX2_lastAbout 61 = .ok (.ireturn, 1) := by decide +kernel
theorem dX2_takesAppeal_0 : decode cX2_takesAppeal 0 = .ok (.aload_n 0, 1) := by decide +kernel
theorem dX2_takesAppeal_1 : decode cX2_takesAppeal 1 = .ok (.iload_n 1, 1) := by decide +kernel
theorem dX2_takesAppeal_2 : decode cX2_takesAppeal 2 = .ok (.invokevirtual 52, 3) := by decide +kernel
theorem dX2_takesAppeal_5 : decode cX2_takesAppeal 5 = .ok (.astore 4, 2) := by decide +kernel
theorem dX2_takesAppeal_7 : decode cX2_takesAppeal 7 = .ok (.aload 4, 2) := by decide +kernel
theorem dX2_takesAppeal_9 : decode cX2_takesAppeal 9 = .ok (.ifnull 28, 3) := by decide +kernel
theorem dX2_takesAppeal_12 : decode cX2_takesAppeal 12 = .ok (.aload_n 0, 1) := by decide +kernel
theorem dX2_takesAppeal_13 : decode cX2_takesAppeal 13 = .ok (.invokevirtual 81, 3) := by decide +kernel
theorem dX2_takesAppeal_16 : decode cX2_takesAppeal 16 = .ok (.iload_n 1, 1) := by decide +kernel
theorem dX2_takesAppeal_17 : decode cX2_takesAppeal 17 = .ok (.invokestatic 66, 3) := by decide +kernel
theorem dX2_takesAppeal_20 : decode cX2_takesAppeal 20 = .ok (.ifCond .ne 17, 3) := by decide +kernel
theorem dX2_takesAppeal_23 : decode cX2_takesAppeal 23 = .ok (.iload_n 3, 1) := by decide +kernel
theorem dX2_takesAppeal_24 : decode cX2_takesAppeal 24 = .ok (.aload 4, 2) := by decide +kernel
theorem dX2_takesAppeal_26 : decode cX2_takesAppeal 26 = .ok (.getfield 92, 3) := by decide +kernel
theorem dX2_takesAppeal_29 : decode cX2_takesAppeal 29 = .ok (.isub, 1) := by decide +kernel
theorem dX2_takesAppeal_30 : decode cX2_takesAppeal 30 = .ok (.aload_n 0, 1) := by decide +kernel
theorem dX2_takesAppeal_31 : decode cX2_takesAppeal 31 = .ok (.getfield 25, 3) := by decide +kernel
theorem dX2_takesAppeal_34 : decode cX2_takesAppeal 34 = .ok (.if_icmp .le 5, 3) := by decide +kernel
theorem dX2_takesAppeal_37 : decode cX2_takesAppeal 37 = .ok (.iconst 0, 1) := by decide +kernel
theorem dX2_takesAppeal_38 : decode cX2_takesAppeal 38 = .ok (.ireturn, 1) := by decide +kernel
theorem dX2_takesAppeal_39 : decode cX2_takesAppeal 39 = .ok (.iconst 0, 1) := by decide +kernel
theorem dX2_takesAppeal_40 : decode cX2_takesAppeal 40 = .ok (.istore 5, 2) := by decide +kernel
theorem dX2_takesAppeal_42 : decode cX2_takesAppeal 42 = .ok (.iload 5, 2) := by decide +kernel
theorem dX2_takesAppeal_44 : decode cX2_takesAppeal 44 = .ok (.aload_n 0, 1) := by decide +kernel
theorem dX2_takesAppeal_45 : decode cX2_takesAppeal 45 = .ok (.getfield 38, 3) := by decide +kernel
theorem dX2_takesAppeal_48 : decode cX2_takesAppeal 48 = .ok (.if_icmp .ge 53, 3) := by decide +kernel
theorem dX2_takesAppeal_51 : decode cX2_takesAppeal 51 = .ok (.aload_n 0, 1) := by decide +kernel
theorem dX2_takesAppeal_52 : decode cX2_takesAppeal 52 = .ok (.getfield 11, 3) := by decide +kernel
theorem dX2_takesAppeal_55 : decode cX2_takesAppeal 55 = .ok (.iload 5, 2) := by decide +kernel
theorem dX2_takesAppeal_57 : decode cX2_takesAppeal 57 = .ok (.aaload, 1) := by decide +kernel
theorem dX2_takesAppeal_58 : decode cX2_takesAppeal 58 = .ok (.astore 6, 2) := by decide +kernel
theorem dX2_takesAppeal_60 : decode cX2_takesAppeal 60 = .ok (.aload 6, 2) := by decide +kernel
theorem dX2_takesAppeal_62 : decode cX2_takesAppeal 62 = .ok (.ifnull 33, 3) := by decide +kernel
theorem dX2_takesAppeal_65 : decode cX2_takesAppeal 65 = .ok (.aload 6, 2) := by decide +kernel
theorem dX2_takesAppeal_67 : decode cX2_takesAppeal 67 = .ok (.getfield 56, 3) := by decide +kernel
theorem dX2_takesAppeal_70 : decode cX2_takesAppeal 70 = .ok (.bipush 7, 2) := by decide +kernel
theorem dX2_takesAppeal_72 : decode cX2_takesAppeal 72 = .ok (.if_icmp .ne 23, 3) := by decide +kernel
theorem dX2_takesAppeal_75 : decode cX2_takesAppeal 75 = .ok (.aload 6, 2) := by decide +kernel
theorem dX2_takesAppeal_77 : decode cX2_takesAppeal 77 = .ok (.getfield 74, 3) := by decide +kernel
theorem dX2_takesAppeal_80 : decode cX2_takesAppeal 80 = .ok (.iload_n 1, 1) := by decide +kernel
theorem dX2_takesAppeal_81 : decode cX2_takesAppeal 81 = .ok (.if_icmp .ne 14, 3) := by decide +kernel
theorem dX2_takesAppeal_84 : decode cX2_takesAppeal 84 = .ok (.aload 6, 2) := by decide +kernel
theorem dX2_takesAppeal_86 : decode cX2_takesAppeal 86 = .ok (.getfield 95, 3) := by decide +kernel
theorem dX2_takesAppeal_89 : decode cX2_takesAppeal 89 = .ok (.iload_n 2, 1) := by decide +kernel
theorem dX2_takesAppeal_90 : decode cX2_takesAppeal 90 = .ok (.if_icmp .ne 5, 3) := by decide +kernel
theorem dX2_takesAppeal_93 : decode cX2_takesAppeal 93 = .ok (.iconst 0, 1) := by decide +kernel
theorem dX2_takesAppeal_94 : decode cX2_takesAppeal 94 = .ok (.ireturn, 1) := by decide +kernel
theorem dX2_takesAppeal_95 : decode cX2_takesAppeal 95 = .ok (.iinc 5 1, 3) := by decide +kernel
theorem dX2_takesAppeal_98 : decode cX2_takesAppeal 98 = .ok (.goto (-56), 3) := by decide +kernel
theorem dX2_takesAppeal_101 : decode cX2_takesAppeal 101 = .ok (.iconst 1, 1) := by decide +kernel
theorem dX2_takesAppeal_102 : decode cX2_takesAppeal 102 = .ok (.ireturn, 1) := by decide +kernel
theorem dX2_lodge_0 : decode cX2_lodge 0 = .ok (.new 9, 3) := by decide +kernel
theorem dX2_lodge_3 : decode cX2_lodge 3 = .ok (.dup, 1) := by decide +kernel
theorem dX2_lodge_4 : decode cX2_lodge 4 = .ok (.bipush 7, 2) := by decide +kernel
theorem dX2_lodge_6 : decode cX2_lodge 6 = .ok (.aload_n 0, 1) := by decide +kernel
theorem dX2_lodge_7 : decode cX2_lodge 7 = .ok (.getfield 38, 3) := by decide +kernel
theorem dX2_lodge_10 : decode cX2_lodge 10 = .ok (.iload_n 2, 1) := by decide +kernel
theorem dX2_lodge_11 : decode cX2_lodge 11 = .ok (.aload_n 0, 1) := by decide +kernel
theorem dX2_lodge_12 : decode cX2_lodge 12 = .ok (.iload_n 1, 1) := by decide +kernel
theorem dX2_lodge_13 : decode cX2_lodge 13 = .ok (.invokevirtual 98, 3) := by decide +kernel
theorem dX2_lodge_16 : decode cX2_lodge 16 = .ok (.ifCond .eq 8, 3) := by decide +kernel
theorem dX2_lodge_19 : decode cX2_lodge 19 = .ok (.bipush 10, 2) := by decide +kernel
theorem dX2_lodge_21 : decode cX2_lodge 21 = .ok (.goto 5, 3) := by decide +kernel
theorem dX2_lodge_24 : decode cX2_lodge 24 = .ok (.bipush 20, 2) := by decide +kernel
theorem dX2_lodge_26 : decode cX2_lodge 26 = .ok (.invokespecial 101, 3) := by decide +kernel
theorem dX2_lodge_29 : decode cX2_lodge 29 = .ok (.astore 4, 2) := by decide +kernel
theorem dX2_lodge_31 : decode cX2_lodge 31 = .ok (.aload 4, 2) := by decide +kernel
theorem dX2_lodge_33 : decode cX2_lodge 33 = .ok (.iload_n 1, 1) := by decide +kernel
theorem dX2_lodge_34 : decode cX2_lodge 34 = .ok (.putfield 74, 3) := by decide +kernel
theorem dX2_lodge_37 : decode cX2_lodge 37 = .ok (.aload 4, 2) := by decide +kernel
theorem dX2_lodge_39 : decode cX2_lodge 39 = .ok (.iload_n 3, 1) := by decide +kernel
theorem dX2_lodge_40 : decode cX2_lodge 40 = .ok (.putfield 104, 3) := by decide +kernel
theorem dX2_lodge_43 : decode cX2_lodge 43 = .ok (.aload_n 0, 1) := by decide +kernel
theorem dX2_lodge_44 : decode cX2_lodge 44 = .ok (.aload 4, 2) := by decide +kernel
theorem dX2_lodge_46 : decode cX2_lodge 46 = .ok (.invokevirtual 107, 3) := by decide +kernel
theorem dX2_lodge_49 : decode cX2_lodge 49 = .ok (.ireturn, 1) := by decide +kernel
theorem dX2_sit_0 : decode cX2_sit 0 = .ok (.aload_n 0, 1) := by decide +kernel
theorem dX2_sit_1 : decode cX2_sit 1 = .ok (.getfield 29, 3) := by decide +kernel
theorem dX2_sit_4 : decode cX2_sit 4 = .ok (.ifCond .le 12, 3) := by decide +kernel
theorem dX2_sit_7 : decode cX2_sit 7 = .ok (.iload_n 1, 1) := by decide +kernel
theorem dX2_sit_8 : decode cX2_sit 8 = .ok (.aload_n 0, 1) := by decide +kernel
theorem dX2_sit_9 : decode cX2_sit 9 = .ok (.getfield 29, 3) := by decide +kernel
theorem dX2_sit_12 : decode cX2_sit 12 = .ok (.irem, 1) := by decide +kernel
theorem dX2_sit_13 : decode cX2_sit 13 = .ok (.ifCond .eq 4, 3) := by decide +kernel
theorem dX2_sit_16 : decode cX2_sit 16 = .ok (.return_, 1) := by decide +kernel
theorem dX2_sit_17 : decode cX2_sit 17 = .ok (.iconst 0, 1) := by decide +kernel
theorem dX2_sit_18 : decode cX2_sit 18 = .ok (.istore_n 2, 1) := by decide +kernel
theorem dX2_sit_19 : decode cX2_sit 19 = .ok (.iload_n 2, 1) := by decide +kernel
theorem dX2_sit_20 : decode cX2_sit 20 = .ok (.aload_n 0, 1) := by decide +kernel
theorem dX2_sit_21 : decode cX2_sit 21 = .ok (.getfield 38, 3) := by decide +kernel
theorem dX2_sit_24 : decode cX2_sit 24 = .ok (.if_icmp .ge 70, 3) := by decide +kernel
theorem dX2_sit_27 : decode cX2_sit 27 = .ok (.aload_n 0, 1) := by decide +kernel
theorem dX2_sit_28 : decode cX2_sit 28 = .ok (.getfield 11, 3) := by decide +kernel
theorem dX2_sit_31 : decode cX2_sit 31 = .ok (.iload_n 2, 1) := by decide +kernel
theorem dX2_sit_32 : decode cX2_sit 32 = .ok (.aaload, 1) := by decide +kernel
theorem dX2_sit_33 : decode cX2_sit 33 = .ok (.astore_n 3, 1) := by decide +kernel
theorem dX2_sit_34 : decode cX2_sit 34 = .ok (.aload_n 3, 1) := by decide +kernel
theorem dX2_sit_35 : decode cX2_sit 35 = .ok (.ifnull 53, 3) := by decide +kernel
theorem dX2_sit_38 : decode cX2_sit 38 = .ok (.aload_n 3, 1) := by decide +kernel
theorem dX2_sit_39 : decode cX2_sit 39 = .ok (.getfield 56, 3) := by decide +kernel
theorem dX2_sit_42 : decode cX2_sit 42 = .ok (.bipush 7, 2) := by decide +kernel
theorem dX2_sit_44 : decode cX2_sit 44 = .ok (.if_icmp .ne 44, 3) := by decide +kernel
theorem dX2_sit_47 : decode cX2_sit 47 = .ok (.aload_n 0, 1) := by decide +kernel
theorem dX2_sit_48 : decode cX2_sit 48 = .ok (.getfield 21, 3) := by decide +kernel
theorem dX2_sit_51 : decode cX2_sit 51 = .ok (.iload_n 2, 1) := by decide +kernel
theorem dX2_sit_52 : decode cX2_sit 52 = .ok (.iaload, 1) := by decide +kernel
theorem dX2_sit_53 : decode cX2_sit 53 = .ok (.bipush (-5), 2) := by decide +kernel
theorem dX2_sit_55 : decode cX2_sit 55 = .ok (.if_icmp .ne 33, 3) := by decide +kernel
theorem dX2_sit_58 : decode cX2_sit 58 = .ok (.aload_n 0, 1) := by decide +kernel
theorem dX2_sit_59 : decode cX2_sit 59 = .ok (.getfield 21, 3) := by decide +kernel
theorem dX2_sit_62 : decode cX2_sit 62 = .ok (.iload_n 2, 1) := by decide +kernel
theorem dX2_sit_63 : decode cX2_sit 63 = .ok (.iload_n 1, 1) := by decide +kernel
theorem dX2_sit_64 : decode cX2_sit 64 = .ok (.iastore, 1) := by decide +kernel
theorem dX2_sit_65 : decode cX2_sit 65 = .ok (.aload_n 3, 1) := by decide +kernel
theorem dX2_sit_66 : decode cX2_sit 66 = .ok (.invokevirtual 111, 3) := by decide +kernel
theorem dX2_sit_69 : decode cX2_sit 69 = .ok (.ifCond .eq 18, 3) := by decide +kernel
theorem dX2_sit_72 : decode cX2_sit 72 = .ok (.aload_n 0, 1) := by decide +kernel
theorem dX2_sit_73 : decode cX2_sit 73 = .ok (.dup, 1) := by decide +kernel
theorem dX2_sit_74 : decode cX2_sit 74 = .ok (.getfield 48, 3) := by decide +kernel
theorem dX2_sit_77 : decode cX2_sit 77 = .ok (.lconst 1, 1) := by decide +kernel
theorem dX2_sit_78 : decode cX2_sit 78 = .ok (.aload_n 3, 1) := by decide +kernel
theorem dX2_sit_79 : decode cX2_sit 79 = .ok (.getfield 74, 3) := by decide +kernel
theorem dX2_sit_82 : decode cX2_sit 82 = .ok (.lshl, 1) := by decide +kernel
theorem dX2_sit_83 : decode cX2_sit 83 = .ok (.lor, 1) := by decide +kernel
theorem dX2_sit_84 : decode cX2_sit 84 = .ok (.putfield 48, 3) := by decide +kernel
theorem dX2_sit_87 : decode cX2_sit 87 = .ok (.return_, 1) := by decide +kernel
theorem dX2_sit_88 : decode cX2_sit 88 = .ok (.iinc 2 1, 3) := by decide +kernel
theorem dX2_sit_91 : decode cX2_sit 91 = .ok (.goto (-72), 3) := by decide +kernel
theorem dX2_sit_94 : decode cX2_sit 94 = .ok (.return_, 1) := by decide +kernel
theorem dX2_findRing_0 : decode cX2_findRing 0 = .ok (.iconst 0, 1) := by decide +kernel
theorem dX2_findRing_1 : decode cX2_findRing 1 = .ok (.istore_n 2, 1) := by decide +kernel
theorem dX2_findRing_2 : decode cX2_findRing 2 = .ok (.iconst 0, 1) := by decide +kernel
theorem dX2_findRing_3 : decode cX2_findRing 3 = .ok (.istore_n 3, 1) := by decide +kernel
theorem dX2_findRing_4 : decode cX2_findRing 4 = .ok (.iconst 0, 1) := by decide +kernel
theorem dX2_findRing_5 : decode cX2_findRing 5 = .ok (.istore 4, 2) := by decide +kernel
theorem dX2_findRing_7 : decode cX2_findRing 7 = .ok (.iload 4, 2) := by decide +kernel
theorem dX2_findRing_9 : decode cX2_findRing 9 = .ok (.aload_n 0, 1) := by decide +kernel
theorem dX2_findRing_10 : decode cX2_findRing 10 = .ok (.getfield 38, 3) := by decide +kernel
theorem dX2_findRing_13 : decode cX2_findRing 13 = .ok (.if_icmp .ge 38, 3) := by decide +kernel
theorem dX2_findRing_16 : decode cX2_findRing 16 = .ok (.aload_n 0, 1) := by decide +kernel
theorem dX2_findRing_17 : decode cX2_findRing 17 = .ok (.iload 4, 2) := by decide +kernel
theorem dX2_findRing_19 : decode cX2_findRing 19 = .ok (.invokevirtual 115, 3) := by decide +kernel
theorem dX2_findRing_22 : decode cX2_findRing 22 = .ok (.istore 5, 2) := by decide +kernel
theorem dX2_findRing_24 : decode cX2_findRing 24 = .ok (.iload 5, 2) := by decide +kernel
theorem dX2_findRing_26 : decode cX2_findRing 26 = .ok (.ifCond .le 19, 3) := by decide +kernel
theorem dX2_findRing_29 : decode cX2_findRing 29 = .ok (.iload_n 2, 1) := by decide +kernel
theorem dX2_findRing_30 : decode cX2_findRing 30 = .ok (.ifCond .eq 9, 3) := by decide +kernel
theorem dX2_findRing_33 : decode cX2_findRing 33 = .ok (.iload 5, 2) := by decide +kernel
theorem dX2_findRing_35 : decode cX2_findRing 35 = .ok (.iload_n 2, 1) := by decide +kernel
theorem dX2_findRing_36 : decode cX2_findRing 36 = .ok (.if_icmp .ge 9, 3) := by decide +kernel
theorem dX2_findRing_39 : decode cX2_findRing 39 = .ok (.iload 5, 2) := by decide +kernel
theorem dX2_findRing_41 : decode cX2_findRing 41 = .ok (.istore_n 2, 1) := by decide +kernel
theorem dX2_findRing_42 : decode cX2_findRing 42 = .ok (.iload 4, 2) := by decide +kernel
theorem dX2_findRing_44 : decode cX2_findRing 44 = .ok (.istore_n 3, 1) := by decide +kernel
theorem dX2_findRing_45 : decode cX2_findRing 45 = .ok (.iinc 4 1, 3) := by decide +kernel
theorem dX2_findRing_48 : decode cX2_findRing 48 = .ok (.goto (-41), 3) := by decide +kernel
theorem dX2_findRing_51 : decode cX2_findRing 51 = .ok (.iload_n 3, 1) := by decide +kernel
theorem dX2_findRing_52 : decode cX2_findRing 52 = .ok (.istore 4, 2) := by decide +kernel
theorem dX2_findRing_54 : decode cX2_findRing 54 = .ok (.iconst 0, 1) := by decide +kernel
theorem dX2_findRing_55 : decode cX2_findRing 55 = .ok (.istore 5, 2) := by decide +kernel
theorem dX2_findRing_57 : decode cX2_findRing 57 = .ok (.iload 5, 2) := by decide +kernel
theorem dX2_findRing_59 : decode cX2_findRing 59 = .ok (.iload_n 2, 1) := by decide +kernel
theorem dX2_findRing_60 : decode cX2_findRing 60 = .ok (.if_icmp .ge 37, 3) := by decide +kernel
theorem dX2_findRing_63 : decode cX2_findRing 63 = .ok (.iload 5, 2) := by decide +kernel
theorem dX2_findRing_65 : decode cX2_findRing 65 = .ok (.aload_n 1, 1) := by decide +kernel
theorem dX2_findRing_66 : decode cX2_findRing 66 = .ok (.arraylength, 1) := by decide +kernel
theorem dX2_findRing_67 : decode cX2_findRing 67 = .ok (.if_icmp .ge 30, 3) := by decide +kernel
theorem dX2_findRing_70 : decode cX2_findRing 70 = .ok (.aload_n 1, 1) := by decide +kernel
theorem dX2_findRing_71 : decode cX2_findRing 71 = .ok (.iload 5, 2) := by decide +kernel
theorem dX2_findRing_73 : decode cX2_findRing 73 = .ok (.iload 4, 2) := by decide +kernel
theorem dX2_findRing_75 : decode cX2_findRing 75 = .ok (.iastore, 1) := by decide +kernel
theorem dX2_findRing_76 : decode cX2_findRing 76 = .ok (.aload_n 0, 1) := by decide +kernel
theorem dX2_findRing_77 : decode cX2_findRing 77 = .ok (.iload 4, 2) := by decide +kernel
theorem dX2_findRing_79 : decode cX2_findRing 79 = .ok (.iload_n 3, 1) := by decide +kernel
theorem dX2_findRing_80 : decode cX2_findRing 80 = .ok (.iload_n 2, 1) := by decide +kernel
theorem dX2_findRing_81 : decode cX2_findRing 81 = .ok (.iload 5, 2) := by decide +kernel
theorem dX2_findRing_83 : decode cX2_findRing 83 = .ok (.isub, 1) := by decide +kernel
theorem dX2_findRing_84 : decode cX2_findRing 84 = .ok (.iconst 1, 1) := by decide +kernel
theorem dX2_findRing_85 : decode cX2_findRing 85 = .ok (.isub, 1) := by decide +kernel
theorem dX2_findRing_86 : decode cX2_findRing 86 = .ok (.invokevirtual 119, 3) := by decide +kernel
theorem dX2_findRing_89 : decode cX2_findRing 89 = .ok (.istore 4, 2) := by decide +kernel
theorem dX2_findRing_91 : decode cX2_findRing 91 = .ok (.iinc 5 1, 3) := by decide +kernel
theorem dX2_findRing_94 : decode cX2_findRing 94 = .ok (.goto (-37), 3) := by decide +kernel
theorem dX2_findRing_97 : decode cX2_findRing 97 = .ok (.iload_n 2, 1) := by decide +kernel
theorem dX2_findRing_98 : decode cX2_findRing 98 = .ok (.ireturn, 1) := by decide +kernel
theorem dX2_roundFrom_0 : decode cX2_roundFrom 0 = .ok (.lconst 0, 1) := by decide +kernel
theorem dX2_roundFrom_1 : decode cX2_roundFrom 1 = .ok (.lstore_n 2, 1) := by decide +kernel
theorem dX2_roundFrom_2 : decode cX2_roundFrom 2 = .ok (.lconst 1, 1) := by decide +kernel
theorem dX2_roundFrom_3 : decode cX2_roundFrom 3 = .ok (.iload_n 1, 1) := by decide +kernel
theorem dX2_roundFrom_4 : decode cX2_roundFrom 4 = .ok (.lshl, 1) := by decide +kernel
theorem dX2_roundFrom_5 : decode cX2_roundFrom 5 = .ok (.lstore 4, 2) := by decide +kernel
theorem dX2_roundFrom_7 : decode cX2_roundFrom 7 = .ok (.iconst 1, 1) := by decide +kernel
theorem dX2_roundFrom_8 : decode cX2_roundFrom 8 = .ok (.istore 6, 2) := by decide +kernel
theorem dX2_roundFrom_10 : decode cX2_roundFrom 10 = .ok (.iload 6, 2) := by decide +kernel
theorem dX2_roundFrom_12 : decode cX2_roundFrom 12 = .ok (.bipush 50, 2) := by decide +kernel
theorem dX2_roundFrom_14 : decode cX2_roundFrom 14 = .ok (.if_icmp .gt 47, 3) := by decide +kernel
theorem dX2_roundFrom_17 : decode cX2_roundFrom 17 = .ok (.lload 4, 2) := by decide +kernel
theorem dX2_roundFrom_19 : decode cX2_roundFrom 19 = .ok (.lconst 0, 1) := by decide +kernel
theorem dX2_roundFrom_20 : decode cX2_roundFrom 20 = .ok (.lcmp, 1) := by decide +kernel
theorem dX2_roundFrom_21 : decode cX2_roundFrom 21 = .ok (.ifCond .eq 40, 3) := by decide +kernel
theorem dX2_roundFrom_24 : decode cX2_roundFrom 24 = .ok (.aload_n 0, 1) := by decide +kernel
theorem dX2_roundFrom_25 : decode cX2_roundFrom 25 = .ok (.lload 4, 2) := by decide +kernel
theorem dX2_roundFrom_27 : decode cX2_roundFrom 27 = .ok (.invokevirtual 123, 3) := by decide +kernel
theorem dX2_roundFrom_30 : decode cX2_roundFrom 30 = .ok (.lload_n 2, 1) := by decide +kernel
theorem dX2_roundFrom_31 : decode cX2_roundFrom 31 = .ok (.ldc2_w 84, 3) := by decide +kernel
theorem dX2_roundFrom_34 : decode cX2_roundFrom 34 = .ok (.lxor, 1) := by decide +kernel
theorem dX2_roundFrom_35 : decode cX2_roundFrom 35 = .ok (.land, 1) := by decide +kernel
theorem dX2_roundFrom_36 : decode cX2_roundFrom 36 = .ok (.lstore 4, 2) := by decide +kernel
theorem dX2_roundFrom_38 : decode cX2_roundFrom 38 = .ok (.lload 4, 2) := by decide +kernel
theorem dX2_roundFrom_40 : decode cX2_roundFrom 40 = .ok (.iload_n 1, 1) := by decide +kernel
theorem dX2_roundFrom_41 : decode cX2_roundFrom 41 = .ok (.invokestatic 66, 3) := by decide +kernel
theorem dX2_roundFrom_44 : decode cX2_roundFrom 44 = .ok (.ifCond .eq 6, 3) := by decide +kernel
theorem dX2_roundFrom_47 : decode cX2_roundFrom 47 = .ok (.iload 6, 2) := by decide +kernel
theorem dX2_roundFrom_49 : decode cX2_roundFrom 49 = .ok (.ireturn, 1) := by decide +kernel
theorem dX2_roundFrom_50 : decode cX2_roundFrom 50 = .ok (.lload_n 2, 1) := by decide +kernel
theorem dX2_roundFrom_51 : decode cX2_roundFrom 51 = .ok (.lload 4, 2) := by decide +kernel
theorem dX2_roundFrom_53 : decode cX2_roundFrom 53 = .ok (.lor, 1) := by decide +kernel
theorem dX2_roundFrom_54 : decode cX2_roundFrom 54 = .ok (.lstore_n 2, 1) := by decide +kernel
theorem dX2_roundFrom_55 : decode cX2_roundFrom 55 = .ok (.iinc 6 1, 3) := by decide +kernel
theorem dX2_roundFrom_58 : decode cX2_roundFrom 58 = .ok (.goto (-48), 3) := by decide +kernel
theorem dX2_roundFrom_61 : decode cX2_roundFrom 61 = .ok (.iconst 0, 1) := by decide +kernel
theorem dX2_roundFrom_62 : decode cX2_roundFrom 62 = .ok (.ireturn, 1) := by decide +kernel
theorem dX2_leanedOnBy_0 : decode cX2_leanedOnBy 0 = .ok (.lconst 0, 1) := by decide +kernel
theorem dX2_leanedOnBy_1 : decode cX2_leanedOnBy 1 = .ok (.lstore_n 3, 1) := by decide +kernel
theorem dX2_leanedOnBy_2 : decode cX2_leanedOnBy 2 = .ok (.iconst 0, 1) := by decide +kernel
theorem dX2_leanedOnBy_3 : decode cX2_leanedOnBy 3 = .ok (.istore 5, 2) := by decide +kernel
theorem dX2_leanedOnBy_5 : decode cX2_leanedOnBy 5 = .ok (.iload 5, 2) := by decide +kernel
theorem dX2_leanedOnBy_7 : decode cX2_leanedOnBy 7 = .ok (.aload_n 0, 1) := by decide +kernel
theorem dX2_leanedOnBy_8 : decode cX2_leanedOnBy 8 = .ok (.getfield 38, 3) := by decide +kernel
theorem dX2_leanedOnBy_11 : decode cX2_leanedOnBy 11 = .ok (.if_icmp .ge 28, 3) := by decide +kernel
theorem dX2_leanedOnBy_14 : decode cX2_leanedOnBy 14 = .ok (.lload_n 1, 1) := by decide +kernel
theorem dX2_leanedOnBy_15 : decode cX2_leanedOnBy 15 = .ok (.iload 5, 2) := by decide +kernel
theorem dX2_leanedOnBy_17 : decode cX2_leanedOnBy 17 = .ok (.invokestatic 66, 3) := by decide +kernel
theorem dX2_leanedOnBy_20 : decode cX2_leanedOnBy 20 = .ok (.ifCond .eq 13, 3) := by decide +kernel
theorem dX2_leanedOnBy_23 : decode cX2_leanedOnBy 23 = .ok (.lload_n 3, 1) := by decide +kernel
theorem dX2_leanedOnBy_24 : decode cX2_leanedOnBy 24 = .ok (.aload_n 0, 1) := by decide +kernel
theorem dX2_leanedOnBy_25 : decode cX2_leanedOnBy 25 = .ok (.getfield 17, 3) := by decide +kernel
theorem dX2_leanedOnBy_28 : decode cX2_leanedOnBy 28 = .ok (.iload 5, 2) := by decide +kernel
theorem dX2_leanedOnBy_30 : decode cX2_leanedOnBy 30 = .ok (.laload, 1) := by decide +kernel
theorem dX2_leanedOnBy_31 : decode cX2_leanedOnBy 31 = .ok (.lor, 1) := by decide +kernel
theorem dX2_leanedOnBy_32 : decode cX2_leanedOnBy 32 = .ok (.lstore_n 3, 1) := by decide +kernel
theorem dX2_leanedOnBy_33 : decode cX2_leanedOnBy 33 = .ok (.iinc 5 1, 3) := by decide +kernel
theorem dX2_leanedOnBy_36 : decode cX2_leanedOnBy 36 = .ok (.goto (-31), 3) := by decide +kernel
theorem dX2_leanedOnBy_39 : decode cX2_leanedOnBy 39 = .ok (.lload_n 3, 1) := by decide +kernel
theorem dX2_leanedOnBy_40 : decode cX2_leanedOnBy 40 = .ok (.lreturn, 1) := by decide +kernel
theorem dX2_leastOnward_0 : decode cX2_leastOnward 0 = .ok (.lconst 1, 1) := by decide +kernel
theorem dX2_leastOnward_1 : decode cX2_leastOnward 1 = .ok (.iload_n 2, 1) := by decide +kernel
theorem dX2_leastOnward_2 : decode cX2_leastOnward 2 = .ok (.lshl, 1) := by decide +kernel
theorem dX2_leastOnward_3 : decode cX2_leastOnward 3 = .ok (.lstore 4, 2) := by decide +kernel
theorem dX2_leastOnward_5 : decode cX2_leastOnward 5 = .ok (.iconst 0, 1) := by decide +kernel
theorem dX2_leastOnward_6 : decode cX2_leastOnward 6 = .ok (.istore 6, 2) := by decide +kernel
theorem dX2_leastOnward_8 : decode cX2_leastOnward 8 = .ok (.iload 6, 2) := by decide +kernel
theorem dX2_leastOnward_10 : decode cX2_leastOnward 10 = .ok (.iload_n 3, 1) := by decide +kernel
theorem dX2_leastOnward_11 : decode cX2_leastOnward 11 = .ok (.if_icmp .ge 17, 3) := by decide +kernel
theorem dX2_leastOnward_14 : decode cX2_leastOnward 14 = .ok (.aload_n 0, 1) := by decide +kernel
theorem dX2_leastOnward_15 : decode cX2_leastOnward 15 = .ok (.lload 4, 2) := by decide +kernel
theorem dX2_leastOnward_17 : decode cX2_leastOnward 17 = .ok (.invokevirtual 126, 3) := by decide +kernel
theorem dX2_leastOnward_20 : decode cX2_leastOnward 20 = .ok (.lstore 4, 2) := by decide +kernel
theorem dX2_leastOnward_22 : decode cX2_leastOnward 22 = .ok (.iinc 6 1, 3) := by decide +kernel
theorem dX2_leastOnward_25 : decode cX2_leastOnward 25 = .ok (.goto (-17), 3) := by decide +kernel
theorem dX2_leastOnward_28 : decode cX2_leastOnward 28 = .ok (.aload_n 0, 1) := by decide +kernel
theorem dX2_leastOnward_29 : decode cX2_leastOnward 29 = .ok (.getfield 17, 3) := by decide +kernel
theorem dX2_leastOnward_32 : decode cX2_leastOnward 32 = .ok (.iload_n 1, 1) := by decide +kernel
theorem dX2_leastOnward_33 : decode cX2_leastOnward 33 = .ok (.laload, 1) := by decide +kernel
theorem dX2_leastOnward_34 : decode cX2_leastOnward 34 = .ok (.lload 4, 2) := by decide +kernel
theorem dX2_leastOnward_36 : decode cX2_leastOnward 36 = .ok (.land, 1) := by decide +kernel
theorem dX2_leastOnward_37 : decode cX2_leastOnward 37 = .ok (.lstore 6, 2) := by decide +kernel
theorem dX2_leastOnward_39 : decode cX2_leastOnward 39 = .ok (.lload 6, 2) := by decide +kernel
theorem dX2_leastOnward_41 : decode cX2_leastOnward 41 = .ok (.lconst 0, 1) := by decide +kernel
theorem dX2_leastOnward_42 : decode cX2_leastOnward 42 = .ok (.lcmp, 1) := by decide +kernel
theorem dX2_leastOnward_43 : decode cX2_leastOnward 43 = .ok (.ifCond .ne 7, 3) := by decide +kernel
theorem dX2_leastOnward_46 : decode cX2_leastOnward 46 = .ok (.iload_n 2, 1) := by decide +kernel
theorem dX2_leastOnward_47 : decode cX2_leastOnward 47 = .ok (.goto 8, 3) := by decide +kernel
theorem dX2_leastOnward_50 : decode cX2_leastOnward 50 = .ok (.lload 6, 2) := by decide +kernel
theorem dX2_leastOnward_52 : decode cX2_leastOnward 52 = .ok (.invokestatic 129, 3) := by decide +kernel
theorem dX2_leastOnward_55 : decode cX2_leastOnward 55 = .ok (.ireturn, 1) := by decide +kernel
theorem dX2_directlyLeaningOn_0 : decode cX2_directlyLeaningOn 0 = .ok (.lconst 0, 1) := by decide +kernel
theorem dX2_directlyLeaningOn_1 : decode cX2_directlyLeaningOn 1 = .ok (.lstore_n 3, 1) := by decide +kernel
theorem dX2_directlyLeaningOn_2 : decode cX2_directlyLeaningOn 2 = .ok (.iconst 0, 1) := by decide +kernel
theorem dX2_directlyLeaningOn_3 : decode cX2_directlyLeaningOn 3 = .ok (.istore 5, 2) := by decide +kernel
theorem dX2_directlyLeaningOn_5 : decode cX2_directlyLeaningOn 5 = .ok (.iload 5, 2) := by decide +kernel
theorem dX2_directlyLeaningOn_7 : decode cX2_directlyLeaningOn 7 = .ok (.aload_n 0, 1) := by decide +kernel
theorem dX2_directlyLeaningOn_8 : decode cX2_directlyLeaningOn 8 = .ok (.getfield 38, 3) := by decide +kernel
theorem dX2_directlyLeaningOn_11 : decode cX2_directlyLeaningOn 11 = .ok (.if_icmp .ge 30, 3) := by decide +kernel
theorem dX2_directlyLeaningOn_14 : decode cX2_directlyLeaningOn 14 = .ok (.aload_n 0, 1) := by decide +kernel
theorem dX2_directlyLeaningOn_15 : decode cX2_directlyLeaningOn 15 = .ok (.getfield 17, 3) := by decide +kernel
theorem dX2_directlyLeaningOn_18 : decode cX2_directlyLeaningOn 18 = .ok (.iload 5, 2) := by decide +kernel
theorem dX2_directlyLeaningOn_20 : decode cX2_directlyLeaningOn 20 = .ok (.laload, 1) := by decide +kernel
theorem dX2_directlyLeaningOn_21 : decode cX2_directlyLeaningOn 21 = .ok (.lload_n 1, 1) := by decide +kernel
theorem dX2_directlyLeaningOn_22 : decode cX2_directlyLeaningOn 22 = .ok (.land, 1) := by decide +kernel
theorem dX2_directlyLeaningOn_23 : decode cX2_directlyLeaningOn 23 = .ok (.lconst 0, 1) := by decide +kernel
theorem dX2_directlyLeaningOn_24 : decode cX2_directlyLeaningOn 24 = .ok (.lcmp, 1) := by decide +kernel
theorem dX2_directlyLeaningOn_25 : decode cX2_directlyLeaningOn 25 = .ok (.ifCond .eq 10, 3) := by decide +kernel
theorem dX2_directlyLeaningOn_28 : decode cX2_directlyLeaningOn 28 = .ok (.lload_n 3, 1) := by decide +kernel
theorem dX2_directlyLeaningOn_29 : decode cX2_directlyLeaningOn 29 = .ok (.lconst 1, 1) := by decide +kernel
theorem dX2_directlyLeaningOn_30 : decode cX2_directlyLeaningOn 30 = .ok (.iload 5, 2) := by decide +kernel
theorem dX2_directlyLeaningOn_32 : decode cX2_directlyLeaningOn 32 = .ok (.lshl, 1) := by decide +kernel
theorem dX2_directlyLeaningOn_33 : decode cX2_directlyLeaningOn 33 = .ok (.lor, 1) := by decide +kernel
theorem dX2_directlyLeaningOn_34 : decode cX2_directlyLeaningOn 34 = .ok (.lstore_n 3, 1) := by decide +kernel
theorem dX2_directlyLeaningOn_35 : decode cX2_directlyLeaningOn 35 = .ok (.iinc 5 1, 3) := by decide +kernel
theorem dX2_directlyLeaningOn_38 : decode cX2_directlyLeaningOn 38 = .ok (.goto (-33), 3) := by decide +kernel
theorem dX2_directlyLeaningOn_41 : decode cX2_directlyLeaningOn 41 = .ok (.lload_n 3, 1) := by decide +kernel
theorem dX2_directlyLeaningOn_42 : decode cX2_directlyLeaningOn 42 = .ok (.lreturn, 1) := by decide +kernel
theorem dX3_init_0 : decode cX3_init 0 = .ok (.aload_n 0, 1) := by decide +kernel
theorem dX3_init_1 : decode cX3_init 1 = .ok (.invokespecial 3, 3) := by decide +kernel
theorem dX3_init_4 : decode cX3_init 4 = .ok (.aload_n 0, 1) := by decide +kernel
theorem dX3_init_5 : decode cX3_init 5 = .ok (.bipush 6, 2) := by decide +kernel
theorem dX3_init_7 : decode cX3_init 7 = .ok (.newarray .int, 2) := by decide +kernel
theorem dX3_init_9 : decode cX3_init 9 = .ok (.putfield 9, 3) := by decide +kernel
theorem dX3_init_12 : decode cX3_init 12 = .ok (.aload_n 0, 1) := by decide +kernel
theorem dX3_init_13 : decode cX3_init 13 = .ok (.bipush 20, 2) := by decide +kernel
theorem dX3_init_15 : decode cX3_init 15 = .ok (.newarray .int, 2) := by decide +kernel
theorem dX3_init_17 : decode cX3_init 17 = .ok (.putfield 15, 3) := by decide +kernel
theorem dX3_init_20 : decode cX3_init 20 = .ok (.aload_n 0, 1) := by decide +kernel
theorem dX3_init_21 : decode cX3_init 21 = .ok (.bipush 20, 2) := by decide +kernel
theorem dX3_init_23 : decode cX3_init 23 = .ok (.newarray .int, 2) := by decide +kernel
theorem dX3_init_25 : decode cX3_init 25 = .ok (.putfield 18, 3) := by decide +kernel
theorem dX3_init_28 : decode cX3_init 28 = .ok (.aload_n 0, 1) := by decide +kernel
theorem dX3_init_29 : decode cX3_init 29 = .ok (.bipush 20, 2) := by decide +kernel
theorem dX3_init_31 : decode cX3_init 31 = .ok (.newarray .int, 2) := by decide +kernel
theorem dX3_init_33 : decode cX3_init 33 = .ok (.putfield 21, 3) := by decide +kernel
theorem dX3_init_36 : decode cX3_init 36 = .ok (.return_, 1) := by decide +kernel
theorem dX3_copyFrom_0 : decode cX3_copyFrom 0 = .ok (.aload_n 1, 1) := by decide +kernel
theorem dX3_copyFrom_1 : decode cX3_copyFrom 1 = .ok (.getfield 9, 3) := by decide +kernel
theorem dX3_copyFrom_4 : decode cX3_copyFrom 4 = .ok (.aload_n 0, 1) := by decide +kernel
theorem dX3_copyFrom_5 : decode cX3_copyFrom 5 = .ok (.getfield 9, 3) := by decide +kernel
theorem dX3_copyFrom_8 : decode cX3_copyFrom 8 = .ok (.invokestatic 24, 3) := by decide +kernel
theorem dX3_copyFrom_11 : decode cX3_copyFrom 11 = .ok (.aload_n 1, 1) := by decide +kernel
theorem dX3_copyFrom_12 : decode cX3_copyFrom 12 = .ok (.getfield 15, 3) := by decide +kernel
theorem dX3_copyFrom_15 : decode cX3_copyFrom 15 = .ok (.aload_n 0, 1) := by decide +kernel
theorem dX3_copyFrom_16 : decode cX3_copyFrom 16 = .ok (.getfield 15, 3) := by decide +kernel
theorem dX3_copyFrom_19 : decode cX3_copyFrom 19 = .ok (.invokestatic 24, 3) := by decide +kernel
theorem dX3_copyFrom_22 : decode cX3_copyFrom 22 = .ok (.aload_n 1, 1) := by decide +kernel
theorem dX3_copyFrom_23 : decode cX3_copyFrom 23 = .ok (.getfield 18, 3) := by decide +kernel
theorem dX3_copyFrom_26 : decode cX3_copyFrom 26 = .ok (.aload_n 0, 1) := by decide +kernel
theorem dX3_copyFrom_27 : decode cX3_copyFrom 27 = .ok (.getfield 18, 3) := by decide +kernel
theorem dX3_copyFrom_30 : decode cX3_copyFrom 30 = .ok (.invokestatic 24, 3) := by decide +kernel
theorem dX3_copyFrom_33 : decode cX3_copyFrom 33 = .ok (.aload_n 1, 1) := by decide +kernel
theorem dX3_copyFrom_34 : decode cX3_copyFrom 34 = .ok (.getfield 21, 3) := by decide +kernel
theorem dX3_copyFrom_37 : decode cX3_copyFrom 37 = .ok (.aload_n 0, 1) := by decide +kernel
theorem dX3_copyFrom_38 : decode cX3_copyFrom 38 = .ok (.getfield 21, 3) := by decide +kernel
theorem dX3_copyFrom_41 : decode cX3_copyFrom 41 = .ok (.invokestatic 24, 3) := by decide +kernel
theorem dX3_copyFrom_44 : decode cX3_copyFrom 44 = .ok (.aload_n 0, 1) := by decide +kernel
theorem dX3_copyFrom_45 : decode cX3_copyFrom 45 = .ok (.aload_n 1, 1) := by decide +kernel
theorem dX3_copyFrom_46 : decode cX3_copyFrom 46 = .ok (.getfield 28, 3) := by decide +kernel
theorem dX3_copyFrom_49 : decode cX3_copyFrom 49 = .ok (.putfield 28, 3) := by decide +kernel
theorem dX3_copyFrom_52 : decode cX3_copyFrom 52 = .ok (.return_, 1) := by decide +kernel
theorem dX3_allot_0 : decode cX3_allot 0 = .ok (.aload_n 2, 1) := by decide +kernel
theorem dX3_allot_1 : decode cX3_allot 1 = .ok (.iconst 0, 1) := by decide +kernel
theorem dX3_allot_2 : decode cX3_allot 2 = .ok (.invokestatic 32, 3) := by decide +kernel
theorem dX3_allot_5 : decode cX3_allot 5 = .ok (.iconst 0, 1) := by decide +kernel
theorem dX3_allot_6 : decode cX3_allot 6 = .ok (.istore_n 3, 1) := by decide +kernel
theorem dX3_allot_7 : decode cX3_allot 7 = .ok (.iload_n 3, 1) := by decide +kernel
theorem dX3_allot_8 : decode cX3_allot 8 = .ok (.iload_n 1, 1) := by decide +kernel
theorem dX3_allot_9 : decode cX3_allot 9 = .ok (.if_icmp .ge 34, 3) := by decide +kernel
theorem dX3_allot_12 : decode cX3_allot 12 = .ok (.aload_n 0, 1) := by decide +kernel
theorem dX3_allot_13 : decode cX3_allot 13 = .ok (.aload_n 2, 1) := by decide +kernel
theorem dX3_allot_14 : decode cX3_allot 14 = .ok (.invokevirtual 38, 3) := by decide +kernel
theorem dX3_allot_17 : decode cX3_allot 17 = .ok (.istore 4, 2) := by decide +kernel
theorem dX3_allot_19 : decode cX3_allot 19 = .ok (.aload_n 0, 1) := by decide +kernel
theorem dX3_allot_20 : decode cX3_allot 20 = .ok (.getfield 9, 3) := by decide +kernel
theorem dX3_allot_23 : decode cX3_allot 23 = .ok (.iload 4, 2) := by decide +kernel
theorem dX3_allot_25 : decode cX3_allot 25 = .ok (.iaload, 1) := by decide +kernel
theorem dX3_allot_26 : decode cX3_allot 26 = .ok (.ifCond .le 11, 3) := by decide +kernel
theorem dX3_allot_29 : decode cX3_allot 29 = .ok (.aload_n 2, 1) := by decide +kernel
theorem dX3_allot_30 : decode cX3_allot 30 = .ok (.iload 4, 2) := by decide +kernel
theorem dX3_allot_32 : decode cX3_allot 32 = .ok (.dup2, 1) := by decide +kernel
theorem dX3_allot_33 : decode cX3_allot 33 = .ok (.iaload, 1) := by decide +kernel
theorem dX3_allot_34 : decode cX3_allot 34 = .ok (.iconst 1, 1) := by decide +kernel
theorem dX3_allot_35 : decode cX3_allot 35 = .ok (.iadd, 1) := by decide +kernel
theorem dX3_allot_36 : decode cX3_allot 36 = .ok (.iastore, 1) := by decide +kernel
theorem dX3_allot_37 : decode cX3_allot 37 = .ok (.iinc 3 1, 3) := by decide +kernel
theorem dX3_allot_40 : decode cX3_allot 40 = .ok (.goto (-33), 3) := by decide +kernel
theorem dX3_allot_43 : decode cX3_allot 43 = .ok (.return_, 1) := by decide +kernel
theorem dX3_nextList_0 : decode cX3_nextList 0 = .ok (.iconst 0, 1) := by decide +kernel
theorem dX3_nextList_1 : decode cX3_nextList 1 = .ok (.istore_n 2, 1) := by decide +kernel
theorem dX3_nextList_2 : decode cX3_nextList 2 = .ok (.iconst 1, 1) := by decide +kernel
theorem dX3_nextList_3 : decode cX3_nextList 3 = .ok (.istore_n 3, 1) := by decide +kernel
theorem dX3_nextList_4 : decode cX3_nextList 4 = .ok (.iload_n 3, 1) := by decide +kernel
theorem dX3_nextList_5 : decode cX3_nextList 5 = .ok (.bipush 6, 2) := by decide +kernel
theorem dX3_nextList_7 : decode cX3_nextList 7 = .ok (.if_icmp .ge 38, 3) := by decide +kernel
theorem dX3_nextList_10 : decode cX3_nextList 10 = .ok (.aload_n 0, 1) := by decide +kernel
theorem dX3_nextList_11 : decode cX3_nextList 11 = .ok (.getfield 9, 3) := by decide +kernel
theorem dX3_nextList_14 : decode cX3_nextList 14 = .ok (.iload_n 3, 1) := by decide +kernel
theorem dX3_nextList_15 : decode cX3_nextList 15 = .ok (.iaload, 1) := by decide +kernel
theorem dX3_nextList_16 : decode cX3_nextList 16 = .ok (.aload_n 1, 1) := by decide +kernel
theorem dX3_nextList_17 : decode cX3_nextList 17 = .ok (.iload_n 2, 1) := by decide +kernel
theorem dX3_nextList_18 : decode cX3_nextList 18 = .ok (.iaload, 1) := by decide +kernel
theorem dX3_nextList_19 : decode cX3_nextList 19 = .ok (.iconst 1, 1) := by decide +kernel
theorem dX3_nextList_20 : decode cX3_nextList 20 = .ok (.iadd, 1) := by decide +kernel
theorem dX3_nextList_21 : decode cX3_nextList 21 = .ok (.imul, 1) := by decide +kernel
theorem dX3_nextList_22 : decode cX3_nextList 22 = .ok (.aload_n 0, 1) := by decide +kernel
theorem dX3_nextList_23 : decode cX3_nextList 23 = .ok (.getfield 9, 3) := by decide +kernel
theorem dX3_nextList_26 : decode cX3_nextList 26 = .ok (.iload_n 2, 1) := by decide +kernel
theorem dX3_nextList_27 : decode cX3_nextList 27 = .ok (.iaload, 1) := by decide +kernel
theorem dX3_nextList_28 : decode cX3_nextList 28 = .ok (.aload_n 1, 1) := by decide +kernel
theorem dX3_nextList_29 : decode cX3_nextList 29 = .ok (.iload_n 3, 1) := by decide +kernel
theorem dX3_nextList_30 : decode cX3_nextList 30 = .ok (.iaload, 1) := by decide +kernel
theorem dX3_nextList_31 : decode cX3_nextList 31 = .ok (.iconst 1, 1) := by decide +kernel
theorem dX3_nextList_32 : decode cX3_nextList 32 = .ok (.iadd, 1) := by decide +kernel
theorem dX3_nextList_33 : decode cX3_nextList 33 = .ok (.imul, 1) := by decide +kernel
theorem dX3_nextList_34 : decode cX3_nextList 34 = .ok (.if_icmp .le 5, 3) := by decide +kernel
theorem dX3_nextList_37 : decode cX3_nextList 37 = .ok (.iload_n 3, 1) := by decide +kernel
theorem dX3_nextList_38 : decode cX3_nextList 38 = .ok (.istore_n 2, 1) := by decide +kernel
theorem dX3_nextList_39 : decode cX3_nextList 39 = .ok (.iinc 3 1, 3) := by decide +kernel
theorem dX3_nextList_42 : decode cX3_nextList 42 = .ok (.goto (-38), 3) := by decide +kernel
theorem dX3_nextList_45 : decode cX3_nextList 45 = .ok (.iload_n 2, 1) := by decide +kernel
theorem dX3_nextList_46 : decode cX3_nextList 46 = .ok (.ireturn, 1) := by decide +kernel
theorem dX3_addSaying_0 : decode cX3_addSaying 0 = .ok (.aload_n 0, 1) := by decide +kernel
theorem dX3_addSaying_1 : decode cX3_addSaying 1 = .ok (.getfield 15, 3) := by decide +kernel
theorem dX3_addSaying_4 : decode cX3_addSaying 4 = .ok (.aload_n 0, 1) := by decide +kernel
theorem dX3_addSaying_5 : decode cX3_addSaying 5 = .ok (.getfield 28, 3) := by decide +kernel
theorem dX3_addSaying_8 : decode cX3_addSaying 8 = .ok (.iload_n 1, 1) := by decide +kernel
theorem dX3_addSaying_9 : decode cX3_addSaying 9 = .ok (.iastore, 1) := by decide +kernel
theorem dX3_addSaying_10 : decode cX3_addSaying 10 = .ok (.aload_n 0, 1) := by decide +kernel
theorem dX3_addSaying_11 : decode cX3_addSaying 11 = .ok (.getfield 18, 3) := by decide +kernel
theorem dX3_addSaying_14 : decode cX3_addSaying 14 = .ok (.aload_n 0, 1) := by decide +kernel
theorem dX3_addSaying_15 : decode cX3_addSaying 15 = .ok (.getfield 28, 3) := by decide +kernel
theorem dX3_addSaying_18 : decode cX3_addSaying 18 = .ok (.iload_n 2, 1) := by decide +kernel
theorem dX3_addSaying_19 : decode cX3_addSaying 19 = .ok (.iastore, 1) := by decide +kernel
theorem dX3_addSaying_20 : decode cX3_addSaying 20 = .ok (.aload_n 0, 1) := by decide +kernel
theorem dX3_addSaying_21 : decode cX3_addSaying 21 = .ok (.getfield 21, 3) := by decide +kernel
theorem dX3_addSaying_24 : decode cX3_addSaying 24 = .ok (.aload_n 0, 1) := by decide +kernel
theorem dX3_addSaying_25 : decode cX3_addSaying 25 = .ok (.getfield 28, 3) := by decide +kernel
theorem dX3_addSaying_28 : decode cX3_addSaying 28 = .ok (.iload_n 3, 1) := by decide +kernel
theorem dX3_addSaying_29 : decode cX3_addSaying 29 = .ok (.iastore, 1) := by decide +kernel
theorem dX3_addSaying_30 : decode cX3_addSaying 30 = .ok (.aload_n 0, 1) := by decide +kernel
theorem dX3_addSaying_31 : decode cX3_addSaying 31 = .ok (.dup, 1) := by decide +kernel
theorem dX3_addSaying_32 : decode cX3_addSaying 32 = .ok (.getfield 28, 3) := by decide +kernel
theorem dX3_addSaying_35 : decode cX3_addSaying 35 = .ok (.iconst 1, 1) := by decide +kernel
theorem dX3_addSaying_36 : decode cX3_addSaying 36 = .ok (.iadd, 1) := by decide +kernel
theorem dX3_addSaying_37 : decode cX3_addSaying 37 = .ok (.putfield 28, 3) := by decide +kernel
theorem dX3_addSaying_40 : decode cX3_addSaying 40 = .ok (.aload_n 0, 1) := by decide +kernel
theorem dX3_addSaying_41 : decode cX3_addSaying 41 = .ok (.getfield 28, 3) := by decide +kernel
theorem dX3_addSaying_44 : decode cX3_addSaying 44 = .ok (.ireturn, 1) := by decide +kernel
theorem dX3_trueSayings_0 : decode cX3_trueSayings 0 = .ok (.iconst 0, 1) := by decide +kernel
theorem dX3_trueSayings_1 : decode cX3_trueSayings 1 = .ok (.istore_n 3, 1) := by decide +kernel
theorem dX3_trueSayings_2 : decode cX3_trueSayings 2 = .ok (.iconst 0, 1) := by decide +kernel
theorem dX3_trueSayings_3 : decode cX3_trueSayings 3 = .ok (.istore 4, 2) := by decide +kernel
theorem dX3_trueSayings_5 : decode cX3_trueSayings 5 = .ok (.iload 4, 2) := by decide +kernel
theorem dX3_trueSayings_7 : decode cX3_trueSayings 7 = .ok (.aload_n 0, 1) := by decide +kernel
theorem dX3_trueSayings_8 : decode cX3_trueSayings 8 = .ok (.getfield 28, 3) := by decide +kernel
theorem dX3_trueSayings_11 : decode cX3_trueSayings 11 = .ok (.if_icmp .ge 47, 3) := by decide +kernel
theorem dX3_trueSayings_14 : decode cX3_trueSayings 14 = .ok (.aload_n 0, 1) := by decide +kernel
theorem dX3_trueSayings_15 : decode cX3_trueSayings 15 = .ok (.getfield 15, 3) := by decide +kernel
theorem dX3_trueSayings_18 : decode cX3_trueSayings 18 = .ok (.iload 4, 2) := by decide +kernel
theorem dX3_trueSayings_20 : decode cX3_trueSayings 20 = .ok (.iaload, 1) := by decide +kernel
theorem dX3_trueSayings_21 : decode cX3_trueSayings 21 = .ok (.iload_n 1, 1) := by decide +kernel
theorem dX3_trueSayings_22 : decode cX3_trueSayings 22 = .ok (.if_icmp .gt 30, 3) := by decide +kernel
theorem dX3_trueSayings_25 : decode cX3_trueSayings 25 = .ok (.iload_n 2, 1) := by decide +kernel
theorem dX3_trueSayings_26 : decode cX3_trueSayings 26 = .ok (.aload_n 0, 1) := by decide +kernel
theorem dX3_trueSayings_27 : decode cX3_trueSayings 27 = .ok (.getfield 18, 3) := by decide +kernel
theorem dX3_trueSayings_30 : decode cX3_trueSayings 30 = .ok (.iload 4, 2) := by decide +kernel
theorem dX3_trueSayings_32 : decode cX3_trueSayings 32 = .ok (.iaload, 1) := by decide +kernel
theorem dX3_trueSayings_33 : decode cX3_trueSayings 33 = .ok (.iand, 1) := by decide +kernel
theorem dX3_trueSayings_34 : decode cX3_trueSayings 34 = .ok (.iload_n 2, 1) := by decide +kernel
theorem dX3_trueSayings_35 : decode cX3_trueSayings 35 = .ok (.iconst (-1), 1) := by decide +kernel
theorem dX3_trueSayings_36 : decode cX3_trueSayings 36 = .ok (.ixor, 1) := by decide +kernel
theorem dX3_trueSayings_37 : decode cX3_trueSayings 37 = .ok (.aload_n 0, 1) := by decide +kernel
theorem dX3_trueSayings_38 : decode cX3_trueSayings 38 = .ok (.getfield 21, 3) := by decide +kernel
theorem dX3_trueSayings_41 : decode cX3_trueSayings 41 = .ok (.iload 4, 2) := by decide +kernel
theorem dX3_trueSayings_43 : decode cX3_trueSayings 43 = .ok (.iaload, 1) := by decide +kernel
theorem dX3_trueSayings_44 : decode cX3_trueSayings 44 = .ok (.iand, 1) := by decide +kernel
theorem dX3_trueSayings_45 : decode cX3_trueSayings 45 = .ok (.ior, 1) := by decide +kernel
theorem dX3_trueSayings_46 : decode cX3_trueSayings 46 = .ok (.ifCond .eq 6, 3) := by decide +kernel
theorem dX3_trueSayings_49 : decode cX3_trueSayings 49 = .ok (.iinc 3 1, 3) := by decide +kernel
theorem dX3_trueSayings_52 : decode cX3_trueSayings 52 = .ok (.iinc 4 1, 3) := by decide +kernel
theorem dX3_trueSayings_55 : decode cX3_trueSayings 55 = .ok (.goto (-50), 3) := by decide +kernel
theorem dX3_trueSayings_58 : decode cX3_trueSayings 58 = .ok (.iload_n 3, 1) := by decide +kernel
theorem dX3_trueSayings_59 : decode cX3_trueSayings 59 = .ok (.ireturn, 1) := by decide +kernel
theorem dX3_bestThings_0 : decode cX3_bestThings 0 = .ok (.iconst 0, 1) := by decide +kernel
theorem dX3_bestThings_1 : decode cX3_bestThings 1 = .ok (.istore_n 2, 1) := by decide +kernel
theorem dX3_bestThings_2 : decode cX3_bestThings 2 = .ok (.aload_n 0, 1) := by decide +kernel
theorem dX3_bestThings_3 : decode cX3_bestThings 3 = .ok (.iload_n 1, 1) := by decide +kernel
theorem dX3_bestThings_4 : decode cX3_bestThings 4 = .ok (.iconst 0, 1) := by decide +kernel
theorem dX3_bestThings_5 : decode cX3_bestThings 5 = .ok (.invokevirtual 42, 3) := by decide +kernel
theorem dX3_bestThings_8 : decode cX3_bestThings 8 = .ok (.istore_n 3, 1) := by decide +kernel
theorem dX3_bestThings_9 : decode cX3_bestThings 9 = .ok (.iconst 1, 1) := by decide +kernel
theorem dX3_bestThings_10 : decode cX3_bestThings 10 = .ok (.istore 4, 2) := by decide +kernel
theorem dX3_bestThings_12 : decode cX3_bestThings 12 = .ok (.iload 4, 2) := by decide +kernel
theorem dX3_bestThings_14 : decode cX3_bestThings 14 = .ok (.sipush 256, 3) := by decide +kernel
theorem dX3_bestThings_17 : decode cX3_bestThings 17 = .ok (.if_icmp .ge 30, 3) := by decide +kernel
theorem dX3_bestThings_20 : decode cX3_bestThings 20 = .ok (.aload_n 0, 1) := by decide +kernel
theorem dX3_bestThings_21 : decode cX3_bestThings 21 = .ok (.iload_n 1, 1) := by decide +kernel
theorem dX3_bestThings_22 : decode cX3_bestThings 22 = .ok (.iload 4, 2) := by decide +kernel
theorem dX3_bestThings_24 : decode cX3_bestThings 24 = .ok (.invokevirtual 42, 3) := by decide +kernel
theorem dX3_bestThings_27 : decode cX3_bestThings 27 = .ok (.istore 5, 2) := by decide +kernel
theorem dX3_bestThings_29 : decode cX3_bestThings 29 = .ok (.iload 5, 2) := by decide +kernel
theorem dX3_bestThings_31 : decode cX3_bestThings 31 = .ok (.iload_n 3, 1) := by decide +kernel
theorem dX3_bestThings_32 : decode cX3_bestThings 32 = .ok (.if_icmp .le 9, 3) := by decide +kernel
theorem dX3_bestThings_35 : decode cX3_bestThings 35 = .ok (.iload 4, 2) := by decide +kernel
theorem dX3_bestThings_37 : decode cX3_bestThings 37 = .ok (.istore_n 2, 1) := by decide +kernel
theorem dX3_bestThings_38 : decode cX3_bestThings 38 = .ok (.iload 5, 2) := by decide +kernel
theorem dX3_bestThings_40 : decode cX3_bestThings 40 = .ok (.istore_n 3, 1) := by decide +kernel
theorem dX3_bestThings_41 : decode cX3_bestThings 41 = .ok (.iinc 4 1, 3) := by decide +kernel
theorem dX3_bestThings_44 : decode cX3_bestThings 44 = .ok (.goto (-32), 3) := by decide +kernel
theorem dX3_bestThings_47 : decode cX3_bestThings 47 = .ok (.iload_n 2, 1) := by decide +kernel
theorem dX3_bestThings_48 : decode cX3_bestThings 48 = .ok (.ireturn, 1) := by decide +kernel
theorem dX4_init_0 : decode cX4_init 0 = .ok (.aload_n 0, 1) := by decide +kernel
theorem dX4_init_1 : decode cX4_init 1 = .ok (.invokespecial 3, 3) := by decide +kernel
theorem dX4_init_4 : decode cX4_init 4 = .ok (.aload_n 0, 1) := by decide +kernel
theorem dX4_init_5 : decode cX4_init 5 = .ok (.bipush 30, 2) := by decide +kernel
theorem dX4_init_7 : decode cX4_init 7 = .ok (.newarray .int, 2) := by decide +kernel
theorem dX4_init_9 : decode cX4_init 9 = .ok (.putfield 9, 3) := by decide +kernel
theorem dX4_init_12 : decode cX4_init 12 = .ok (.aload_n 0, 1) := by decide +kernel
theorem dX4_init_13 : decode cX4_init 13 = .ok (.bipush 120, 2) := by decide +kernel
theorem dX4_init_15 : decode cX4_init 15 = .ok (.newarray .byte, 2) := by decide +kernel
theorem dX4_init_17 : decode cX4_init 17 = .ok (.putfield 15, 3) := by decide +kernel
theorem dX4_init_20 : decode cX4_init 20 = .ok (.aload_n 0, 1) := by decide +kernel
theorem dX4_init_21 : decode cX4_init 21 = .ok (.bipush 15, 2) := by decide +kernel
theorem dX4_init_23 : decode cX4_init 23 = .ok (.anewarray 19, 3) := by decide +kernel
theorem dX4_init_26 : decode cX4_init 26 = .ok (.putfield 21, 3) := by decide +kernel
theorem dX4_init_29 : decode cX4_init 29 = .ok (.return_, 1) := by decide +kernel
theorem dX4_copyFrom_0 : decode cX4_copyFrom 0 = .ok (.aload_n 1, 1) := by decide +kernel
theorem dX4_copyFrom_1 : decode cX4_copyFrom 1 = .ok (.getfield 9, 3) := by decide +kernel
theorem dX4_copyFrom_4 : decode cX4_copyFrom 4 = .ok (.aload_n 0, 1) := by decide +kernel
theorem dX4_copyFrom_5 : decode cX4_copyFrom 5 = .ok (.getfield 9, 3) := by decide +kernel
theorem dX4_copyFrom_8 : decode cX4_copyFrom 8 = .ok (.invokestatic 25, 3) := by decide +kernel
theorem dX4_copyFrom_11 : decode cX4_copyFrom 11 = .ok (.aload_n 0, 1) := by decide +kernel
theorem dX4_copyFrom_12 : decode cX4_copyFrom 12 = .ok (.aload_n 1, 1) := by decide +kernel
theorem dX4_copyFrom_13 : decode cX4_copyFrom 13 = .ok (.getfield 29, 3) := by decide +kernel
theorem dX4_copyFrom_16 : decode cX4_copyFrom 16 = .ok (.putfield 29, 3) := by decide +kernel
theorem dX4_copyFrom_19 : decode cX4_copyFrom 19 = .ok (.aload_n 1, 1) := by decide +kernel
theorem dX4_copyFrom_20 : decode cX4_copyFrom 20 = .ok (.getfield 15, 3) := by decide +kernel
theorem dX4_copyFrom_23 : decode cX4_copyFrom 23 = .ok (.iconst 0, 1) := by decide +kernel
theorem dX4_copyFrom_24 : decode cX4_copyFrom 24 = .ok (.aload_n 0, 1) := by decide +kernel
theorem dX4_copyFrom_25 : decode cX4_copyFrom 25 = .ok (.getfield 15, 3) := by decide +kernel
theorem dX4_copyFrom_28 : decode cX4_copyFrom 28 = .ok (.iconst 0, 1) := by decide +kernel
theorem dX4_copyFrom_29 : decode cX4_copyFrom 29 = .ok (.bipush 120, 2) := by decide +kernel
theorem dX4_copyFrom_31 : decode cX4_copyFrom 31 = .ok (.invokestatic 33, 3) := by decide +kernel
theorem dX4_copyFrom_34 : decode cX4_copyFrom 34 = .ok (.aload_n 0, 1) := by decide +kernel
theorem dX4_copyFrom_35 : decode cX4_copyFrom 35 = .ok (.aload_n 1, 1) := by decide +kernel
theorem dX4_copyFrom_36 : decode cX4_copyFrom 36 = .ok (.getfield 39, 3) := by decide +kernel
theorem dX4_copyFrom_39 : decode cX4_copyFrom 39 = .ok (.putfield 39, 3) := by decide +kernel
theorem dX4_copyFrom_42 : decode cX4_copyFrom 42 = .ok (.aload_n 1, 1) := by decide +kernel
theorem dX4_copyFrom_43 : decode cX4_copyFrom 43 = .ok (.getfield 21, 3) := by decide +kernel
theorem dX4_copyFrom_46 : decode cX4_copyFrom 46 = .ok (.iconst 0, 1) := by decide +kernel
theorem dX4_copyFrom_47 : decode cX4_copyFrom 47 = .ok (.aload_n 0, 1) := by decide +kernel
theorem dX4_copyFrom_48 : decode cX4_copyFrom 48 = .ok (.getfield 21, 3) := by decide +kernel
theorem dX4_copyFrom_51 : decode cX4_copyFrom 51 = .ok (.iconst 0, 1) := by decide +kernel
theorem dX4_copyFrom_52 : decode cX4_copyFrom 52 = .ok (.bipush 15, 2) := by decide +kernel
theorem dX4_copyFrom_54 : decode cX4_copyFrom 54 = .ok (.invokestatic 33, 3) := by decide +kernel
theorem dX4_copyFrom_57 : decode cX4_copyFrom 57 = .ok (.aload_n 0, 1) := by decide +kernel
theorem dX4_copyFrom_58 : decode cX4_copyFrom 58 = .ok (.aload_n 1, 1) := by decide +kernel
theorem dX4_copyFrom_59 : decode cX4_copyFrom 59 = .ok (.getfield 42, 3) := by decide +kernel
theorem dX4_copyFrom_62 : decode cX4_copyFrom 62 = .ok (.putfield 42, 3) := by decide +kernel
theorem dX4_copyFrom_65 : decode cX4_copyFrom 65 = .ok (.return_, 1) := by decide +kernel
theorem dX4_openSpots_0 : decode cX4_openSpots 0 = .ok (.iconst 0, 1) := by decide +kernel
theorem dX4_openSpots_1 : decode cX4_openSpots 1 = .ok (.istore_n 1, 1) := by decide +kernel
theorem dX4_openSpots_2 : decode cX4_openSpots 2 = .ok (.iconst 0, 1) := by decide +kernel
theorem dX4_openSpots_3 : decode cX4_openSpots 3 = .ok (.istore_n 2, 1) := by decide +kernel
theorem dX4_openSpots_4 : decode cX4_openSpots 4 = .ok (.iload_n 2, 1) := by decide +kernel
theorem dX4_openSpots_5 : decode cX4_openSpots 5 = .ok (.bipush 30, 2) := by decide +kernel
theorem dX4_openSpots_7 : decode cX4_openSpots 7 = .ok (.if_icmp .ge 25, 3) := by decide +kernel
theorem dX4_openSpots_10 : decode cX4_openSpots 10 = .ok (.aload_n 0, 1) := by decide +kernel
theorem dX4_openSpots_11 : decode cX4_openSpots 11 = .ok (.getfield 9, 3) := by decide +kernel
theorem dX4_openSpots_14 : decode cX4_openSpots 14 = .ok (.iload_n 2, 1) := by decide +kernel
theorem dX4_openSpots_15 : decode cX4_openSpots 15 = .ok (.iaload, 1) := by decide +kernel
theorem dX4_openSpots_16 : decode cX4_openSpots 16 = .ok (.iconst 5, 1) := by decide +kernel
theorem dX4_openSpots_17 : decode cX4_openSpots 17 = .ok (.if_icmp .eq 9, 3) := by decide +kernel
theorem dX4_openSpots_20 : decode cX4_openSpots 20 = .ok (.iload_n 1, 1) := by decide +kernel
theorem dX4_openSpots_21 : decode cX4_openSpots 21 = .ok (.iconst 1, 1) := by decide +kernel
theorem dX4_openSpots_22 : decode cX4_openSpots 22 = .ok (.iload_n 2, 1) := by decide +kernel
theorem dX4_openSpots_23 : decode cX4_openSpots 23 = .ok (.ishl, 1) := by decide +kernel
theorem dX4_openSpots_24 : decode cX4_openSpots 24 = .ok (.ior, 1) := by decide +kernel
theorem dX4_openSpots_25 : decode cX4_openSpots 25 = .ok (.istore_n 1, 1) := by decide +kernel
theorem dX4_openSpots_26 : decode cX4_openSpots 26 = .ok (.iinc 2 1, 3) := by decide +kernel
theorem dX4_openSpots_29 : decode cX4_openSpots 29 = .ok (.goto (-25), 3) := by decide +kernel
