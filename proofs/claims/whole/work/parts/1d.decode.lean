theorem dX11_init_71 : decode cX11_init 71 = .ok (.bipush 6, 2) := by decide +kernel
theorem dX11_init_73 : decode cX11_init 73 = .ok (.newarray .int, 2) := by decide +kernel
theorem dX11_init_75 : decode cX11_init 75 = .ok (.putfield 47, 3) := by decide +kernel
theorem dX11_init_78 : decode cX11_init 78 = .ok (.return_, 1) := by decide +kernel
theorem dX11_yard_0 : decode cX11_yard 0 = .ok (.iload_n 1, 1) := by decide +kernel
theorem dX11_yard_1 : decode cX11_yard 1 = .ok (.invokestatic 50, 3) := by decide +kernel
theorem dX11_yard_4 : decode cX11_yard 4 = .ok (.ifCond .ne 5, 3) := by decide +kernel
theorem dX11_yard_7 : decode cX11_yard 7 = .ok (.iconst (-1), 1) := by decide +kernel
theorem dX11_yard_8 : decode cX11_yard 8 = .ok (.ireturn, 1) := by decide +kernel
theorem dX11_yard_9 : decode cX11_yard 9 = .ok (.iload_n 2, 1) := by decide +kernel
theorem dX11_yard_10 : decode cX11_yard 10 = .ok (.iconst 0, 1) := by decide +kernel
theorem dX11_yard_11 : decode cX11_yard 11 = .ok (.iconst 5, 1) := by decide +kernel
theorem dX11_yard_12 : decode cX11_yard 12 = .ok (.invokestatic 54, 3) := by decide +kernel
theorem dX11_yard_15 : decode cX11_yard 15 = .ok (.ifCond .ne 6, 3) := by decide +kernel
theorem dX11_yard_18 : decode cX11_yard 18 = .ok (.bipush (-2), 2) := by decide +kernel
theorem dX11_yard_20 : decode cX11_yard 20 = .ok (.ireturn, 1) := by decide +kernel
theorem dX11_yard_21 : decode cX11_yard 21 = .ok (.aload_n 0, 1) := by decide +kernel
theorem dX11_yard_22 : decode cX11_yard 22 = .ok (.getfield 12, 3) := by decide +kernel
theorem dX11_yard_25 : decode cX11_yard 25 = .ok (.getfield 58, 3) := by decide +kernel
theorem dX11_yard_28 : decode cX11_yard 28 = .ok (.iload_n 1, 1) := by decide +kernel
theorem dX11_yard_29 : decode cX11_yard 29 = .ok (.invokevirtual 62, 3) := by decide +kernel
theorem dX11_yard_32 : decode cX11_yard 32 = .ok (.ifCond .ne 17, 3) := by decide +kernel
theorem dX11_yard_35 : decode cX11_yard 35 = .ok (.aload_n 0, 1) := by decide +kernel
theorem dX11_yard_36 : decode cX11_yard 36 = .ok (.getfield 12, 3) := by decide +kernel
theorem dX11_yard_39 : decode cX11_yard 39 = .ok (.getfield 67, 3) := by decide +kernel
theorem dX11_yard_42 : decode cX11_yard 42 = .ok (.iload_n 1, 1) := by decide +kernel
theorem dX11_yard_43 : decode cX11_yard 43 = .ok (.invokevirtual 71, 3) := by decide +kernel
theorem dX11_yard_46 : decode cX11_yard 46 = .ok (.ifCond .eq 6, 3) := by decide +kernel
theorem dX11_yard_49 : decode cX11_yard 49 = .ok (.bipush (-3), 2) := by decide +kernel
theorem dX11_yard_51 : decode cX11_yard 51 = .ok (.ireturn, 1) := by decide +kernel
theorem dX11_yard_52 : decode cX11_yard 52 = .ok (.aload_n 0, 1) := by decide +kernel
theorem dX11_yard_53 : decode cX11_yard 53 = .ok (.getfield 12, 3) := by decide +kernel
theorem dX11_yard_56 : decode cX11_yard 56 = .ok (.getfield 28, 3) := by decide +kernel
theorem dX11_yard_59 : decode cX11_yard 59 = .ok (.getfield 76, 3) := by decide +kernel
theorem dX11_yard_62 : decode cX11_yard 62 = .ok (.iload_n 1, 1) := by decide +kernel
theorem dX11_yard_63 : decode cX11_yard 63 = .ok (.iaload, 1) := by decide +kernel
theorem dX11_yard_64 : decode cX11_yard 64 = .ok (.istore_n 3, 1) := by decide +kernel
theorem dX11_yard_65 : decode cX11_yard 65 = .ok (.aload_n 0, 1) := by decide +kernel
theorem dX11_yard_66 : decode cX11_yard 66 = .ok (.getfield 12, 3) := by decide +kernel
theorem dX11_yard_69 : decode cX11_yard 69 = .ok (.getfield 28, 3) := by decide +kernel
theorem dX11_yard_72 : decode cX11_yard 72 = .ok (.getfield 76, 3) := by decide +kernel
theorem dX11_yard_75 : decode cX11_yard 75 = .ok (.iload_n 1, 1) := by decide +kernel
theorem dX11_yard_76 : decode cX11_yard 76 = .ok (.iload_n 2, 1) := by decide +kernel
theorem dX11_yard_77 : decode cX11_yard 77 = .ok (.iastore, 1) := by decide +kernel
theorem dX11_yard_78 : decode cX11_yard 78 = .ok (.iload_n 3, 1) := by decide +kernel
theorem dX11_yard_79 : decode cX11_yard 79 = .ok (.ireturn, 1) := by decide +kernel
theorem dX11_line_0 : decode cX11_line 0 = .ok (.iload_n 1, 1) := by decide +kernel
theorem dX11_line_1 : decode cX11_line 1 = .ok (.invokestatic 50, 3) := by decide +kernel
theorem dX11_line_4 : decode cX11_line 4 = .ok (.ifCond .eq 25, 3) := by decide +kernel
theorem dX11_line_7 : decode cX11_line 7 = .ok (.iload_n 2, 1) := by decide +kernel
theorem dX11_line_8 : decode cX11_line 8 = .ok (.invokestatic 50, 3) := by decide +kernel
theorem dX11_line_11 : decode cX11_line 11 = .ok (.ifCond .eq 18, 3) := by decide +kernel
theorem dX11_line_14 : decode cX11_line 14 = .ok (.aload_n 0, 1) := by decide +kernel
theorem dX11_line_15 : decode cX11_line 15 = .ok (.getfield 12, 3) := by decide +kernel
theorem dX11_line_18 : decode cX11_line 18 = .ok (.getfield 28, 3) := by decide +kernel
theorem dX11_line_21 : decode cX11_line 21 = .ok (.iload_n 1, 1) := by decide +kernel
theorem dX11_line_22 : decode cX11_line 22 = .ok (.iload_n 2, 1) := by decide +kernel
theorem dX11_line_23 : decode cX11_line 23 = .ok (.invokevirtual 81, 3) := by decide +kernel
theorem dX11_line_26 : decode cX11_line 26 = .ok (.goto 4, 3) := by decide +kernel
theorem dX11_line_29 : decode cX11_line 29 = .ok (.iconst (-1), 1) := by decide +kernel
theorem dX11_line_30 : decode cX11_line 30 = .ok (.ireturn, 1) := by decide +kernel
theorem dX11_day_0 : decode cX11_day 0 = .ok (.iload_n 1, 1) := by decide +kernel
theorem dX11_day_1 : decode cX11_day 1 = .ok (.iconst 1, 1) := by decide +kernel
theorem dX11_day_2 : decode cX11_day 2 = .ok (.bipush 50, 2) := by decide +kernel
theorem dX11_day_4 : decode cX11_day 4 = .ok (.invokestatic 54, 3) := by decide +kernel
theorem dX11_day_7 : decode cX11_day 7 = .ok (.ifCond .eq 21, 3) := by decide +kernel
theorem dX11_day_10 : decode cX11_day 10 = .ok (.aload_n 0, 1) := by decide +kernel
theorem dX11_day_11 : decode cX11_day 11 = .ok (.getfield 12, 3) := by decide +kernel
theorem dX11_day_14 : decode cX11_day 14 = .ok (.getfield 28, 3) := by decide +kernel
theorem dX11_day_17 : decode cX11_day 17 = .ok (.getfield 85, 3) := by decide +kernel
theorem dX11_day_20 : decode cX11_day 20 = .ok (.iload_n 1, 1) := by decide +kernel
theorem dX11_day_21 : decode cX11_day 21 = .ok (.iadd, 1) := by decide +kernel
theorem dX11_day_22 : decode cX11_day 22 = .ok (.sipush 999, 3) := by decide +kernel
theorem dX11_day_25 : decode cX11_day 25 = .ok (.if_icmp .le 6, 3) := by decide +kernel
theorem dX11_day_28 : decode cX11_day 28 = .ok (.bipush (-2), 2) := by decide +kernel
theorem dX11_day_30 : decode cX11_day 30 = .ok (.ireturn, 1) := by decide +kernel
theorem dX11_day_31 : decode cX11_day 31 = .ok (.iconst 0, 1) := by decide +kernel
theorem dX11_day_32 : decode cX11_day 32 = .ok (.istore_n 2, 1) := by decide +kernel
theorem dX11_day_33 : decode cX11_day 33 = .ok (.iload_n 2, 1) := by decide +kernel
theorem dX11_day_34 : decode cX11_day 34 = .ok (.iload_n 1, 1) := by decide +kernel
theorem dX11_day_35 : decode cX11_day 35 = .ok (.if_icmp .ge 45, 3) := by decide +kernel
theorem dX11_day_38 : decode cX11_day 38 = .ok (.aload_n 0, 1) := by decide +kernel
theorem dX11_day_39 : decode cX11_day 39 = .ok (.getfield 12, 3) := by decide +kernel
theorem dX11_day_42 : decode cX11_day 42 = .ok (.getfield 32, 3) := by decide +kernel
theorem dX11_day_45 : decode cX11_day 45 = .ok (.aload_n 0, 1) := by decide +kernel
theorem dX11_day_46 : decode cX11_day 46 = .ok (.getfield 12, 3) := by decide +kernel
theorem dX11_day_49 : decode cX11_day 49 = .ok (.getfield 28, 3) := by decide +kernel
theorem dX11_day_52 : decode cX11_day 52 = .ok (.getfield 85, 3) := by decide +kernel
theorem dX11_day_55 : decode cX11_day 55 = .ok (.invokevirtual 89, 3) := by decide +kernel
theorem dX11_day_58 : decode cX11_day 58 = .ok (.aload_n 0, 1) := by decide +kernel
theorem dX11_day_59 : decode cX11_day 59 = .ok (.getfield 12, 3) := by decide +kernel
theorem dX11_day_62 : decode cX11_day 62 = .ok (.getfield 28, 3) := by decide +kernel
theorem dX11_day_65 : decode cX11_day 65 = .ok (.dup, 1) := by decide +kernel
theorem dX11_day_66 : decode cX11_day 66 = .ok (.getfield 85, 3) := by decide +kernel
theorem dX11_day_69 : decode cX11_day 69 = .ok (.iconst 1, 1) := by decide +kernel
theorem dX11_day_70 : decode cX11_day 70 = .ok (.iadd, 1) := by decide +kernel
theorem dX11_day_71 : decode cX11_day 71 = .ok (.putfield 85, 3) := by decide +kernel
theorem dX11_day_74 : decode cX11_day 74 = .ok (.iinc 2 1, 3) := by decide +kernel
theorem dX11_day_77 : decode cX11_day 77 = .ok (.goto (-44), 3) := by decide +kernel
theorem dX11_day_80 : decode cX11_day 80 = .ok (.aload_n 0, 1) := by decide +kernel
theorem dX11_day_81 : decode cX11_day 81 = .ok (.getfield 12, 3) := by decide +kernel
theorem dX11_day_84 : decode cX11_day 84 = .ok (.getfield 28, 3) := by decide +kernel
theorem dX11_day_87 : decode cX11_day 87 = .ok (.getfield 85, 3) := by decide +kernel
theorem dX11_day_90 : decode cX11_day 90 = .ok (.ireturn, 1) := by decide +kernel
theorem dX11_feed_0 : decode cX11_feed 0 = .ok (.iload_n 3, 1) := by decide +kernel
theorem dX11_feed_1 : decode cX11_feed 1 = .ok (.iconst 1, 1) := by decide +kernel
theorem dX11_feed_2 : decode cX11_feed 2 = .ok (.bipush 8, 2) := by decide +kernel
theorem dX11_feed_4 : decode cX11_feed 4 = .ok (.invokestatic 54, 3) := by decide +kernel
theorem dX11_feed_7 : decode cX11_feed 7 = .ok (.ifCond .ne 6, 3) := by decide +kernel
theorem dX11_feed_10 : decode cX11_feed 10 = .ok (.bipush (-2), 2) := by decide +kernel
theorem dX11_feed_12 : decode cX11_feed 12 = .ok (.ireturn, 1) := by decide +kernel
theorem dX11_feed_13 : decode cX11_feed 13 = .ok (.aload_n 0, 1) := by decide +kernel
theorem dX11_feed_14 : decode cX11_feed 14 = .ok (.getfield 12, 3) := by decide +kernel
theorem dX11_feed_17 : decode cX11_feed 17 = .ok (.getfield 28, 3) := by decide +kernel
theorem dX11_feed_20 : decode cX11_feed 20 = .ok (.getfield 95, 3) := by decide +kernel
theorem dX11_feed_23 : decode cX11_feed 23 = .ok (.iload_n 3, 1) := by decide +kernel
theorem dX11_feed_24 : decode cX11_feed 24 = .ok (.iadd, 1) := by decide +kernel
theorem dX11_feed_25 : decode cX11_feed 25 = .ok (.bipush 120, 2) := by decide +kernel
theorem dX11_feed_27 : decode cX11_feed 27 = .ok (.if_icmp .le 6, 3) := by decide +kernel
theorem dX11_feed_30 : decode cX11_feed 30 = .ok (.bipush (-4), 2) := by decide +kernel
theorem dX11_feed_32 : decode cX11_feed 32 = .ok (.ireturn, 1) := by decide +kernel
theorem dX11_feed_33 : decode cX11_feed 33 = .ok (.aload_n 0, 1) := by decide +kernel
theorem dX11_feed_34 : decode cX11_feed 34 = .ok (.getfield 12, 3) := by decide +kernel
theorem dX11_feed_37 : decode cX11_feed 37 = .ok (.getfield 28, 3) := by decide +kernel
theorem dX11_feed_40 : decode cX11_feed 40 = .ok (.lload_n 1, 1) := by decide +kernel
theorem dX11_feed_41 : decode cX11_feed 41 = .ok (.iload_n 3, 1) := by decide +kernel
theorem dX11_feed_42 : decode cX11_feed 42 = .ok (.invokevirtual 98, 3) := by decide +kernel
theorem dX11_feed_45 : decode cX11_feed 45 = .ok (.aload_n 0, 1) := by decide +kernel
theorem dX11_feed_46 : decode cX11_feed 46 = .ok (.getfield 12, 3) := by decide +kernel
theorem dX11_feed_49 : decode cX11_feed 49 = .ok (.getfield 28, 3) := by decide +kernel
theorem dX11_feed_52 : decode cX11_feed 52 = .ok (.getfield 95, 3) := by decide +kernel
theorem dX11_feed_55 : decode cX11_feed 55 = .ok (.ireturn, 1) := by decide +kernel
theorem dX11_text_0 : decode cX11_text 0 = .ok (.iload_n 1, 1) := by decide +kernel
theorem dX11_text_1 : decode cX11_text 1 = .ok (.invokestatic 102, 3) := by decide +kernel
theorem dX11_text_4 : decode cX11_text 4 = .ok (.ifCond .ne 5, 3) := by decide +kernel
theorem dX11_text_7 : decode cX11_text 7 = .ok (.iconst (-1), 1) := by decide +kernel
theorem dX11_text_8 : decode cX11_text 8 = .ok (.ireturn, 1) := by decide +kernel
theorem dX11_text_9 : decode cX11_text 9 = .ok (.iload_n 2, 1) := by decide +kernel
theorem dX11_text_10 : decode cX11_text 10 = .ok (.invokestatic 105, 3) := by decide +kernel
theorem dX11_text_13 : decode cX11_text 13 = .ok (.ifCond .ne 6, 3) := by decide +kernel
theorem dX11_text_16 : decode cX11_text 16 = .ok (.bipush (-2), 2) := by decide +kernel
theorem dX11_text_18 : decode cX11_text 18 = .ok (.ireturn, 1) := by decide +kernel
theorem dX11_text_19 : decode cX11_text 19 = .ok (.aload_n 0, 1) := by decide +kernel
theorem dX11_text_20 : decode cX11_text 20 = .ok (.getfield 12, 3) := by decide +kernel
theorem dX11_text_23 : decode cX11_text 23 = .ok (.getfield 28, 3) := by decide +kernel
theorem dX11_text_26 : decode cX11_text 26 = .ok (.getfield 108, 3) := by decide +kernel
theorem dX11_text_29 : decode cX11_text 29 = .ok (.bipush 15, 2) := by decide +kernel
theorem dX11_text_31 : decode cX11_text 31 = .ok (.if_icmp .lt 6, 3) := by decide +kernel
theorem dX11_text_34 : decode cX11_text 34 = .ok (.bipush (-4), 2) := by decide +kernel
theorem dX11_text_36 : decode cX11_text 36 = .ok (.ireturn, 1) := by decide +kernel
theorem dX11_text_37 : decode cX11_text 37 = .ok (.aload_n 0, 1) := by decide +kernel
theorem dX11_text_38 : decode cX11_text 38 = .ok (.getfield 22, 3) := by decide +kernel
theorem dX11_text_41 : decode cX11_text 41 = .ok (.aload_n 0, 1) := by decide +kernel
theorem dX11_text_42 : decode cX11_text 42 = .ok (.getfield 12, 3) := by decide +kernel
theorem dX11_text_45 : decode cX11_text 45 = .ok (.getfield 28, 3) := by decide +kernel
theorem dX11_text_48 : decode cX11_text 48 = .ok (.invokevirtual 111, 3) := by decide +kernel
theorem dX11_text_51 : decode cX11_text 51 = .ok (.istore_n 3, 1) := by decide +kernel
theorem dX11_text_52 : decode cX11_text 52 = .ok (.iload_n 3, 1) := by decide +kernel
theorem dX11_text_53 : decode cX11_text 53 = .ok (.ifCond .lt 8, 3) := by decide +kernel
theorem dX11_text_56 : decode cX11_text 56 = .ok (.bipush (-10), 2) := by decide +kernel
theorem dX11_text_58 : decode cX11_text 58 = .ok (.iload_n 3, 1) := by decide +kernel
theorem dX11_text_59 : decode cX11_text 59 = .ok (.isub, 1) := by decide +kernel
theorem dX11_text_60 : decode cX11_text 60 = .ok (.ireturn, 1) := by decide +kernel
theorem dX11_text_61 : decode cX11_text 61 = .ok (.aload_n 0, 1) := by decide +kernel
theorem dX11_text_62 : decode cX11_text 62 = .ok (.getfield 12, 3) := by decide +kernel
theorem dX11_text_65 : decode cX11_text 65 = .ok (.getfield 28, 3) := by decide +kernel
theorem dX11_text_68 : decode cX11_text 68 = .ok (.new 115, 3) := by decide +kernel
theorem dX11_text_71 : decode cX11_text 71 = .ok (.dup, 1) := by decide +kernel
theorem dX11_text_72 : decode cX11_text 72 = .ok (.aload_n 0, 1) := by decide +kernel
theorem dX11_text_73 : decode cX11_text 73 = .ok (.getfield 12, 3) := by decide +kernel
theorem dX11_text_76 : decode cX11_text 76 = .ok (.getfield 28, 3) := by decide +kernel
theorem dX11_text_79 : decode cX11_text 79 = .ok (.getfield 108, 3) := by decide +kernel
theorem dX11_text_82 : decode cX11_text 82 = .ok (.iload_n 1, 1) := by decide +kernel
theorem dX11_text_83 : decode cX11_text 83 = .ok (.iload_n 2, 1) := by decide +kernel
theorem dX11_text_84 : decode cX11_text 84 = .ok (.aload_n 0, 1) := by decide +kernel
theorem dX11_text_85 : decode cX11_text 85 = .ok (.getfield 22, 3) := by decide +kernel
theorem dX11_text_88 : decode cX11_text 88 = .ok (.invokevirtual 117, 3) := by decide +kernel
theorem dX11_text_91 : decode cX11_text 91 = .ok (.invokespecial 121, 3) := by decide +kernel
theorem dX11_text_94 : decode cX11_text 94 = .ok (.invokevirtual 124, 3) := by decide +kernel
theorem dX11_text_97 : decode cX11_text 97 = .ok (.aload_n 0, 1) := by decide +kernel
theorem dX11_text_98 : decode cX11_text 98 = .ok (.getfield 12, 3) := by decide +kernel
theorem dX11_text_101 : decode cX11_text 101 = .ok (.getfield 28, 3) := by decide +kernel
theorem dX11_text_104 : decode cX11_text 104 = .ok (.getfield 108, 3) := by decide +kernel
theorem dX11_text_107 : decode cX11_text 107 = .ok (.iconst 1, 1) := by decide +kernel
theorem dX11_text_108 : decode cX11_text 108 = .ok (.isub, 1) := by decide +kernel
theorem dX11_text_109 : decode cX11_text 109 = .ok (.ireturn, 1) := by decide +kernel
theorem dX11_force_0 : decode cX11_force 0 = .ok (.iload_n 1, 1) := by decide +kernel
theorem dX11_force_1 : decode cX11_force 1 = .ok (.invokestatic 102, 3) := by decide +kernel
theorem dX11_force_4 : decode cX11_force 4 = .ok (.ifCond .ne 10, 3) := by decide +kernel
theorem dX11_force_7 : decode cX11_force 7 = .ok (.iload_n 1, 1) := by decide +kernel
theorem dX11_force_8 : decode cX11_force 8 = .ok (.iconst 3, 1) := by decide +kernel
theorem dX11_force_9 : decode cX11_force 9 = .ok (.if_icmp .eq 5, 3) := by decide +kernel
theorem dX11_force_12 : decode cX11_force 12 = .ok (.iconst (-1), 1) := by decide +kernel
theorem dX11_force_13 : decode cX11_force 13 = .ok (.ireturn, 1) := by decide +kernel
theorem dX11_force_14 : decode cX11_force 14 = .ok (.iload_n 2, 1) := by decide +kernel
theorem dX11_force_15 : decode cX11_force 15 = .ok (.invokestatic 128, 3) := by decide +kernel
theorem dX11_force_18 : decode cX11_force 18 = .ok (.ifCond .eq 10, 3) := by decide +kernel
theorem dX11_force_21 : decode cX11_force 21 = .ok (.iload_n 3, 1) := by decide +kernel
theorem dX11_force_22 : decode cX11_force 22 = .ok (.invokestatic 105, 3) := by decide +kernel
theorem dX11_force_25 : decode cX11_force 25 = .ok (.ifCond .ne 6, 3) := by decide +kernel
theorem dX11_force_28 : decode cX11_force 28 = .ok (.bipush (-2), 2) := by decide +kernel
theorem dX11_force_30 : decode cX11_force 30 = .ok (.ireturn, 1) := by decide +kernel
theorem dX11_force_31 : decode cX11_force 31 = .ok (.aload_n 0, 1) := by decide +kernel
theorem dX11_force_32 : decode cX11_force 32 = .ok (.getfield 39, 3) := by decide +kernel
theorem dX11_force_35 : decode cX11_force 35 = .ok (.iload_n 3, 1) := by decide +kernel
theorem dX11_force_36 : decode cX11_force 36 = .ok (.invokevirtual 131, 3) := by decide +kernel
theorem dX11_force_39 : decode cX11_force 39 = .ok (.iload_n 1, 1) := by decide +kernel
theorem dX11_force_40 : decode cX11_force 40 = .ok (.iconst 3, 1) := by decide +kernel
theorem dX11_force_41 : decode cX11_force 41 = .ok (.if_icmp .ne 14, 3) := by decide +kernel
theorem dX11_force_44 : decode cX11_force 44 = .ok (.aload_n 0, 1) := by decide +kernel
theorem dX11_force_45 : decode cX11_force 45 = .ok (.getfield 39, 3) := by decide +kernel
theorem dX11_force_48 : decode cX11_force 48 = .ok (.iload_n 2, 1) := by decide +kernel
theorem dX11_force_49 : decode cX11_force 49 = .ok (.invokevirtual 134, 3) := by decide +kernel
theorem dX11_force_52 : decode cX11_force 52 = .ok (.goto 12, 3) := by decide +kernel
theorem dX11_force_55 : decode cX11_force 55 = .ok (.aload_n 0, 1) := by decide +kernel
theorem dX11_force_56 : decode cX11_force 56 = .ok (.getfield 39, 3) := by decide +kernel
theorem dX11_force_59 : decode cX11_force 59 = .ok (.iload_n 1, 1) := by decide +kernel
theorem dX11_force_60 : decode cX11_force 60 = .ok (.iload_n 2, 1) := by decide +kernel
theorem dX11_force_61 : decode cX11_force 61 = .ok (.invokevirtual 137, 3) := by decide +kernel
theorem dX11_force_64 : decode cX11_force 64 = .ok (.invokestatic 141, 3) := by decide +kernel
theorem dX11_force_67 : decode cX11_force 67 = .ok (.ireturn, 1) := by decide +kernel
theorem dX11_why_0 : decode cX11_why 0 = .ok (.iload_n 1, 1) := by decide +kernel
theorem dX11_why_1 : decode cX11_why 1 = .ok (.invokestatic 102, 3) := by decide +kernel
theorem dX11_why_4 : decode cX11_why 4 = .ok (.ifCond .ne 10, 3) := by decide +kernel
theorem dX11_why_7 : decode cX11_why 7 = .ok (.iload_n 1, 1) := by decide +kernel
theorem dX11_why_8 : decode cX11_why 8 = .ok (.iconst 3, 1) := by decide +kernel
theorem dX11_why_9 : decode cX11_why 9 = .ok (.if_icmp .eq 5, 3) := by decide +kernel
theorem dX11_why_12 : decode cX11_why 12 = .ok (.iconst (-1), 1) := by decide +kernel
theorem dX11_why_13 : decode cX11_why 13 = .ok (.ireturn, 1) := by decide +kernel
theorem dX11_why_14 : decode cX11_why 14 = .ok (.iload_n 2, 1) := by decide +kernel
theorem dX11_why_15 : decode cX11_why 15 = .ok (.invokestatic 128, 3) := by decide +kernel
theorem dX11_why_18 : decode cX11_why 18 = .ok (.ifCond .eq 10, 3) := by decide +kernel
theorem dX11_why_21 : decode cX11_why 21 = .ok (.iload_n 3, 1) := by decide +kernel
theorem dX11_why_22 : decode cX11_why 22 = .ok (.invokestatic 105, 3) := by decide +kernel
theorem dX11_why_25 : decode cX11_why 25 = .ok (.ifCond .ne 6, 3) := by decide +kernel
theorem dX11_why_28 : decode cX11_why 28 = .ok (.bipush (-2), 2) := by decide +kernel
theorem dX11_why_30 : decode cX11_why 30 = .ok (.ireturn, 1) := by decide +kernel
theorem dX11_why_31 : decode cX11_why 31 = .ok (.aload_n 0, 1) := by decide +kernel
theorem dX11_why_32 : decode cX11_why 32 = .ok (.getfield 39, 3) := by decide +kernel
theorem dX11_why_35 : decode cX11_why 35 = .ok (.iload_n 3, 1) := by decide +kernel
theorem dX11_why_36 : decode cX11_why 36 = .ok (.invokevirtual 131, 3) := by decide +kernel
theorem dX11_why_39 : decode cX11_why 39 = .ok (.iload_n 1, 1) := by decide +kernel
theorem dX11_why_40 : decode cX11_why 40 = .ok (.iconst 3, 1) := by decide +kernel
theorem dX11_why_41 : decode cX11_why 41 = .ok (.if_icmp .eq 13, 3) := by decide +kernel
theorem dX11_why_44 : decode cX11_why 44 = .ok (.aload_n 0, 1) := by decide +kernel
theorem dX11_why_45 : decode cX11_why 45 = .ok (.getfield 39, 3) := by decide +kernel
theorem dX11_why_48 : decode cX11_why 48 = .ok (.iload_n 1, 1) := by decide +kernel
theorem dX11_why_49 : decode cX11_why 49 = .ok (.iload_n 2, 1) := by decide +kernel
theorem dX11_why_50 : decode cX11_why 50 = .ok (.invokevirtual 145, 3) := by decide +kernel
theorem dX11_why_53 : decode cX11_why 53 = .ok (.ireturn, 1) := by decide +kernel
theorem dX11_why_54 : decode cX11_why 54 = .ok (.aload_n 0, 1) := by decide +kernel
theorem dX11_why_55 : decode cX11_why 55 = .ok (.getfield 39, 3) := by decide +kernel
theorem dX11_why_58 : decode cX11_why 58 = .ok (.iload_n 2, 1) := by decide +kernel
theorem dX11_why_59 : decode cX11_why 59 = .ok (.bipush 24, 2) := by decide +kernel
theorem dX11_why_61 : decode cX11_why 61 = .ok (.idiv, 1) := by decide +kernel
theorem dX11_why_62 : decode cX11_why 62 = .ok (.sipush 150, 3) := by decide +kernel
theorem dX11_why_65 : decode cX11_why 65 = .ok (.irem, 1) := by decide +kernel
theorem dX11_why_66 : decode cX11_why 66 = .ok (.invokevirtual 148, 3) := by decide +kernel
theorem dX11_why_69 : decode cX11_why 69 = .ok (.istore 4, 2) := by decide +kernel
theorem dX11_why_71 : decode cX11_why 71 = .ok (.iload 4, 2) := by decide +kernel
theorem dX11_why_73 : decode cX11_why 73 = .ok (.ifCond .ge 8, 3) := by decide +kernel
theorem dX11_why_76 : decode cX11_why 76 = .ok (.bipush (-5), 2) := by decide +kernel
theorem dX11_why_78 : decode cX11_why 78 = .ok (.goto 9, 3) := by decide +kernel
theorem dX11_why_81 : decode cX11_why 81 = .ok (.sipush 10000, 3) := by decide +kernel
theorem dX11_why_84 : decode cX11_why 84 = .ok (.iload 4, 2) := by decide +kernel
theorem dX11_why_86 : decode cX11_why 86 = .ok (.iadd, 1) := by decide +kernel
theorem dX11_why_87 : decode cX11_why 87 = .ok (.ireturn, 1) := by decide +kernel
theorem dX11_unlike_0 : decode cX11_unlike 0 = .ok (.iload_n 1, 1) := by decide +kernel
theorem dX11_unlike_1 : decode cX11_unlike 1 = .ok (.invokestatic 102, 3) := by decide +kernel
theorem dX11_unlike_4 : decode cX11_unlike 4 = .ok (.ifCond .eq 20, 3) := by decide +kernel
theorem dX11_unlike_7 : decode cX11_unlike 7 = .ok (.iload_n 2, 1) := by decide +kernel
theorem dX11_unlike_8 : decode cX11_unlike 8 = .ok (.invokestatic 102, 3) := by decide +kernel
theorem dX11_unlike_11 : decode cX11_unlike 11 = .ok (.ifCond .eq 13, 3) := by decide +kernel
theorem dX11_unlike_14 : decode cX11_unlike 14 = .ok (.iload 4, 2) := by decide +kernel
theorem dX11_unlike_16 : decode cX11_unlike 16 = .ok (.iconst 0, 1) := by decide +kernel
theorem dX11_unlike_17 : decode cX11_unlike 17 = .ok (.iconst 1, 1) := by decide +kernel
theorem dX11_unlike_18 : decode cX11_unlike 18 = .ok (.invokestatic 54, 3) := by decide +kernel
theorem dX11_unlike_21 : decode cX11_unlike 21 = .ok (.ifCond .ne 5, 3) := by decide +kernel
theorem dX11_unlike_24 : decode cX11_unlike 24 = .ok (.iconst (-1), 1) := by decide +kernel
theorem dX11_unlike_25 : decode cX11_unlike 25 = .ok (.ireturn, 1) := by decide +kernel
theorem dX11_unlike_26 : decode cX11_unlike 26 = .ok (.iload_n 1, 1) := by decide +kernel
theorem dX11_unlike_27 : decode cX11_unlike 27 = .ok (.iload_n 2, 1) := by decide +kernel
theorem dX11_unlike_28 : decode cX11_unlike 28 = .ok (.if_icmp .eq 10, 3) := by decide +kernel
theorem dX11_unlike_31 : decode cX11_unlike 31 = .ok (.iload_n 3, 1) := by decide +kernel
theorem dX11_unlike_32 : decode cX11_unlike 32 = .ok (.invokestatic 105, 3) := by decide +kernel
theorem dX11_unlike_35 : decode cX11_unlike 35 = .ok (.ifCond .ne 6, 3) := by decide +kernel
theorem dX11_unlike_38 : decode cX11_unlike 38 = .ok (.bipush (-2), 2) := by decide +kernel
theorem dX11_unlike_40 : decode cX11_unlike 40 = .ok (.ireturn, 1) := by decide +kernel
theorem dX11_unlike_41 : decode cX11_unlike 41 = .ok (.aload_n 0, 1) := by decide +kernel
theorem dX11_unlike_42 : decode cX11_unlike 42 = .ok (.getfield 39, 3) := by decide +kernel
theorem dX11_unlike_45 : decode cX11_unlike 45 = .ok (.iload_n 3, 1) := by decide +kernel
theorem dX11_unlike_46 : decode cX11_unlike 46 = .ok (.invokevirtual 131, 3) := by decide +kernel
theorem dX11_unlike_49 : decode cX11_unlike 49 = .ok (.iload 4, 2) := by decide +kernel
theorem dX11_unlike_51 : decode cX11_unlike 51 = .ok (.ifCond .ne 15, 3) := by decide +kernel
theorem dX11_unlike_54 : decode cX11_unlike 54 = .ok (.aload_n 0, 1) := by decide +kernel
theorem dX11_unlike_55 : decode cX11_unlike 55 = .ok (.getfield 39, 3) := by decide +kernel
theorem dX11_unlike_58 : decode cX11_unlike 58 = .ok (.iload_n 1, 1) := by decide +kernel
theorem dX11_unlike_59 : decode cX11_unlike 59 = .ok (.iload_n 2, 1) := by decide +kernel
theorem dX11_unlike_60 : decode cX11_unlike 60 = .ok (.invokevirtual 152, 3) := by decide +kernel
theorem dX11_unlike_63 : decode cX11_unlike 63 = .ok (.goto 12, 3) := by decide +kernel
theorem dX11_unlike_66 : decode cX11_unlike 66 = .ok (.aload_n 0, 1) := by decide +kernel
theorem dX11_unlike_67 : decode cX11_unlike 67 = .ok (.getfield 39, 3) := by decide +kernel
theorem dX11_unlike_70 : decode cX11_unlike 70 = .ok (.iload_n 1, 1) := by decide +kernel
theorem dX11_unlike_71 : decode cX11_unlike 71 = .ok (.iload_n 2, 1) := by decide +kernel
theorem dX11_unlike_72 : decode cX11_unlike 72 = .ok (.invokevirtual 155, 3) := by decide +kernel
theorem dX11_unlike_75 : decode cX11_unlike 75 = .ok (.ireturn, 1) := by decide +kernel
theorem dX11_use_0 : decode cX11_use 0 = .ok (.iload_n 1, 1) := by decide +kernel
theorem dX11_use_1 : decode cX11_use 1 = .ok (.iconst 1, 1) := by decide +kernel
theorem dX11_use_2 : decode cX11_use 2 = .ok (.iconst 3, 1) := by decide +kernel
theorem dX11_use_3 : decode cX11_use 3 = .ok (.invokestatic 54, 3) := by decide +kernel
theorem dX11_use_6 : decode cX11_use 6 = .ok (.ifCond .eq 25, 3) := by decide +kernel
theorem dX11_use_9 : decode cX11_use 9 = .ok (.iload_n 2, 1) := by decide +kernel
theorem dX11_use_10 : decode cX11_use 10 = .ok (.invokestatic 158, 3) := by decide +kernel
theorem dX11_use_13 : decode cX11_use 13 = .ok (.ifCond .eq 18, 3) := by decide +kernel
theorem dX11_use_16 : decode cX11_use 16 = .ok (.iload_n 3, 1) := by decide +kernel
theorem dX11_use_17 : decode cX11_use 17 = .ok (.invokestatic 50, 3) := by decide +kernel
theorem dX11_use_20 : decode cX11_use 20 = .ok (.ifCond .eq 11, 3) := by decide +kernel
theorem dX11_use_23 : decode cX11_use 23 = .ok (.iload 4, 2) := by decide +kernel
theorem dX11_use_25 : decode cX11_use 25 = .ok (.invokestatic 161, 3) := by decide +kernel
theorem dX11_use_28 : decode cX11_use 28 = .ok (.ifCond .ne 5, 3) := by decide +kernel
theorem dX11_use_31 : decode cX11_use 31 = .ok (.iconst (-1), 1) := by decide +kernel
theorem dX11_use_32 : decode cX11_use 32 = .ok (.ireturn, 1) := by decide +kernel
theorem dX11_use_33 : decode cX11_use 33 = .ok (.aload_n 0, 1) := by decide +kernel
theorem dX11_use_34 : decode cX11_use 34 = .ok (.getfield 12, 3) := by decide +kernel
theorem dX11_use_37 : decode cX11_use 37 = .ok (.getfield 32, 3) := by decide +kernel
theorem dX11_use_40 : decode cX11_use 40 = .ok (.invokevirtual 164, 3) := by decide +kernel
theorem dX11_use_43 : decode cX11_use 43 = .ok (.ifCond .eq 6, 3) := by decide +kernel
theorem dX11_use_46 : decode cX11_use 46 = .ok (.bipush (-4), 2) := by decide +kernel
theorem dX11_use_48 : decode cX11_use 48 = .ok (.ireturn, 1) := by decide +kernel
theorem dX11_use_49 : decode cX11_use 49 = .ok (.aload_n 0, 1) := by decide +kernel
theorem dX11_use_50 : decode cX11_use 50 = .ok (.getfield 12, 3) := by decide +kernel
theorem dX11_use_53 : decode cX11_use 53 = .ok (.getfield 32, 3) := by decide +kernel
theorem dX11_use_56 : decode cX11_use 56 = .ok (.new 168, 3) := by decide +kernel
theorem dX11_use_59 : decode cX11_use 59 = .ok (.dup, 1) := by decide +kernel
theorem dX11_use_60 : decode cX11_use 60 = .ok (.iload_n 1, 1) := by decide +kernel
theorem dX11_use_61 : decode cX11_use 61 = .ok (.aload_n 0, 1) := by decide +kernel
theorem dX11_use_62 : decode cX11_use 62 = .ok (.getfield 12, 3) := by decide +kernel
theorem dX11_use_65 : decode cX11_use 65 = .ok (.getfield 32, 3) := by decide +kernel
theorem dX11_use_68 : decode cX11_use 68 = .ok (.getfield 170, 3) := by decide +kernel
theorem dX11_use_71 : decode cX11_use 71 = .ok (.iload_n 2, 1) := by decide +kernel
theorem dX11_use_72 : decode cX11_use 72 = .ok (.iload_n 3, 1) := by decide +kernel
theorem dX11_use_73 : decode cX11_use 73 = .ok (.iload 4, 2) := by decide +kernel
theorem dX11_use_75 : decode cX11_use 75 = .ok (.iadd, 1) := by decide +kernel
theorem dX11_use_76 : decode cX11_use 76 = .ok (.invokespecial 173, 3) := by decide +kernel
theorem dX11_use_79 : decode cX11_use 79 = .ok (.invokevirtual 176, 3) := by decide +kernel
theorem dX11_use_82 : decode cX11_use 82 = .ok (.ireturn, 1) := by decide +kernel
theorem dX11_quota_0 : decode cX11_quota 0 = .ok (.iload_n 1, 1) := by decide +kernel
theorem dX11_quota_1 : decode cX11_quota 1 = .ok (.iconst 4, 1) := by decide +kernel
theorem dX11_quota_2 : decode cX11_quota 2 = .ok (.iconst 5, 1) := by decide +kernel
theorem dX11_quota_3 : decode cX11_quota 3 = .ok (.invokestatic 54, 3) := by decide +kernel
theorem dX11_quota_6 : decode cX11_quota 6 = .ok (.ifCond .eq 10, 3) := by decide +kernel
theorem dX11_quota_9 : decode cX11_quota 9 = .ok (.iload_n 2, 1) := by decide +kernel
theorem dX11_quota_10 : decode cX11_quota 10 = .ok (.invokestatic 158, 3) := by decide +kernel
theorem dX11_quota_13 : decode cX11_quota 13 = .ok (.ifCond .ne 5, 3) := by decide +kernel
theorem dX11_quota_16 : decode cX11_quota 16 = .ok (.iconst (-1), 1) := by decide +kernel
theorem dX11_quota_17 : decode cX11_quota 17 = .ok (.ireturn, 1) := by decide +kernel
theorem dX11_quota_18 : decode cX11_quota 18 = .ok (.iload_n 3, 1) := by decide +kernel
theorem dX11_quota_19 : decode cX11_quota 19 = .ok (.iconst 0, 1) := by decide +kernel
theorem dX11_quota_20 : decode cX11_quota 20 = .ok (.sipush 9999, 3) := by decide +kernel
theorem dX11_quota_23 : decode cX11_quota 23 = .ok (.invokestatic 54, 3) := by decide +kernel
theorem dX11_quota_26 : decode cX11_quota 26 = .ok (.ifCond .ne 6, 3) := by decide +kernel
theorem dX11_quota_29 : decode cX11_quota 29 = .ok (.bipush (-2), 2) := by decide +kernel
theorem dX11_quota_31 : decode cX11_quota 31 = .ok (.ireturn, 1) := by decide +kernel
theorem dX11_quota_32 : decode cX11_quota 32 = .ok (.aload_n 0, 1) := by decide +kernel
theorem dX11_quota_33 : decode cX11_quota 33 = .ok (.getfield 12, 3) := by decide +kernel
theorem dX11_quota_36 : decode cX11_quota 36 = .ok (.getfield 32, 3) := by decide +kernel
theorem dX11_quota_39 : decode cX11_quota 39 = .ok (.invokevirtual 164, 3) := by decide +kernel
theorem dX11_quota_42 : decode cX11_quota 42 = .ok (.ifCond .eq 6, 3) := by decide +kernel
theorem dX11_quota_45 : decode cX11_quota 45 = .ok (.bipush (-4), 2) := by decide +kernel
theorem dX11_quota_47 : decode cX11_quota 47 = .ok (.ireturn, 1) := by decide +kernel
theorem dX11_quota_48 : decode cX11_quota 48 = .ok (.iload_n 1, 1) := by decide +kernel
theorem dX11_quota_49 : decode cX11_quota 49 = .ok (.iconst 5, 1) := by decide +kernel
theorem dX11_quota_50 : decode cX11_quota 50 = .ok (.if_icmp .ne 16, 3) := by decide +kernel
theorem dX11_quota_53 : decode cX11_quota 53 = .ok (.aload_n 0, 1) := by decide +kernel
theorem dX11_quota_54 : decode cX11_quota 54 = .ok (.getfield 12, 3) := by decide +kernel
theorem dX11_quota_57 : decode cX11_quota 57 = .ok (.getfield 58, 3) := by decide +kernel
theorem dX11_quota_60 : decode cX11_quota 60 = .ok (.getfield 180, 3) := by decide +kernel
theorem dX11_quota_63 : decode cX11_quota 63 = .ok (.iload_n 2, 1) := by decide +kernel
theorem dX11_quota_64 : decode cX11_quota 64 = .ok (.iload_n 3, 1) := by decide +kernel
theorem dX11_quota_65 : decode cX11_quota 65 = .ok (.iastore, 1) := by decide +kernel
theorem dX11_quota_66 : decode cX11_quota 66 = .ok (.aload_n 0, 1) := by decide +kernel
theorem dX11_quota_67 : decode cX11_quota 67 = .ok (.getfield 12, 3) := by decide +kernel
theorem dX11_quota_70 : decode cX11_quota 70 = .ok (.getfield 32, 3) := by decide +kernel
theorem dX11_quota_73 : decode cX11_quota 73 = .ok (.new 168, 3) := by decide +kernel
theorem dX11_quota_76 : decode cX11_quota 76 = .ok (.dup, 1) := by decide +kernel
theorem dX11_quota_77 : decode cX11_quota 77 = .ok (.iload_n 1, 1) := by decide +kernel
theorem dX11_quota_78 : decode cX11_quota 78 = .ok (.aload_n 0, 1) := by decide +kernel
theorem dX11_quota_79 : decode cX11_quota 79 = .ok (.getfield 12, 3) := by decide +kernel
theorem dX11_quota_82 : decode cX11_quota 82 = .ok (.getfield 32, 3) := by decide +kernel
theorem dX11_quota_85 : decode cX11_quota 85 = .ok (.getfield 170, 3) := by decide +kernel
theorem dX11_quota_88 : decode cX11_quota 88 = .ok (.iload_n 2, 1) := by decide +kernel
theorem dX11_quota_89 : decode cX11_quota 89 = .ok (.iload_n 3, 1) := by decide +kernel
theorem dX11_quota_90 : decode cX11_quota 90 = .ok (.invokespecial 173, 3) := by decide +kernel
theorem dX11_quota_93 : decode cX11_quota 93 = .ok (.invokevirtual 176, 3) := by decide +kernel
theorem dX11_quota_96 : decode cX11_quota 96 = .ok (.ireturn, 1) := by decide +kernel
theorem dX11_rule_0 : decode cX11_rule 0 = .ok (.iload_n 1, 1) := by decide +kernel
theorem dX11_rule_1 : decode cX11_rule 1 = .ok (.invokestatic 50, 3) := by decide +kernel
theorem dX11_rule_4 : decode cX11_rule 4 = .ok (.ifCond .eq 10, 3) := by decide +kernel
theorem dX11_rule_7 : decode cX11_rule 7 = .ok (.iload_n 2, 1) := by decide +kernel
theorem dX11_rule_8 : decode cX11_rule 8 = .ok (.invokestatic 161, 3) := by decide +kernel
theorem dX11_rule_11 : decode cX11_rule 11 = .ok (.ifCond .ne 5, 3) := by decide +kernel
theorem dX11_rule_14 : decode cX11_rule 14 = .ok (.iconst (-1), 1) := by decide +kernel
theorem dX11_rule_15 : decode cX11_rule 15 = .ok (.ireturn, 1) := by decide +kernel
theorem dX11_rule_16 : decode cX11_rule 16 = .ok (.aload_n 0, 1) := by decide +kernel
theorem dX11_rule_17 : decode cX11_rule 17 = .ok (.getfield 12, 3) := by decide +kernel
theorem dX11_rule_20 : decode cX11_rule 20 = .ok (.getfield 32, 3) := by decide +kernel
theorem dX11_rule_23 : decode cX11_rule 23 = .ok (.invokevirtual 164, 3) := by decide +kernel
theorem dX11_rule_26 : decode cX11_rule 26 = .ok (.ifCond .eq 6, 3) := by decide +kernel
theorem dX11_rule_29 : decode cX11_rule 29 = .ok (.bipush (-4), 2) := by decide +kernel
theorem dX11_rule_31 : decode cX11_rule 31 = .ok (.ireturn, 1) := by decide +kernel
theorem dX11_rule_32 : decode cX11_rule 32 = .ok (.new 168, 3) := by decide +kernel
theorem dX11_rule_35 : decode cX11_rule 35 = .ok (.dup, 1) := by decide +kernel
theorem dX11_rule_36 : decode cX11_rule 36 = .ok (.bipush 6, 2) := by decide +kernel
theorem dX11_rule_38 : decode cX11_rule 38 = .ok (.aload_n 0, 1) := by decide +kernel
theorem dX11_rule_39 : decode cX11_rule 39 = .ok (.getfield 12, 3) := by decide +kernel
theorem dX11_rule_42 : decode cX11_rule 42 = .ok (.getfield 32, 3) := by decide +kernel
theorem dX11_rule_45 : decode cX11_rule 45 = .ok (.getfield 170, 3) := by decide +kernel
theorem dX11_rule_48 : decode cX11_rule 48 = .ok (.iconst 2, 1) := by decide +kernel
theorem dX11_rule_49 : decode cX11_rule 49 = .ok (.iload_n 3, 1) := by decide +kernel
theorem dX11_rule_50 : decode cX11_rule 50 = .ok (.ifCond .eq 8, 3) := by decide +kernel
theorem dX11_rule_53 : decode cX11_rule 53 = .ok (.bipush 10, 2) := by decide +kernel
theorem dX11_rule_55 : decode cX11_rule 55 = .ok (.goto 5, 3) := by decide +kernel
theorem dX11_rule_58 : decode cX11_rule 58 = .ok (.bipush 20, 2) := by decide +kernel
theorem dX11_rule_60 : decode cX11_rule 60 = .ok (.invokespecial 173, 3) := by decide +kernel
theorem dX11_rule_63 : decode cX11_rule 63 = .ok (.astore 4, 2) := by decide +kernel
theorem dX11_rule_65 : decode cX11_rule 65 = .ok (.aload 4, 2) := by decide +kernel
theorem dX11_rule_67 : decode cX11_rule 67 = .ok (.iload_n 1, 1) := by decide +kernel
theorem dX11_rule_68 : decode cX11_rule 68 = .ok (.iload_n 2, 1) := by decide +kernel
theorem dX11_rule_69 : decode cX11_rule 69 = .ok (.invokestatic 183, 3) := by decide +kernel
theorem dX11_rule_72 : decode cX11_rule 72 = .ok (.putfield 186, 3) := by decide +kernel
theorem dX11_rule_75 : decode cX11_rule 75 = .ok (.aload 4, 2) := by decide +kernel
theorem dX11_rule_77 : decode cX11_rule 77 = .ok (.aload_n 0, 1) := by decide +kernel
theorem dX11_rule_78 : decode cX11_rule 78 = .ok (.getfield 12, 3) := by decide +kernel
theorem dX11_rule_81 : decode cX11_rule 81 = .ok (.getfield 28, 3) := by decide +kernel
theorem dX11_rule_84 : decode cX11_rule 84 = .ok (.getfield 85, 3) := by decide +kernel
theorem dX11_rule_87 : decode cX11_rule 87 = .ok (.putfield 189, 3) := by decide +kernel
theorem dX11_rule_90 : decode cX11_rule 90 = .ok (.aload_n 0, 1) := by decide +kernel
theorem dX11_rule_91 : decode cX11_rule 91 = .ok (.getfield 12, 3) := by decide +kernel
theorem dX11_rule_94 : decode cX11_rule 94 = .ok (.getfield 32, 3) := by decide +kernel
theorem dX11_rule_97 : decode cX11_rule 97 = .ok (.aload 4, 2) := by decide +kernel
theorem dX11_rule_99 : decode cX11_rule 99 = .ok (.invokevirtual 176, 3) := by decide +kernel
theorem dX11_rule_102 : decode cX11_rule 102 = .ok (.ireturn, 1) := by decide +kernel
theorem dX11_lean_0 : decode cX11_lean 0 = .ok (.aload_n 0, 1) := by decide +kernel
theorem dX11_lean_1 : decode cX11_lean 1 = .ok (.getfield 12, 3) := by decide +kernel
theorem dX11_lean_4 : decode cX11_lean 4 = .ok (.getfield 32, 3) := by decide +kernel
theorem dX11_lean_7 : decode cX11_lean 7 = .ok (.iload_n 1, 1) := by decide +kernel
theorem dX11_lean_8 : decode cX11_lean 8 = .ok (.invokevirtual 192, 3) := by decide +kernel
theorem dX11_lean_11 : decode cX11_lean 11 = .ok (.ifCond .eq 17, 3) := by decide +kernel
theorem dX11_lean_14 : decode cX11_lean 14 = .ok (.aload_n 0, 1) := by decide +kernel
theorem dX11_lean_15 : decode cX11_lean 15 = .ok (.getfield 12, 3) := by decide +kernel
theorem dX11_lean_18 : decode cX11_lean 18 = .ok (.getfield 32, 3) := by decide +kernel
theorem dX11_lean_21 : decode cX11_lean 21 = .ok (.iload_n 2, 1) := by decide +kernel
theorem dX11_lean_22 : decode cX11_lean 22 = .ok (.invokevirtual 192, 3) := by decide +kernel
theorem dX11_lean_25 : decode cX11_lean 25 = .ok (.ifCond .ne 5, 3) := by decide +kernel
theorem dX11_lean_28 : decode cX11_lean 28 = .ok (.iconst (-1), 1) := by decide +kernel
theorem dX11_lean_29 : decode cX11_lean 29 = .ok (.ireturn, 1) := by decide +kernel
theorem dX11_lean_30 : decode cX11_lean 30 = .ok (.iload_n 1, 1) := by decide +kernel
theorem dX11_lean_31 : decode cX11_lean 31 = .ok (.iload_n 2, 1) := by decide +kernel
theorem dX11_lean_32 : decode cX11_lean 32 = .ok (.if_icmp .ne 6, 3) := by decide +kernel
theorem dX11_lean_35 : decode cX11_lean 35 = .ok (.bipush (-2), 2) := by decide +kernel
theorem dX11_lean_37 : decode cX11_lean 37 = .ok (.ireturn, 1) := by decide +kernel
theorem dX11_lean_38 : decode cX11_lean 38 = .ok (.aload_n 0, 1) := by decide +kernel
theorem dX11_lean_39 : decode cX11_lean 39 = .ok (.getfield 12, 3) := by decide +kernel
theorem dX11_lean_42 : decode cX11_lean 42 = .ok (.getfield 32, 3) := by decide +kernel
theorem dX11_lean_45 : decode cX11_lean 45 = .ok (.getfield 195, 3) := by decide +kernel
theorem dX11_lean_48 : decode cX11_lean 48 = .ok (.iload_n 1, 1) := by decide +kernel
theorem dX11_lean_49 : decode cX11_lean 49 = .ok (.laload, 1) := by decide +kernel
theorem dX11_lean_50 : decode cX11_lean 50 = .ok (.iload_n 2, 1) := by decide +kernel
theorem dX11_lean_51 : decode cX11_lean 51 = .ok (.invokestatic 199, 3) := by decide +kernel
theorem dX11_lean_54 : decode cX11_lean 54 = .ok (.ifCond .eq 6, 3) := by decide +kernel
theorem dX11_lean_57 : decode cX11_lean 57 = .ok (.bipush (-3), 2) := by decide +kernel
theorem dX11_lean_59 : decode cX11_lean 59 = .ok (.ireturn, 1) := by decide +kernel
theorem dX11_lean_60 : decode cX11_lean 60 = .ok (.aload_n 0, 1) := by decide +kernel
theorem dX11_lean_61 : decode cX11_lean 61 = .ok (.getfield 12, 3) := by decide +kernel
theorem dX11_lean_64 : decode cX11_lean 64 = .ok (.getfield 32, 3) := by decide +kernel
theorem dX11_lean_67 : decode cX11_lean 67 = .ok (.getfield 195, 3) := by decide +kernel
theorem dX11_lean_70 : decode cX11_lean 70 = .ok (.iload_n 1, 1) := by decide +kernel
theorem dX11_lean_71 : decode cX11_lean 71 = .ok (.dup2, 1) := by decide +kernel
theorem dX11_lean_72 : decode cX11_lean 72 = .ok (.laload, 1) := by decide +kernel
theorem dX11_lean_73 : decode cX11_lean 73 = .ok (.lconst 1, 1) := by decide +kernel
theorem dX11_lean_74 : decode cX11_lean 74 = .ok (.iload_n 2, 1) := by decide +kernel
theorem dX11_lean_75 : decode cX11_lean 75 = .ok (.lshl, 1) := by decide +kernel
theorem dX11_lean_76 : decode cX11_lean 76 = .ok (.lor, 1) := by decide +kernel
theorem dX11_lean_77 : decode cX11_lean 77 = .ok (.lastore, 1) := by decide +kernel
theorem dX11_lean_78 : decode cX11_lean 78 = .ok (.aload_n 0, 1) := by decide +kernel
theorem dX11_lean_79 : decode cX11_lean 79 = .ok (.getfield 12, 3) := by decide +kernel
theorem dX11_lean_82 : decode cX11_lean 82 = .ok (.getfield 32, 3) := by decide +kernel
theorem dX11_lean_85 : decode cX11_lean 85 = .ok (.getfield 195, 3) := by decide +kernel
theorem dX11_lean_88 : decode cX11_lean 88 = .ok (.iload_n 1, 1) := by decide +kernel
theorem dX11_lean_89 : decode cX11_lean 89 = .ok (.laload, 1) := by decide +kernel
theorem dX11_lean_90 : decode cX11_lean 90 = .ok (.invokestatic 203, 3) := by decide +kernel
theorem dX11_lean_93 : decode cX11_lean 93 = .ok (.ireturn, 1) := by decide +kernel
theorem dX11_appeal_0 : decode cX11_appeal 0 = .ok (.aload_n 0, 1) := by decide +kernel
theorem dX11_appeal_1 : decode cX11_appeal 1 = .ok (.getfield 12, 3) := by decide +kernel
theorem dX11_appeal_4 : decode cX11_appeal 4 = .ok (.getfield 32, 3) := by decide +kernel
theorem dX11_appeal_7 : decode cX11_appeal 7 = .ok (.iload_n 1, 1) := by decide +kernel
theorem dX11_appeal_8 : decode cX11_appeal 8 = .ok (.invokevirtual 192, 3) := by decide +kernel
theorem dX11_appeal_11 : decode cX11_appeal 11 = .ok (.ifCond .eq 12, 3) := by decide +kernel
theorem dX11_appeal_14 : decode cX11_appeal 14 = .ok (.iload_n 2, 1) := by decide +kernel
theorem dX11_appeal_15 : decode cX11_appeal 15 = .ok (.iconst 0, 1) := by decide +kernel
theorem dX11_appeal_16 : decode cX11_appeal 16 = .ok (.iconst 1, 1) := by decide +kernel
theorem dX11_appeal_17 : decode cX11_appeal 17 = .ok (.invokestatic 54, 3) := by decide +kernel
theorem dX11_appeal_20 : decode cX11_appeal 20 = .ok (.ifCond .ne 5, 3) := by decide +kernel
theorem dX11_appeal_23 : decode cX11_appeal 23 = .ok (.iconst (-1), 1) := by decide +kernel
theorem dX11_appeal_24 : decode cX11_appeal 24 = .ok (.ireturn, 1) := by decide +kernel
theorem dX11_appeal_25 : decode cX11_appeal 25 = .ok (.iload_n 3, 1) := by decide +kernel
theorem dX11_appeal_26 : decode cX11_appeal 26 = .ok (.iconst 0, 1) := by decide +kernel
theorem dX11_appeal_27 : decode cX11_appeal 27 = .ok (.bipush 100, 2) := by decide +kernel
theorem dX11_appeal_29 : decode cX11_appeal 29 = .ok (.invokestatic 54, 3) := by decide +kernel
theorem dX11_appeal_32 : decode cX11_appeal 32 = .ok (.ifCond .ne 6, 3) := by decide +kernel
theorem dX11_appeal_35 : decode cX11_appeal 35 = .ok (.bipush (-2), 2) := by decide +kernel
theorem dX11_appeal_37 : decode cX11_appeal 37 = .ok (.ireturn, 1) := by decide +kernel
theorem dX11_appeal_38 : decode cX11_appeal 38 = .ok (.aload_n 0, 1) := by decide +kernel
theorem dX11_appeal_39 : decode cX11_appeal 39 = .ok (.getfield 12, 3) := by decide +kernel
theorem dX11_appeal_42 : decode cX11_appeal 42 = .ok (.getfield 32, 3) := by decide +kernel
theorem dX11_appeal_45 : decode cX11_appeal 45 = .ok (.iload_n 1, 1) := by decide +kernel
theorem dX11_appeal_46 : decode cX11_appeal 46 = .ok (.iload_n 2, 1) := by decide +kernel
theorem dX11_appeal_47 : decode cX11_appeal 47 = .ok (.aload_n 0, 1) := by decide +kernel
theorem dX11_appeal_48 : decode cX11_appeal 48 = .ok (.getfield 12, 3) := by decide +kernel
theorem dX11_appeal_51 : decode cX11_appeal 51 = .ok (.getfield 28, 3) := by decide +kernel
theorem dX11_appeal_54 : decode cX11_appeal 54 = .ok (.getfield 85, 3) := by decide +kernel
theorem dX11_appeal_57 : decode cX11_appeal 57 = .ok (.invokevirtual 209, 3) := by decide +kernel
theorem dX11_appeal_60 : decode cX11_appeal 60 = .ok (.ifCond .ne 6, 3) := by decide +kernel
theorem dX11_appeal_63 : decode cX11_appeal 63 = .ok (.bipush (-3), 2) := by decide +kernel
theorem dX11_appeal_65 : decode cX11_appeal 65 = .ok (.ireturn, 1) := by decide +kernel
theorem dX11_appeal_66 : decode cX11_appeal 66 = .ok (.aload_n 0, 1) := by decide +kernel
theorem dX11_appeal_67 : decode cX11_appeal 67 = .ok (.getfield 12, 3) := by decide +kernel
theorem dX11_appeal_70 : decode cX11_appeal 70 = .ok (.getfield 32, 3) := by decide +kernel
theorem dX11_appeal_73 : decode cX11_appeal 73 = .ok (.invokevirtual 164, 3) := by decide +kernel
theorem dX11_appeal_76 : decode cX11_appeal 76 = .ok (.ifCond .eq 6, 3) := by decide +kernel
theorem dX11_appeal_79 : decode cX11_appeal 79 = .ok (.bipush (-4), 2) := by decide +kernel
theorem dX11_appeal_81 : decode cX11_appeal 81 = .ok (.ireturn, 1) := by decide +kernel
theorem dX11_appeal_82 : decode cX11_appeal 82 = .ok (.aload_n 0, 1) := by decide +kernel
theorem dX11_appeal_83 : decode cX11_appeal 83 = .ok (.getfield 12, 3) := by decide +kernel
theorem dX11_appeal_86 : decode cX11_appeal 86 = .ok (.getfield 32, 3) := by decide +kernel
theorem dX11_appeal_89 : decode cX11_appeal 89 = .ok (.iload_n 1, 1) := by decide +kernel
theorem dX11_appeal_90 : decode cX11_appeal 90 = .ok (.iload_n 2, 1) := by decide +kernel
theorem dX11_appeal_91 : decode cX11_appeal 91 = .ok (.iload_n 3, 1) := by decide +kernel
theorem dX11_appeal_92 : decode cX11_appeal 92 = .ok (.invokevirtual 212, 3) := by decide +kernel
theorem dX11_appeal_95 : decode cX11_appeal 95 = .ok (.ireturn, 1) := by decide +kernel
theorem dX11_term_0 : decode cX11_term 0 = .ok (.iload_n 1, 1) := by decide +kernel
theorem dX11_term_1 : decode cX11_term 1 = .ok (.iconst 0, 1) := by decide +kernel
theorem dX11_term_2 : decode cX11_term 2 = .ok (.iconst 1, 1) := by decide +kernel
theorem dX11_term_3 : decode cX11_term 3 = .ok (.invokestatic 54, 3) := by decide +kernel
theorem dX11_term_6 : decode cX11_term 6 = .ok (.ifCond .ne 5, 3) := by decide +kernel
theorem dX11_term_9 : decode cX11_term 9 = .ok (.iconst (-1), 1) := by decide +kernel
theorem dX11_term_10 : decode cX11_term 10 = .ok (.ireturn, 1) := by decide +kernel
theorem dX11_term_11 : decode cX11_term 11 = .ok (.iload_n 1, 1) := by decide +kernel
theorem dX11_term_12 : decode cX11_term 12 = .ok (.ifCond .ne 16, 3) := by decide +kernel
theorem dX11_term_15 : decode cX11_term 15 = .ok (.iload_n 2, 1) := by decide +kernel
theorem dX11_term_16 : decode cX11_term 16 = .ok (.iconst 0, 1) := by decide +kernel
theorem dX11_term_17 : decode cX11_term 17 = .ok (.bipush 99, 2) := by decide +kernel
theorem dX11_term_19 : decode cX11_term 19 = .ok (.invokestatic 54, 3) := by decide +kernel
theorem dX11_term_22 : decode cX11_term 22 = .ok (.ifCond .ne 19, 3) := by decide +kernel
theorem dX11_term_25 : decode cX11_term 25 = .ok (.goto 13, 3) := by decide +kernel
theorem dX11_term_28 : decode cX11_term 28 = .ok (.iload_n 2, 1) := by decide +kernel
theorem dX11_term_29 : decode cX11_term 29 = .ok (.iconst 1, 1) := by decide +kernel
theorem dX11_term_30 : decode cX11_term 30 = .ok (.bipush 20, 2) := by decide +kernel
theorem dX11_term_32 : decode cX11_term 32 = .ok (.invokestatic 54, 3) := by decide +kernel
theorem dX11_term_35 : decode cX11_term 35 = .ok (.ifCond .ne 6, 3) := by decide +kernel
theorem dX11_term_38 : decode cX11_term 38 = .ok (.bipush (-2), 2) := by decide +kernel
theorem dX11_term_40 : decode cX11_term 40 = .ok (.ireturn, 1) := by decide +kernel
theorem dX11_term_41 : decode cX11_term 41 = .ok (.iload_n 1, 1) := by decide +kernel
theorem dX11_term_42 : decode cX11_term 42 = .ok (.ifCond .ne 16, 3) := by decide +kernel
theorem dX11_term_45 : decode cX11_term 45 = .ok (.aload_n 0, 1) := by decide +kernel
theorem dX11_term_46 : decode cX11_term 46 = .ok (.getfield 12, 3) := by decide +kernel
theorem dX11_term_49 : decode cX11_term 49 = .ok (.getfield 32, 3) := by decide +kernel
theorem dX11_term_52 : decode cX11_term 52 = .ok (.getfield 216, 3) := by decide +kernel
theorem dX11_term_55 : decode cX11_term 55 = .ok (.goto 13, 3) := by decide +kernel
theorem dX11_term_58 : decode cX11_term 58 = .ok (.aload_n 0, 1) := by decide +kernel
theorem dX11_term_59 : decode cX11_term 59 = .ok (.getfield 12, 3) := by decide +kernel
theorem dX11_term_62 : decode cX11_term 62 = .ok (.getfield 32, 3) := by decide +kernel
theorem dX11_term_65 : decode cX11_term 65 = .ok (.getfield 219, 3) := by decide +kernel
theorem dX11_term_68 : decode cX11_term 68 = .ok (.istore_n 3, 1) := by decide +kernel
theorem dX11_term_69 : decode cX11_term 69 = .ok (.iload_n 1, 1) := by decide +kernel
theorem dX11_term_70 : decode cX11_term 70 = .ok (.ifCond .ne 17, 3) := by decide +kernel
theorem dX11_term_73 : decode cX11_term 73 = .ok (.aload_n 0, 1) := by decide +kernel
theorem dX11_term_74 : decode cX11_term 74 = .ok (.getfield 12, 3) := by decide +kernel
theorem dX11_term_77 : decode cX11_term 77 = .ok (.getfield 32, 3) := by decide +kernel
theorem dX11_term_80 : decode cX11_term 80 = .ok (.iload_n 2, 1) := by decide +kernel
theorem dX11_term_81 : decode cX11_term 81 = .ok (.putfield 216, 3) := by decide +kernel
theorem dX11_term_84 : decode cX11_term 84 = .ok (.goto 14, 3) := by decide +kernel
theorem dX11_term_87 : decode cX11_term 87 = .ok (.aload_n 0, 1) := by decide +kernel
theorem dX11_term_88 : decode cX11_term 88 = .ok (.getfield 12, 3) := by decide +kernel
theorem dX11_term_91 : decode cX11_term 91 = .ok (.getfield 32, 3) := by decide +kernel
theorem dX11_term_94 : decode cX11_term 94 = .ok (.iload_n 2, 1) := by decide +kernel
theorem dX11_term_95 : decode cX11_term 95 = .ok (.putfield 219, 3) := by decide +kernel
theorem dX11_term_98 : decode cX11_term 98 = .ok (.iload_n 3, 1) := by decide +kernel
theorem dX11_term_99 : decode cX11_term 99 = .ok (.ireturn, 1) := by decide +kernel
theorem dX11_fall_0 : decode cX11_fall 0 = .ok (.aload_n 0, 1) := by decide +kernel
theorem dX11_fall_1 : decode cX11_fall 1 = .ok (.getfield 12, 3) := by decide +kernel
theorem dX11_fall_4 : decode cX11_fall 4 = .ok (.getfield 32, 3) := by decide +kernel
theorem dX11_fall_7 : decode cX11_fall 7 = .ok (.iload_n 1, 1) := by decide +kernel
theorem dX11_fall_8 : decode cX11_fall 8 = .ok (.invokevirtual 192, 3) := by decide +kernel
theorem dX11_fall_11 : decode cX11_fall 11 = .ok (.ifCond .ne 5, 3) := by decide +kernel
theorem dX11_fall_14 : decode cX11_fall 14 = .ok (.iconst (-1), 1) := by decide +kernel
theorem dX11_fall_15 : decode cX11_fall 15 = .ok (.ireturn, 1) := by decide +kernel
theorem dX11_fall_16 : decode cX11_fall 16 = .ok (.iload_n 2, 1) := by decide +kernel
theorem dX11_fall_17 : decode cX11_fall 17 = .ok (.tableswitch 117 0 3 #[31, 49, 67, 85], 31) := by decide +kernel
theorem dX11_fall_48 : decode cX11_fall 48 = .ok (.aload_n 0, 1) := by decide +kernel
theorem dX11_fall_49 : decode cX11_fall 49 = .ok (.getfield 12, 3) := by decide +kernel
theorem dX11_fall_52 : decode cX11_fall 52 = .ok (.getfield 32, 3) := by decide +kernel
theorem dX11_fall_55 : decode cX11_fall 55 = .ok (.invokevirtual 222, 3) := by decide +kernel
theorem dX11_fall_58 : decode cX11_fall 58 = .ok (.iload_n 1, 1) := by decide +kernel
theorem dX11_fall_59 : decode cX11_fall 59 = .ok (.invokestatic 199, 3) := by decide +kernel
theorem dX11_fall_62 : decode cX11_fall 62 = .ok (.invokestatic 141, 3) := by decide +kernel
theorem dX11_fall_65 : decode cX11_fall 65 = .ok (.ireturn, 1) := by decide +kernel
theorem dX11_fall_66 : decode cX11_fall 66 = .ok (.aload_n 0, 1) := by decide +kernel
theorem dX11_fall_67 : decode cX11_fall 67 = .ok (.getfield 12, 3) := by decide +kernel
theorem dX11_fall_70 : decode cX11_fall 70 = .ok (.getfield 32, 3) := by decide +kernel
theorem dX11_fall_73 : decode cX11_fall 73 = .ok (.invokevirtual 226, 3) := by decide +kernel
theorem dX11_fall_76 : decode cX11_fall 76 = .ok (.iload_n 1, 1) := by decide +kernel
theorem dX11_fall_77 : decode cX11_fall 77 = .ok (.invokestatic 199, 3) := by decide +kernel
theorem dX11_fall_80 : decode cX11_fall 80 = .ok (.invokestatic 141, 3) := by decide +kernel
theorem dX11_fall_83 : decode cX11_fall 83 = .ok (.ireturn, 1) := by decide +kernel
theorem dX11_fall_84 : decode cX11_fall 84 = .ok (.aload_n 0, 1) := by decide +kernel
theorem dX11_fall_85 : decode cX11_fall 85 = .ok (.getfield 12, 3) := by decide +kernel
theorem dX11_fall_88 : decode cX11_fall 88 = .ok (.getfield 32, 3) := by decide +kernel
theorem dX11_fall_91 : decode cX11_fall 91 = .ok (.invokevirtual 229, 3) := by decide +kernel
theorem dX11_fall_94 : decode cX11_fall 94 = .ok (.iload_n 1, 1) := by decide +kernel
theorem dX11_fall_95 : decode cX11_fall 95 = .ok (.invokestatic 199, 3) := by decide +kernel
theorem dX11_fall_98 : decode cX11_fall 98 = .ok (.invokestatic 141, 3) := by decide +kernel
theorem dX11_fall_101 : decode cX11_fall 101 = .ok (.ireturn, 1) := by decide +kernel
theorem dX11_fall_102 : decode cX11_fall 102 = .ok (.aload_n 0, 1) := by decide +kernel
theorem dX11_fall_103 : decode cX11_fall 103 = .ok (.getfield 12, 3) := by decide +kernel
theorem dX11_fall_106 : decode cX11_fall 106 = .ok (.getfield 32, 3) := by decide +kernel
theorem dX11_fall_109 : decode cX11_fall 109 = .ok (.lconst 1, 1) := by decide +kernel
theorem dX11_fall_110 : decode cX11_fall 110 = .ok (.iload_n 1, 1) := by decide +kernel
theorem dX11_fall_111 : decode cX11_fall 111 = .ok (.lshl, 1) := by decide +kernel
theorem dX11_fall_112 : decode cX11_fall 112 = .ok (.invokevirtual 232, 3) := by decide +kernel
theorem dX11_fall_115 : decode cX11_fall 115 = .ok (.aload_n 0, 1) := by decide +kernel
theorem dX11_fall_116 : decode cX11_fall 116 = .ok (.getfield 12, 3) := by decide +kernel
theorem dX11_fall_119 : decode cX11_fall 119 = .ok (.getfield 32, 3) := by decide +kernel
theorem dX11_fall_122 : decode cX11_fall 122 = .ok (.invokevirtual 222, 3) := by decide +kernel
theorem dX11_fall_125 : decode cX11_fall 125 = .ok (.ldc2_w 236, 3) := by decide +kernel
theorem dX11_fall_128 : decode cX11_fall 128 = .ok (.lxor, 1) := by decide +kernel
theorem dX11_fall_129 : decode cX11_fall 129 = .ok (.land, 1) := by decide +kernel
theorem dX11_fall_130 : decode cX11_fall 130 = .ok (.invokestatic 203, 3) := by decide +kernel
theorem dX11_fall_133 : decode cX11_fall 133 = .ok (.ireturn, 1) := by decide +kernel
theorem dX11_fall_134 : decode cX11_fall 134 = .ok (.iconst (-1), 1) := by decide +kernel
theorem dX11_fall_135 : decode cX11_fall 135 = .ok (.ireturn, 1) := by decide +kernel
theorem dX11_late_0 : decode cX11_late 0 = .ok (.aload_n 0, 1) := by decide +kernel
theorem dX11_late_1 : decode cX11_late 1 = .ok (.getfield 12, 3) := by decide +kernel
theorem dX11_late_4 : decode cX11_late 4 = .ok (.getfield 32, 3) := by decide +kernel
theorem dX11_late_7 : decode cX11_late 7 = .ok (.iload_n 1, 1) := by decide +kernel
theorem dX11_late_8 : decode cX11_late 8 = .ok (.invokevirtual 238, 3) := by decide +kernel
theorem dX11_late_11 : decode cX11_late 11 = .ok (.astore_n 3, 1) := by decide +kernel
theorem dX11_late_12 : decode cX11_late 12 = .ok (.aload_n 3, 1) := by decide +kernel
theorem dX11_late_13 : decode cX11_late 13 = .ok (.ifnull 21, 3) := by decide +kernel
theorem dX11_late_16 : decode cX11_late 16 = .ok (.aload_n 3, 1) := by decide +kernel
theorem dX11_late_17 : decode cX11_late 17 = .ok (.getfield 242, 3) := by decide +kernel
theorem dX11_late_20 : decode cX11_late 20 = .ok (.bipush 7, 2) := by decide +kernel
theorem dX11_late_22 : decode cX11_late 22 = .ok (.if_icmp .ne 12, 3) := by decide +kernel
theorem dX11_late_25 : decode cX11_late 25 = .ok (.iload_n 2, 1) := by decide +kernel
theorem dX11_late_26 : decode cX11_late 26 = .ok (.iconst 0, 1) := by decide +kernel
theorem dX11_late_27 : decode cX11_late 27 = .ok (.iconst 2, 1) := by decide +kernel
theorem dX11_late_28 : decode cX11_late 28 = .ok (.invokestatic 54, 3) := by decide +kernel
theorem dX11_late_31 : decode cX11_late 31 = .ok (.ifCond .ne 5, 3) := by decide +kernel
theorem dX11_late_34 : decode cX11_late 34 = .ok (.iconst (-1), 1) := by decide +kernel
theorem dX11_late_35 : decode cX11_late 35 = .ok (.ireturn, 1) := by decide +kernel
theorem dX11_late_36 : decode cX11_late 36 = .ok (.aload_n 0, 1) := by decide +kernel
theorem dX11_late_37 : decode cX11_late 37 = .ok (.getfield 12, 3) := by decide +kernel
theorem dX11_late_40 : decode cX11_late 40 = .ok (.getfield 32, 3) := by decide +kernel
theorem dX11_late_43 : decode cX11_late 43 = .ok (.getfield 245, 3) := by decide +kernel
theorem dX11_late_46 : decode cX11_late 46 = .ok (.iload_n 1, 1) := by decide +kernel
theorem dX11_late_47 : decode cX11_late 47 = .ok (.iaload, 1) := by decide +kernel
theorem dX11_late_48 : decode cX11_late 48 = .ok (.istore 4, 2) := by decide +kernel
theorem dX11_late_50 : decode cX11_late 50 = .ok (.iload_n 2, 1) := by decide +kernel
theorem dX11_late_51 : decode cX11_late 51 = .ok (.iconst 1, 1) := by decide +kernel
theorem dX11_late_52 : decode cX11_late 52 = .ok (.if_icmp .ne 6, 3) := by decide +kernel
theorem dX11_late_55 : decode cX11_late 55 = .ok (.iload 4, 2) := by decide +kernel
theorem dX11_late_57 : decode cX11_late 57 = .ok (.ireturn, 1) := by decide +kernel
theorem dX11_late_58 : decode cX11_late 58 = .ok (.iload 4, 2) := by decide +kernel
theorem dX11_late_60 : decode cX11_late 60 = .ok (.bipush (-5), 2) := by decide +kernel
theorem dX11_late_62 : decode cX11_late 62 = .ok (.if_icmp .eq 18, 3) := by decide +kernel
theorem dX11_late_65 : decode cX11_late 65 = .ok (.iload_n 2, 1) := by decide +kernel
theorem dX11_late_66 : decode cX11_late 66 = .ok (.ifCond .eq 10, 3) := by decide +kernel
theorem dX11_late_69 : decode cX11_late 69 = .ok (.aload_n 3, 1) := by decide +kernel
theorem dX11_late_70 : decode cX11_late 70 = .ok (.invokevirtual 248, 3) := by decide +kernel
theorem dX11_late_73 : decode cX11_late 73 = .ok (.ifCond .eq 7, 3) := by decide +kernel
theorem dX11_late_76 : decode cX11_late 76 = .ok (.iconst 1, 1) := by decide +kernel
theorem dX11_late_77 : decode cX11_late 77 = .ok (.goto 4, 3) := by decide +kernel
theorem dX11_late_80 : decode cX11_late 80 = .ok (.iconst 0, 1) := by decide +kernel
theorem dX11_late_81 : decode cX11_late 81 = .ok (.invokestatic 141, 3) := by decide +kernel
theorem dX11_late_84 : decode cX11_late 84 = .ok (.ireturn, 1) := by decide +kernel
theorem dX11_again_0 : decode cX11_again 0 = .ok (.aload_n 0, 1) := by decide +kernel
theorem dX11_again_1 : decode cX11_again 1 = .ok (.getfield 12, 3) := by decide +kernel
theorem dX11_again_4 : decode cX11_again 4 = .ok (.getfield 32, 3) := by decide +kernel
theorem dX11_again_7 : decode cX11_again 7 = .ok (.aload_n 0, 1) := by decide +kernel
theorem dX11_again_8 : decode cX11_again 8 = .ok (.getfield 43, 3) := by decide +kernel
theorem dX11_again_11 : decode cX11_again 11 = .ok (.invokevirtual 251, 3) := by decide +kernel
theorem dX11_again_14 : decode cX11_again 14 = .ok (.istore_n 2, 1) := by decide +kernel
theorem dX11_again_15 : decode cX11_again 15 = .ok (.iload_n 1, 1) := by decide +kernel
theorem dX11_again_16 : decode cX11_again 16 = .ok (.iconst (-1), 1) := by decide +kernel
theorem dX11_again_17 : decode cX11_again 17 = .ok (.if_icmp .ne 5, 3) := by decide +kernel
theorem dX11_again_20 : decode cX11_again 20 = .ok (.iload_n 2, 1) := by decide +kernel
theorem dX11_again_21 : decode cX11_again 21 = .ok (.ireturn, 1) := by decide +kernel
theorem dX11_again_22 : decode cX11_again 22 = .ok (.iload_n 1, 1) := by decide +kernel
theorem dX11_again_23 : decode cX11_again 23 = .ok (.iconst 0, 1) := by decide +kernel
theorem dX11_again_24 : decode cX11_again 24 = .ok (.iload_n 2, 1) := by decide +kernel
theorem dX11_again_25 : decode cX11_again 25 = .ok (.iconst 1, 1) := by decide +kernel
theorem dX11_again_26 : decode cX11_again 26 = .ok (.isub, 1) := by decide +kernel
theorem dX11_again_27 : decode cX11_again 27 = .ok (.invokestatic 54, 3) := by decide +kernel
theorem dX11_again_30 : decode cX11_again 30 = .ok (.ifCond .eq 12, 3) := by decide +kernel
theorem dX11_again_33 : decode cX11_again 33 = .ok (.aload_n 0, 1) := by decide +kernel
theorem dX11_again_34 : decode cX11_again 34 = .ok (.getfield 43, 3) := by decide +kernel
theorem dX11_again_37 : decode cX11_again 37 = .ok (.iload_n 1, 1) := by decide +kernel
theorem dX11_again_38 : decode cX11_again 38 = .ok (.iaload, 1) := by decide +kernel
theorem dX11_again_39 : decode cX11_again 39 = .ok (.goto 4, 3) := by decide +kernel
theorem dX11_again_42 : decode cX11_again 42 = .ok (.iconst (-1), 1) := by decide +kernel
theorem dX11_again_43 : decode cX11_again 43 = .ok (.ireturn, 1) := by decide +kernel
theorem dX11_act_0 : decode cX11_act 0 = .ok (.aload_n 0, 1) := by decide +kernel
theorem dX11_act_1 : decode cX11_act 1 = .ok (.getfield 12, 3) := by decide +kernel
theorem dX11_act_4 : decode cX11_act 4 = .ok (.getfield 32, 3) := by decide +kernel
theorem dX11_act_7 : decode cX11_act 7 = .ok (.iload_n 1, 1) := by decide +kernel
theorem dX11_act_8 : decode cX11_act 8 = .ok (.invokevirtual 238, 3) := by decide +kernel
theorem dX11_act_11 : decode cX11_act 11 = .ok (.astore 4, 2) := by decide +kernel
theorem dX11_act_13 : decode cX11_act 13 = .ok (.aload 4, 2) := by decide +kernel
theorem dX11_act_15 : decode cX11_act 15 = .ok (.ifnonnull 7, 3) := by decide +kernel
theorem dX11_act_18 : decode cX11_act 18 = .ok (.iconst 0, 1) := by decide +kernel
theorem dX11_act_19 : decode cX11_act 19 = .ok (.goto 10, 3) := by decide +kernel
theorem dX11_act_22 : decode cX11_act 22 = .ok (.aload 4, 2) := by decide +kernel
theorem dX11_act_24 : decode cX11_act 24 = .ok (.iload_n 2, 1) := by decide +kernel
theorem dX11_act_25 : decode cX11_act 25 = .ok (.iload_n 3, 1) := by decide +kernel
theorem dX11_act_26 : decode cX11_act 26 = .ok (.invokevirtual 255, 3) := by decide +kernel
theorem dX11_act_29 : decode cX11_act 29 = .ok (.ireturn, 1) := by decide +kernel
theorem dX11_whose_0 : decode cX11_whose 0 = .ok (.aload_n 0, 1) := by decide +kernel
theorem dX11_whose_1 : decode cX11_whose 1 = .ok (.getfield 12, 3) := by decide +kernel
theorem dX11_whose_4 : decode cX11_whose 4 = .ok (.getfield 32, 3) := by decide +kernel
theorem dX11_whose_7 : decode cX11_whose 7 = .ok (.iload_n 1, 1) := by decide +kernel
theorem dX11_whose_8 : decode cX11_whose 8 = .ok (.invokevirtual 238, 3) := by decide +kernel
theorem dX11_whose_11 : decode cX11_whose 11 = .ok (.astore_n 3, 1) := by decide +kernel
theorem dX11_whose_12 : decode cX11_whose 12 = .ok (.aload_n 3, 1) := by decide +kernel
theorem dX11_whose_13 : decode cX11_whose 13 = .ok (.ifnull 13, 3) := by decide +kernel
theorem dX11_whose_16 : decode cX11_whose 16 = .ok (.iload_n 2, 1) := by decide +kernel
theorem dX11_whose_17 : decode cX11_whose 17 = .ok (.iconst 0, 1) := by decide +kernel
theorem dX11_whose_18 : decode cX11_whose 18 = .ok (.bipush 7, 2) := by decide +kernel
theorem dX11_whose_20 : decode cX11_whose 20 = .ok (.invokestatic 54, 3) := by decide +kernel
theorem dX11_whose_23 : decode cX11_whose 23 = .ok (.ifCond .ne 5, 3) := by decide +kernel
theorem dX11_whose_26 : decode cX11_whose 26 = .ok (.iconst (-1), 1) := by decide +kernel
theorem dX11_whose_27 : decode cX11_whose 27 = .ok (.ireturn, 1) := by decide +kernel
theorem dX11_whose_28 : decode cX11_whose 28 = .ok (.aload_n 3, 1) := by decide +kernel
theorem dX11_whose_29 : decode cX11_whose 29 = .ok (.iload_n 2, 1) := by decide +kernel
theorem dX11_whose_30 : decode cX11_whose 30 = .ok (.invokevirtual 258, 3) := by decide +kernel
theorem dX11_whose_33 : decode cX11_whose 33 = .ok (.ifCond .eq 10, 3) := by decide +kernel
theorem dX11_whose_36 : decode cX11_whose 36 = .ok (.aload_n 3, 1) := by decide +kernel
theorem dX11_whose_37 : decode cX11_whose 37 = .ok (.getfield 261, 3) := by decide +kernel
theorem dX11_whose_40 : decode cX11_whose 40 = .ok (.goto 5, 3) := by decide +kernel
theorem dX11_whose_43 : decode cX11_whose 43 = .ok (.bipush (-6), 2) := by decide +kernel
theorem dX11_whose_45 : decode cX11_whose 45 = .ok (.ireturn, 1) := by decide +kernel
theorem dX11_ship_0 : decode cX11_ship 0 = .ok (.iload_n 1, 1) := by decide +kernel
theorem dX11_ship_1 : decode cX11_ship 1 = .ok (.invokestatic 264, 3) := by decide +kernel
theorem dX11_ship_4 : decode cX11_ship 4 = .ok (.ifCond .ne 5, 3) := by decide +kernel
theorem dX11_ship_7 : decode cX11_ship 7 = .ok (.iconst (-1), 1) := by decide +kernel
theorem dX11_ship_8 : decode cX11_ship 8 = .ok (.ireturn, 1) := by decide +kernel
theorem dX11_ship_9 : decode cX11_ship 9 = .ok (.iload_n 2, 1) := by decide +kernel
theorem dX11_ship_10 : decode cX11_ship 10 = .ok (.iconst 1, 1) := by decide +kernel
theorem dX11_ship_11 : decode cX11_ship 11 = .ok (.sipush 999, 3) := by decide +kernel
theorem dX11_ship_14 : decode cX11_ship 14 = .ok (.invokestatic 54, 3) := by decide +kernel
theorem dX11_ship_17 : decode cX11_ship 17 = .ok (.ifCond .ne 6, 3) := by decide +kernel
theorem dX11_ship_20 : decode cX11_ship 20 = .ok (.bipush (-2), 2) := by decide +kernel
theorem dX11_ship_22 : decode cX11_ship 22 = .ok (.ireturn, 1) := by decide +kernel
theorem dX11_ship_23 : decode cX11_ship 23 = .ok (.aload_n 0, 1) := by decide +kernel
theorem dX11_ship_24 : decode cX11_ship 24 = .ok (.getfield 12, 3) := by decide +kernel
theorem dX11_ship_27 : decode cX11_ship 27 = .ok (.getfield 58, 3) := by decide +kernel
theorem dX11_ship_30 : decode cX11_ship 30 = .ok (.getfield 267, 3) := by decide +kernel
theorem dX11_ship_33 : decode cX11_ship 33 = .ok (.bipush 12, 2) := by decide +kernel
theorem dX11_ship_35 : decode cX11_ship 35 = .ok (.if_icmp .lt 8, 3) := by decide +kernel
theorem dX11_ship_38 : decode cX11_ship 38 = .ok (.bipush (-4), 2) := by decide +kernel
theorem dX11_ship_40 : decode cX11_ship 40 = .ok (.goto 15, 3) := by decide +kernel
theorem dX11_ship_43 : decode cX11_ship 43 = .ok (.aload_n 0, 1) := by decide +kernel
theorem dX11_ship_44 : decode cX11_ship 44 = .ok (.getfield 12, 3) := by decide +kernel
theorem dX11_ship_47 : decode cX11_ship 47 = .ok (.getfield 58, 3) := by decide +kernel
theorem dX11_ship_50 : decode cX11_ship 50 = .ok (.iload_n 1, 1) := by decide +kernel
theorem dX11_ship_51 : decode cX11_ship 51 = .ok (.iload_n 2, 1) := by decide +kernel
theorem dX11_ship_52 : decode cX11_ship 52 = .ok (.invokevirtual 270, 3) := by decide +kernel
theorem dX11_ship_55 : decode cX11_ship 55 = .ok (.ireturn, 1) := by decide +kernel
theorem dX11_berth_0 : decode cX11_berth 0 = .ok (.aload_n 0, 1) := by decide +kernel
theorem dX11_berth_1 : decode cX11_berth 1 = .ok (.getfield 12, 3) := by decide +kernel
theorem dX11_berth_4 : decode cX11_berth 4 = .ok (.getfield 58, 3) := by decide +kernel
theorem dX11_berth_7 : decode cX11_berth 7 = .ok (.iload_n 1, 1) := by decide +kernel
theorem dX11_berth_8 : decode cX11_berth 8 = .ok (.invokevirtual 273, 3) := by decide +kernel
theorem dX11_berth_11 : decode cX11_berth 11 = .ok (.ifCond .eq 10, 3) := by decide +kernel
theorem dX11_berth_14 : decode cX11_berth 14 = .ok (.iload_n 2, 1) := by decide +kernel
theorem dX11_berth_15 : decode cX11_berth 15 = .ok (.invokestatic 50, 3) := by decide +kernel
theorem dX11_berth_18 : decode cX11_berth 18 = .ok (.ifCond .ne 5, 3) := by decide +kernel
theorem dX11_berth_21 : decode cX11_berth 21 = .ok (.iconst (-1), 1) := by decide +kernel
theorem dX11_berth_22 : decode cX11_berth 22 = .ok (.ireturn, 1) := by decide +kernel
theorem dX11_berth_23 : decode cX11_berth 23 = .ok (.aload_n 0, 1) := by decide +kernel
theorem dX11_berth_24 : decode cX11_berth 24 = .ok (.getfield 12, 3) := by decide +kernel
theorem dX11_berth_27 : decode cX11_berth 27 = .ok (.getfield 28, 3) := by decide +kernel
theorem dX11_berth_30 : decode cX11_berth 30 = .ok (.getfield 76, 3) := by decide +kernel
theorem dX11_berth_33 : decode cX11_berth 33 = .ok (.iload_n 2, 1) := by decide +kernel
theorem dX11_berth_34 : decode cX11_berth 34 = .ok (.iaload, 1) := by decide +kernel
theorem dX11_berth_35 : decode cX11_berth 35 = .ok (.istore_n 3, 1) := by decide +kernel
theorem dX11_berth_36 : decode cX11_berth 36 = .ok (.iload_n 3, 1) := by decide +kernel
theorem dX11_berth_37 : decode cX11_berth 37 = .ok (.iconst 1, 1) := by decide +kernel
theorem dX11_berth_38 : decode cX11_berth 38 = .ok (.if_icmp .eq 8, 3) := by decide +kernel
theorem dX11_berth_41 : decode cX11_berth 41 = .ok (.iload_n 3, 1) := by decide +kernel
theorem dX11_berth_42 : decode cX11_berth 42 = .ok (.iconst 2, 1) := by decide +kernel
theorem dX11_berth_43 : decode cX11_berth 43 = .ok (.if_icmp .ne 7, 3) := by decide +kernel
theorem dX11_berth_46 : decode cX11_berth 46 = .ok (.iconst 1, 1) := by decide +kernel
theorem dX11_berth_47 : decode cX11_berth 47 = .ok (.goto 4, 3) := by decide +kernel
theorem dX11_berth_50 : decode cX11_berth 50 = .ok (.iconst 0, 1) := by decide +kernel
theorem dX11_berth_51 : decode cX11_berth 51 = .ok (.istore 4, 2) := by decide +kernel
theorem dX11_berth_53 : decode cX11_berth 53 = .ok (.iload 4, 2) := by decide +kernel
theorem dX11_berth_55 : decode cX11_berth 55 = .ok (.ifCond .eq 34, 3) := by decide +kernel
theorem dX11_berth_58 : decode cX11_berth 58 = .ok (.aload_n 0, 1) := by decide +kernel
theorem dX11_berth_59 : decode cX11_berth 59 = .ok (.getfield 12, 3) := by decide +kernel
theorem dX11_berth_62 : decode cX11_berth 62 = .ok (.getfield 58, 3) := by decide +kernel
theorem dX11_berth_65 : decode cX11_berth 65 = .ok (.iload_n 2, 1) := by decide +kernel
theorem dX11_berth_66 : decode cX11_berth 66 = .ok (.invokevirtual 62, 3) := by decide +kernel
theorem dX11_berth_69 : decode cX11_berth 69 = .ok (.ifCond .ne 20, 3) := by decide +kernel
theorem dX11_berth_72 : decode cX11_berth 72 = .ok (.aload_n 0, 1) := by decide +kernel
theorem dX11_berth_73 : decode cX11_berth 73 = .ok (.getfield 12, 3) := by decide +kernel
theorem dX11_berth_76 : decode cX11_berth 76 = .ok (.getfield 58, 3) := by decide +kernel
theorem dX11_berth_79 : decode cX11_berth 79 = .ok (.getfield 276, 3) := by decide +kernel
theorem dX11_berth_82 : decode cX11_berth 82 = .ok (.iload_n 1, 1) := by decide +kernel
theorem dX11_berth_83 : decode cX11_berth 83 = .ok (.iaload, 1) := by decide +kernel
theorem dX11_berth_84 : decode cX11_berth 84 = .ok (.bipush (-2), 2) := by decide +kernel
theorem dX11_berth_86 : decode cX11_berth 86 = .ok (.if_icmp .eq 6, 3) := by decide +kernel
theorem dX11_berth_89 : decode cX11_berth 89 = .ok (.bipush (-3), 2) := by decide +kernel
theorem dX11_berth_91 : decode cX11_berth 91 = .ok (.ireturn, 1) := by decide +kernel
theorem dX11_berth_92 : decode cX11_berth 92 = .ok (.aload_n 0, 1) := by decide +kernel
theorem dX11_berth_93 : decode cX11_berth 93 = .ok (.getfield 12, 3) := by decide +kernel
theorem dX11_berth_96 : decode cX11_berth 96 = .ok (.getfield 58, 3) := by decide +kernel
theorem dX11_berth_99 : decode cX11_berth 99 = .ok (.getfield 276, 3) := by decide +kernel
theorem dX11_berth_102 : decode cX11_berth 102 = .ok (.iload_n 1, 1) := by decide +kernel
theorem dX11_berth_103 : decode cX11_berth 103 = .ok (.iload_n 2, 1) := by decide +kernel
theorem dX11_berth_104 : decode cX11_berth 104 = .ok (.iastore, 1) := by decide +kernel
theorem dX11_berth_105 : decode cX11_berth 105 = .ok (.iconst 1, 1) := by decide +kernel
theorem dX11_berth_106 : decode cX11_berth 106 = .ok (.ireturn, 1) := by decide +kernel
theorem dX11_leave_0 : decode cX11_leave 0 = .ok (.aload_n 0, 1) := by decide +kernel
theorem dX11_leave_1 : decode cX11_leave 1 = .ok (.getfield 12, 3) := by decide +kernel
theorem dX11_leave_4 : decode cX11_leave 4 = .ok (.getfield 58, 3) := by decide +kernel
theorem dX11_leave_7 : decode cX11_leave 7 = .ok (.iload_n 1, 1) := by decide +kernel
theorem dX11_leave_8 : decode cX11_leave 8 = .ok (.invokevirtual 273, 3) := by decide +kernel
theorem dX11_leave_11 : decode cX11_leave 11 = .ok (.ifCond .eq 12, 3) := by decide +kernel
theorem dX11_leave_14 : decode cX11_leave 14 = .ok (.iload_n 2, 1) := by decide +kernel
theorem dX11_leave_15 : decode cX11_leave 15 = .ok (.iconst 0, 1) := by decide +kernel
theorem dX11_leave_16 : decode cX11_leave 16 = .ok (.iconst 2, 1) := by decide +kernel
theorem dX11_leave_17 : decode cX11_leave 17 = .ok (.invokestatic 54, 3) := by decide +kernel
theorem dX11_leave_20 : decode cX11_leave 20 = .ok (.ifCond .ne 5, 3) := by decide +kernel
theorem dX11_leave_23 : decode cX11_leave 23 = .ok (.iconst (-1), 1) := by decide +kernel
theorem dX11_leave_24 : decode cX11_leave 24 = .ok (.ireturn, 1) := by decide +kernel
theorem dX11_leave_25 : decode cX11_leave 25 = .ok (.aload_n 0, 1) := by decide +kernel
theorem dX11_leave_26 : decode cX11_leave 26 = .ok (.getfield 12, 3) := by decide +kernel
theorem dX11_leave_29 : decode cX11_leave 29 = .ok (.getfield 58, 3) := by decide +kernel
theorem dX11_leave_32 : decode cX11_leave 32 = .ok (.getfield 276, 3) := by decide +kernel
theorem dX11_leave_35 : decode cX11_leave 35 = .ok (.iload_n 1, 1) := by decide +kernel
theorem dX11_leave_36 : decode cX11_leave 36 = .ok (.iaload, 1) := by decide +kernel
theorem dX11_leave_37 : decode cX11_leave 37 = .ok (.istore_n 3, 1) := by decide +kernel
theorem dX11_leave_38 : decode cX11_leave 38 = .ok (.iload_n 3, 1) := by decide +kernel
theorem dX11_leave_39 : decode cX11_leave 39 = .ok (.bipush (-3), 2) := by decide +kernel
theorem dX11_leave_41 : decode cX11_leave 41 = .ok (.if_icmp .eq 19, 3) := by decide +kernel
theorem dX11_leave_44 : decode cX11_leave 44 = .ok (.iload_n 3, 1) := by decide +kernel
theorem dX11_leave_45 : decode cX11_leave 45 = .ok (.bipush (-4), 2) := by decide +kernel
theorem dX11_leave_47 : decode cX11_leave 47 = .ok (.if_icmp .eq 13, 3) := by decide +kernel
theorem dX11_leave_50 : decode cX11_leave 50 = .ok (.iload_n 2, 1) := by decide +kernel
theorem dX11_leave_51 : decode cX11_leave 51 = .ok (.ifCond .ne 12, 3) := by decide +kernel
theorem dX11_leave_54 : decode cX11_leave 54 = .ok (.iload_n 3, 1) := by decide +kernel
theorem dX11_leave_55 : decode cX11_leave 55 = .ok (.bipush (-2), 2) := by decide +kernel
theorem dX11_leave_57 : decode cX11_leave 57 = .ok (.if_icmp .ne 6, 3) := by decide +kernel
theorem dX11_leave_60 : decode cX11_leave 60 = .ok (.bipush (-3), 2) := by decide +kernel
theorem dX11_leave_62 : decode cX11_leave 62 = .ok (.ireturn, 1) := by decide +kernel
theorem dX11_leave_63 : decode cX11_leave 63 = .ok (.aload_n 0, 1) := by decide +kernel
theorem dX11_leave_64 : decode cX11_leave 64 = .ok (.getfield 12, 3) := by decide +kernel
theorem dX11_leave_67 : decode cX11_leave 67 = .ok (.getfield 58, 3) := by decide +kernel
theorem dX11_leave_70 : decode cX11_leave 70 = .ok (.getfield 276, 3) := by decide +kernel
theorem dX11_leave_73 : decode cX11_leave 73 = .ok (.iload_n 1, 1) := by decide +kernel
theorem dX11_leave_74 : decode cX11_leave 74 = .ok (.bipush (-2), 2) := by decide +kernel
theorem dX11_leave_76 : decode cX11_leave 76 = .ok (.iload_n 2, 1) := by decide +kernel
theorem dX11_leave_77 : decode cX11_leave 77 = .ok (.isub, 1) := by decide +kernel
theorem dX11_leave_78 : decode cX11_leave 78 = .ok (.iastore, 1) := by decide +kernel
theorem dX11_leave_79 : decode cX11_leave 79 = .ok (.aload_n 0, 1) := by decide +kernel
theorem dX11_leave_80 : decode cX11_leave 80 = .ok (.getfield 12, 3) := by decide +kernel
theorem dX11_leave_83 : decode cX11_leave 83 = .ok (.getfield 58, 3) := by decide +kernel
theorem dX11_leave_86 : decode cX11_leave 86 = .ok (.getfield 279, 3) := by decide +kernel
theorem dX11_leave_89 : decode cX11_leave 89 = .ok (.iload_n 1, 1) := by decide +kernel
theorem dX11_leave_90 : decode cX11_leave 90 = .ok (.iaload, 1) := by decide +kernel
theorem dX11_leave_91 : decode cX11_leave 91 = .ok (.ireturn, 1) := by decide +kernel
theorem dX11_goods_0 : decode cX11_goods 0 = .ok (.aload_n 0, 1) := by decide +kernel
theorem dX11_goods_1 : decode cX11_goods 1 = .ok (.getfield 12, 3) := by decide +kernel
theorem dX11_goods_4 : decode cX11_goods 4 = .ok (.getfield 58, 3) := by decide +kernel
theorem dX11_goods_7 : decode cX11_goods 7 = .ok (.iload_n 1, 1) := by decide +kernel
theorem dX11_goods_8 : decode cX11_goods 8 = .ok (.invokevirtual 273, 3) := by decide +kernel
theorem dX11_goods_11 : decode cX11_goods 11 = .ok (.ifCond .ne 5, 3) := by decide +kernel
theorem dX11_goods_14 : decode cX11_goods 14 = .ok (.iconst (-1), 1) := by decide +kernel
theorem dX11_goods_15 : decode cX11_goods 15 = .ok (.ireturn, 1) := by decide +kernel
theorem dX11_goods_16 : decode cX11_goods 16 = .ok (.iload_n 2, 1) := by decide +kernel
theorem dX11_goods_17 : decode cX11_goods 17 = .ok (.iconst 1, 1) := by decide +kernel
theorem dX11_goods_18 : decode cX11_goods 18 = .ok (.sipush 999, 3) := by decide +kernel
theorem dX11_goods_21 : decode cX11_goods 21 = .ok (.invokestatic 54, 3) := by decide +kernel
theorem dX11_goods_24 : decode cX11_goods 24 = .ok (.ifCond .ne 6, 3) := by decide +kernel
theorem dX11_goods_27 : decode cX11_goods 27 = .ok (.bipush (-2), 2) := by decide +kernel
theorem dX11_goods_29 : decode cX11_goods 29 = .ok (.ireturn, 1) := by decide +kernel
theorem dX11_goods_30 : decode cX11_goods 30 = .ok (.aload_n 0, 1) := by decide +kernel
theorem dX11_goods_31 : decode cX11_goods 31 = .ok (.getfield 12, 3) := by decide +kernel
theorem dX11_goods_34 : decode cX11_goods 34 = .ok (.getfield 58, 3) := by decide +kernel
theorem dX11_goods_37 : decode cX11_goods 37 = .ok (.getfield 276, 3) := by decide +kernel
theorem dX11_goods_40 : decode cX11_goods 40 = .ok (.iload_n 1, 1) := by decide +kernel
theorem dX11_goods_41 : decode cX11_goods 41 = .ok (.iaload, 1) := by decide +kernel
theorem dX11_goods_42 : decode cX11_goods 42 = .ok (.ifCond .lt 19, 3) := by decide +kernel
theorem dX11_goods_45 : decode cX11_goods 45 = .ok (.aload_n 0, 1) := by decide +kernel
theorem dX11_goods_46 : decode cX11_goods 46 = .ok (.getfield 12, 3) := by decide +kernel
theorem dX11_goods_49 : decode cX11_goods 49 = .ok (.getfield 58, 3) := by decide +kernel
theorem dX11_goods_52 : decode cX11_goods 52 = .ok (.getfield 279, 3) := by decide +kernel
theorem dX11_goods_55 : decode cX11_goods 55 = .ok (.iload_n 1, 1) := by decide +kernel
theorem dX11_goods_56 : decode cX11_goods 56 = .ok (.iaload, 1) := by decide +kernel
theorem dX11_goods_57 : decode cX11_goods 57 = .ok (.iload_n 2, 1) := by decide +kernel
theorem dX11_goods_58 : decode cX11_goods 58 = .ok (.if_icmp .ge 6, 3) := by decide +kernel
theorem dX11_goods_61 : decode cX11_goods 61 = .ok (.bipush (-3), 2) := by decide +kernel
theorem dX11_goods_63 : decode cX11_goods 63 = .ok (.ireturn, 1) := by decide +kernel
theorem dX11_goods_64 : decode cX11_goods 64 = .ok (.aload_n 0, 1) := by decide +kernel
theorem dX11_goods_65 : decode cX11_goods 65 = .ok (.getfield 12, 3) := by decide +kernel
theorem dX11_goods_68 : decode cX11_goods 68 = .ok (.getfield 58, 3) := by decide +kernel
theorem dX11_goods_71 : decode cX11_goods 71 = .ok (.iload_n 1, 1) := by decide +kernel
theorem dX11_goods_72 : decode cX11_goods 72 = .ok (.iload_n 2, 1) := by decide +kernel
theorem dX11_goods_73 : decode cX11_goods 73 = .ok (.invokevirtual 282, 3) := by decide +kernel
theorem dX11_goods_76 : decode cX11_goods 76 = .ok (.ireturn, 1) := by decide +kernel
theorem dX11_coin_0 : decode cX11_coin 0 = .ok (.iload_n 1, 1) := by decide +kernel
theorem dX11_coin_1 : decode cX11_coin 1 = .ok (.invokestatic 264, 3) := by decide +kernel
theorem dX11_coin_4 : decode cX11_coin 4 = .ok (.ifCond .ne 5, 3) := by decide +kernel
theorem dX11_coin_7 : decode cX11_coin 7 = .ok (.iconst (-1), 1) := by decide +kernel
theorem dX11_coin_8 : decode cX11_coin 8 = .ok (.ireturn, 1) := by decide +kernel
theorem dX11_coin_9 : decode cX11_coin 9 = .ok (.iload_n 2, 1) := by decide +kernel
theorem dX11_coin_10 : decode cX11_coin 10 = .ok (.iconst 1, 1) := by decide +kernel
theorem dX11_coin_11 : decode cX11_coin 11 = .ok (.sipush 999, 3) := by decide +kernel
theorem dX11_coin_14 : decode cX11_coin 14 = .ok (.invokestatic 54, 3) := by decide +kernel
theorem dX11_coin_17 : decode cX11_coin 17 = .ok (.ifCond .ne 6, 3) := by decide +kernel
theorem dX11_coin_20 : decode cX11_coin 20 = .ok (.bipush (-2), 2) := by decide +kernel
theorem dX11_coin_22 : decode cX11_coin 22 = .ok (.ireturn, 1) := by decide +kernel
theorem dX11_coin_23 : decode cX11_coin 23 = .ok (.aload_n 0, 1) := by decide +kernel
theorem dX11_coin_24 : decode cX11_coin 24 = .ok (.getfield 12, 3) := by decide +kernel
theorem dX11_coin_27 : decode cX11_coin 27 = .ok (.getfield 58, 3) := by decide +kernel
theorem dX11_coin_30 : decode cX11_coin 30 = .ok (.getfield 284, 3) := by decide +kernel
theorem dX11_coin_33 : decode cX11_coin 33 = .ok (.iload_n 1, 1) := by decide +kernel
theorem dX11_coin_34 : decode cX11_coin 34 = .ok (.iaload, 1) := by decide +kernel
theorem dX11_coin_35 : decode cX11_coin 35 = .ok (.iload_n 2, 1) := by decide +kernel
theorem dX11_coin_36 : decode cX11_coin 36 = .ok (.if_icmp .ge 6, 3) := by decide +kernel
theorem dX11_coin_39 : decode cX11_coin 39 = .ok (.bipush (-3), 2) := by decide +kernel
theorem dX11_coin_41 : decode cX11_coin 41 = .ok (.ireturn, 1) := by decide +kernel
theorem dX11_coin_42 : decode cX11_coin 42 = .ok (.aload_n 0, 1) := by decide +kernel
theorem dX11_coin_43 : decode cX11_coin 43 = .ok (.getfield 12, 3) := by decide +kernel
theorem dX11_coin_46 : decode cX11_coin 46 = .ok (.getfield 58, 3) := by decide +kernel
theorem dX11_coin_49 : decode cX11_coin 49 = .ok (.iload_n 1, 1) := by decide +kernel
theorem dX11_coin_50 : decode cX11_coin 50 = .ok (.iload_n 2, 1) := by decide +kernel
theorem dX11_coin_51 : decode cX11_coin 51 = .ok (.iload_n 3, 1) := by decide +kernel
theorem dX11_coin_52 : decode cX11_coin 52 = .ok (.invokevirtual 287, 3) := by decide +kernel
theorem dX11_coin_55 : decode cX11_coin 55 = .ok (.aload_n 0, 1) := by decide +kernel
theorem dX11_coin_56 : decode cX11_coin 56 = .ok (.getfield 12, 3) := by decide +kernel
theorem dX11_coin_59 : decode cX11_coin 59 = .ok (.getfield 58, 3) := by decide +kernel
theorem dX11_coin_62 : decode cX11_coin 62 = .ok (.getfield 291, 3) := by decide +kernel
theorem dX11_coin_65 : decode cX11_coin 65 = .ok (.ireturn, 1) := by decide +kernel
theorem dX11_tariff_0 : decode cX11_tariff 0 = .ok (.iload_n 1, 1) := by decide +kernel
theorem dX11_tariff_1 : decode cX11_tariff 1 = .ok (.ifCond .ne 10, 3) := by decide +kernel
theorem dX11_tariff_4 : decode cX11_tariff 4 = .ok (.iload_n 2, 1) := by decide +kernel
theorem dX11_tariff_5 : decode cX11_tariff 5 = .ok (.invokestatic 264, 3) := by decide +kernel
theorem dX11_tariff_8 : decode cX11_tariff 8 = .ok (.ifCond .ne 15, 3) := by decide +kernel
theorem dX11_tariff_11 : decode cX11_tariff 11 = .ok (.iload_n 1, 1) := by decide +kernel
theorem dX11_tariff_12 : decode cX11_tariff 12 = .ok (.iconst 1, 1) := by decide +kernel
theorem dX11_tariff_13 : decode cX11_tariff 13 = .ok (.if_icmp .ne 14, 3) := by decide +kernel
theorem dX11_tariff_16 : decode cX11_tariff 16 = .ok (.iload_n 2, 1) := by decide +kernel
theorem dX11_tariff_17 : decode cX11_tariff 17 = .ok (.invokestatic 158, 3) := by decide +kernel
theorem dX11_tariff_20 : decode cX11_tariff 20 = .ok (.ifCond .eq 7, 3) := by decide +kernel
theorem dX11_tariff_23 : decode cX11_tariff 23 = .ok (.iconst 1, 1) := by decide +kernel
theorem dX11_tariff_24 : decode cX11_tariff 24 = .ok (.goto 4, 3) := by decide +kernel
theorem dX11_tariff_27 : decode cX11_tariff 27 = .ok (.iconst 0, 1) := by decide +kernel
theorem dX11_tariff_28 : decode cX11_tariff 28 = .ok (.istore 4, 2) := by decide +kernel
theorem dX11_tariff_30 : decode cX11_tariff 30 = .ok (.iload 4, 2) := by decide +kernel
theorem dX11_tariff_32 : decode cX11_tariff 32 = .ok (.ifCond .ne 5, 3) := by decide +kernel
theorem dX11_tariff_35 : decode cX11_tariff 35 = .ok (.iconst (-1), 1) := by decide +kernel
theorem dX11_tariff_36 : decode cX11_tariff 36 = .ok (.ireturn, 1) := by decide +kernel
theorem dX11_tariff_37 : decode cX11_tariff 37 = .ok (.iload_n 3, 1) := by decide +kernel
theorem dX11_tariff_38 : decode cX11_tariff 38 = .ok (.iconst 0, 1) := by decide +kernel
theorem dX11_tariff_39 : decode cX11_tariff 39 = .ok (.bipush 99, 2) := by decide +kernel
theorem dX11_tariff_41 : decode cX11_tariff 41 = .ok (.invokestatic 54, 3) := by decide +kernel
theorem dX11_tariff_44 : decode cX11_tariff 44 = .ok (.ifCond .ne 6, 3) := by decide +kernel
theorem dX11_tariff_47 : decode cX11_tariff 47 = .ok (.bipush (-2), 2) := by decide +kernel
theorem dX11_tariff_49 : decode cX11_tariff 49 = .ok (.ireturn, 1) := by decide +kernel
theorem dX11_tariff_50 : decode cX11_tariff 50 = .ok (.iload_n 1, 1) := by decide +kernel
theorem dX11_tariff_51 : decode cX11_tariff 51 = .ok (.ifCond .ne 16, 3) := by decide +kernel
theorem dX11_tariff_54 : decode cX11_tariff 54 = .ok (.aload_n 0, 1) := by decide +kernel
theorem dX11_tariff_55 : decode cX11_tariff 55 = .ok (.getfield 12, 3) := by decide +kernel
theorem dX11_tariff_58 : decode cX11_tariff 58 = .ok (.getfield 58, 3) := by decide +kernel
theorem dX11_tariff_61 : decode cX11_tariff 61 = .ok (.getfield 294, 3) := by decide +kernel
theorem dX11_tariff_64 : decode cX11_tariff 64 = .ok (.goto 13, 3) := by decide +kernel
theorem dX11_tariff_67 : decode cX11_tariff 67 = .ok (.aload_n 0, 1) := by decide +kernel
theorem dX11_tariff_68 : decode cX11_tariff 68 = .ok (.getfield 12, 3) := by decide +kernel
theorem dX11_tariff_71 : decode cX11_tariff 71 = .ok (.getfield 58, 3) := by decide +kernel
theorem dX11_tariff_74 : decode cX11_tariff 74 = .ok (.getfield 297, 3) := by decide +kernel
theorem dX11_tariff_77 : decode cX11_tariff 77 = .ok (.astore 5, 2) := by decide +kernel
theorem dX11_tariff_79 : decode cX11_tariff 79 = .ok (.aload 5, 2) := by decide +kernel
theorem dX11_tariff_81 : decode cX11_tariff 81 = .ok (.iload_n 2, 1) := by decide +kernel
theorem dX11_tariff_82 : decode cX11_tariff 82 = .ok (.iaload, 1) := by decide +kernel
theorem dX11_tariff_83 : decode cX11_tariff 83 = .ok (.istore 6, 2) := by decide +kernel
theorem dX11_tariff_85 : decode cX11_tariff 85 = .ok (.aload 5, 2) := by decide +kernel
theorem dX11_tariff_87 : decode cX11_tariff 87 = .ok (.iload_n 2, 1) := by decide +kernel
theorem dX11_tariff_88 : decode cX11_tariff 88 = .ok (.iload_n 3, 1) := by decide +kernel
theorem dX11_tariff_89 : decode cX11_tariff 89 = .ok (.iastore, 1) := by decide +kernel
theorem dX11_tariff_90 : decode cX11_tariff 90 = .ok (.iload 6, 2) := by decide +kernel
theorem dX11_tariff_92 : decode cX11_tariff 92 = .ok (.ireturn, 1) := by decide +kernel
theorem dX11_share_0 : decode cX11_share 0 = .ok (.aload_n 0, 1) := by decide +kernel
theorem dX11_share_1 : decode cX11_share 1 = .ok (.getfield 12, 3) := by decide +kernel
theorem dX11_share_4 : decode cX11_share 4 = .ok (.getfield 58, 3) := by decide +kernel
theorem dX11_share_7 : decode cX11_share 7 = .ok (.invokevirtual 300, 3) := by decide +kernel
theorem dX11_share_10 : decode cX11_share 10 = .ok (.ireturn, 1) := by decide +kernel
theorem dX11_whole_0 : decode cX11_whole 0 = .ok (.iload_n 1, 1) := by decide +kernel
theorem dX11_whole_1 : decode cX11_whole 1 = .ok (.tableswitch 203 0 5 #[39, 64, 89, 114, 139, 171], 39) := by decide +kernel
theorem dX11_whole_40 : decode cX11_whole 40 = .ok (.iload_n 2, 1) := by decide +kernel
theorem dX11_whole_41 : decode cX11_whole 41 = .ok (.invokestatic 158, 3) := by decide +kernel
theorem dX11_whole_44 : decode cX11_whole 44 = .ok (.ifCond .eq 18, 3) := by decide +kernel
theorem dX11_whole_47 : decode cX11_whole 47 = .ok (.aload_n 0, 1) := by decide +kernel
theorem dX11_whole_48 : decode cX11_whole 48 = .ok (.getfield 12, 3) := by decide +kernel
theorem dX11_whole_51 : decode cX11_whole 51 = .ok (.getfield 58, 3) := by decide +kernel
theorem dX11_whole_54 : decode cX11_whole 54 = .ok (.getfield 304, 3) := by decide +kernel
theorem dX11_whole_57 : decode cX11_whole 57 = .ok (.iload_n 2, 1) := by decide +kernel
theorem dX11_whole_58 : decode cX11_whole 58 = .ok (.iaload, 1) := by decide +kernel
theorem dX11_whole_59 : decode cX11_whole 59 = .ok (.goto 5, 3) := by decide +kernel
theorem dX11_whole_62 : decode cX11_whole 62 = .ok (.bipush (-5), 2) := by decide +kernel
theorem dX11_whole_64 : decode cX11_whole 64 = .ok (.ireturn, 1) := by decide +kernel
theorem dX11_whole_65 : decode cX11_whole 65 = .ok (.iload_n 2, 1) := by decide +kernel
theorem dX11_whole_66 : decode cX11_whole 66 = .ok (.invokestatic 264, 3) := by decide +kernel
theorem dX11_whole_69 : decode cX11_whole 69 = .ok (.ifCond .eq 18, 3) := by decide +kernel
theorem dX11_whole_72 : decode cX11_whole 72 = .ok (.aload_n 0, 1) := by decide +kernel
theorem dX11_whole_73 : decode cX11_whole 73 = .ok (.getfield 12, 3) := by decide +kernel
theorem dX11_whole_76 : decode cX11_whole 76 = .ok (.getfield 58, 3) := by decide +kernel
theorem dX11_whole_79 : decode cX11_whole 79 = .ok (.getfield 284, 3) := by decide +kernel
theorem dX11_whole_82 : decode cX11_whole 82 = .ok (.iload_n 2, 1) := by decide +kernel
theorem dX11_whole_83 : decode cX11_whole 83 = .ok (.iaload, 1) := by decide +kernel
theorem dX11_whole_84 : decode cX11_whole 84 = .ok (.goto 5, 3) := by decide +kernel
theorem dX11_whole_87 : decode cX11_whole 87 = .ok (.bipush (-5), 2) := by decide +kernel
theorem dX11_whole_89 : decode cX11_whole 89 = .ok (.ireturn, 1) := by decide +kernel
theorem dX11_whole_90 : decode cX11_whole 90 = .ok (.iload_n 2, 1) := by decide +kernel
theorem dX11_whole_91 : decode cX11_whole 91 = .ok (.invokestatic 264, 3) := by decide +kernel
theorem dX11_whole_94 : decode cX11_whole 94 = .ok (.ifCond .eq 18, 3) := by decide +kernel
theorem dX11_whole_97 : decode cX11_whole 97 = .ok (.aload_n 0, 1) := by decide +kernel
theorem dX11_whole_98 : decode cX11_whole 98 = .ok (.getfield 12, 3) := by decide +kernel
theorem dX11_whole_101 : decode cX11_whole 101 = .ok (.getfield 58, 3) := by decide +kernel
theorem dX11_whole_104 : decode cX11_whole 104 = .ok (.getfield 307, 3) := by decide +kernel
theorem dX11_whole_107 : decode cX11_whole 107 = .ok (.iload_n 2, 1) := by decide +kernel
theorem dX11_whole_108 : decode cX11_whole 108 = .ok (.iaload, 1) := by decide +kernel
theorem dX11_whole_109 : decode cX11_whole 109 = .ok (.goto 5, 3) := by decide +kernel
theorem dX11_whole_112 : decode cX11_whole 112 = .ok (.bipush (-5), 2) := by decide +kernel
theorem dX11_whole_114 : decode cX11_whole 114 = .ok (.ireturn, 1) := by decide +kernel
theorem dX11_whole_115 : decode cX11_whole 115 = .ok (.iload_n 2, 1) := by decide +kernel
theorem dX11_whole_116 : decode cX11_whole 116 = .ok (.invokestatic 264, 3) := by decide +kernel
theorem dX11_whole_119 : decode cX11_whole 119 = .ok (.ifCond .eq 18, 3) := by decide +kernel
theorem dX11_whole_122 : decode cX11_whole 122 = .ok (.aload_n 0, 1) := by decide +kernel
theorem dX11_whole_123 : decode cX11_whole 123 = .ok (.getfield 12, 3) := by decide +kernel
theorem dX11_whole_126 : decode cX11_whole 126 = .ok (.getfield 58, 3) := by decide +kernel
theorem dX11_whole_129 : decode cX11_whole 129 = .ok (.getfield 310, 3) := by decide +kernel
theorem dX11_whole_132 : decode cX11_whole 132 = .ok (.iload_n 2, 1) := by decide +kernel
theorem dX11_whole_133 : decode cX11_whole 133 = .ok (.iaload, 1) := by decide +kernel
theorem dX11_whole_134 : decode cX11_whole 134 = .ok (.goto 5, 3) := by decide +kernel
theorem dX11_whole_137 : decode cX11_whole 137 = .ok (.bipush (-5), 2) := by decide +kernel
theorem dX11_whole_139 : decode cX11_whole 139 = .ok (.ireturn, 1) := by decide +kernel
theorem dX11_whole_140 : decode cX11_whole 140 = .ok (.aload_n 0, 1) := by decide +kernel
theorem dX11_whole_141 : decode cX11_whole 141 = .ok (.getfield 12, 3) := by decide +kernel
theorem dX11_whole_144 : decode cX11_whole 144 = .ok (.getfield 58, 3) := by decide +kernel
theorem dX11_whole_147 : decode cX11_whole 147 = .ok (.iload_n 2, 1) := by decide +kernel
theorem dX11_whole_148 : decode cX11_whole 148 = .ok (.invokevirtual 273, 3) := by decide +kernel
theorem dX11_whole_151 : decode cX11_whole 151 = .ok (.ifCond .eq 18, 3) := by decide +kernel
theorem dX11_whole_154 : decode cX11_whole 154 = .ok (.aload_n 0, 1) := by decide +kernel
theorem dX11_whole_155 : decode cX11_whole 155 = .ok (.getfield 12, 3) := by decide +kernel
theorem dX11_whole_158 : decode cX11_whole 158 = .ok (.getfield 58, 3) := by decide +kernel
theorem dX11_whole_161 : decode cX11_whole 161 = .ok (.getfield 279, 3) := by decide +kernel
theorem dX11_whole_164 : decode cX11_whole 164 = .ok (.iload_n 2, 1) := by decide +kernel
theorem dX11_whole_165 : decode cX11_whole 165 = .ok (.iaload, 1) := by decide +kernel
theorem dX11_whole_166 : decode cX11_whole 166 = .ok (.goto 5, 3) := by decide +kernel
theorem dX11_whole_169 : decode cX11_whole 169 = .ok (.bipush (-5), 2) := by decide +kernel
theorem dX11_whole_171 : decode cX11_whole 171 = .ok (.ireturn, 1) := by decide +kernel
theorem dX11_whole_172 : decode cX11_whole 172 = .ok (.aload_n 0, 1) := by decide +kernel
theorem dX11_whole_173 : decode cX11_whole 173 = .ok (.getfield 12, 3) := by decide +kernel
theorem dX11_whole_176 : decode cX11_whole 176 = .ok (.getfield 58, 3) := by decide +kernel
theorem dX11_whole_179 : decode cX11_whole 179 = .ok (.iload_n 2, 1) := by decide +kernel
theorem dX11_whole_180 : decode cX11_whole 180 = .ok (.invokevirtual 273, 3) := by decide +kernel
theorem dX11_whole_183 : decode cX11_whole 183 = .ok (.ifCond .eq 18, 3) := by decide +kernel
theorem dX11_whole_186 : decode cX11_whole 186 = .ok (.aload_n 0, 1) := by decide +kernel
theorem dX11_whole_187 : decode cX11_whole 187 = .ok (.getfield 12, 3) := by decide +kernel
theorem dX11_whole_190 : decode cX11_whole 190 = .ok (.getfield 58, 3) := by decide +kernel
theorem dX11_whole_193 : decode cX11_whole 193 = .ok (.getfield 276, 3) := by decide +kernel
theorem dX11_whole_196 : decode cX11_whole 196 = .ok (.iload_n 2, 1) := by decide +kernel
theorem dX11_whole_197 : decode cX11_whole 197 = .ok (.iaload, 1) := by decide +kernel
theorem dX11_whole_198 : decode cX11_whole 198 = .ok (.goto 5, 3) := by decide +kernel
theorem dX11_whole_201 : decode cX11_whole 201 = .ok (.bipush (-5), 2) := by decide +kernel
theorem dX11_whole_203 : decode cX11_whole 203 = .ok (.ireturn, 1) := by decide +kernel
theorem dX11_whole_204 : decode cX11_whole 204 = .ok (.bipush (-5), 2) := by decide +kernel
theorem dX11_whole_206 : decode cX11_whole 206 = .ok (.ireturn, 1) := by decide +kernel
theorem dX11_firm_0 : decode cX11_firm 0 = .ok (.iload_n 1, 1) := by decide +kernel
theorem dX11_firm_1 : decode cX11_firm 1 = .ok (.invokestatic 158, 3) := by decide +kernel
theorem dX11_firm_4 : decode cX11_firm 4 = .ok (.ifCond .eq 22, 3) := by decide +kernel
theorem dX11_firm_7 : decode cX11_firm 7 = .ok (.iload_n 2, 1) := by decide +kernel
theorem dX11_firm_8 : decode cX11_firm 8 = .ok (.iconst (-1), 1) := by decide +kernel
theorem dX11_firm_9 : decode cX11_firm 9 = .ok (.if_icmp .eq 19, 3) := by decide +kernel
theorem dX11_firm_12 : decode cX11_firm 12 = .ok (.aload_n 0, 1) := by decide +kernel
theorem dX11_firm_13 : decode cX11_firm 13 = .ok (.getfield 12, 3) := by decide +kernel
theorem dX11_firm_16 : decode cX11_firm 16 = .ok (.getfield 58, 3) := by decide +kernel
theorem dX11_firm_19 : decode cX11_firm 19 = .ok (.iload_n 2, 1) := by decide +kernel
theorem dX11_firm_20 : decode cX11_firm 20 = .ok (.invokevirtual 313, 3) := by decide +kernel
