theorem dX4_openSpots_32 : decode cX4_openSpots 32 = .ok (.iload_n 1, 1) := by decide +kernel
theorem dX4_openSpots_33 : decode cX4_openSpots 33 = .ok (.ireturn, 1) := by decide +kernel
theorem dX4_far_0 : decode cX4_far 0 = .ok (.aload_n 0, 1) := by decide +kernel
theorem dX4_far_1 : decode cX4_far 1 = .ok (.invokevirtual 45, 3) := by decide +kernel
theorem dX4_far_4 : decode cX4_far 4 = .ok (.istore_n 3, 1) := by decide +kernel
theorem dX4_far_5 : decode cX4_far 5 = .ok (.iconst 1, 1) := by decide +kernel
theorem dX4_far_6 : decode cX4_far 6 = .ok (.iload_n 1, 1) := by decide +kernel
theorem dX4_far_7 : decode cX4_far 7 = .ok (.ishl, 1) := by decide +kernel
theorem dX4_far_8 : decode cX4_far 8 = .ok (.istore 4, 2) := by decide +kernel
theorem dX4_far_10 : decode cX4_far 10 = .ok (.iload_n 1, 1) := by decide +kernel
theorem dX4_far_11 : decode cX4_far 11 = .ok (.iload_n 2, 1) := by decide +kernel
theorem dX4_far_12 : decode cX4_far 12 = .ok (.if_icmp .ne 5, 3) := by decide +kernel
theorem dX4_far_15 : decode cX4_far 15 = .ok (.iconst 0, 1) := by decide +kernel
theorem dX4_far_16 : decode cX4_far 16 = .ok (.ireturn, 1) := by decide +kernel
theorem dX4_far_17 : decode cX4_far 17 = .ok (.iload 4, 2) := by decide +kernel
theorem dX4_far_19 : decode cX4_far 19 = .ok (.iload_n 3, 1) := by decide +kernel
theorem dX4_far_20 : decode cX4_far 20 = .ok (.iand, 1) := by decide +kernel
theorem dX4_far_21 : decode cX4_far 21 = .ok (.ifCond .ne 6, 3) := by decide +kernel
theorem dX4_far_24 : decode cX4_far 24 = .ok (.bipush 99, 2) := by decide +kernel
theorem dX4_far_26 : decode cX4_far 26 = .ok (.ireturn, 1) := by decide +kernel
theorem dX4_far_27 : decode cX4_far 27 = .ok (.iconst 1, 1) := by decide +kernel
theorem dX4_far_28 : decode cX4_far 28 = .ok (.istore 5, 2) := by decide +kernel
theorem dX4_far_30 : decode cX4_far 30 = .ok (.iload 5, 2) := by decide +kernel
theorem dX4_far_32 : decode cX4_far 32 = .ok (.bipush 30, 2) := by decide +kernel
theorem dX4_far_34 : decode cX4_far 34 = .ok (.if_icmp .ge 30, 3) := by decide +kernel
theorem dX4_far_37 : decode cX4_far 37 = .ok (.iload 4, 2) := by decide +kernel
theorem dX4_far_39 : decode cX4_far 39 = .ok (.invokestatic 49, 3) := by decide +kernel
theorem dX4_far_42 : decode cX4_far 42 = .ok (.iload_n 3, 1) := by decide +kernel
theorem dX4_far_43 : decode cX4_far 43 = .ok (.iand, 1) := by decide +kernel
theorem dX4_far_44 : decode cX4_far 44 = .ok (.istore 4, 2) := by decide +kernel
theorem dX4_far_46 : decode cX4_far 46 = .ok (.iload 4, 2) := by decide +kernel
theorem dX4_far_48 : decode cX4_far 48 = .ok (.iload_n 2, 1) := by decide +kernel
theorem dX4_far_49 : decode cX4_far 49 = .ok (.ishr, 1) := by decide +kernel
theorem dX4_far_50 : decode cX4_far 50 = .ok (.iconst 1, 1) := by decide +kernel
theorem dX4_far_51 : decode cX4_far 51 = .ok (.iand, 1) := by decide +kernel
theorem dX4_far_52 : decode cX4_far 52 = .ok (.ifCond .eq 6, 3) := by decide +kernel
theorem dX4_far_55 : decode cX4_far 55 = .ok (.iload 5, 2) := by decide +kernel
theorem dX4_far_57 : decode cX4_far 57 = .ok (.ireturn, 1) := by decide +kernel
theorem dX4_far_58 : decode cX4_far 58 = .ok (.iinc 5 1, 3) := by decide +kernel
theorem dX4_far_61 : decode cX4_far 61 = .ok (.goto (-31), 3) := by decide +kernel
theorem dX4_far_64 : decode cX4_far 64 = .ok (.bipush 99, 2) := by decide +kernel
theorem dX4_far_66 : decode cX4_far 66 = .ok (.ireturn, 1) := by decide +kernel
theorem dX4_append_0 : decode cX4_append 0 = .ok (.iload_n 3, 1) := by decide +kernel
theorem dX4_append_1 : decode cX4_append 1 = .ok (.iconst 1, 1) := by decide +kernel
theorem dX4_append_2 : decode cX4_append 2 = .ok (.isub, 1) := by decide +kernel
theorem dX4_append_3 : decode cX4_append 3 = .ok (.istore 4, 2) := by decide +kernel
theorem dX4_append_5 : decode cX4_append 5 = .ok (.iload 4, 2) := by decide +kernel
theorem dX4_append_7 : decode cX4_append 7 = .ok (.ifCond .lt 46, 3) := by decide +kernel
theorem dX4_append_10 : decode cX4_append 10 = .ok (.aload_n 0, 1) := by decide +kernel
theorem dX4_append_11 : decode cX4_append 11 = .ok (.getfield 39, 3) := by decide +kernel
theorem dX4_append_14 : decode cX4_append 14 = .ok (.bipush 120, 2) := by decide +kernel
theorem dX4_append_16 : decode cX4_append 16 = .ok (.if_icmp .ge 37, 3) := by decide +kernel
theorem dX4_append_19 : decode cX4_append 19 = .ok (.aload_n 0, 1) := by decide +kernel
theorem dX4_append_20 : decode cX4_append 20 = .ok (.getfield 15, 3) := by decide +kernel
theorem dX4_append_23 : decode cX4_append 23 = .ok (.aload_n 0, 1) := by decide +kernel
theorem dX4_append_24 : decode cX4_append 24 = .ok (.getfield 39, 3) := by decide +kernel
theorem dX4_append_27 : decode cX4_append 27 = .ok (.lload_n 1, 1) := by decide +kernel
theorem dX4_append_28 : decode cX4_append 28 = .ok (.bipush 8, 2) := by decide +kernel
theorem dX4_append_30 : decode cX4_append 30 = .ok (.iload 4, 2) := by decide +kernel
theorem dX4_append_32 : decode cX4_append 32 = .ok (.imul, 1) := by decide +kernel
theorem dX4_append_33 : decode cX4_append 33 = .ok (.lshr, 1) := by decide +kernel
theorem dX4_append_34 : decode cX4_append 34 = .ok (.l2i, 1) := by decide +kernel
theorem dX4_append_35 : decode cX4_append 35 = .ok (.i2b, 1) := by decide +kernel
theorem dX4_append_36 : decode cX4_append 36 = .ok (.bastore, 1) := by decide +kernel
theorem dX4_append_37 : decode cX4_append 37 = .ok (.aload_n 0, 1) := by decide +kernel
theorem dX4_append_38 : decode cX4_append 38 = .ok (.dup, 1) := by decide +kernel
theorem dX4_append_39 : decode cX4_append 39 = .ok (.getfield 39, 3) := by decide +kernel
theorem dX4_append_42 : decode cX4_append 42 = .ok (.iconst 1, 1) := by decide +kernel
theorem dX4_append_43 : decode cX4_append 43 = .ok (.iadd, 1) := by decide +kernel
theorem dX4_append_44 : decode cX4_append 44 = .ok (.putfield 39, 3) := by decide +kernel
theorem dX4_append_47 : decode cX4_append 47 = .ok (.iinc 4 (-1), 3) := by decide +kernel
theorem dX4_append_50 : decode cX4_append 50 = .ok (.goto (-45), 3) := by decide +kernel
theorem dX4_append_53 : decode cX4_append 53 = .ok (.return_, 1) := by decide +kernel
theorem dX4_enact_0 : decode cX4_enact 0 = .ok (.aload_n 0, 1) := by decide +kernel
theorem dX4_enact_1 : decode cX4_enact 1 = .ok (.getfield 42, 3) := by decide +kernel
theorem dX4_enact_4 : decode cX4_enact 4 = .ok (.bipush 15, 2) := by decide +kernel
theorem dX4_enact_6 : decode cX4_enact 6 = .ok (.if_icmp .ge 23, 3) := by decide +kernel
theorem dX4_enact_9 : decode cX4_enact 9 = .ok (.aload_n 0, 1) := by decide +kernel
theorem dX4_enact_10 : decode cX4_enact 10 = .ok (.getfield 21, 3) := by decide +kernel
theorem dX4_enact_13 : decode cX4_enact 13 = .ok (.aload_n 0, 1) := by decide +kernel
theorem dX4_enact_14 : decode cX4_enact 14 = .ok (.getfield 42, 3) := by decide +kernel
theorem dX4_enact_17 : decode cX4_enact 17 = .ok (.aload_n 1, 1) := by decide +kernel
theorem dX4_enact_18 : decode cX4_enact 18 = .ok (.aastore, 1) := by decide +kernel
theorem dX4_enact_19 : decode cX4_enact 19 = .ok (.aload_n 0, 1) := by decide +kernel
theorem dX4_enact_20 : decode cX4_enact 20 = .ok (.dup, 1) := by decide +kernel
theorem dX4_enact_21 : decode cX4_enact 21 = .ok (.getfield 42, 3) := by decide +kernel
theorem dX4_enact_24 : decode cX4_enact 24 = .ok (.iconst 1, 1) := by decide +kernel
theorem dX4_enact_25 : decode cX4_enact 25 = .ok (.iadd, 1) := by decide +kernel
theorem dX4_enact_26 : decode cX4_enact 26 = .ok (.putfield 42, 3) := by decide +kernel
theorem dX4_enact_29 : decode cX4_enact 29 = .ok (.return_, 1) := by decide +kernel
theorem dX4_inForce_0 : decode cX4_inForce 0 = .ok (.aconst_null, 1) := by decide +kernel
theorem dX4_inForce_1 : decode cX4_inForce 1 = .ok (.astore_n 3, 1) := by decide +kernel
theorem dX4_inForce_2 : decode cX4_inForce 2 = .ok (.iconst 0, 1) := by decide +kernel
theorem dX4_inForce_3 : decode cX4_inForce 3 = .ok (.istore 4, 2) := by decide +kernel
theorem dX4_inForce_5 : decode cX4_inForce 5 = .ok (.iload 4, 2) := by decide +kernel
theorem dX4_inForce_7 : decode cX4_inForce 7 = .ok (.aload_n 0, 1) := by decide +kernel
theorem dX4_inForce_8 : decode cX4_inForce 8 = .ok (.getfield 42, 3) := by decide +kernel
theorem dX4_inForce_11 : decode cX4_inForce 11 = .ok (.if_icmp .ge 60, 3) := by decide +kernel
theorem dX4_inForce_14 : decode cX4_inForce 14 = .ok (.aload_n 0, 1) := by decide +kernel
theorem dX4_inForce_15 : decode cX4_inForce 15 = .ok (.getfield 21, 3) := by decide +kernel
theorem dX4_inForce_18 : decode cX4_inForce 18 = .ok (.iload 4, 2) := by decide +kernel
theorem dX4_inForce_20 : decode cX4_inForce 20 = .ok (.aaload, 1) := by decide +kernel
theorem dX4_inForce_21 : decode cX4_inForce 21 = .ok (.astore 5, 2) := by decide +kernel
theorem dX4_inForce_23 : decode cX4_inForce 23 = .ok (.aload 5, 2) := by decide +kernel
theorem dX4_inForce_25 : decode cX4_inForce 25 = .ok (.ifnull 40, 3) := by decide +kernel
theorem dX4_inForce_28 : decode cX4_inForce 28 = .ok (.aload 5, 2) := by decide +kernel
theorem dX4_inForce_30 : decode cX4_inForce 30 = .ok (.getfield 53, 3) := by decide +kernel
theorem dX4_inForce_33 : decode cX4_inForce 33 = .ok (.iload_n 1, 1) := by decide +kernel
theorem dX4_inForce_34 : decode cX4_inForce 34 = .ok (.if_icmp .ne 31, 3) := by decide +kernel
theorem dX4_inForce_37 : decode cX4_inForce 37 = .ok (.aload 5, 2) := by decide +kernel
theorem dX4_inForce_39 : decode cX4_inForce 39 = .ok (.getfield 56, 3) := by decide +kernel
theorem dX4_inForce_42 : decode cX4_inForce 42 = .ok (.iload_n 2, 1) := by decide +kernel
theorem dX4_inForce_43 : decode cX4_inForce 43 = .ok (.if_icmp .gt 22, 3) := by decide +kernel
theorem dX4_inForce_46 : decode cX4_inForce 46 = .ok (.aload_n 3, 1) := by decide +kernel
theorem dX4_inForce_47 : decode cX4_inForce 47 = .ok (.ifnull 15, 3) := by decide +kernel
theorem dX4_inForce_50 : decode cX4_inForce 50 = .ok (.aload 5, 2) := by decide +kernel
theorem dX4_inForce_52 : decode cX4_inForce 52 = .ok (.getfield 56, 3) := by decide +kernel
theorem dX4_inForce_55 : decode cX4_inForce 55 = .ok (.aload_n 3, 1) := by decide +kernel
theorem dX4_inForce_56 : decode cX4_inForce 56 = .ok (.getfield 56, 3) := by decide +kernel
theorem dX4_inForce_59 : decode cX4_inForce 59 = .ok (.if_icmp .lt 6, 3) := by decide +kernel
theorem dX4_inForce_62 : decode cX4_inForce 62 = .ok (.aload 5, 2) := by decide +kernel
theorem dX4_inForce_64 : decode cX4_inForce 64 = .ok (.astore_n 3, 1) := by decide +kernel
theorem dX4_inForce_65 : decode cX4_inForce 65 = .ok (.iinc 4 1, 3) := by decide +kernel
theorem dX4_inForce_68 : decode cX4_inForce 68 = .ok (.goto (-63), 3) := by decide +kernel
theorem dX4_inForce_71 : decode cX4_inForce 71 = .ok (.aload_n 3, 1) := by decide +kernel
theorem dX4_inForce_72 : decode cX4_inForce 72 = .ok (.areturn, 1) := by decide +kernel
theorem dX5_init_0 : decode cX5_init 0 = .ok (.aload_n 0, 1) := by decide +kernel
theorem dX5_init_1 : decode cX5_init 1 = .ok (.invokespecial 3, 3) := by decide +kernel
theorem dX5_init_4 : decode cX5_init 4 = .ok (.aload_n 0, 1) := by decide +kernel
theorem dX5_init_5 : decode cX5_init 5 = .ok (.iconst 3, 1) := by decide +kernel
theorem dX5_init_6 : decode cX5_init 6 = .ok (.anewarray 9, 3) := by decide +kernel
theorem dX5_init_9 : decode cX5_init 9 = .ok (.putfield 11, 3) := by decide +kernel
theorem dX5_init_12 : decode cX5_init 12 = .ok (.aload_n 0, 1) := by decide +kernel
theorem dX5_init_13 : decode cX5_init 13 = .ok (.bipush 32, 2) := by decide +kernel
theorem dX5_init_15 : decode cX5_init 15 = .ok (.newarray .int, 2) := by decide +kernel
theorem dX5_init_17 : decode cX5_init 17 = .ok (.putfield 17, 3) := by decide +kernel
theorem dX5_init_20 : decode cX5_init 20 = .ok (.aload_n 0, 1) := by decide +kernel
theorem dX5_init_21 : decode cX5_init 21 = .ok (.bipush 8, 2) := by decide +kernel
theorem dX5_init_23 : decode cX5_init 23 = .ok (.newarray .int, 2) := by decide +kernel
theorem dX5_init_25 : decode cX5_init 25 = .ok (.putfield 21, 3) := by decide +kernel
theorem dX5_init_28 : decode cX5_init 28 = .ok (.aload_n 0, 1) := by decide +kernel
theorem dX5_init_29 : decode cX5_init 29 = .ok (.bipush 8, 2) := by decide +kernel
theorem dX5_init_31 : decode cX5_init 31 = .ok (.newarray .boolean, 2) := by decide +kernel
theorem dX5_init_33 : decode cX5_init 33 = .ok (.putfield 24, 3) := by decide +kernel
theorem dX5_init_36 : decode cX5_init 36 = .ok (.aload_n 0, 1) := by decide +kernel
theorem dX5_init_37 : decode cX5_init 37 = .ok (.aload_n 1, 1) := by decide +kernel
theorem dX5_init_38 : decode cX5_init 38 = .ok (.putfield 28, 3) := by decide +kernel
theorem dX5_init_41 : decode cX5_init 41 = .ok (.aload_n 0, 1) := by decide +kernel
theorem dX5_init_42 : decode cX5_init 42 = .ok (.aload_n 2, 1) := by decide +kernel
theorem dX5_init_43 : decode cX5_init 43 = .ok (.putfield 32, 3) := by decide +kernel
theorem dX5_init_46 : decode cX5_init 46 = .ok (.return_, 1) := by decide +kernel
theorem dX5_openOn_0 : decode cX5_openOn 0 = .ok (.iconst 0, 1) := by decide +kernel
theorem dX5_openOn_1 : decode cX5_openOn 1 = .ok (.istore_n 2, 1) := by decide +kernel
theorem dX5_openOn_2 : decode cX5_openOn 2 = .ok (.iload_n 2, 1) := by decide +kernel
theorem dX5_openOn_3 : decode cX5_openOn 3 = .ok (.iconst 3, 1) := by decide +kernel
theorem dX5_openOn_4 : decode cX5_openOn 4 = .ok (.if_icmp .ge 24, 3) := by decide +kernel
theorem dX5_openOn_7 : decode cX5_openOn 7 = .ok (.aload_n 0, 1) := by decide +kernel
theorem dX5_openOn_8 : decode cX5_openOn 8 = .ok (.getfield 11, 3) := by decide +kernel
theorem dX5_openOn_11 : decode cX5_openOn 11 = .ok (.iload_n 2, 1) := by decide +kernel
theorem dX5_openOn_12 : decode cX5_openOn 12 = .ok (.aload_n 0, 1) := by decide +kernel
theorem dX5_openOn_13 : decode cX5_openOn 13 = .ok (.getfield 28, 3) := by decide +kernel
theorem dX5_openOn_16 : decode cX5_openOn 16 = .ok (.iload_n 2, 1) := by decide +kernel
theorem dX5_openOn_17 : decode cX5_openOn 17 = .ok (.iload_n 1, 1) := by decide +kernel
theorem dX5_openOn_18 : decode cX5_openOn 18 = .ok (.invokevirtual 36, 3) := by decide +kernel
theorem dX5_openOn_21 : decode cX5_openOn 21 = .ok (.aastore, 1) := by decide +kernel
theorem dX5_openOn_22 : decode cX5_openOn 22 = .ok (.iinc 2 1, 3) := by decide +kernel
theorem dX5_openOn_25 : decode cX5_openOn 25 = .ok (.goto (-23), 3) := by decide +kernel
theorem dX5_openOn_28 : decode cX5_openOn 28 = .ok (.aload_n 0, 1) := by decide +kernel
theorem dX5_openOn_29 : decode cX5_openOn 29 = .ok (.aload_n 0, 1) := by decide +kernel
theorem dX5_openOn_30 : decode cX5_openOn 30 = .ok (.getfield 32, 3) := by decide +kernel
theorem dX5_openOn_33 : decode cX5_openOn 33 = .ok (.invokevirtual 42, 3) := by decide +kernel
theorem dX5_openOn_36 : decode cX5_openOn 36 = .ok (.putfield 48, 3) := by decide +kernel
theorem dX5_openOn_39 : decode cX5_openOn 39 = .ok (.return_, 1) := by decide +kernel
theorem dX5_putBeside_0 : decode cX5_putBeside 0 = .ok (.aload_n 1, 1) := by decide +kernel
theorem dX5_putBeside_1 : decode cX5_putBeside 1 = .ok (.getfield 51, 3) := by decide +kernel
theorem dX5_putBeside_4 : decode cX5_putBeside 4 = .ok (.invokestatic 55, 3) := by decide +kernel
theorem dX5_putBeside_7 : decode cX5_putBeside 7 = .ok (.ifCond .eq 13, 3) := by decide +kernel
theorem dX5_putBeside_10 : decode cX5_putBeside 10 = .ok (.aload_n 0, 1) := by decide +kernel
theorem dX5_putBeside_11 : decode cX5_putBeside 11 = .ok (.getfield 11, 3) := by decide +kernel
theorem dX5_putBeside_14 : decode cX5_putBeside 14 = .ok (.aload_n 1, 1) := by decide +kernel
theorem dX5_putBeside_15 : decode cX5_putBeside 15 = .ok (.getfield 51, 3) := by decide +kernel
theorem dX5_putBeside_18 : decode cX5_putBeside 18 = .ok (.aload_n 1, 1) := by decide +kernel
theorem dX5_putBeside_19 : decode cX5_putBeside 19 = .ok (.aastore, 1) := by decide +kernel
theorem dX5_putBeside_20 : decode cX5_putBeside 20 = .ok (.return_, 1) := by decide +kernel
theorem dX5_tongueLets_0 : decode cX5_tongueLets 0 = .ok (.aload_n 0, 1) := by decide +kernel
theorem dX5_tongueLets_1 : decode cX5_tongueLets 1 = .ok (.iload_n 1, 1) := by decide +kernel
theorem dX5_tongueLets_2 : decode cX5_tongueLets 2 = .ok (.iload_n 2, 1) := by decide +kernel
theorem dX5_tongueLets_3 : decode cX5_tongueLets 3 = .ok (.bipush 24, 2) := by decide +kernel
theorem dX5_tongueLets_5 : decode cX5_tongueLets 5 = .ok (.idiv, 1) := by decide +kernel
theorem dX5_tongueLets_6 : decode cX5_tongueLets 6 = .ok (.invokevirtual 59, 3) := by decide +kernel
theorem dX5_tongueLets_9 : decode cX5_tongueLets 9 = .ok (.iload_n 2, 1) := by decide +kernel
theorem dX5_tongueLets_10 : decode cX5_tongueLets 10 = .ok (.bipush 24, 2) := by decide +kernel
theorem dX5_tongueLets_12 : decode cX5_tongueLets 12 = .ok (.irem, 1) := by decide +kernel
theorem dX5_tongueLets_13 : decode cX5_tongueLets 13 = .ok (.ishr, 1) := by decide +kernel
theorem dX5_tongueLets_14 : decode cX5_tongueLets 14 = .ok (.iconst 1, 1) := by decide +kernel
theorem dX5_tongueLets_15 : decode cX5_tongueLets 15 = .ok (.iand, 1) := by decide +kernel
theorem dX5_tongueLets_16 : decode cX5_tongueLets 16 = .ok (.ifCond .eq 7, 3) := by decide +kernel
theorem dX5_tongueLets_19 : decode cX5_tongueLets 19 = .ok (.iconst 1, 1) := by decide +kernel
theorem dX5_tongueLets_20 : decode cX5_tongueLets 20 = .ok (.goto 4, 3) := by decide +kernel
theorem dX5_tongueLets_23 : decode cX5_tongueLets 23 = .ok (.iconst 0, 1) := by decide +kernel
theorem dX5_tongueLets_24 : decode cX5_tongueLets 24 = .ok (.ireturn, 1) := by decide +kernel
theorem dX5_cityLets_0 : decode cX5_cityLets 0 = .ok (.aload_n 0, 1) := by decide +kernel
theorem dX5_cityLets_1 : decode cX5_cityLets 1 = .ok (.iload_n 1, 1) := by decide +kernel
theorem dX5_cityLets_2 : decode cX5_cityLets 2 = .ok (.bipush 24, 2) := by decide +kernel
theorem dX5_cityLets_4 : decode cX5_cityLets 4 = .ok (.idiv, 1) := by decide +kernel
theorem dX5_cityLets_5 : decode cX5_cityLets 5 = .ok (.invokevirtual 63, 3) := by decide +kernel
theorem dX5_cityLets_8 : decode cX5_cityLets 8 = .ok (.iload_n 1, 1) := by decide +kernel
theorem dX5_cityLets_9 : decode cX5_cityLets 9 = .ok (.bipush 24, 2) := by decide +kernel
theorem dX5_cityLets_11 : decode cX5_cityLets 11 = .ok (.irem, 1) := by decide +kernel
theorem dX5_cityLets_12 : decode cX5_cityLets 12 = .ok (.ishr, 1) := by decide +kernel
theorem dX5_cityLets_13 : decode cX5_cityLets 13 = .ok (.iconst 1, 1) := by decide +kernel
theorem dX5_cityLets_14 : decode cX5_cityLets 14 = .ok (.iand, 1) := by decide +kernel
theorem dX5_cityLets_15 : decode cX5_cityLets 15 = .ok (.ifCond .eq 7, 3) := by decide +kernel
theorem dX5_cityLets_18 : decode cX5_cityLets 18 = .ok (.iconst 1, 1) := by decide +kernel
theorem dX5_cityLets_19 : decode cX5_cityLets 19 = .ok (.goto 4, 3) := by decide +kernel
theorem dX5_cityLets_22 : decode cX5_cityLets 22 = .ok (.iconst 0, 1) := by decide +kernel
theorem dX5_cityLets_23 : decode cX5_cityLets 23 = .ok (.ireturn, 1) := by decide +kernel
theorem dX5_tongueReason_0 : decode cX5_tongueReason 0 = .ok (.aload_n 0, 1) := by decide +kernel
theorem dX5_tongueReason_1 : decode cX5_tongueReason 1 = .ok (.getfield 11, 3) := by decide +kernel
theorem dX5_tongueReason_4 : decode cX5_tongueReason 4 = .ok (.iload_n 1, 1) := by decide +kernel
theorem dX5_tongueReason_5 : decode cX5_tongueReason 5 = .ok (.aaload, 1) := by decide +kernel
theorem dX5_tongueReason_6 : decode cX5_tongueReason 6 = .ok (.astore_n 3, 1) := by decide +kernel
theorem dX5_tongueReason_7 : decode cX5_tongueReason 7 = .ok (.aload_n 3, 1) := by decide +kernel
theorem dX5_tongueReason_8 : decode cX5_tongueReason 8 = .ok (.ifnonnull 6, 3) := by decide +kernel
theorem dX5_tongueReason_11 : decode cX5_tongueReason 11 = .ok (.bipush (-5), 2) := by decide +kernel
theorem dX5_tongueReason_13 : decode cX5_tongueReason 13 = .ok (.ireturn, 1) := by decide +kernel
theorem dX5_tongueReason_14 : decode cX5_tongueReason 14 = .ok (.aload_n 0, 1) := by decide +kernel
theorem dX5_tongueReason_15 : decode cX5_tongueReason 15 = .ok (.aload_n 3, 1) := by decide +kernel
theorem dX5_tongueReason_16 : decode cX5_tongueReason 16 = .ok (.getfield 67, 3) := by decide +kernel
theorem dX5_tongueReason_19 : decode cX5_tongueReason 19 = .ok (.iload_n 2, 1) := by decide +kernel
theorem dX5_tongueReason_20 : decode cX5_tongueReason 20 = .ok (.bipush 24, 2) := by decide +kernel
theorem dX5_tongueReason_22 : decode cX5_tongueReason 22 = .ok (.idiv, 1) := by decide +kernel
theorem dX5_tongueReason_23 : decode cX5_tongueReason 23 = .ok (.invokevirtual 70, 3) := by decide +kernel
theorem dX5_tongueReason_26 : decode cX5_tongueReason 26 = .ok (.aload_n 0, 1) := by decide +kernel
theorem dX5_tongueReason_27 : decode cX5_tongueReason 27 = .ok (.getfield 74, 3) := by decide +kernel
theorem dX5_tongueReason_30 : decode cX5_tongueReason 30 = .ok (.iconst 1, 1) := by decide +kernel
theorem dX5_tongueReason_31 : decode cX5_tongueReason 31 = .ok (.isub, 1) := by decide +kernel
theorem dX5_tongueReason_32 : decode cX5_tongueReason 32 = .ok (.istore 4, 2) := by decide +kernel
theorem dX5_tongueReason_34 : decode cX5_tongueReason 34 = .ok (.iload 4, 2) := by decide +kernel
theorem dX5_tongueReason_36 : decode cX5_tongueReason 36 = .ok (.ifCond .lt 37, 3) := by decide +kernel
theorem dX5_tongueReason_39 : decode cX5_tongueReason 39 = .ok (.aload_n 0, 1) := by decide +kernel
theorem dX5_tongueReason_40 : decode cX5_tongueReason 40 = .ok (.getfield 21, 3) := by decide +kernel
theorem dX5_tongueReason_43 : decode cX5_tongueReason 43 = .ok (.iload 4, 2) := by decide +kernel
theorem dX5_tongueReason_45 : decode cX5_tongueReason 45 = .ok (.iaload, 1) := by decide +kernel
theorem dX5_tongueReason_46 : decode cX5_tongueReason 46 = .ok (.iload_n 2, 1) := by decide +kernel
theorem dX5_tongueReason_47 : decode cX5_tongueReason 47 = .ok (.bipush 24, 2) := by decide +kernel
theorem dX5_tongueReason_49 : decode cX5_tongueReason 49 = .ok (.irem, 1) := by decide +kernel
theorem dX5_tongueReason_50 : decode cX5_tongueReason 50 = .ok (.ishr, 1) := by decide +kernel
theorem dX5_tongueReason_51 : decode cX5_tongueReason 51 = .ok (.iconst 1, 1) := by decide +kernel
theorem dX5_tongueReason_52 : decode cX5_tongueReason 52 = .ok (.iand, 1) := by decide +kernel
theorem dX5_tongueReason_53 : decode cX5_tongueReason 53 = .ok (.ifCond .eq 14, 3) := by decide +kernel
theorem dX5_tongueReason_56 : decode cX5_tongueReason 56 = .ok (.aload_n 3, 1) := by decide +kernel
theorem dX5_tongueReason_57 : decode cX5_tongueReason 57 = .ok (.getfield 77, 3) := by decide +kernel
theorem dX5_tongueReason_60 : decode cX5_tongueReason 60 = .ok (.bipush 100, 2) := by decide +kernel
theorem dX5_tongueReason_62 : decode cX5_tongueReason 62 = .ok (.imul, 1) := by decide +kernel
theorem dX5_tongueReason_63 : decode cX5_tongueReason 63 = .ok (.iload 4, 2) := by decide +kernel
theorem dX5_tongueReason_65 : decode cX5_tongueReason 65 = .ok (.iadd, 1) := by decide +kernel
theorem dX5_tongueReason_66 : decode cX5_tongueReason 66 = .ok (.ireturn, 1) := by decide +kernel
theorem dX5_tongueReason_67 : decode cX5_tongueReason 67 = .ok (.iinc 4 (-1), 3) := by decide +kernel
theorem dX5_tongueReason_70 : decode cX5_tongueReason 70 = .ok (.goto (-36), 3) := by decide +kernel
theorem dX5_tongueReason_73 : decode cX5_tongueReason 73 = .ok (.bipush (-5), 2) := by decide +kernel
theorem dX5_tongueReason_75 : decode cX5_tongueReason 75 = .ok (.ireturn, 1) := by decide +kernel
theorem dX5_rulingAbout_0 : decode cX5_rulingAbout 0 = .ok (.aload_n 0, 1) := by decide +kernel
theorem dX5_rulingAbout_1 : decode cX5_rulingAbout 1 = .ok (.getfield 32, 3) := by decide +kernel
theorem dX5_rulingAbout_4 : decode cX5_rulingAbout 4 = .ok (.iload_n 1, 1) := by decide +kernel
theorem dX5_rulingAbout_5 : decode cX5_rulingAbout 5 = .ok (.aload_n 0, 1) := by decide +kernel
theorem dX5_rulingAbout_6 : decode cX5_rulingAbout 6 = .ok (.getfield 48, 3) := by decide +kernel
theorem dX5_rulingAbout_9 : decode cX5_rulingAbout 9 = .ok (.invokevirtual 80, 3) := by decide +kernel
theorem dX5_rulingAbout_12 : decode cX5_rulingAbout 12 = .ok (.ireturn, 1) := by decide +kernel
theorem dX5_unlikeCount_0 : decode cX5_unlikeCount 0 = .ok (.iconst 0, 1) := by decide +kernel
theorem dX5_unlikeCount_1 : decode cX5_unlikeCount 1 = .ok (.istore_n 3, 1) := by decide +kernel
theorem dX5_unlikeCount_2 : decode cX5_unlikeCount 2 = .ok (.iconst 0, 1) := by decide +kernel
theorem dX5_unlikeCount_3 : decode cX5_unlikeCount 3 = .ok (.istore 4, 2) := by decide +kernel
theorem dX5_unlikeCount_5 : decode cX5_unlikeCount 5 = .ok (.iload 4, 2) := by decide +kernel
theorem dX5_unlikeCount_7 : decode cX5_unlikeCount 7 = .ok (.sipush 450, 3) := by decide +kernel
theorem dX5_unlikeCount_10 : decode cX5_unlikeCount 10 = .ok (.if_icmp .ge 30, 3) := by decide +kernel
theorem dX5_unlikeCount_13 : decode cX5_unlikeCount 13 = .ok (.iload_n 3, 1) := by decide +kernel
theorem dX5_unlikeCount_14 : decode cX5_unlikeCount 14 = .ok (.aload_n 0, 1) := by decide +kernel
theorem dX5_unlikeCount_15 : decode cX5_unlikeCount 15 = .ok (.iload_n 1, 1) := by decide +kernel
theorem dX5_unlikeCount_16 : decode cX5_unlikeCount 16 = .ok (.iload 4, 2) := by decide +kernel
theorem dX5_unlikeCount_18 : decode cX5_unlikeCount 18 = .ok (.invokevirtual 59, 3) := by decide +kernel
theorem dX5_unlikeCount_21 : decode cX5_unlikeCount 21 = .ok (.aload_n 0, 1) := by decide +kernel
theorem dX5_unlikeCount_22 : decode cX5_unlikeCount 22 = .ok (.iload_n 2, 1) := by decide +kernel
theorem dX5_unlikeCount_23 : decode cX5_unlikeCount 23 = .ok (.iload 4, 2) := by decide +kernel
theorem dX5_unlikeCount_25 : decode cX5_unlikeCount 25 = .ok (.invokevirtual 59, 3) := by decide +kernel
theorem dX5_unlikeCount_28 : decode cX5_unlikeCount 28 = .ok (.ixor, 1) := by decide +kernel
theorem dX5_unlikeCount_29 : decode cX5_unlikeCount 29 = .ok (.invokestatic 84, 3) := by decide +kernel
theorem dX5_unlikeCount_32 : decode cX5_unlikeCount 32 = .ok (.iadd, 1) := by decide +kernel
theorem dX5_unlikeCount_33 : decode cX5_unlikeCount 33 = .ok (.istore_n 3, 1) := by decide +kernel
theorem dX5_unlikeCount_34 : decode cX5_unlikeCount 34 = .ok (.iinc 4 1, 3) := by decide +kernel
theorem dX5_unlikeCount_37 : decode cX5_unlikeCount 37 = .ok (.goto (-32), 3) := by decide +kernel
theorem dX5_unlikeCount_40 : decode cX5_unlikeCount 40 = .ok (.iload_n 3, 1) := by decide +kernel
theorem dX5_unlikeCount_41 : decode cX5_unlikeCount 41 = .ok (.ireturn, 1) := by decide +kernel
theorem dX5_leastUnlike_0 : decode cX5_leastUnlike 0 = .ok (.iconst 0, 1) := by decide +kernel
theorem dX5_leastUnlike_1 : decode cX5_leastUnlike 1 = .ok (.istore_n 3, 1) := by decide +kernel
theorem dX5_leastUnlike_2 : decode cX5_leastUnlike 2 = .ok (.iload_n 3, 1) := by decide +kernel
theorem dX5_leastUnlike_3 : decode cX5_leastUnlike 3 = .ok (.sipush 450, 3) := by decide +kernel
theorem dX5_leastUnlike_6 : decode cX5_leastUnlike 6 = .ok (.if_icmp .ge 41, 3) := by decide +kernel
theorem dX5_leastUnlike_9 : decode cX5_leastUnlike 9 = .ok (.aload_n 0, 1) := by decide +kernel
theorem dX5_leastUnlike_10 : decode cX5_leastUnlike 10 = .ok (.iload_n 1, 1) := by decide +kernel
theorem dX5_leastUnlike_11 : decode cX5_leastUnlike 11 = .ok (.iload_n 3, 1) := by decide +kernel
theorem dX5_leastUnlike_12 : decode cX5_leastUnlike 12 = .ok (.invokevirtual 59, 3) := by decide +kernel
theorem dX5_leastUnlike_15 : decode cX5_leastUnlike 15 = .ok (.aload_n 0, 1) := by decide +kernel
theorem dX5_leastUnlike_16 : decode cX5_leastUnlike 16 = .ok (.iload_n 2, 1) := by decide +kernel
theorem dX5_leastUnlike_17 : decode cX5_leastUnlike 17 = .ok (.iload_n 3, 1) := by decide +kernel
theorem dX5_leastUnlike_18 : decode cX5_leastUnlike 18 = .ok (.invokevirtual 59, 3) := by decide +kernel
theorem dX5_leastUnlike_21 : decode cX5_leastUnlike 21 = .ok (.ixor, 1) := by decide +kernel
theorem dX5_leastUnlike_22 : decode cX5_leastUnlike 22 = .ok (.istore 4, 2) := by decide +kernel
theorem dX5_leastUnlike_24 : decode cX5_leastUnlike 24 = .ok (.iload 4, 2) := by decide +kernel
theorem dX5_leastUnlike_26 : decode cX5_leastUnlike 26 = .ok (.ifCond .eq 15, 3) := by decide +kernel
theorem dX5_leastUnlike_29 : decode cX5_leastUnlike 29 = .ok (.iload_n 3, 1) := by decide +kernel
theorem dX5_leastUnlike_30 : decode cX5_leastUnlike 30 = .ok (.bipush 24, 2) := by decide +kernel
theorem dX5_leastUnlike_32 : decode cX5_leastUnlike 32 = .ok (.imul, 1) := by decide +kernel
theorem dX5_leastUnlike_33 : decode cX5_leastUnlike 33 = .ok (.iload 4, 2) := by decide +kernel
theorem dX5_leastUnlike_35 : decode cX5_leastUnlike 35 = .ok (.i2l, 1) := by decide +kernel
theorem dX5_leastUnlike_36 : decode cX5_leastUnlike 36 = .ok (.invokestatic 89, 3) := by decide +kernel
theorem dX5_leastUnlike_39 : decode cX5_leastUnlike 39 = .ok (.iadd, 1) := by decide +kernel
theorem dX5_leastUnlike_40 : decode cX5_leastUnlike 40 = .ok (.ireturn, 1) := by decide +kernel
theorem dX5_leastUnlike_41 : decode cX5_leastUnlike 41 = .ok (.iinc 3 1, 3) := by decide +kernel
theorem dX5_leastUnlike_44 : decode cX5_leastUnlike 44 = .ok (.goto (-42), 3) := by decide +kernel
theorem dX5_leastUnlike_47 : decode cX5_leastUnlike 47 = .ok (.bipush (-5), 2) := by decide +kernel
theorem dX5_leastUnlike_49 : decode cX5_leastUnlike 49 = .ok (.ireturn, 1) := by decide +kernel
theorem dX5_cityCount_0 : decode cX5_cityCount 0 = .ok (.iconst 0, 1) := by decide +kernel
theorem dX5_cityCount_1 : decode cX5_cityCount 1 = .ok (.istore_n 1, 1) := by decide +kernel
theorem dX5_cityCount_2 : decode cX5_cityCount 2 = .ok (.iconst 0, 1) := by decide +kernel
theorem dX5_cityCount_3 : decode cX5_cityCount 3 = .ok (.istore_n 2, 1) := by decide +kernel
theorem dX5_cityCount_4 : decode cX5_cityCount 4 = .ok (.iload_n 2, 1) := by decide +kernel
theorem dX5_cityCount_5 : decode cX5_cityCount 5 = .ok (.sipush 450, 3) := by decide +kernel
theorem dX5_cityCount_8 : decode cX5_cityCount 8 = .ok (.if_icmp .ge 20, 3) := by decide +kernel
theorem dX5_cityCount_11 : decode cX5_cityCount 11 = .ok (.iload_n 1, 1) := by decide +kernel
theorem dX5_cityCount_12 : decode cX5_cityCount 12 = .ok (.aload_n 0, 1) := by decide +kernel
theorem dX5_cityCount_13 : decode cX5_cityCount 13 = .ok (.iload_n 2, 1) := by decide +kernel
theorem dX5_cityCount_14 : decode cX5_cityCount 14 = .ok (.invokevirtual 63, 3) := by decide +kernel
theorem dX5_cityCount_17 : decode cX5_cityCount 17 = .ok (.invokestatic 84, 3) := by decide +kernel
theorem dX5_cityCount_20 : decode cX5_cityCount 20 = .ok (.iadd, 1) := by decide +kernel
theorem dX5_cityCount_21 : decode cX5_cityCount 21 = .ok (.istore_n 1, 1) := by decide +kernel
theorem dX5_cityCount_22 : decode cX5_cityCount 22 = .ok (.iinc 2 1, 3) := by decide +kernel
theorem dX5_cityCount_25 : decode cX5_cityCount 25 = .ok (.goto (-21), 3) := by decide +kernel
theorem dX5_cityCount_28 : decode cX5_cityCount 28 = .ok (.iload_n 1, 1) := by decide +kernel
theorem dX5_cityCount_29 : decode cX5_cityCount 29 = .ok (.ireturn, 1) := by decide +kernel
theorem dX5_cityHours_0 : decode cX5_cityHours 0 = .ok (.aload_n 0, 1) := by decide +kernel
theorem dX5_cityHours_1 : decode cX5_cityHours 1 = .ok (.iload_n 1, 1) := by decide +kernel
theorem dX5_cityHours_2 : decode cX5_cityHours 2 = .ok (.sipush 150, 3) := by decide +kernel
theorem dX5_cityHours_5 : decode cX5_cityHours 5 = .ok (.irem, 1) := by decide +kernel
theorem dX5_cityHours_6 : decode cX5_cityHours 6 = .ok (.invokevirtual 93, 3) := by decide +kernel
theorem dX5_cityHours_9 : decode cX5_cityHours 9 = .ok (.istore_n 2, 1) := by decide +kernel
theorem dX5_cityHours_10 : decode cX5_cityHours 10 = .ok (.iload_n 2, 1) := by decide +kernel
theorem dX5_cityHours_11 : decode cX5_cityHours 11 = .ok (.ifCond .lt 21, 3) := by decide +kernel
theorem dX5_cityHours_14 : decode cX5_cityHours 14 = .ok (.aload_n 0, 1) := by decide +kernel
theorem dX5_cityHours_15 : decode cX5_cityHours 15 = .ok (.getfield 32, 3) := by decide +kernel
theorem dX5_cityHours_18 : decode cX5_cityHours 18 = .ok (.iload_n 2, 1) := by decide +kernel
theorem dX5_cityHours_19 : decode cX5_cityHours 19 = .ok (.invokevirtual 96, 3) := by decide +kernel
theorem dX5_cityHours_22 : decode cX5_cityHours 22 = .ok (.ifCond .eq 8, 3) := by decide +kernel
theorem dX5_cityHours_25 : decode cX5_cityHours 25 = .ok (.ldc 99, 2) := by decide +kernel
theorem dX5_cityHours_27 : decode cX5_cityHours 27 = .ok (.goto 4, 3) := by decide +kernel
theorem dX5_cityHours_30 : decode cX5_cityHours 30 = .ok (.iconst 0, 1) := by decide +kernel
theorem dX5_cityHours_31 : decode cX5_cityHours 31 = .ok (.ireturn, 1) := by decide +kernel
theorem dX5_cityHours_32 : decode cX5_cityHours 32 = .ok (.aload_n 0, 1) := by decide +kernel
theorem dX5_cityHours_33 : decode cX5_cityHours 33 = .ok (.iconst 0, 1) := by decide +kernel
theorem dX5_cityHours_34 : decode cX5_cityHours 34 = .ok (.iload_n 1, 1) := by decide +kernel
theorem dX5_cityHours_35 : decode cX5_cityHours 35 = .ok (.invokevirtual 59, 3) := by decide +kernel
theorem dX5_cityHours_38 : decode cX5_cityHours 38 = .ok (.istore_n 3, 1) := by decide +kernel
theorem dX5_cityHours_39 : decode cX5_cityHours 39 = .ok (.aload_n 0, 1) := by decide +kernel
theorem dX5_cityHours_40 : decode cX5_cityHours 40 = .ok (.iconst 1, 1) := by decide +kernel
theorem dX5_cityHours_41 : decode cX5_cityHours 41 = .ok (.iload_n 1, 1) := by decide +kernel
theorem dX5_cityHours_42 : decode cX5_cityHours 42 = .ok (.invokevirtual 59, 3) := by decide +kernel
theorem dX5_cityHours_45 : decode cX5_cityHours 45 = .ok (.istore 4, 2) := by decide +kernel
theorem dX5_cityHours_47 : decode cX5_cityHours 47 = .ok (.aload_n 0, 1) := by decide +kernel
theorem dX5_cityHours_48 : decode cX5_cityHours 48 = .ok (.iconst 2, 1) := by decide +kernel
theorem dX5_cityHours_49 : decode cX5_cityHours 49 = .ok (.iload_n 1, 1) := by decide +kernel
theorem dX5_cityHours_50 : decode cX5_cityHours 50 = .ok (.invokevirtual 59, 3) := by decide +kernel
theorem dX5_cityHours_53 : decode cX5_cityHours 53 = .ok (.istore 5, 2) := by decide +kernel
theorem dX5_cityHours_55 : decode cX5_cityHours 55 = .ok (.iload_n 3, 1) := by decide +kernel
theorem dX5_cityHours_56 : decode cX5_cityHours 56 = .ok (.iload 4, 2) := by decide +kernel
theorem dX5_cityHours_58 : decode cX5_cityHours 58 = .ok (.iand, 1) := by decide +kernel
theorem dX5_cityHours_59 : decode cX5_cityHours 59 = .ok (.iload_n 3, 1) := by decide +kernel
theorem dX5_cityHours_60 : decode cX5_cityHours 60 = .ok (.iload 5, 2) := by decide +kernel
theorem dX5_cityHours_62 : decode cX5_cityHours 62 = .ok (.iand, 1) := by decide +kernel
theorem dX5_cityHours_63 : decode cX5_cityHours 63 = .ok (.ior, 1) := by decide +kernel
theorem dX5_cityHours_64 : decode cX5_cityHours 64 = .ok (.iload 4, 2) := by decide +kernel
theorem dX5_cityHours_66 : decode cX5_cityHours 66 = .ok (.iload 5, 2) := by decide +kernel
theorem dX5_cityHours_68 : decode cX5_cityHours 68 = .ok (.iand, 1) := by decide +kernel
theorem dX5_cityHours_69 : decode cX5_cityHours 69 = .ok (.ior, 1) := by decide +kernel
theorem dX5_cityHours_70 : decode cX5_cityHours 70 = .ok (.ireturn, 1) := by decide +kernel
theorem dX5_tongueHours_0 : decode cX5_tongueHours 0 = .ok (.aload_n 0, 1) := by decide +kernel
theorem dX5_tongueHours_1 : decode cX5_tongueHours 1 = .ok (.getfield 11, 3) := by decide +kernel
theorem dX5_tongueHours_4 : decode cX5_tongueHours 4 = .ok (.iload_n 1, 1) := by decide +kernel
theorem dX5_tongueHours_5 : decode cX5_tongueHours 5 = .ok (.aaload, 1) := by decide +kernel
theorem dX5_tongueHours_6 : decode cX5_tongueHours 6 = .ok (.astore_n 3, 1) := by decide +kernel
theorem dX5_tongueHours_7 : decode cX5_tongueHours 7 = .ok (.aload_n 3, 1) := by decide +kernel
theorem dX5_tongueHours_8 : decode cX5_tongueHours 8 = .ok (.ifnonnull 5, 3) := by decide +kernel
theorem dX5_tongueHours_11 : decode cX5_tongueHours 11 = .ok (.iconst 0, 1) := by decide +kernel
theorem dX5_tongueHours_12 : decode cX5_tongueHours 12 = .ok (.ireturn, 1) := by decide +kernel
theorem dX5_tongueHours_13 : decode cX5_tongueHours 13 = .ok (.aload_n 0, 1) := by decide +kernel
theorem dX5_tongueHours_14 : decode cX5_tongueHours 14 = .ok (.aload_n 3, 1) := by decide +kernel
theorem dX5_tongueHours_15 : decode cX5_tongueHours 15 = .ok (.getfield 67, 3) := by decide +kernel
theorem dX5_tongueHours_18 : decode cX5_tongueHours 18 = .ok (.iload_n 2, 1) := by decide +kernel
theorem dX5_tongueHours_19 : decode cX5_tongueHours 19 = .ok (.invokevirtual 70, 3) := by decide +kernel
theorem dX5_tongueHours_22 : decode cX5_tongueHours 22 = .ok (.iconst 0, 1) := by decide +kernel
theorem dX5_tongueHours_23 : decode cX5_tongueHours 23 = .ok (.istore 4, 2) := by decide +kernel
theorem dX5_tongueHours_25 : decode cX5_tongueHours 25 = .ok (.iconst 0, 1) := by decide +kernel
theorem dX5_tongueHours_26 : decode cX5_tongueHours 26 = .ok (.istore 5, 2) := by decide +kernel
theorem dX5_tongueHours_28 : decode cX5_tongueHours 28 = .ok (.iload 5, 2) := by decide +kernel
theorem dX5_tongueHours_30 : decode cX5_tongueHours 30 = .ok (.aload_n 0, 1) := by decide +kernel
theorem dX5_tongueHours_31 : decode cX5_tongueHours 31 = .ok (.getfield 74, 3) := by decide +kernel
theorem dX5_tongueHours_34 : decode cX5_tongueHours 34 = .ok (.if_icmp .ge 46, 3) := by decide +kernel
theorem dX5_tongueHours_37 : decode cX5_tongueHours 37 = .ok (.aload_n 0, 1) := by decide +kernel
theorem dX5_tongueHours_38 : decode cX5_tongueHours 38 = .ok (.getfield 24, 3) := by decide +kernel
theorem dX5_tongueHours_41 : decode cX5_tongueHours 41 = .ok (.iload 5, 2) := by decide +kernel
theorem dX5_tongueHours_43 : decode cX5_tongueHours 43 = .ok (.baload, 1) := by decide +kernel
theorem dX5_tongueHours_44 : decode cX5_tongueHours 44 = .ok (.ifCond .eq 16, 3) := by decide +kernel
theorem dX5_tongueHours_47 : decode cX5_tongueHours 47 = .ok (.iload 4, 2) := by decide +kernel
theorem dX5_tongueHours_49 : decode cX5_tongueHours 49 = .ok (.aload_n 0, 1) := by decide +kernel
theorem dX5_tongueHours_50 : decode cX5_tongueHours 50 = .ok (.getfield 21, 3) := by decide +kernel
theorem dX5_tongueHours_53 : decode cX5_tongueHours 53 = .ok (.iload 5, 2) := by decide +kernel
theorem dX5_tongueHours_55 : decode cX5_tongueHours 55 = .ok (.iaload, 1) := by decide +kernel
theorem dX5_tongueHours_56 : decode cX5_tongueHours 56 = .ok (.ior, 1) := by decide +kernel
theorem dX5_tongueHours_57 : decode cX5_tongueHours 57 = .ok (.goto 15, 3) := by decide +kernel
theorem dX5_tongueHours_60 : decode cX5_tongueHours 60 = .ok (.iload 4, 2) := by decide +kernel
theorem dX5_tongueHours_62 : decode cX5_tongueHours 62 = .ok (.aload_n 0, 1) := by decide +kernel
theorem dX5_tongueHours_63 : decode cX5_tongueHours 63 = .ok (.getfield 21, 3) := by decide +kernel
theorem dX5_tongueHours_66 : decode cX5_tongueHours 66 = .ok (.iload 5, 2) := by decide +kernel
theorem dX5_tongueHours_68 : decode cX5_tongueHours 68 = .ok (.iaload, 1) := by decide +kernel
theorem dX5_tongueHours_69 : decode cX5_tongueHours 69 = .ok (.iconst (-1), 1) := by decide +kernel
theorem dX5_tongueHours_70 : decode cX5_tongueHours 70 = .ok (.ixor, 1) := by decide +kernel
theorem dX5_tongueHours_71 : decode cX5_tongueHours 71 = .ok (.iand, 1) := by decide +kernel
theorem dX5_tongueHours_72 : decode cX5_tongueHours 72 = .ok (.istore 4, 2) := by decide +kernel
theorem dX5_tongueHours_74 : decode cX5_tongueHours 74 = .ok (.iinc 5 1, 3) := by decide +kernel
theorem dX5_tongueHours_77 : decode cX5_tongueHours 77 = .ok (.goto (-49), 3) := by decide +kernel
theorem dX5_tongueHours_80 : decode cX5_tongueHours 80 = .ok (.iload 4, 2) := by decide +kernel
theorem dX5_tongueHours_82 : decode cX5_tongueHours 82 = .ok (.ireturn, 1) := by decide +kernel
theorem dX5_weigh_0 : decode cX5_weigh 0 = .ok (.aload_n 0, 1) := by decide +kernel
theorem dX5_weigh_1 : decode cX5_weigh 1 = .ok (.iconst 0, 1) := by decide +kernel
theorem dX5_weigh_2 : decode cX5_weigh 2 = .ok (.putfield 100, 3) := by decide +kernel
theorem dX5_weigh_5 : decode cX5_weigh 5 = .ok (.aload_n 0, 1) := by decide +kernel
theorem dX5_weigh_6 : decode cX5_weigh 6 = .ok (.iconst 0, 1) := by decide +kernel
theorem dX5_weigh_7 : decode cX5_weigh 7 = .ok (.putfield 74, 3) := by decide +kernel
theorem dX5_weigh_10 : decode cX5_weigh 10 = .ok (.iconst 0, 1) := by decide +kernel
theorem dX5_weigh_11 : decode cX5_weigh 11 = .ok (.istore_n 3, 1) := by decide +kernel
theorem dX5_weigh_12 : decode cX5_weigh 12 = .ok (.iload_n 3, 1) := by decide +kernel
theorem dX5_weigh_13 : decode cX5_weigh 13 = .ok (.aload_n 1, 1) := by decide +kernel
theorem dX5_weigh_14 : decode cX5_weigh 14 = .ok (.arraylength, 1) := by decide +kernel
theorem dX5_weigh_15 : decode cX5_weigh 15 = .ok (.if_icmp .ge 134, 3) := by decide +kernel
theorem dX5_weigh_18 : decode cX5_weigh 18 = .ok (.aload_n 1, 1) := by decide +kernel
theorem dX5_weigh_19 : decode cX5_weigh 19 = .ok (.iload_n 3, 1) := by decide +kernel
theorem dX5_weigh_20 : decode cX5_weigh 20 = .ok (.iaload, 1) := by decide +kernel
theorem dX5_weigh_21 : decode cX5_weigh 21 = .ok (.bipush 8, 2) := by decide +kernel
theorem dX5_weigh_23 : decode cX5_weigh 23 = .ok (.ishr, 1) := by decide +kernel
theorem dX5_weigh_24 : decode cX5_weigh 24 = .ok (.istore 4, 2) := by decide +kernel
theorem dX5_weigh_26 : decode cX5_weigh 26 = .ok (.iload 4, 2) := by decide +kernel
theorem dX5_weigh_28 : decode cX5_weigh 28 = .ok (.bipush 33, 2) := by decide +kernel
theorem dX5_weigh_30 : decode cX5_weigh 30 = .ok (.if_icmp .eq 17, 3) := by decide +kernel
theorem dX5_weigh_33 : decode cX5_weigh 33 = .ok (.iload 4, 2) := by decide +kernel
theorem dX5_weigh_35 : decode cX5_weigh 35 = .ok (.bipush 38, 2) := by decide +kernel
theorem dX5_weigh_37 : decode cX5_weigh 37 = .ok (.if_icmp .eq 10, 3) := by decide +kernel
theorem dX5_weigh_40 : decode cX5_weigh 40 = .ok (.iload 4, 2) := by decide +kernel
theorem dX5_weigh_42 : decode cX5_weigh 42 = .ok (.bipush 124, 2) := by decide +kernel
theorem dX5_weigh_44 : decode cX5_weigh 44 = .ok (.if_icmp .ne 7, 3) := by decide +kernel
theorem dX5_weigh_47 : decode cX5_weigh 47 = .ok (.iconst 1, 1) := by decide +kernel
theorem dX5_weigh_48 : decode cX5_weigh 48 = .ok (.goto 4, 3) := by decide +kernel
theorem dX5_weigh_51 : decode cX5_weigh 51 = .ok (.iconst 0, 1) := by decide +kernel
theorem dX5_weigh_52 : decode cX5_weigh 52 = .ok (.istore 5, 2) := by decide +kernel
theorem dX5_weigh_54 : decode cX5_weigh 54 = .ok (.iload 5, 2) := by decide +kernel
theorem dX5_weigh_56 : decode cX5_weigh 56 = .ok (.ifCond .eq 12, 3) := by decide +kernel
theorem dX5_weigh_59 : decode cX5_weigh 59 = .ok (.aload_n 0, 1) := by decide +kernel
theorem dX5_weigh_60 : decode cX5_weigh 60 = .ok (.iload 4, 2) := by decide +kernel
theorem dX5_weigh_62 : decode cX5_weigh 62 = .ok (.invokevirtual 103, 3) := by decide +kernel
theorem dX5_weigh_65 : decode cX5_weigh 65 = .ok (.goto 78, 3) := by decide +kernel
theorem dX5_weigh_68 : decode cX5_weigh 68 = .ok (.iload 4, 2) := by decide +kernel
theorem dX5_weigh_70 : decode cX5_weigh 70 = .ok (.bipush 108, 2) := by decide +kernel
theorem dX5_weigh_72 : decode cX5_weigh 72 = .ok (.if_icmp .eq 10, 3) := by decide +kernel
theorem dX5_weigh_75 : decode cX5_weigh 75 = .ok (.iload 4, 2) := by decide +kernel
theorem dX5_weigh_77 : decode cX5_weigh 77 = .ok (.bipush 98, 2) := by decide +kernel
theorem dX5_weigh_79 : decode cX5_weigh 79 = .ok (.if_icmp .ne 22, 3) := by decide +kernel
theorem dX5_weigh_82 : decode cX5_weigh 82 = .ok (.aload_n 0, 1) := by decide +kernel
theorem dX5_weigh_83 : decode cX5_weigh 83 = .ok (.iload 4, 2) := by decide +kernel
theorem dX5_weigh_85 : decode cX5_weigh 85 = .ok (.bipush 108, 2) := by decide +kernel
theorem dX5_weigh_87 : decode cX5_weigh 87 = .ok (.if_icmp .ne 7, 3) := by decide +kernel
theorem dX5_weigh_90 : decode cX5_weigh 90 = .ok (.iconst 1, 1) := by decide +kernel
theorem dX5_weigh_91 : decode cX5_weigh 91 = .ok (.goto 4, 3) := by decide +kernel
theorem dX5_weigh_94 : decode cX5_weigh 94 = .ok (.iconst 0, 1) := by decide +kernel
theorem dX5_weigh_95 : decode cX5_weigh 95 = .ok (.invokevirtual 107, 3) := by decide +kernel
theorem dX5_weigh_98 : decode cX5_weigh 98 = .ok (.goto 45, 3) := by decide +kernel
theorem dX5_weigh_101 : decode cX5_weigh 101 = .ok (.aload_n 0, 1) := by decide +kernel
theorem dX5_weigh_102 : decode cX5_weigh 102 = .ok (.getfield 100, 3) := by decide +kernel
theorem dX5_weigh_105 : decode cX5_weigh 105 = .ok (.bipush 32, 2) := by decide +kernel
theorem dX5_weigh_107 : decode cX5_weigh 107 = .ok (.if_icmp .ge 36, 3) := by decide +kernel
theorem dX5_weigh_110 : decode cX5_weigh 110 = .ok (.aload_n 0, 1) := by decide +kernel
theorem dX5_weigh_111 : decode cX5_weigh 111 = .ok (.getfield 17, 3) := by decide +kernel
theorem dX5_weigh_114 : decode cX5_weigh 114 = .ok (.aload_n 0, 1) := by decide +kernel
theorem dX5_weigh_115 : decode cX5_weigh 115 = .ok (.getfield 100, 3) := by decide +kernel
theorem dX5_weigh_118 : decode cX5_weigh 118 = .ok (.aload_n 0, 1) := by decide +kernel
theorem dX5_weigh_119 : decode cX5_weigh 119 = .ok (.iload 4, 2) := by decide +kernel
theorem dX5_weigh_121 : decode cX5_weigh 121 = .ok (.aload_n 1, 1) := by decide +kernel
theorem dX5_weigh_122 : decode cX5_weigh 122 = .ok (.iload_n 3, 1) := by decide +kernel
theorem dX5_weigh_123 : decode cX5_weigh 123 = .ok (.iaload, 1) := by decide +kernel
theorem dX5_weigh_124 : decode cX5_weigh 124 = .ok (.sipush 255, 3) := by decide +kernel
theorem dX5_weigh_127 : decode cX5_weigh 127 = .ok (.iand, 1) := by decide +kernel
theorem dX5_weigh_128 : decode cX5_weigh 128 = .ok (.iload_n 2, 1) := by decide +kernel
theorem dX5_weigh_129 : decode cX5_weigh 129 = .ok (.invokevirtual 111, 3) := by decide +kernel
theorem dX5_weigh_132 : decode cX5_weigh 132 = .ok (.iastore, 1) := by decide +kernel
theorem dX5_weigh_133 : decode cX5_weigh 133 = .ok (.aload_n 0, 1) := by decide +kernel
theorem dX5_weigh_134 : decode cX5_weigh 134 = .ok (.dup, 1) := by decide +kernel
theorem dX5_weigh_135 : decode cX5_weigh 135 = .ok (.getfield 100, 3) := by decide +kernel
theorem dX5_weigh_138 : decode cX5_weigh 138 = .ok (.iconst 1, 1) := by decide +kernel
theorem dX5_weigh_139 : decode cX5_weigh 139 = .ok (.iadd, 1) := by decide +kernel
theorem dX5_weigh_140 : decode cX5_weigh 140 = .ok (.putfield 100, 3) := by decide +kernel
theorem dX5_weigh_143 : decode cX5_weigh 143 = .ok (.iinc 3 1, 3) := by decide +kernel
theorem dX5_weigh_146 : decode cX5_weigh 146 = .ok (.goto (-134), 3) := by decide +kernel
theorem dX5_weigh_149 : decode cX5_weigh 149 = .ok (.return_, 1) := by decide +kernel
theorem dX5_factHours_0 : decode cX5_factHours 0 = .ok (.iload_n 3, 1) := by decide +kernel
theorem dX5_factHours_1 : decode cX5_factHours 1 = .ok (.iconst 5, 1) := by decide +kernel
theorem dX5_factHours_2 : decode cX5_factHours 2 = .ok (.idiv, 1) := by decide +kernel
theorem dX5_factHours_3 : decode cX5_factHours 3 = .ok (.bipush 30, 2) := by decide +kernel
theorem dX5_factHours_5 : decode cX5_factHours 5 = .ok (.irem, 1) := by decide +kernel
theorem dX5_factHours_6 : decode cX5_factHours 6 = .ok (.istore 4, 2) := by decide +kernel
theorem dX5_factHours_8 : decode cX5_factHours 8 = .ok (.iload_n 1, 1) := by decide +kernel
theorem dX5_factHours_9 : decode cX5_factHours 9 = .ok (.lookupswitch 126 #[(60, 115), (103, 67), (109, 88), (112, 102), (115, 51)], 51) := by decide +kernel
theorem dX5_factHours_60 : decode cX5_factHours 60 = .ok (.iload_n 3, 1) := by decide +kernel
theorem dX5_factHours_61 : decode cX5_factHours 61 = .ok (.sipush 150, 3) := by decide +kernel
theorem dX5_factHours_64 : decode cX5_factHours 64 = .ok (.idiv, 1) := by decide +kernel
theorem dX5_factHours_65 : decode cX5_factHours 65 = .ok (.iload_n 2, 1) := by decide +kernel
theorem dX5_factHours_66 : decode cX5_factHours 66 = .ok (.if_icmp .ne 8, 3) := by decide +kernel
theorem dX5_factHours_69 : decode cX5_factHours 69 = .ok (.ldc 99, 2) := by decide +kernel
theorem dX5_factHours_71 : decode cX5_factHours 71 = .ok (.goto 4, 3) := by decide +kernel
theorem dX5_factHours_74 : decode cX5_factHours 74 = .ok (.iconst 0, 1) := by decide +kernel
theorem dX5_factHours_75 : decode cX5_factHours 75 = .ok (.ireturn, 1) := by decide +kernel
theorem dX5_factHours_76 : decode cX5_factHours 76 = .ok (.aload_n 0, 1) := by decide +kernel
theorem dX5_factHours_77 : decode cX5_factHours 77 = .ok (.getfield 28, 3) := by decide +kernel
theorem dX5_factHours_80 : decode cX5_factHours 80 = .ok (.getfield 115, 3) := by decide +kernel
theorem dX5_factHours_83 : decode cX5_factHours 83 = .ok (.iload 4, 2) := by decide +kernel
theorem dX5_factHours_85 : decode cX5_factHours 85 = .ok (.iaload, 1) := by decide +kernel
theorem dX5_factHours_86 : decode cX5_factHours 86 = .ok (.iload_n 2, 1) := by decide +kernel
theorem dX5_factHours_87 : decode cX5_factHours 87 = .ok (.if_icmp .ne 8, 3) := by decide +kernel
theorem dX5_factHours_90 : decode cX5_factHours 90 = .ok (.ldc 99, 2) := by decide +kernel
theorem dX5_factHours_92 : decode cX5_factHours 92 = .ok (.goto 4, 3) := by decide +kernel
theorem dX5_factHours_95 : decode cX5_factHours 95 = .ok (.iconst 0, 1) := by decide +kernel
theorem dX5_factHours_96 : decode cX5_factHours 96 = .ok (.ireturn, 1) := by decide +kernel
theorem dX5_factHours_97 : decode cX5_factHours 97 = .ok (.iload_n 3, 1) := by decide +kernel
theorem dX5_factHours_98 : decode cX5_factHours 98 = .ok (.iconst 5, 1) := by decide +kernel
theorem dX5_factHours_99 : decode cX5_factHours 99 = .ok (.irem, 1) := by decide +kernel
theorem dX5_factHours_100 : decode cX5_factHours 100 = .ok (.iload_n 2, 1) := by decide +kernel
theorem dX5_factHours_101 : decode cX5_factHours 101 = .ok (.if_icmp .ne 8, 3) := by decide +kernel
theorem dX5_factHours_104 : decode cX5_factHours 104 = .ok (.ldc 99, 2) := by decide +kernel
theorem dX5_factHours_106 : decode cX5_factHours 106 = .ok (.goto 4, 3) := by decide +kernel
theorem dX5_factHours_109 : decode cX5_factHours 109 = .ok (.iconst 0, 1) := by decide +kernel
theorem dX5_factHours_110 : decode cX5_factHours 110 = .ok (.ireturn, 1) := by decide +kernel
theorem dX5_factHours_111 : decode cX5_factHours 111 = .ok (.iload 4, 2) := by decide +kernel
theorem dX5_factHours_113 : decode cX5_factHours 113 = .ok (.iload_n 2, 1) := by decide +kernel
theorem dX5_factHours_114 : decode cX5_factHours 114 = .ok (.if_icmp .ne 8, 3) := by decide +kernel
theorem dX5_factHours_117 : decode cX5_factHours 117 = .ok (.ldc 99, 2) := by decide +kernel
theorem dX5_factHours_119 : decode cX5_factHours 119 = .ok (.goto 4, 3) := by decide +kernel
theorem dX5_factHours_122 : decode cX5_factHours 122 = .ok (.iconst 0, 1) := by decide +kernel
theorem dX5_factHours_123 : decode cX5_factHours 123 = .ok (.ireturn, 1) := by decide +kernel
theorem dX5_factHours_124 : decode cX5_factHours 124 = .ok (.iconst 1, 1) := by decide +kernel
theorem dX5_factHours_125 : decode cX5_factHours 125 = .ok (.iload_n 2, 1) := by decide +kernel
theorem dX5_factHours_126 : decode cX5_factHours 126 = .ok (.bipush 24, 2) := by decide +kernel
theorem dX5_factHours_128 : decode cX5_factHours 128 = .ok (.invokestatic 118, 3) := by decide +kernel
theorem dX5_factHours_131 : decode cX5_factHours 131 = .ok (.ishl, 1) := by decide +kernel
theorem dX5_factHours_132 : decode cX5_factHours 132 = .ok (.iconst 1, 1) := by decide +kernel
theorem dX5_factHours_133 : decode cX5_factHours 133 = .ok (.isub, 1) := by decide +kernel
theorem dX5_factHours_134 : decode cX5_factHours 134 = .ok (.ireturn, 1) := by decide +kernel
theorem dX5_factHours_135 : decode cX5_factHours 135 = .ok (.ldc 99, 2) := by decide +kernel
theorem dX5_factHours_137 : decode cX5_factHours 137 = .ok (.bipush (-2), 2) := by decide +kernel
theorem dX5_factHours_139 : decode cX5_factHours 139 = .ok (.iload_n 2, 1) := by decide +kernel
theorem dX5_factHours_140 : decode cX5_factHours 140 = .ok (.bipush 24, 2) := by decide +kernel
theorem dX5_factHours_142 : decode cX5_factHours 142 = .ok (.invokestatic 118, 3) := by decide +kernel
theorem dX5_factHours_145 : decode cX5_factHours 145 = .ok (.ishl, 1) := by decide +kernel
theorem dX5_factHours_146 : decode cX5_factHours 146 = .ok (.iand, 1) := by decide +kernel
theorem dX5_factHours_147 : decode cX5_factHours 147 = .ok (.ireturn, 1) := by decide +kernel
theorem dX5_join_0 : decode cX5_join 0 = .ok (.iload_n 1, 1) := by decide +kernel
theorem dX5_join_1 : decode cX5_join 1 = .ok (.bipush 33, 2) := by decide +kernel
theorem dX5_join_3 : decode cX5_join 3 = .ok (.if_icmp .ne 41, 3) := by decide +kernel
theorem dX5_join_6 : decode cX5_join 6 = .ok (.aload_n 0, 1) := by decide +kernel
theorem dX5_join_7 : decode cX5_join 7 = .ok (.getfield 100, 3) := by decide +kernel
theorem dX5_join_10 : decode cX5_join 10 = .ok (.iconst 1, 1) := by decide +kernel
theorem dX5_join_11 : decode cX5_join 11 = .ok (.if_icmp .lt 33, 3) := by decide +kernel
theorem dX5_join_14 : decode cX5_join 14 = .ok (.aload_n 0, 1) := by decide +kernel
theorem dX5_join_15 : decode cX5_join 15 = .ok (.getfield 17, 3) := by decide +kernel
theorem dX5_join_18 : decode cX5_join 18 = .ok (.aload_n 0, 1) := by decide +kernel
theorem dX5_join_19 : decode cX5_join 19 = .ok (.getfield 100, 3) := by decide +kernel
theorem dX5_join_22 : decode cX5_join 22 = .ok (.iconst 1, 1) := by decide +kernel
theorem dX5_join_23 : decode cX5_join 23 = .ok (.isub, 1) := by decide +kernel
theorem dX5_join_24 : decode cX5_join 24 = .ok (.ldc 99, 2) := by decide +kernel
theorem dX5_join_26 : decode cX5_join 26 = .ok (.aload_n 0, 1) := by decide +kernel
theorem dX5_join_27 : decode cX5_join 27 = .ok (.getfield 17, 3) := by decide +kernel
theorem dX5_join_30 : decode cX5_join 30 = .ok (.aload_n 0, 1) := by decide +kernel
theorem dX5_join_31 : decode cX5_join 31 = .ok (.getfield 100, 3) := by decide +kernel
theorem dX5_join_34 : decode cX5_join 34 = .ok (.iconst 1, 1) := by decide +kernel
theorem dX5_join_35 : decode cX5_join 35 = .ok (.isub, 1) := by decide +kernel
theorem dX5_join_36 : decode cX5_join 36 = .ok (.iaload, 1) := by decide +kernel
theorem dX5_join_37 : decode cX5_join 37 = .ok (.iconst (-1), 1) := by decide +kernel
theorem dX5_join_38 : decode cX5_join 38 = .ok (.ixor, 1) := by decide +kernel
theorem dX5_join_39 : decode cX5_join 39 = .ok (.iand, 1) := by decide +kernel
theorem dX5_join_40 : decode cX5_join 40 = .ok (.iastore, 1) := by decide +kernel
theorem dX5_join_41 : decode cX5_join 41 = .ok (.goto 85, 3) := by decide +kernel
theorem dX5_join_44 : decode cX5_join 44 = .ok (.iload_n 1, 1) := by decide +kernel
theorem dX5_join_45 : decode cX5_join 45 = .ok (.bipush 33, 2) := by decide +kernel
theorem dX5_join_47 : decode cX5_join 47 = .ok (.if_icmp .eq 79, 3) := by decide +kernel
theorem dX5_join_50 : decode cX5_join 50 = .ok (.aload_n 0, 1) := by decide +kernel
theorem dX5_join_51 : decode cX5_join 51 = .ok (.getfield 100, 3) := by decide +kernel
theorem dX5_join_54 : decode cX5_join 54 = .ok (.iconst 2, 1) := by decide +kernel
theorem dX5_join_55 : decode cX5_join 55 = .ok (.if_icmp .lt 71, 3) := by decide +kernel
theorem dX5_join_58 : decode cX5_join 58 = .ok (.aload_n 0, 1) := by decide +kernel
theorem dX5_join_59 : decode cX5_join 59 = .ok (.getfield 17, 3) := by decide +kernel
theorem dX5_join_62 : decode cX5_join 62 = .ok (.aload_n 0, 1) := by decide +kernel
theorem dX5_join_63 : decode cX5_join 63 = .ok (.getfield 100, 3) := by decide +kernel
theorem dX5_join_66 : decode cX5_join 66 = .ok (.iconst 1, 1) := by decide +kernel
theorem dX5_join_67 : decode cX5_join 67 = .ok (.isub, 1) := by decide +kernel
theorem dX5_join_68 : decode cX5_join 68 = .ok (.iaload, 1) := by decide +kernel
theorem dX5_join_69 : decode cX5_join 69 = .ok (.istore_n 2, 1) := by decide +kernel
theorem dX5_join_70 : decode cX5_join 70 = .ok (.aload_n 0, 1) := by decide +kernel
theorem dX5_join_71 : decode cX5_join 71 = .ok (.dup, 1) := by decide +kernel
theorem dX5_join_72 : decode cX5_join 72 = .ok (.getfield 100, 3) := by decide +kernel
theorem dX5_join_75 : decode cX5_join 75 = .ok (.iconst 1, 1) := by decide +kernel
theorem dX5_join_76 : decode cX5_join 76 = .ok (.isub, 1) := by decide +kernel
theorem dX5_join_77 : decode cX5_join 77 = .ok (.putfield 100, 3) := by decide +kernel
theorem dX5_join_80 : decode cX5_join 80 = .ok (.aload_n 0, 1) := by decide +kernel
theorem dX5_join_81 : decode cX5_join 81 = .ok (.getfield 17, 3) := by decide +kernel
theorem dX5_join_84 : decode cX5_join 84 = .ok (.aload_n 0, 1) := by decide +kernel
theorem dX5_join_85 : decode cX5_join 85 = .ok (.getfield 100, 3) := by decide +kernel
theorem dX5_join_88 : decode cX5_join 88 = .ok (.iconst 1, 1) := by decide +kernel
theorem dX5_join_89 : decode cX5_join 89 = .ok (.isub, 1) := by decide +kernel
theorem dX5_join_90 : decode cX5_join 90 = .ok (.iload_n 1, 1) := by decide +kernel
theorem dX5_join_91 : decode cX5_join 91 = .ok (.bipush 38, 2) := by decide +kernel
theorem dX5_join_93 : decode cX5_join 93 = .ok (.if_icmp .ne 19, 3) := by decide +kernel
theorem dX5_join_96 : decode cX5_join 96 = .ok (.aload_n 0, 1) := by decide +kernel
theorem dX5_join_97 : decode cX5_join 97 = .ok (.getfield 17, 3) := by decide +kernel
theorem dX5_join_100 : decode cX5_join 100 = .ok (.aload_n 0, 1) := by decide +kernel
theorem dX5_join_101 : decode cX5_join 101 = .ok (.getfield 100, 3) := by decide +kernel
theorem dX5_join_104 : decode cX5_join 104 = .ok (.iconst 1, 1) := by decide +kernel
theorem dX5_join_105 : decode cX5_join 105 = .ok (.isub, 1) := by decide +kernel
theorem dX5_join_106 : decode cX5_join 106 = .ok (.iaload, 1) := by decide +kernel
theorem dX5_join_107 : decode cX5_join 107 = .ok (.iload_n 2, 1) := by decide +kernel
theorem dX5_join_108 : decode cX5_join 108 = .ok (.iand, 1) := by decide +kernel
theorem dX5_join_109 : decode cX5_join 109 = .ok (.goto 16, 3) := by decide +kernel
theorem dX5_join_112 : decode cX5_join 112 = .ok (.aload_n 0, 1) := by decide +kernel
theorem dX5_join_113 : decode cX5_join 113 = .ok (.getfield 17, 3) := by decide +kernel
theorem dX5_join_116 : decode cX5_join 116 = .ok (.aload_n 0, 1) := by decide +kernel
theorem dX5_join_117 : decode cX5_join 117 = .ok (.getfield 100, 3) := by decide +kernel
theorem dX5_join_120 : decode cX5_join 120 = .ok (.iconst 1, 1) := by decide +kernel
theorem dX5_join_121 : decode cX5_join 121 = .ok (.isub, 1) := by decide +kernel
theorem dX5_join_122 : decode cX5_join 122 = .ok (.iaload, 1) := by decide +kernel
theorem dX5_join_123 : decode cX5_join 123 = .ok (.iload_n 2, 1) := by decide +kernel
theorem dX5_join_124 : decode cX5_join 124 = .ok (.ior, 1) := by decide +kernel
theorem dX5_join_125 : decode cX5_join 125 = .ok (.iastore, 1) := by decide +kernel
theorem dX5_join_126 : decode cX5_join 126 = .ok (.return_, 1) := by decide +kernel
theorem dX5_closeClause_0 : decode cX5_closeClause 0 = .ok (.aload_n 0, 1) := by decide +kernel
theorem dX5_closeClause_1 : decode cX5_closeClause 1 = .ok (.getfield 100, 3) := by decide +kernel
theorem dX5_closeClause_4 : decode cX5_closeClause 4 = .ok (.iconst 1, 1) := by decide +kernel
theorem dX5_closeClause_5 : decode cX5_closeClause 5 = .ok (.if_icmp .lt 60, 3) := by decide +kernel
theorem dX5_closeClause_8 : decode cX5_closeClause 8 = .ok (.aload_n 0, 1) := by decide +kernel
theorem dX5_closeClause_9 : decode cX5_closeClause 9 = .ok (.getfield 74, 3) := by decide +kernel
theorem dX5_closeClause_12 : decode cX5_closeClause 12 = .ok (.bipush 8, 2) := by decide +kernel
theorem dX5_closeClause_14 : decode cX5_closeClause 14 = .ok (.if_icmp .ge 51, 3) := by decide +kernel
theorem dX5_closeClause_17 : decode cX5_closeClause 17 = .ok (.aload_n 0, 1) := by decide +kernel
theorem dX5_closeClause_18 : decode cX5_closeClause 18 = .ok (.dup, 1) := by decide +kernel
theorem dX5_closeClause_19 : decode cX5_closeClause 19 = .ok (.getfield 100, 3) := by decide +kernel
theorem dX5_closeClause_22 : decode cX5_closeClause 22 = .ok (.iconst 1, 1) := by decide +kernel
theorem dX5_closeClause_23 : decode cX5_closeClause 23 = .ok (.isub, 1) := by decide +kernel
theorem dX5_closeClause_24 : decode cX5_closeClause 24 = .ok (.putfield 100, 3) := by decide +kernel
theorem dX5_closeClause_27 : decode cX5_closeClause 27 = .ok (.aload_n 0, 1) := by decide +kernel
theorem dX5_closeClause_28 : decode cX5_closeClause 28 = .ok (.getfield 21, 3) := by decide +kernel
theorem dX5_closeClause_31 : decode cX5_closeClause 31 = .ok (.aload_n 0, 1) := by decide +kernel
theorem dX5_closeClause_32 : decode cX5_closeClause 32 = .ok (.getfield 74, 3) := by decide +kernel
theorem dX5_closeClause_35 : decode cX5_closeClause 35 = .ok (.aload_n 0, 1) := by decide +kernel
theorem dX5_closeClause_36 : decode cX5_closeClause 36 = .ok (.getfield 17, 3) := by decide +kernel
theorem dX5_closeClause_39 : decode cX5_closeClause 39 = .ok (.aload_n 0, 1) := by decide +kernel
theorem dX5_closeClause_40 : decode cX5_closeClause 40 = .ok (.getfield 100, 3) := by decide +kernel
theorem dX5_closeClause_43 : decode cX5_closeClause 43 = .ok (.iaload, 1) := by decide +kernel
theorem dX5_closeClause_44 : decode cX5_closeClause 44 = .ok (.iastore, 1) := by decide +kernel
theorem dX5_closeClause_45 : decode cX5_closeClause 45 = .ok (.aload_n 0, 1) := by decide +kernel
theorem dX5_closeClause_46 : decode cX5_closeClause 46 = .ok (.getfield 24, 3) := by decide +kernel
theorem dX5_closeClause_49 : decode cX5_closeClause 49 = .ok (.aload_n 0, 1) := by decide +kernel
theorem dX5_closeClause_50 : decode cX5_closeClause 50 = .ok (.getfield 74, 3) := by decide +kernel
theorem dX5_closeClause_53 : decode cX5_closeClause 53 = .ok (.iload_n 1, 1) := by decide +kernel
theorem dX5_closeClause_54 : decode cX5_closeClause 54 = .ok (.bastore, 1) := by decide +kernel
theorem dX5_closeClause_55 : decode cX5_closeClause 55 = .ok (.aload_n 0, 1) := by decide +kernel
theorem dX5_closeClause_56 : decode cX5_closeClause 56 = .ok (.dup, 1) := by decide +kernel
theorem dX5_closeClause_57 : decode cX5_closeClause 57 = .ok (.getfield 74, 3) := by decide +kernel
theorem dX5_closeClause_60 : decode cX5_closeClause 60 = .ok (.iconst 1, 1) := by decide +kernel
theorem dX5_closeClause_61 : decode cX5_closeClause 61 = .ok (.iadd, 1) := by decide +kernel
theorem dX5_closeClause_62 : decode cX5_closeClause 62 = .ok (.putfield 74, 3) := by decide +kernel
theorem dX5_closeClause_65 : decode cX5_closeClause 65 = .ok (.return_, 1) := by decide +kernel
theorem dX6_init_0 : decode cX6_init 0 = .ok (.aload_n 0, 1) := by decide +kernel
theorem dX6_init_1 : decode cX6_init 1 = .ok (.invokespecial 3, 3) := by decide +kernel
theorem dX6_init_4 : decode cX6_init 4 = .ok (.aload_n 0, 1) := by decide +kernel
theorem dX6_init_5 : decode cX6_init 5 = .ok (.bipush 6, 2) := by decide +kernel
theorem dX6_init_7 : decode cX6_init 7 = .ok (.newarray .int, 2) := by decide +kernel
theorem dX6_init_9 : decode cX6_init 9 = .ok (.putfield 9, 3) := by decide +kernel
theorem dX6_init_12 : decode cX6_init 12 = .ok (.aload_n 0, 1) := by decide +kernel
theorem dX6_init_13 : decode cX6_init 13 = .ok (.bipush 6, 2) := by decide +kernel
theorem dX6_init_15 : decode cX6_init 15 = .ok (.newarray .int, 2) := by decide +kernel
theorem dX6_init_17 : decode cX6_init 17 = .ok (.putfield 15, 3) := by decide +kernel
theorem dX6_init_20 : decode cX6_init 20 = .ok (.aload_n 0, 1) := by decide +kernel
theorem dX6_init_21 : decode cX6_init 21 = .ok (.bipush 6, 2) := by decide +kernel
theorem dX6_init_23 : decode cX6_init 23 = .ok (.newarray .int, 2) := by decide +kernel
theorem dX6_init_25 : decode cX6_init 25 = .ok (.putfield 18, 3) := by decide +kernel
theorem dX6_init_28 : decode cX6_init 28 = .ok (.aload_n 0, 1) := by decide +kernel
theorem dX6_init_29 : decode cX6_init 29 = .ok (.sipush 192, 3) := by decide +kernel
theorem dX6_init_32 : decode cX6_init 32 = .ok (.newarray .int, 2) := by decide +kernel
theorem dX6_init_34 : decode cX6_init 34 = .ok (.putfield 21, 3) := by decide +kernel
theorem dX6_init_37 : decode cX6_init 37 = .ok (.aload_n 0, 1) := by decide +kernel
theorem dX6_init_38 : decode cX6_init 38 = .ok (.bipush 64, 2) := by decide +kernel
theorem dX6_init_40 : decode cX6_init 40 = .ok (.newarray .int, 2) := by decide +kernel
theorem dX6_init_42 : decode cX6_init 42 = .ok (.putfield 24, 3) := by decide +kernel
theorem dX6_init_45 : decode cX6_init 45 = .ok (.aload_n 0, 1) := by decide +kernel
theorem dX6_init_46 : decode cX6_init 46 = .ok (.getfield 21, 3) := by decide +kernel
theorem dX6_init_49 : decode cX6_init 49 = .ok (.iconst (-1), 1) := by decide +kernel
theorem dX6_init_50 : decode cX6_init 50 = .ok (.invokestatic 27, 3) := by decide +kernel
theorem dX6_init_53 : decode cX6_init 53 = .ok (.return_, 1) := by decide +kernel
theorem dX6_copyFrom_0 : decode cX6_copyFrom 0 = .ok (.aload_n 1, 1) := by decide +kernel
theorem dX6_copyFrom_1 : decode cX6_copyFrom 1 = .ok (.getfield 9, 3) := by decide +kernel
theorem dX6_copyFrom_4 : decode cX6_copyFrom 4 = .ok (.aload_n 0, 1) := by decide +kernel
theorem dX6_copyFrom_5 : decode cX6_copyFrom 5 = .ok (.getfield 9, 3) := by decide +kernel
theorem dX6_copyFrom_8 : decode cX6_copyFrom 8 = .ok (.invokestatic 33, 3) := by decide +kernel
theorem dX6_copyFrom_11 : decode cX6_copyFrom 11 = .ok (.aload_n 1, 1) := by decide +kernel
theorem dX6_copyFrom_12 : decode cX6_copyFrom 12 = .ok (.getfield 15, 3) := by decide +kernel
theorem dX6_copyFrom_15 : decode cX6_copyFrom 15 = .ok (.aload_n 0, 1) := by decide +kernel
theorem dX6_copyFrom_16 : decode cX6_copyFrom 16 = .ok (.getfield 15, 3) := by decide +kernel
theorem dX6_copyFrom_19 : decode cX6_copyFrom 19 = .ok (.invokestatic 33, 3) := by decide +kernel
theorem dX6_copyFrom_22 : decode cX6_copyFrom 22 = .ok (.aload_n 1, 1) := by decide +kernel
theorem dX6_copyFrom_23 : decode cX6_copyFrom 23 = .ok (.getfield 18, 3) := by decide +kernel
theorem dX6_copyFrom_26 : decode cX6_copyFrom 26 = .ok (.aload_n 0, 1) := by decide +kernel
theorem dX6_copyFrom_27 : decode cX6_copyFrom 27 = .ok (.getfield 18, 3) := by decide +kernel
theorem dX6_copyFrom_30 : decode cX6_copyFrom 30 = .ok (.invokestatic 33, 3) := by decide +kernel
theorem dX6_copyFrom_33 : decode cX6_copyFrom 33 = .ok (.aload_n 0, 1) := by decide +kernel
theorem dX6_copyFrom_34 : decode cX6_copyFrom 34 = .ok (.aload_n 1, 1) := by decide +kernel
theorem dX6_copyFrom_35 : decode cX6_copyFrom 35 = .ok (.getfield 37, 3) := by decide +kernel
theorem dX6_copyFrom_38 : decode cX6_copyFrom 38 = .ok (.putfield 37, 3) := by decide +kernel
theorem dX6_copyFrom_41 : decode cX6_copyFrom 41 = .ok (.aload_n 1, 1) := by decide +kernel
theorem dX6_copyFrom_42 : decode cX6_copyFrom 42 = .ok (.getfield 21, 3) := by decide +kernel
theorem dX6_copyFrom_45 : decode cX6_copyFrom 45 = .ok (.aload_n 0, 1) := by decide +kernel
theorem dX6_copyFrom_46 : decode cX6_copyFrom 46 = .ok (.getfield 21, 3) := by decide +kernel
theorem dX6_copyFrom_49 : decode cX6_copyFrom 49 = .ok (.invokestatic 33, 3) := by decide +kernel
theorem dX6_copyFrom_52 : decode cX6_copyFrom 52 = .ok (.return_, 1) := by decide +kernel
theorem dX6_addDoor_0 : decode cX6_addDoor 0 = .ok (.aload_n 0, 1) := by decide +kernel
theorem dX6_addDoor_1 : decode cX6_addDoor 1 = .ok (.getfield 9, 3) := by decide +kernel
theorem dX6_addDoor_4 : decode cX6_addDoor 4 = .ok (.aload_n 0, 1) := by decide +kernel
theorem dX6_addDoor_5 : decode cX6_addDoor 5 = .ok (.getfield 37, 3) := by decide +kernel
theorem dX6_addDoor_8 : decode cX6_addDoor 8 = .ok (.iload_n 1, 1) := by decide +kernel
theorem dX6_addDoor_9 : decode cX6_addDoor 9 = .ok (.iastore, 1) := by decide +kernel
theorem dX6_addDoor_10 : decode cX6_addDoor 10 = .ok (.aload_n 0, 1) := by decide +kernel
theorem dX6_addDoor_11 : decode cX6_addDoor 11 = .ok (.getfield 15, 3) := by decide +kernel
theorem dX6_addDoor_14 : decode cX6_addDoor 14 = .ok (.aload_n 0, 1) := by decide +kernel
theorem dX6_addDoor_15 : decode cX6_addDoor 15 = .ok (.getfield 37, 3) := by decide +kernel
theorem dX6_addDoor_18 : decode cX6_addDoor 18 = .ok (.iload_n 2, 1) := by decide +kernel
theorem dX6_addDoor_19 : decode cX6_addDoor 19 = .ok (.iastore, 1) := by decide +kernel
theorem dX6_addDoor_20 : decode cX6_addDoor 20 = .ok (.aload_n 0, 1) := by decide +kernel
theorem dX6_addDoor_21 : decode cX6_addDoor 21 = .ok (.getfield 18, 3) := by decide +kernel
theorem dX6_addDoor_24 : decode cX6_addDoor 24 = .ok (.aload_n 0, 1) := by decide +kernel
theorem dX6_addDoor_25 : decode cX6_addDoor 25 = .ok (.getfield 37, 3) := by decide +kernel
theorem dX6_addDoor_28 : decode cX6_addDoor 28 = .ok (.iload_n 3, 1) := by decide +kernel
theorem dX6_addDoor_29 : decode cX6_addDoor 29 = .ok (.iastore, 1) := by decide +kernel
theorem dX6_addDoor_30 : decode cX6_addDoor 30 = .ok (.aload_n 0, 1) := by decide +kernel
theorem dX6_addDoor_31 : decode cX6_addDoor 31 = .ok (.dup, 1) := by decide +kernel
theorem dX6_addDoor_32 : decode cX6_addDoor 32 = .ok (.getfield 37, 3) := by decide +kernel
theorem dX6_addDoor_35 : decode cX6_addDoor 35 = .ok (.iconst 1, 1) := by decide +kernel
theorem dX6_addDoor_36 : decode cX6_addDoor 36 = .ok (.iadd, 1) := by decide +kernel
theorem dX6_addDoor_37 : decode cX6_addDoor 37 = .ok (.putfield 37, 3) := by decide +kernel
theorem dX6_addDoor_40 : decode cX6_addDoor 40 = .ok (.aload_n 0, 1) := by decide +kernel
theorem dX6_addDoor_41 : decode cX6_addDoor 41 = .ok (.getfield 37, 3) := by decide +kernel
theorem dX6_addDoor_44 : decode cX6_addDoor 44 = .ok (.iconst 1, 1) := by decide +kernel
theorem dX6_addDoor_45 : decode cX6_addDoor 45 = .ok (.isub, 1) := by decide +kernel
theorem dX6_addDoor_46 : decode cX6_addDoor 46 = .ok (.ireturn, 1) := by decide +kernel
theorem dX6_isPainted_0 : decode cX6_isPainted 0 = .ok (.iconst 0, 1) := by decide +kernel
theorem dX6_isPainted_1 : decode cX6_isPainted 1 = .ok (.istore_n 2, 1) := by decide +kernel
theorem dX6_isPainted_2 : decode cX6_isPainted 2 = .ok (.iload_n 2, 1) := by decide +kernel
theorem dX6_isPainted_3 : decode cX6_isPainted 3 = .ok (.aload_n 0, 1) := by decide +kernel
theorem dX6_isPainted_4 : decode cX6_isPainted 4 = .ok (.getfield 37, 3) := by decide +kernel
theorem dX6_isPainted_7 : decode cX6_isPainted 7 = .ok (.if_icmp .ge 21, 3) := by decide +kernel
theorem dX6_isPainted_10 : decode cX6_isPainted 10 = .ok (.aload_n 0, 1) := by decide +kernel
theorem dX6_isPainted_11 : decode cX6_isPainted 11 = .ok (.getfield 9, 3) := by decide +kernel
theorem dX6_isPainted_14 : decode cX6_isPainted 14 = .ok (.iload_n 2, 1) := by decide +kernel
theorem dX6_isPainted_15 : decode cX6_isPainted 15 = .ok (.iaload, 1) := by decide +kernel
theorem dX6_isPainted_16 : decode cX6_isPainted 16 = .ok (.iload_n 1, 1) := by decide +kernel
theorem dX6_isPainted_17 : decode cX6_isPainted 17 = .ok (.if_icmp .ne 5, 3) := by decide +kernel
theorem dX6_isPainted_20 : decode cX6_isPainted 20 = .ok (.iconst 1, 1) := by decide +kernel
theorem dX6_isPainted_21 : decode cX6_isPainted 21 = .ok (.ireturn, 1) := by decide +kernel
theorem dX6_isPainted_22 : decode cX6_isPainted 22 = .ok (.iinc 2 1, 3) := by decide +kernel
theorem dX6_isPainted_25 : decode cX6_isPainted 25 = .ok (.goto (-23), 3) := by decide +kernel
theorem dX6_isPainted_28 : decode cX6_isPainted 28 = .ok (.iconst 0, 1) := by decide +kernel
theorem dX6_isPainted_29 : decode cX6_isPainted 29 = .ok (.ireturn, 1) := by decide +kernel
theorem dX6_allDoors_0 : decode cX6_allDoors 0 = .ok (.iconst 1, 1) := by decide +kernel
theorem dX6_allDoors_1 : decode cX6_allDoors 1 = .ok (.aload_n 0, 1) := by decide +kernel
theorem dX6_allDoors_2 : decode cX6_allDoors 2 = .ok (.getfield 37, 3) := by decide +kernel
theorem dX6_allDoors_5 : decode cX6_allDoors 5 = .ok (.ishl, 1) := by decide +kernel
theorem dX6_allDoors_6 : decode cX6_allDoors 6 = .ok (.iconst 1, 1) := by decide +kernel
theorem dX6_allDoors_7 : decode cX6_allDoors 7 = .ok (.isub, 1) := by decide +kernel
theorem dX6_allDoors_8 : decode cX6_allDoors 8 = .ok (.ireturn, 1) := by decide +kernel
theorem dX6_sightCount_0 : decode cX6_sightCount 0 = .ok (.iconst 0, 1) := by decide +kernel
theorem dX6_sightCount_1 : decode cX6_sightCount 1 = .ok (.istore_n 2, 1) := by decide +kernel
theorem dX6_sightCount_2 : decode cX6_sightCount 2 = .ok (.iconst 0, 1) := by decide +kernel
theorem dX6_sightCount_3 : decode cX6_sightCount 3 = .ok (.istore_n 3, 1) := by decide +kernel
theorem dX6_sightCount_4 : decode cX6_sightCount 4 = .ok (.iload_n 3, 1) := by decide +kernel
theorem dX6_sightCount_5 : decode cX6_sightCount 5 = .ok (.bipush 24, 2) := by decide +kernel
theorem dX6_sightCount_7 : decode cX6_sightCount 7 = .ok (.if_icmp .ge 26, 3) := by decide +kernel
theorem dX6_sightCount_10 : decode cX6_sightCount 10 = .ok (.aload_n 0, 1) := by decide +kernel
theorem dX6_sightCount_11 : decode cX6_sightCount 11 = .ok (.getfield 21, 3) := by decide +kernel
theorem dX6_sightCount_14 : decode cX6_sightCount 14 = .ok (.iload_n 1, 1) := by decide +kernel
theorem dX6_sightCount_15 : decode cX6_sightCount 15 = .ok (.bipush 24, 2) := by decide +kernel
theorem dX6_sightCount_17 : decode cX6_sightCount 17 = .ok (.imul, 1) := by decide +kernel
theorem dX6_sightCount_18 : decode cX6_sightCount 18 = .ok (.iload_n 3, 1) := by decide +kernel
theorem dX6_sightCount_19 : decode cX6_sightCount 19 = .ok (.iadd, 1) := by decide +kernel
theorem dX6_sightCount_20 : decode cX6_sightCount 20 = .ok (.iaload, 1) := by decide +kernel
theorem dX6_sightCount_21 : decode cX6_sightCount 21 = .ok (.ifCond .lt 6, 3) := by decide +kernel
theorem dX6_sightCount_24 : decode cX6_sightCount 24 = .ok (.iinc 2 1, 3) := by decide +kernel
theorem dX6_sightCount_27 : decode cX6_sightCount 27 = .ok (.iinc 3 1, 3) := by decide +kernel
theorem dX6_sightCount_30 : decode cX6_sightCount 30 = .ok (.goto (-26), 3) := by decide +kernel
theorem dX6_sightCount_33 : decode cX6_sightCount 33 = .ok (.iload_n 2, 1) := by decide +kernel
theorem dX6_sightCount_34 : decode cX6_sightCount 34 = .ok (.ireturn, 1) := by decide +kernel
theorem dX6_couldPaint_0 : decode cX6_couldPaint 0 = .ok (.aload_n 0, 1) := by decide +kernel
theorem dX6_couldPaint_1 : decode cX6_couldPaint 1 = .ok (.iload_n 1, 1) := by decide +kernel
theorem dX6_couldPaint_2 : decode cX6_couldPaint 2 = .ok (.iload_n 2, 1) := by decide +kernel
theorem dX6_couldPaint_3 : decode cX6_couldPaint 3 = .ok (.iload_n 3, 1) := by decide +kernel
theorem dX6_couldPaint_4 : decode cX6_couldPaint 4 = .ok (.invokevirtual 41, 3) := by decide +kernel
theorem dX6_couldPaint_7 : decode cX6_couldPaint 7 = .ok (.aload_n 0, 1) := by decide +kernel
theorem dX6_couldPaint_8 : decode cX6_couldPaint 8 = .ok (.getfield 24, 3) := by decide +kernel
theorem dX6_couldPaint_11 : decode cX6_couldPaint 11 = .ok (.iload_n 2, 1) := by decide +kernel
theorem dX6_couldPaint_12 : decode cX6_couldPaint 12 = .ok (.iaload, 1) := by decide +kernel
theorem dX6_couldPaint_13 : decode cX6_couldPaint 13 = .ok (.ifCond .eq 7, 3) := by decide +kernel
theorem dX6_couldPaint_16 : decode cX6_couldPaint 16 = .ok (.iconst 1, 1) := by decide +kernel
theorem dX6_couldPaint_17 : decode cX6_couldPaint 17 = .ok (.goto 4, 3) := by decide +kernel
theorem dX6_couldPaint_20 : decode cX6_couldPaint 20 = .ok (.iconst 0, 1) := by decide +kernel
theorem dX6_couldPaint_21 : decode cX6_couldPaint 21 = .ok (.ireturn, 1) := by decide +kernel
theorem dX6_mostPainted_0 : decode cX6_mostPainted 0 = .ok (.aload_n 0, 1) := by decide +kernel
theorem dX6_mostPainted_1 : decode cX6_mostPainted 1 = .ok (.invokevirtual 45, 3) := by decide +kernel
theorem dX6_mostPainted_4 : decode cX6_mostPainted 4 = .ok (.istore_n 3, 1) := by decide +kernel
theorem dX6_mostPainted_5 : decode cX6_mostPainted 5 = .ok (.aload_n 0, 1) := by decide +kernel
theorem dX6_mostPainted_6 : decode cX6_mostPainted 6 = .ok (.iload_n 1, 1) := by decide +kernel
theorem dX6_mostPainted_7 : decode cX6_mostPainted 7 = .ok (.iload_n 3, 1) := by decide +kernel
theorem dX6_mostPainted_8 : decode cX6_mostPainted 8 = .ok (.iload_n 2, 1) := by decide +kernel
theorem dX6_mostPainted_9 : decode cX6_mostPainted 9 = .ok (.invokevirtual 41, 3) := by decide +kernel
theorem dX6_mostPainted_12 : decode cX6_mostPainted 12 = .ok (.iconst 0, 1) := by decide +kernel
theorem dX6_mostPainted_13 : decode cX6_mostPainted 13 = .ok (.istore 4, 2) := by decide +kernel
theorem dX6_mostPainted_15 : decode cX6_mostPainted 15 = .ok (.iconst 1, 1) := by decide +kernel
theorem dX6_mostPainted_16 : decode cX6_mostPainted 16 = .ok (.istore 5, 2) := by decide +kernel
theorem dX6_mostPainted_18 : decode cX6_mostPainted 18 = .ok (.iload 5, 2) := by decide +kernel
theorem dX6_mostPainted_20 : decode cX6_mostPainted 20 = .ok (.iload_n 3, 1) := by decide +kernel
theorem dX6_mostPainted_21 : decode cX6_mostPainted 21 = .ok (.if_icmp .gt 36, 3) := by decide +kernel
theorem dX6_mostPainted_24 : decode cX6_mostPainted 24 = .ok (.aload_n 0, 1) := by decide +kernel
theorem dX6_mostPainted_25 : decode cX6_mostPainted 25 = .ok (.getfield 24, 3) := by decide +kernel
theorem dX6_mostPainted_28 : decode cX6_mostPainted 28 = .ok (.iload 5, 2) := by decide +kernel
theorem dX6_mostPainted_30 : decode cX6_mostPainted 30 = .ok (.iaload, 1) := by decide +kernel
theorem dX6_mostPainted_31 : decode cX6_mostPainted 31 = .ok (.ifCond .eq 20, 3) := by decide +kernel
theorem dX6_mostPainted_34 : decode cX6_mostPainted 34 = .ok (.iload 5, 2) := by decide +kernel
theorem dX6_mostPainted_36 : decode cX6_mostPainted 36 = .ok (.invokestatic 49, 3) := by decide +kernel
theorem dX6_mostPainted_39 : decode cX6_mostPainted 39 = .ok (.iload 4, 2) := by decide +kernel
theorem dX6_mostPainted_41 : decode cX6_mostPainted 41 = .ok (.invokestatic 49, 3) := by decide +kernel
theorem dX6_mostPainted_44 : decode cX6_mostPainted 44 = .ok (.if_icmp .le 7, 3) := by decide +kernel
theorem dX6_mostPainted_47 : decode cX6_mostPainted 47 = .ok (.iload 5, 2) := by decide +kernel
theorem dX6_mostPainted_49 : decode cX6_mostPainted 49 = .ok (.istore 4, 2) := by decide +kernel
theorem dX6_mostPainted_51 : decode cX6_mostPainted 51 = .ok (.iinc 5 1, 3) := by decide +kernel
theorem dX6_mostPainted_54 : decode cX6_mostPainted 54 = .ok (.goto (-36), 3) := by decide +kernel
theorem dX6_mostPainted_57 : decode cX6_mostPainted 57 = .ok (.iload 4, 2) := by decide +kernel
theorem dX6_mostPainted_59 : decode cX6_mostPainted 59 = .ok (.ireturn, 1) := by decide +kernel
theorem dX6_roam_0 : decode cX6_roam 0 = .ok (.aload_n 0, 1) := by decide +kernel
theorem dX6_roam_1 : decode cX6_roam 1 = .ok (.getfield 24, 3) := by decide +kernel
theorem dX6_roam_4 : decode cX6_roam 4 = .ok (.iconst 0, 1) := by decide +kernel
theorem dX6_roam_5 : decode cX6_roam 5 = .ok (.invokestatic 27, 3) := by decide +kernel
theorem dX6_roam_8 : decode cX6_roam 8 = .ok (.aload_n 0, 1) := by decide +kernel
theorem dX6_roam_9 : decode cX6_roam 9 = .ok (.getfield 24, 3) := by decide +kernel
theorem dX6_roam_12 : decode cX6_roam 12 = .ok (.iconst 0, 1) := by decide +kernel
theorem dX6_roam_13 : decode cX6_roam 13 = .ok (.iload_n 3, 1) := by decide +kernel
theorem dX6_roam_14 : decode cX6_roam 14 = .ok (.iastore, 1) := by decide +kernel
theorem dX6_roam_15 : decode cX6_roam 15 = .ok (.iconst 0, 1) := by decide +kernel
theorem dX6_roam_16 : decode cX6_roam 16 = .ok (.istore 4, 2) := by decide +kernel
theorem dX6_roam_18 : decode cX6_roam 18 = .ok (.iload 4, 2) := by decide +kernel
theorem dX6_roam_20 : decode cX6_roam 20 = .ok (.bipush 24, 2) := by decide +kernel
theorem dX6_roam_22 : decode cX6_roam 22 = .ok (.if_icmp .ge 116, 3) := by decide +kernel
theorem dX6_roam_25 : decode cX6_roam 25 = .ok (.aload_n 0, 1) := by decide +kernel
theorem dX6_roam_26 : decode cX6_roam 26 = .ok (.getfield 21, 3) := by decide +kernel
theorem dX6_roam_29 : decode cX6_roam 29 = .ok (.iload_n 1, 1) := by decide +kernel
theorem dX6_roam_30 : decode cX6_roam 30 = .ok (.bipush 24, 2) := by decide +kernel
theorem dX6_roam_32 : decode cX6_roam 32 = .ok (.imul, 1) := by decide +kernel
theorem dX6_roam_33 : decode cX6_roam 33 = .ok (.iload 4, 2) := by decide +kernel
theorem dX6_roam_35 : decode cX6_roam 35 = .ok (.iadd, 1) := by decide +kernel
theorem dX6_roam_36 : decode cX6_roam 36 = .ok (.iaload, 1) := by decide +kernel
theorem dX6_roam_37 : decode cX6_roam 37 = .ok (.istore 5, 2) := by decide +kernel
theorem dX6_roam_39 : decode cX6_roam 39 = .ok (.iload 5, 2) := by decide +kernel
theorem dX6_roam_41 : decode cX6_roam 41 = .ok (.ifCond .ge 7, 3) := by decide +kernel
theorem dX6_roam_44 : decode cX6_roam 44 = .ok (.iload_n 3, 1) := by decide +kernel
theorem dX6_roam_45 : decode cX6_roam 45 = .ok (.goto 9, 3) := by decide +kernel
theorem dX6_roam_48 : decode cX6_roam 48 = .ok (.iload_n 3, 1) := by decide +kernel
theorem dX6_roam_49 : decode cX6_roam 49 = .ok (.iconst 1, 1) := by decide +kernel
theorem dX6_roam_50 : decode cX6_roam 50 = .ok (.iload 5, 2) := by decide +kernel
theorem dX6_roam_52 : decode cX6_roam 52 = .ok (.ishl, 1) := by decide +kernel
theorem dX6_roam_53 : decode cX6_roam 53 = .ok (.iand, 1) := by decide +kernel
theorem dX6_roam_54 : decode cX6_roam 54 = .ok (.istore 6, 2) := by decide +kernel
theorem dX6_roam_56 : decode cX6_roam 56 = .ok (.iconst 0, 1) := by decide +kernel
theorem dX6_roam_57 : decode cX6_roam 57 = .ok (.istore 7, 2) := by decide +kernel
theorem dX6_roam_59 : decode cX6_roam 59 = .ok (.iload 7, 2) := by decide +kernel
theorem dX6_roam_61 : decode cX6_roam 61 = .ok (.iload_n 2, 1) := by decide +kernel
theorem dX6_roam_62 : decode cX6_roam 62 = .ok (.if_icmp .gt 29, 3) := by decide +kernel
theorem dX6_roam_65 : decode cX6_roam 65 = .ok (.aload_n 0, 1) := by decide +kernel
theorem dX6_roam_66 : decode cX6_roam 66 = .ok (.getfield 24, 3) := by decide +kernel
theorem dX6_roam_69 : decode cX6_roam 69 = .ok (.iload 7, 2) := by decide +kernel
theorem dX6_roam_71 : decode cX6_roam 71 = .ok (.aload_n 0, 1) := by decide +kernel
theorem dX6_roam_72 : decode cX6_roam 72 = .ok (.getfield 24, 3) := by decide +kernel
theorem dX6_roam_75 : decode cX6_roam 75 = .ok (.iload 7, 2) := by decide +kernel
theorem dX6_roam_77 : decode cX6_roam 77 = .ok (.iaload, 1) := by decide +kernel
theorem dX6_roam_78 : decode cX6_roam 78 = .ok (.invokestatic 55, 3) := by decide +kernel
theorem dX6_roam_81 : decode cX6_roam 81 = .ok (.iload 6, 2) := by decide +kernel
theorem dX6_roam_83 : decode cX6_roam 83 = .ok (.iand, 1) := by decide +kernel
theorem dX6_roam_84 : decode cX6_roam 84 = .ok (.iastore, 1) := by decide +kernel
theorem dX6_roam_85 : decode cX6_roam 85 = .ok (.iinc 7 1, 3) := by decide +kernel
theorem dX6_roam_88 : decode cX6_roam 88 = .ok (.goto (-29), 3) := by decide +kernel
theorem dX6_roam_91 : decode cX6_roam 91 = .ok (.iload_n 2, 1) := by decide +kernel
theorem dX6_roam_92 : decode cX6_roam 92 = .ok (.istore 7, 2) := by decide +kernel
theorem dX6_roam_94 : decode cX6_roam 94 = .ok (.iload 7, 2) := by decide +kernel
theorem dX6_roam_96 : decode cX6_roam 96 = .ok (.ifCond .le 36, 3) := by decide +kernel
theorem dX6_roam_99 : decode cX6_roam 99 = .ok (.iload 7, 2) := by decide +kernel
theorem dX6_roam_101 : decode cX6_roam 101 = .ok (.iload_n 2, 1) := by decide +kernel
theorem dX6_roam_102 : decode cX6_roam 102 = .ok (.iconst (-1), 1) := by decide +kernel
theorem dX6_roam_103 : decode cX6_roam 103 = .ok (.ixor, 1) := by decide +kernel
theorem dX6_roam_104 : decode cX6_roam 104 = .ok (.iand, 1) := by decide +kernel
theorem dX6_roam_105 : decode cX6_roam 105 = .ok (.ifCond .ne 21, 3) := by decide +kernel
theorem dX6_roam_108 : decode cX6_roam 108 = .ok (.aload_n 0, 1) := by decide +kernel
theorem dX6_roam_109 : decode cX6_roam 109 = .ok (.getfield 24, 3) := by decide +kernel
theorem dX6_roam_112 : decode cX6_roam 112 = .ok (.iload 7, 2) := by decide +kernel
theorem dX6_roam_114 : decode cX6_roam 114 = .ok (.dup2, 1) := by decide +kernel
theorem dX6_roam_115 : decode cX6_roam 115 = .ok (.iaload, 1) := by decide +kernel
theorem dX6_roam_116 : decode cX6_roam 116 = .ok (.aload_n 0, 1) := by decide +kernel
theorem dX6_roam_117 : decode cX6_roam 117 = .ok (.iload 7, 2) := by decide +kernel
theorem dX6_roam_119 : decode cX6_roam 119 = .ok (.iload 4, 2) := by decide +kernel
theorem dX6_roam_121 : decode cX6_roam 121 = .ok (.invokevirtual 58, 3) := by decide +kernel
theorem dX6_roam_124 : decode cX6_roam 124 = .ok (.ior, 1) := by decide +kernel
theorem dX6_roam_125 : decode cX6_roam 125 = .ok (.iastore, 1) := by decide +kernel
theorem dX6_roam_126 : decode cX6_roam 126 = .ok (.iinc 7 (-1), 3) := by decide +kernel
theorem dX6_roam_129 : decode cX6_roam 129 = .ok (.goto (-35), 3) := by decide +kernel
theorem dX6_roam_132 : decode cX6_roam 132 = .ok (.iinc 4 1, 3) := by decide +kernel
theorem dX6_roam_135 : decode cX6_roam 135 = .ok (.goto (-117), 3) := by decide +kernel
theorem dX6_roam_138 : decode cX6_roam 138 = .ok (.return_, 1) := by decide +kernel
theorem dX6_paintingLast_0 : decode cX6_paintingLast 0 = .ok (.iconst 0, 1) := by decide +kernel
theorem dX6_paintingLast_1 : decode cX6_paintingLast 1 = .ok (.istore_n 3, 1) := by decide +kernel
theorem dX6_paintingLast_2 : decode cX6_paintingLast 2 = .ok (.iconst 0, 1) := by decide +kernel
theorem dX6_paintingLast_3 : decode cX6_paintingLast 3 = .ok (.istore 4, 2) := by decide +kernel
theorem dX6_paintingLast_5 : decode cX6_paintingLast 5 = .ok (.iload 4, 2) := by decide +kernel
theorem dX6_paintingLast_7 : decode cX6_paintingLast 7 = .ok (.aload_n 0, 1) := by decide +kernel
theorem dX6_paintingLast_8 : decode cX6_paintingLast 8 = .ok (.getfield 37, 3) := by decide +kernel
theorem dX6_paintingLast_11 : decode cX6_paintingLast 11 = .ok (.if_icmp .ge 76, 3) := by decide +kernel
theorem dX6_paintingLast_14 : decode cX6_paintingLast 14 = .ok (.iload_n 1, 1) := by decide +kernel
theorem dX6_paintingLast_15 : decode cX6_paintingLast 15 = .ok (.iload 4, 2) := by decide +kernel
theorem dX6_paintingLast_17 : decode cX6_paintingLast 17 = .ok (.ishr, 1) := by decide +kernel
theorem dX6_paintingLast_18 : decode cX6_paintingLast 18 = .ok (.iconst 1, 1) := by decide +kernel
theorem dX6_paintingLast_19 : decode cX6_paintingLast 19 = .ok (.iand, 1) := by decide +kernel
theorem dX6_paintingLast_20 : decode cX6_paintingLast 20 = .ok (.ifCond .eq 7, 3) := by decide +kernel
theorem dX6_paintingLast_23 : decode cX6_paintingLast 23 = .ok (.iconst 1, 1) := by decide +kernel
theorem dX6_paintingLast_24 : decode cX6_paintingLast 24 = .ok (.goto 4, 3) := by decide +kernel
theorem dX6_paintingLast_27 : decode cX6_paintingLast 27 = .ok (.iconst 0, 1) := by decide +kernel
theorem dX6_paintingLast_28 : decode cX6_paintingLast 28 = .ok (.istore 5, 2) := by decide +kernel
theorem dX6_paintingLast_30 : decode cX6_paintingLast 30 = .ok (.iload 5, 2) := by decide +kernel
theorem dX6_paintingLast_32 : decode cX6_paintingLast 32 = .ok (.ifCond .eq 49, 3) := by decide +kernel
theorem dX6_paintingLast_35 : decode cX6_paintingLast 35 = .ok (.aload_n 0, 1) := by decide +kernel
theorem dX6_paintingLast_36 : decode cX6_paintingLast 36 = .ok (.getfield 15, 3) := by decide +kernel
theorem dX6_paintingLast_39 : decode cX6_paintingLast 39 = .ok (.iload 4, 2) := by decide +kernel
theorem dX6_paintingLast_41 : decode cX6_paintingLast 41 = .ok (.iaload, 1) := by decide +kernel
theorem dX6_paintingLast_42 : decode cX6_paintingLast 42 = .ok (.iload_n 2, 1) := by decide +kernel
theorem dX6_paintingLast_43 : decode cX6_paintingLast 43 = .ok (.if_icmp .gt 38, 3) := by decide +kernel
theorem dX6_paintingLast_46 : decode cX6_paintingLast 46 = .ok (.iload_n 2, 1) := by decide +kernel
theorem dX6_paintingLast_47 : decode cX6_paintingLast 47 = .ok (.aload_n 0, 1) := by decide +kernel
theorem dX6_paintingLast_48 : decode cX6_paintingLast 48 = .ok (.getfield 18, 3) := by decide +kernel
theorem dX6_paintingLast_51 : decode cX6_paintingLast 51 = .ok (.iload 4, 2) := by decide +kernel
theorem dX6_paintingLast_53 : decode cX6_paintingLast 53 = .ok (.iaload, 1) := by decide +kernel
theorem dX6_paintingLast_54 : decode cX6_paintingLast 54 = .ok (.if_icmp .gt 27, 3) := by decide +kernel
theorem dX6_paintingLast_57 : decode cX6_paintingLast 57 = .ok (.iload_n 3, 1) := by decide +kernel
theorem dX6_paintingLast_58 : decode cX6_paintingLast 58 = .ok (.aload_n 0, 1) := by decide +kernel
theorem dX6_paintingLast_59 : decode cX6_paintingLast 59 = .ok (.getfield 24, 3) := by decide +kernel
theorem dX6_paintingLast_62 : decode cX6_paintingLast 62 = .ok (.iload_n 1, 1) := by decide +kernel
theorem dX6_paintingLast_63 : decode cX6_paintingLast 63 = .ok (.iconst 1, 1) := by decide +kernel
theorem dX6_paintingLast_64 : decode cX6_paintingLast 64 = .ok (.iload 4, 2) := by decide +kernel
theorem dX6_paintingLast_66 : decode cX6_paintingLast 66 = .ok (.ishl, 1) := by decide +kernel
theorem dX6_paintingLast_67 : decode cX6_paintingLast 67 = .ok (.ixor, 1) := by decide +kernel
theorem dX6_paintingLast_68 : decode cX6_paintingLast 68 = .ok (.iaload, 1) := by decide +kernel
theorem dX6_paintingLast_69 : decode cX6_paintingLast 69 = .ok (.iconst 1, 1) := by decide +kernel
theorem dX6_paintingLast_70 : decode cX6_paintingLast 70 = .ok (.aload_n 0, 1) := by decide +kernel
theorem dX6_paintingLast_71 : decode cX6_paintingLast 71 = .ok (.getfield 9, 3) := by decide +kernel
theorem dX6_paintingLast_74 : decode cX6_paintingLast 74 = .ok (.iload 4, 2) := by decide +kernel
theorem dX6_paintingLast_76 : decode cX6_paintingLast 76 = .ok (.iaload, 1) := by decide +kernel
theorem dX6_paintingLast_77 : decode cX6_paintingLast 77 = .ok (.ishl, 1) := by decide +kernel
theorem dX6_paintingLast_78 : decode cX6_paintingLast 78 = .ok (.iand, 1) := by decide +kernel
theorem dX6_paintingLast_79 : decode cX6_paintingLast 79 = .ok (.ior, 1) := by decide +kernel
theorem dX6_paintingLast_80 : decode cX6_paintingLast 80 = .ok (.istore_n 3, 1) := by decide +kernel
theorem dX6_paintingLast_81 : decode cX6_paintingLast 81 = .ok (.iinc 4 1, 3) := by decide +kernel
theorem dX6_paintingLast_84 : decode cX6_paintingLast 84 = .ok (.goto (-79), 3) := by decide +kernel
theorem dX6_paintingLast_87 : decode cX6_paintingLast 87 = .ok (.iload_n 3, 1) := by decide +kernel
theorem dX6_paintingLast_88 : decode cX6_paintingLast 88 = .ok (.ireturn, 1) := by decide +kernel
theorem dX7_init_0 : decode cX7_init 0 = .ok (.aload_n 0, 1) := by decide +kernel
theorem dX7_init_1 : decode cX7_init 1 = .ok (.invokespecial 3, 3) := by decide +kernel
theorem dX7_init_4 : decode cX7_init 4 = .ok (.aload_n 0, 1) := by decide +kernel
theorem dX7_init_5 : decode cX7_init 5 = .ok (.bipush 12, 2) := by decide +kernel
theorem dX7_init_7 : decode cX7_init 7 = .ok (.newarray .int, 2) := by decide +kernel
theorem dX7_init_9 : decode cX7_init 9 = .ok (.putfield 9, 3) := by decide +kernel
theorem dX7_init_12 : decode cX7_init 12 = .ok (.aload_n 0, 1) := by decide +kernel
theorem dX7_init_13 : decode cX7_init 13 = .ok (.bipush 12, 2) := by decide +kernel
theorem dX7_init_15 : decode cX7_init 15 = .ok (.newarray .int, 2) := by decide +kernel
theorem dX7_init_17 : decode cX7_init 17 = .ok (.putfield 15, 3) := by decide +kernel
theorem dX7_init_20 : decode cX7_init 20 = .ok (.aload_n 0, 1) := by decide +kernel
theorem dX7_init_21 : decode cX7_init 21 = .ok (.bipush 12, 2) := by decide +kernel
theorem dX7_init_23 : decode cX7_init 23 = .ok (.newarray .int, 2) := by decide +kernel
theorem dX7_init_25 : decode cX7_init 25 = .ok (.putfield 18, 3) := by decide +kernel
theorem dX7_init_28 : decode cX7_init 28 = .ok (.aload_n 0, 1) := by decide +kernel
theorem dX7_init_29 : decode cX7_init 29 = .ok (.iconst 4, 1) := by decide +kernel
theorem dX7_init_30 : decode cX7_init 30 = .ok (.newarray .int, 2) := by decide +kernel
theorem dX7_init_32 : decode cX7_init 32 = .ok (.putfield 21, 3) := by decide +kernel
theorem dX7_init_35 : decode cX7_init 35 = .ok (.aload_n 0, 1) := by decide +kernel
theorem dX7_init_36 : decode cX7_init 36 = .ok (.iconst 4, 1) := by decide +kernel
theorem dX7_init_37 : decode cX7_init 37 = .ok (.newarray .int, 2) := by decide +kernel
theorem dX7_init_39 : decode cX7_init 39 = .ok (.putfield 24, 3) := by decide +kernel
theorem dX7_init_42 : decode cX7_init 42 = .ok (.aload_n 0, 1) := by decide +kernel
theorem dX7_init_43 : decode cX7_init 43 = .ok (.iconst 4, 1) := by decide +kernel
theorem dX7_init_44 : decode cX7_init 44 = .ok (.newarray .int, 2) := by decide +kernel
theorem dX7_init_46 : decode cX7_init 46 = .ok (.putfield 27, 3) := by decide +kernel
theorem dX7_init_49 : decode cX7_init 49 = .ok (.aload_n 0, 1) := by decide +kernel
theorem dX7_init_50 : decode cX7_init 50 = .ok (.iconst 4, 1) := by decide +kernel
theorem dX7_init_51 : decode cX7_init 51 = .ok (.newarray .int, 2) := by decide +kernel
theorem dX7_init_53 : decode cX7_init 53 = .ok (.putfield 30, 3) := by decide +kernel
theorem dX7_init_56 : decode cX7_init 56 = .ok (.aload_n 0, 1) := by decide +kernel
theorem dX7_init_57 : decode cX7_init 57 = .ok (.iconst 3, 1) := by decide +kernel
theorem dX7_init_58 : decode cX7_init 58 = .ok (.newarray .int, 2) := by decide +kernel
theorem dX7_init_60 : decode cX7_init 60 = .ok (.putfield 33, 3) := by decide +kernel
theorem dX7_init_63 : decode cX7_init 63 = .ok (.aload_n 0, 1) := by decide +kernel
theorem dX7_init_64 : decode cX7_init 64 = .ok (.iconst 3, 1) := by decide +kernel
theorem dX7_init_65 : decode cX7_init 65 = .ok (.newarray .int, 2) := by decide +kernel
theorem dX7_init_67 : decode cX7_init 67 = .ok (.putfield 36, 3) := by decide +kernel
theorem dX7_init_70 : decode cX7_init 70 = .ok (.aload_n 0, 1) := by decide +kernel
theorem dX7_init_71 : decode cX7_init 71 = .ok (.bipush 10, 2) := by decide +kernel
theorem dX7_init_73 : decode cX7_init 73 = .ok (.newarray .int, 2) := by decide +kernel
theorem dX7_init_75 : decode cX7_init 75 = .ok (.putfield 39, 3) := by decide +kernel
theorem dX7_init_78 : decode cX7_init 78 = .ok (.aload_n 0, 1) := by decide +kernel
theorem dX7_init_79 : decode cX7_init 79 = .ok (.bipush 10, 2) := by decide +kernel
theorem dX7_init_81 : decode cX7_init 81 = .ok (.newarray .int, 2) := by decide +kernel
theorem dX7_init_83 : decode cX7_init 83 = .ok (.putfield 42, 3) := by decide +kernel
theorem dX7_init_86 : decode cX7_init 86 = .ok (.aload_n 0, 1) := by decide +kernel
theorem dX7_init_87 : decode cX7_init 87 = .ok (.bipush 40, 2) := by decide +kernel
theorem dX7_init_89 : decode cX7_init 89 = .ok (.newarray .int, 2) := by decide +kernel
theorem dX7_init_91 : decode cX7_init 91 = .ok (.putfield 45, 3) := by decide +kernel
theorem dX7_init_94 : decode cX7_init 94 = .ok (.aload_n 0, 1) := by decide +kernel
theorem dX7_init_95 : decode cX7_init 95 = .ok (.bipush 40, 2) := by decide +kernel
theorem dX7_init_97 : decode cX7_init 97 = .ok (.newarray .int, 2) := by decide +kernel
theorem dX7_init_99 : decode cX7_init 99 = .ok (.putfield 48, 3) := by decide +kernel
theorem dX7_init_102 : decode cX7_init 102 = .ok (.aload_n 0, 1) := by decide +kernel
theorem dX7_init_103 : decode cX7_init 103 = .ok (.iconst 3, 1) := by decide +kernel
theorem dX7_init_104 : decode cX7_init 104 = .ok (.newarray .int, 2) := by decide +kernel
theorem dX7_init_106 : decode cX7_init 106 = .ok (.putfield 51, 3) := by decide +kernel
theorem dX7_init_109 : decode cX7_init 109 = .ok (.aload_n 0, 1) := by decide +kernel
theorem dX7_init_110 : decode cX7_init 110 = .ok (.getfield 30, 3) := by decide +kernel
theorem dX7_init_113 : decode cX7_init 113 = .ok (.bipush 10, 2) := by decide +kernel
theorem dX7_init_115 : decode cX7_init 115 = .ok (.invokestatic 54, 3) := by decide +kernel
theorem dX7_init_118 : decode cX7_init 118 = .ok (.aload_n 0, 1) := by decide +kernel
theorem dX7_init_119 : decode cX7_init 119 = .ok (.getfield 33, 3) := by decide +kernel
theorem dX7_init_122 : decode cX7_init 122 = .ok (.iconst 1, 1) := by decide +kernel
theorem dX7_init_123 : decode cX7_init 123 = .ok (.invokestatic 54, 3) := by decide +kernel
theorem dX7_init_126 : decode cX7_init 126 = .ok (.return_, 1) := by decide +kernel
theorem dX7_copyFrom_0 : decode cX7_copyFrom 0 = .ok (.aload_n 1, 1) := by decide +kernel
theorem dX7_copyFrom_1 : decode cX7_copyFrom 1 = .ok (.getfield 9, 3) := by decide +kernel
theorem dX7_copyFrom_4 : decode cX7_copyFrom 4 = .ok (.aload_n 0, 1) := by decide +kernel
theorem dX7_copyFrom_5 : decode cX7_copyFrom 5 = .ok (.getfield 9, 3) := by decide +kernel
theorem dX7_copyFrom_8 : decode cX7_copyFrom 8 = .ok (.invokestatic 60, 3) := by decide +kernel
theorem dX7_copyFrom_11 : decode cX7_copyFrom 11 = .ok (.aload_n 1, 1) := by decide +kernel
theorem dX7_copyFrom_12 : decode cX7_copyFrom 12 = .ok (.getfield 15, 3) := by decide +kernel
theorem dX7_copyFrom_15 : decode cX7_copyFrom 15 = .ok (.aload_n 0, 1) := by decide +kernel
theorem dX7_copyFrom_16 : decode cX7_copyFrom 16 = .ok (.getfield 15, 3) := by decide +kernel
theorem dX7_copyFrom_19 : decode cX7_copyFrom 19 = .ok (.invokestatic 60, 3) := by decide +kernel
theorem dX7_copyFrom_22 : decode cX7_copyFrom 22 = .ok (.aload_n 1, 1) := by decide +kernel
theorem dX7_copyFrom_23 : decode cX7_copyFrom 23 = .ok (.getfield 18, 3) := by decide +kernel
theorem dX7_copyFrom_26 : decode cX7_copyFrom 26 = .ok (.aload_n 0, 1) := by decide +kernel
theorem dX7_copyFrom_27 : decode cX7_copyFrom 27 = .ok (.getfield 18, 3) := by decide +kernel
theorem dX7_copyFrom_30 : decode cX7_copyFrom 30 = .ok (.invokestatic 60, 3) := by decide +kernel
theorem dX7_copyFrom_33 : decode cX7_copyFrom 33 = .ok (.aload_n 0, 1) := by decide +kernel
theorem dX7_copyFrom_34 : decode cX7_copyFrom 34 = .ok (.aload_n 1, 1) := by decide +kernel
theorem dX7_copyFrom_35 : decode cX7_copyFrom 35 = .ok (.getfield 64, 3) := by decide +kernel
theorem dX7_copyFrom_38 : decode cX7_copyFrom 38 = .ok (.putfield 64, 3) := by decide +kernel
theorem dX7_copyFrom_41 : decode cX7_copyFrom 41 = .ok (.aload_n 1, 1) := by decide +kernel
theorem dX7_copyFrom_42 : decode cX7_copyFrom 42 = .ok (.getfield 21, 3) := by decide +kernel
theorem dX7_copyFrom_45 : decode cX7_copyFrom 45 = .ok (.aload_n 0, 1) := by decide +kernel
theorem dX7_copyFrom_46 : decode cX7_copyFrom 46 = .ok (.getfield 21, 3) := by decide +kernel
theorem dX7_copyFrom_49 : decode cX7_copyFrom 49 = .ok (.invokestatic 60, 3) := by decide +kernel
theorem dX7_copyFrom_52 : decode cX7_copyFrom 52 = .ok (.aload_n 1, 1) := by decide +kernel
theorem dX7_copyFrom_53 : decode cX7_copyFrom 53 = .ok (.getfield 24, 3) := by decide +kernel
theorem dX7_copyFrom_56 : decode cX7_copyFrom 56 = .ok (.aload_n 0, 1) := by decide +kernel
theorem dX7_copyFrom_57 : decode cX7_copyFrom 57 = .ok (.getfield 24, 3) := by decide +kernel
theorem dX7_copyFrom_60 : decode cX7_copyFrom 60 = .ok (.invokestatic 60, 3) := by decide +kernel
theorem dX7_copyFrom_63 : decode cX7_copyFrom 63 = .ok (.aload_n 1, 1) := by decide +kernel
theorem dX7_copyFrom_64 : decode cX7_copyFrom 64 = .ok (.getfield 27, 3) := by decide +kernel
theorem dX7_copyFrom_67 : decode cX7_copyFrom 67 = .ok (.aload_n 0, 1) := by decide +kernel
theorem dX7_copyFrom_68 : decode cX7_copyFrom 68 = .ok (.getfield 27, 3) := by decide +kernel
theorem dX7_copyFrom_71 : decode cX7_copyFrom 71 = .ok (.invokestatic 60, 3) := by decide +kernel
theorem dX7_copyFrom_74 : decode cX7_copyFrom 74 = .ok (.aload_n 1, 1) := by decide +kernel
theorem dX7_copyFrom_75 : decode cX7_copyFrom 75 = .ok (.getfield 30, 3) := by decide +kernel
theorem dX7_copyFrom_78 : decode cX7_copyFrom 78 = .ok (.aload_n 0, 1) := by decide +kernel
theorem dX7_copyFrom_79 : decode cX7_copyFrom 79 = .ok (.getfield 30, 3) := by decide +kernel
theorem dX7_copyFrom_82 : decode cX7_copyFrom 82 = .ok (.invokestatic 60, 3) := by decide +kernel
theorem dX7_copyFrom_85 : decode cX7_copyFrom 85 = .ok (.aload_n 1, 1) := by decide +kernel
theorem dX7_copyFrom_86 : decode cX7_copyFrom 86 = .ok (.getfield 33, 3) := by decide +kernel
theorem dX7_copyFrom_89 : decode cX7_copyFrom 89 = .ok (.aload_n 0, 1) := by decide +kernel
theorem dX7_copyFrom_90 : decode cX7_copyFrom 90 = .ok (.getfield 33, 3) := by decide +kernel
theorem dX7_copyFrom_93 : decode cX7_copyFrom 93 = .ok (.invokestatic 60, 3) := by decide +kernel
theorem dX7_copyFrom_96 : decode cX7_copyFrom 96 = .ok (.aload_n 1, 1) := by decide +kernel
theorem dX7_copyFrom_97 : decode cX7_copyFrom 97 = .ok (.getfield 36, 3) := by decide +kernel
