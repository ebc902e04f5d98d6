theorem dX0_init_0 : decode cX0_init 0 = .ok (.aload_n 0, 1) := by decide +kernel
theorem dX0_init_1 : decode cX0_init 1 = .ok (.invokespecial 3, 3) := by decide +kernel
theorem dX0_init_4 : decode cX0_init 4 = .ok (.aload_n 0, 1) := by decide +kernel
theorem dX0_init_5 : decode cX0_init 5 = .ok (.bipush 12, 2) := by decide +kernel
theorem dX0_init_7 : decode cX0_init 7 = .ok (.newarray .int, 2) := by decide +kernel
theorem dX0_init_9 : decode cX0_init 9 = .ok (.putfield 9, 3) := by decide +kernel
theorem dX0_init_12 : decode cX0_init 12 = .ok (.aload_n 0, 1) := by decide +kernel
theorem dX0_init_13 : decode cX0_init 13 = .ok (.bipush 12, 2) := by decide +kernel
theorem dX0_init_15 : decode cX0_init 15 = .ok (.newarray .int, 2) := by decide +kernel
theorem dX0_init_17 : decode cX0_init 17 = .ok (.putfield 15, 3) := by decide +kernel
theorem dX0_init_20 : decode cX0_init 20 = .ok (.aload_n 0, 1) := by decide +kernel
theorem dX0_init_21 : decode cX0_init 21 = .ok (.bipush 12, 2) := by decide +kernel
theorem dX0_init_23 : decode cX0_init 23 = .ok (.newarray .boolean, 2) := by decide +kernel
theorem dX0_init_25 : decode cX0_init 25 = .ok (.putfield 18, 3) := by decide +kernel
theorem dX0_init_28 : decode cX0_init 28 = .ok (.aload_n 0, 1) := by decide +kernel
theorem dX0_init_29 : decode cX0_init 29 = .ok (.bipush 12, 2) := by decide +kernel
theorem dX0_init_31 : decode cX0_init 31 = .ok (.newarray .int, 2) := by decide +kernel
theorem dX0_init_33 : decode cX0_init 33 = .ok (.putfield 22, 3) := by decide +kernel
theorem dX0_init_36 : decode cX0_init 36 = .ok (.aload_n 0, 1) := by decide +kernel
theorem dX0_init_37 : decode cX0_init 37 = .ok (.bipush 12, 2) := by decide +kernel
theorem dX0_init_39 : decode cX0_init 39 = .ok (.newarray .int, 2) := by decide +kernel
theorem dX0_init_41 : decode cX0_init 41 = .ok (.putfield 25, 3) := by decide +kernel
theorem dX0_init_44 : decode cX0_init 44 = .ok (.aload_n 0, 1) := by decide +kernel
theorem dX0_init_45 : decode cX0_init 45 = .ok (.bipush 12, 2) := by decide +kernel
theorem dX0_init_47 : decode cX0_init 47 = .ok (.newarray .long, 2) := by decide +kernel
theorem dX0_init_49 : decode cX0_init 49 = .ok (.putfield 28, 3) := by decide +kernel
theorem dX0_init_52 : decode cX0_init 52 = .ok (.aload_n 0, 1) := by decide +kernel
theorem dX0_init_53 : decode cX0_init 53 = .ok (.bipush 12, 2) := by decide +kernel
theorem dX0_init_55 : decode cX0_init 55 = .ok (.newarray .long, 2) := by decide +kernel
theorem dX0_init_57 : decode cX0_init 57 = .ok (.putfield 32, 3) := by decide +kernel
theorem dX0_init_60 : decode cX0_init 60 = .ok (.aload_n 0, 1) := by decide +kernel
theorem dX0_init_61 : decode cX0_init 61 = .ok (.bipush 12, 2) := by decide +kernel
theorem dX0_init_63 : decode cX0_init 63 = .ok (.newarray .long, 2) := by decide +kernel
theorem dX0_init_65 : decode cX0_init 65 = .ok (.putfield 35, 3) := by decide +kernel
theorem dX0_init_68 : decode cX0_init 68 = .ok (.aload_n 0, 1) := by decide +kernel
theorem dX0_init_69 : decode cX0_init 69 = .ok (.bipush 12, 2) := by decide +kernel
theorem dX0_init_71 : decode cX0_init 71 = .ok (.newarray .long, 2) := by decide +kernel
theorem dX0_init_73 : decode cX0_init 73 = .ok (.putfield 38, 3) := by decide +kernel
theorem dX0_init_76 : decode cX0_init 76 = .ok (.aload_n 0, 1) := by decide +kernel
theorem dX0_init_77 : decode cX0_init 77 = .ok (.bipush 12, 2) := by decide +kernel
theorem dX0_init_79 : decode cX0_init 79 = .ok (.newarray .boolean, 2) := by decide +kernel
theorem dX0_init_81 : decode cX0_init 81 = .ok (.putfield 41, 3) := by decide +kernel
theorem dX0_init_84 : decode cX0_init 84 = .ok (.aload_n 0, 1) := by decide +kernel
theorem dX0_init_85 : decode cX0_init 85 = .ok (.bipush 12, 2) := by decide +kernel
theorem dX0_init_87 : decode cX0_init 87 = .ok (.newarray .boolean, 2) := by decide +kernel
theorem dX0_init_89 : decode cX0_init 89 = .ok (.putfield 44, 3) := by decide +kernel
theorem dX0_init_92 : decode cX0_init 92 = .ok (.aload_n 0, 1) := by decide +kernel
theorem dX0_init_93 : decode cX0_init 93 = .ok (.iconst 0, 1) := by decide +kernel
theorem dX0_init_94 : decode cX0_init 94 = .ok (.putfield 47, 3) := by decide +kernel
theorem dX0_init_97 : decode cX0_init 97 = .ok (.return_, 1) := by decide +kernel
theorem dX0_has_0 : decode cX0_has 0 = .ok (.iload_n 1, 1) := by decide +kernel
theorem dX0_has_1 : decode cX0_has 1 = .ok (.ifCond .lt 15, 3) := by decide +kernel
theorem dX0_has_4 : decode cX0_has 4 = .ok (.iload_n 1, 1) := by decide +kernel
theorem dX0_has_5 : decode cX0_has 5 = .ok (.aload_n 0, 1) := by decide +kernel
theorem dX0_has_6 : decode cX0_has 6 = .ok (.getfield 47, 3) := by decide +kernel
theorem dX0_has_9 : decode cX0_has 9 = .ok (.if_icmp .ge 7, 3) := by decide +kernel
theorem dX0_has_12 : decode cX0_has 12 = .ok (.iconst 1, 1) := by decide +kernel
theorem dX0_has_13 : decode cX0_has 13 = .ok (.goto 4, 3) := by decide +kernel
theorem dX0_has_16 : decode cX0_has 16 = .ok (.iconst 0, 1) := by decide +kernel
theorem dX0_has_17 : decode cX0_has 17 = .ok (.ireturn, 1) := by decide +kernel
theorem dX0_wipe_0 : decode cX0_wipe 0 = .ok (.aload_n 0, 1) := by decide +kernel
theorem dX0_wipe_1 : decode cX0_wipe 1 = .ok (.iconst 0, 1) := by decide +kernel
theorem dX0_wipe_2 : decode cX0_wipe 2 = .ok (.putfield 47, 3) := by decide +kernel
theorem dX0_wipe_5 : decode cX0_wipe 5 = .ok (.return_, 1) := by decide +kernel
theorem dX0_open_0 : decode cX0_open 0 = .ok (.aload_n 0, 1) := by decide +kernel
theorem dX0_open_1 : decode cX0_open 1 = .ok (.getfield 47, 3) := by decide +kernel
theorem dX0_open_4 : decode cX0_open 4 = .ok (.bipush 12, 2) := by decide +kernel
theorem dX0_open_6 : decode cX0_open 6 = .ok (.if_icmp .ge 53, 3) := by decide +kernel
theorem dX0_open_9 : decode cX0_open 9 = .ok (.aload_n 0, 1) := by decide +kernel
theorem dX0_open_10 : decode cX0_open 10 = .ok (.getfield 9, 3) := by decide +kernel
theorem dX0_open_13 : decode cX0_open 13 = .ok (.aload_n 0, 1) := by decide +kernel
theorem dX0_open_14 : decode cX0_open 14 = .ok (.getfield 47, 3) := by decide +kernel
theorem dX0_open_17 : decode cX0_open 17 = .ok (.iload_n 1, 1) := by decide +kernel
theorem dX0_open_18 : decode cX0_open 18 = .ok (.iastore, 1) := by decide +kernel
theorem dX0_open_19 : decode cX0_open 19 = .ok (.aload_n 0, 1) := by decide +kernel
theorem dX0_open_20 : decode cX0_open 20 = .ok (.getfield 15, 3) := by decide +kernel
theorem dX0_open_23 : decode cX0_open 23 = .ok (.aload_n 0, 1) := by decide +kernel
theorem dX0_open_24 : decode cX0_open 24 = .ok (.getfield 47, 3) := by decide +kernel
theorem dX0_open_27 : decode cX0_open 27 = .ok (.iconst (-1), 1) := by decide +kernel
theorem dX0_open_28 : decode cX0_open 28 = .ok (.iastore, 1) := by decide +kernel
theorem dX0_open_29 : decode cX0_open 29 = .ok (.aload_n 0, 1) := by decide +kernel
theorem dX0_open_30 : decode cX0_open 30 = .ok (.getfield 41, 3) := by decide +kernel
theorem dX0_open_33 : decode cX0_open 33 = .ok (.aload_n 0, 1) := by decide +kernel
theorem dX0_open_34 : decode cX0_open 34 = .ok (.getfield 47, 3) := by decide +kernel
theorem dX0_open_37 : decode cX0_open 37 = .ok (.iconst 0, 1) := by decide +kernel
theorem dX0_open_38 : decode cX0_open 38 = .ok (.bastore, 1) := by decide +kernel
theorem dX0_open_39 : decode cX0_open 39 = .ok (.aload_n 0, 1) := by decide +kernel
theorem dX0_open_40 : decode cX0_open 40 = .ok (.getfield 44, 3) := by decide +kernel
theorem dX0_open_43 : decode cX0_open 43 = .ok (.aload_n 0, 1) := by decide +kernel
theorem dX0_open_44 : decode cX0_open 44 = .ok (.getfield 47, 3) := by decide +kernel
theorem dX0_open_47 : decode cX0_open 47 = .ok (.iconst 0, 1) := by decide +kernel
theorem dX0_open_48 : decode cX0_open 48 = .ok (.bastore, 1) := by decide +kernel
theorem dX0_open_49 : decode cX0_open 49 = .ok (.aload_n 0, 1) := by decide +kernel
theorem dX0_open_50 : decode cX0_open 50 = .ok (.dup, 1) := by decide +kernel
theorem dX0_open_51 : decode cX0_open 51 = .ok (.getfield 47, 3) := by decide +kernel
theorem dX0_open_54 : decode cX0_open 54 = .ok (.iconst 1, 1) := by decide +kernel
theorem dX0_open_55 : decode cX0_open 55 = .ok (.iadd, 1) := by decide +kernel
theorem dX0_open_56 : decode cX0_open 56 = .ok (.putfield 47, 3) := by decide +kernel
theorem dX0_open_59 : decode cX0_open 59 = .ok (.return_, 1) := by decide +kernel
theorem dX0_setTimes_0 : decode cX0_setTimes 0 = .ok (.aload_n 0, 1) := by decide +kernel
theorem dX0_setTimes_1 : decode cX0_setTimes 1 = .ok (.getfield 47, 3) := by decide +kernel
theorem dX0_setTimes_4 : decode cX0_setTimes 4 = .ok (.iconst 1, 1) := by decide +kernel
theorem dX0_setTimes_5 : decode cX0_setTimes 5 = .ok (.isub, 1) := by decide +kernel
theorem dX0_setTimes_6 : decode cX0_setTimes 6 = .ok (.istore 4, 2) := by decide +kernel
theorem dX0_setTimes_8 : decode cX0_setTimes 8 = .ok (.aload_n 0, 1) := by decide +kernel
theorem dX0_setTimes_9 : decode cX0_setTimes 9 = .ok (.iload 4, 2) := by decide +kernel
theorem dX0_setTimes_11 : decode cX0_setTimes 11 = .ok (.invokevirtual 51, 3) := by decide +kernel
theorem dX0_setTimes_14 : decode cX0_setTimes 14 = .ok (.ifCond .eq 46, 3) := by decide +kernel
theorem dX0_setTimes_17 : decode cX0_setTimes 17 = .ok (.aload_n 0, 1) := by decide +kernel
theorem dX0_setTimes_18 : decode cX0_setTimes 18 = .ok (.getfield 28, 3) := by decide +kernel
theorem dX0_setTimes_21 : decode cX0_setTimes 21 = .ok (.iload 4, 2) := by decide +kernel
theorem dX0_setTimes_23 : decode cX0_setTimes 23 = .ok (.iload_n 1, 1) := by decide +kernel
theorem dX0_setTimes_24 : decode cX0_setTimes 24 = .ok (.i2l, 1) := by decide +kernel
theorem dX0_setTimes_25 : decode cX0_setTimes 25 = .ok (.lastore, 1) := by decide +kernel
theorem dX0_setTimes_26 : decode cX0_setTimes 26 = .ok (.aload_n 0, 1) := by decide +kernel
theorem dX0_setTimes_27 : decode cX0_setTimes 27 = .ok (.getfield 32, 3) := by decide +kernel
theorem dX0_setTimes_30 : decode cX0_setTimes 30 = .ok (.iload 4, 2) := by decide +kernel
theorem dX0_setTimes_32 : decode cX0_setTimes 32 = .ok (.iload_n 2, 1) := by decide +kernel
theorem dX0_setTimes_33 : decode cX0_setTimes 33 = .ok (.i2l, 1) := by decide +kernel
theorem dX0_setTimes_34 : decode cX0_setTimes 34 = .ok (.lastore, 1) := by decide +kernel
theorem dX0_setTimes_35 : decode cX0_setTimes 35 = .ok (.aload_n 0, 1) := by decide +kernel
theorem dX0_setTimes_36 : decode cX0_setTimes 36 = .ok (.getfield 35, 3) := by decide +kernel
theorem dX0_setTimes_39 : decode cX0_setTimes 39 = .ok (.iload 4, 2) := by decide +kernel
theorem dX0_setTimes_41 : decode cX0_setTimes 41 = .ok (.iload_n 3, 1) := by decide +kernel
theorem dX0_setTimes_42 : decode cX0_setTimes 42 = .ok (.i2l, 1) := by decide +kernel
theorem dX0_setTimes_43 : decode cX0_setTimes 43 = .ok (.lastore, 1) := by decide +kernel
theorem dX0_setTimes_44 : decode cX0_setTimes 44 = .ok (.aload_n 0, 1) := by decide +kernel
theorem dX0_setTimes_45 : decode cX0_setTimes 45 = .ok (.getfield 38, 3) := by decide +kernel
theorem dX0_setTimes_48 : decode cX0_setTimes 48 = .ok (.iload 4, 2) := by decide +kernel
theorem dX0_setTimes_50 : decode cX0_setTimes 50 = .ok (.lconst 1, 1) := by decide +kernel
theorem dX0_setTimes_51 : decode cX0_setTimes 51 = .ok (.lastore, 1) := by decide +kernel
theorem dX0_setTimes_52 : decode cX0_setTimes 52 = .ok (.aload_n 0, 1) := by decide +kernel
theorem dX0_setTimes_53 : decode cX0_setTimes 53 = .ok (.getfield 41, 3) := by decide +kernel
theorem dX0_setTimes_56 : decode cX0_setTimes 56 = .ok (.iload 4, 2) := by decide +kernel
theorem dX0_setTimes_58 : decode cX0_setTimes 58 = .ok (.iconst 1, 1) := by decide +kernel
theorem dX0_setTimes_59 : decode cX0_setTimes 59 = .ok (.bastore, 1) := by decide +kernel
theorem dX0_setTimes_60 : decode cX0_setTimes 60 = .ok (.return_, 1) := by decide +kernel
theorem dX0_setRatio_0 : decode cX0_setRatio 0 = .ok (.aload_n 0, 1) := by decide +kernel
theorem dX0_setRatio_1 : decode cX0_setRatio 1 = .ok (.getfield 47, 3) := by decide +kernel
theorem dX0_setRatio_4 : decode cX0_setRatio 4 = .ok (.iconst 1, 1) := by decide +kernel
theorem dX0_setRatio_5 : decode cX0_setRatio 5 = .ok (.isub, 1) := by decide +kernel
theorem dX0_setRatio_6 : decode cX0_setRatio 6 = .ok (.istore 4, 2) := by decide +kernel
theorem dX0_setRatio_8 : decode cX0_setRatio 8 = .ok (.aload_n 0, 1) := by decide +kernel
theorem dX0_setRatio_9 : decode cX0_setRatio 9 = .ok (.iload 4, 2) := by decide +kernel
theorem dX0_setRatio_11 : decode cX0_setRatio 11 = .ok (.invokevirtual 51, 3) := by decide +kernel
theorem dX0_setRatio_14 : decode cX0_setRatio 14 = .ok (.ifCond .eq 27, 3) := by decide +kernel
theorem dX0_setRatio_17 : decode cX0_setRatio 17 = .ok (.aload_n 0, 1) := by decide +kernel
theorem dX0_setRatio_18 : decode cX0_setRatio 18 = .ok (.getfield 22, 3) := by decide +kernel
theorem dX0_setRatio_21 : decode cX0_setRatio 21 = .ok (.iload 4, 2) := by decide +kernel
theorem dX0_setRatio_23 : decode cX0_setRatio 23 = .ok (.iload_n 1, 1) := by decide +kernel
theorem dX0_setRatio_24 : decode cX0_setRatio 24 = .ok (.iastore, 1) := by decide +kernel
theorem dX0_setRatio_25 : decode cX0_setRatio 25 = .ok (.aload_n 0, 1) := by decide +kernel
theorem dX0_setRatio_26 : decode cX0_setRatio 26 = .ok (.getfield 25, 3) := by decide +kernel
theorem dX0_setRatio_29 : decode cX0_setRatio 29 = .ok (.iload 4, 2) := by decide +kernel
theorem dX0_setRatio_31 : decode cX0_setRatio 31 = .ok (.iload_n 2, 1) := by decide +kernel
theorem dX0_setRatio_32 : decode cX0_setRatio 32 = .ok (.iastore, 1) := by decide +kernel
theorem dX0_setRatio_33 : decode cX0_setRatio 33 = .ok (.aload_n 0, 1) := by decide +kernel
theorem dX0_setRatio_34 : decode cX0_setRatio 34 = .ok (.getfield 18, 3) := by decide +kernel
theorem dX0_setRatio_37 : decode cX0_setRatio 37 = .ok (.iload 4, 2) := by decide +kernel
theorem dX0_setRatio_39 : decode cX0_setRatio 39 = .ok (.iload_n 3, 1) := by decide +kernel
theorem dX0_setRatio_40 : decode cX0_setRatio 40 = .ok (.bastore, 1) := by decide +kernel
theorem dX0_setRatio_41 : decode cX0_setRatio 41 = .ok (.return_, 1) := by decide +kernel
theorem dX0_inRing_0 : decode cX0_inRing 0 = .ok (.iload_n 1, 1) := by decide +kernel
theorem dX0_inRing_1 : decode cX0_inRing 1 = .ok (.istore_n 2, 1) := by decide +kernel
theorem dX0_inRing_2 : decode cX0_inRing 2 = .ok (.iconst 0, 1) := by decide +kernel
theorem dX0_inRing_3 : decode cX0_inRing 3 = .ok (.istore_n 3, 1) := by decide +kernel
theorem dX0_inRing_4 : decode cX0_inRing 4 = .ok (.iload_n 3, 1) := by decide +kernel
theorem dX0_inRing_5 : decode cX0_inRing 5 = .ok (.bipush 12, 2) := by decide +kernel
theorem dX0_inRing_7 : decode cX0_inRing 7 = .ok (.if_icmp .ge 31, 3) := by decide +kernel
theorem dX0_inRing_10 : decode cX0_inRing 10 = .ok (.aload_n 0, 1) := by decide +kernel
theorem dX0_inRing_11 : decode cX0_inRing 11 = .ok (.iload_n 2, 1) := by decide +kernel
theorem dX0_inRing_12 : decode cX0_inRing 12 = .ok (.invokevirtual 51, 3) := by decide +kernel
theorem dX0_inRing_15 : decode cX0_inRing 15 = .ok (.ifCond .eq 23, 3) := by decide +kernel
theorem dX0_inRing_18 : decode cX0_inRing 18 = .ok (.aload_n 0, 1) := by decide +kernel
theorem dX0_inRing_19 : decode cX0_inRing 19 = .ok (.getfield 15, 3) := by decide +kernel
theorem dX0_inRing_22 : decode cX0_inRing 22 = .ok (.iload_n 2, 1) := by decide +kernel
theorem dX0_inRing_23 : decode cX0_inRing 23 = .ok (.iaload, 1) := by decide +kernel
theorem dX0_inRing_24 : decode cX0_inRing 24 = .ok (.istore_n 2, 1) := by decide +kernel
theorem dX0_inRing_25 : decode cX0_inRing 25 = .ok (.iload_n 2, 1) := by decide +kernel
theorem dX0_inRing_26 : decode cX0_inRing 26 = .ok (.iload_n 1, 1) := by decide +kernel
theorem dX0_inRing_27 : decode cX0_inRing 27 = .ok (.if_icmp .ne 5, 3) := by decide +kernel
theorem dX0_inRing_30 : decode cX0_inRing 30 = .ok (.iconst 1, 1) := by decide +kernel
theorem dX0_inRing_31 : decode cX0_inRing 31 = .ok (.ireturn, 1) := by decide +kernel
theorem dX0_inRing_32 : decode cX0_inRing 32 = .ok (.iinc 3 1, 3) := by decide +kernel
theorem dX0_inRing_35 : decode cX0_inRing 35 = .ok (.goto (-31), 3) := by decide +kernel
theorem dX0_inRing_38 : decode cX0_inRing 38 = .ok (.iconst 0, 1) := by decide +kernel
theorem dX0_inRing_39 : decode cX0_inRing 39 = .ok (.ireturn, 1) := by decide +kernel
theorem dX0_settleAll_0 : decode cX0_settleAll 0 = .ok (.iconst 0, 1) := by decide +kernel
theorem dX0_settleAll_1 : decode cX0_settleAll 1 = .ok (.istore_n 1, 1) := by decide +kernel
theorem dX0_settleAll_2 : decode cX0_settleAll 2 = .ok (.iload_n 1, 1) := by decide +kernel
theorem dX0_settleAll_3 : decode cX0_settleAll 3 = .ok (.aload_n 0, 1) := by decide +kernel
theorem dX0_settleAll_4 : decode cX0_settleAll 4 = .ok (.getfield 47, 3) := by decide +kernel
theorem dX0_settleAll_7 : decode cX0_settleAll 7 = .ok (.if_icmp .ge 64, 3) := by decide +kernel
theorem dX0_settleAll_10 : decode cX0_settleAll 10 = .ok (.iconst 0, 1) := by decide +kernel
theorem dX0_settleAll_11 : decode cX0_settleAll 11 = .ok (.istore_n 2, 1) := by decide +kernel
theorem dX0_settleAll_12 : decode cX0_settleAll 12 = .ok (.iload_n 2, 1) := by decide +kernel
theorem dX0_settleAll_13 : decode cX0_settleAll 13 = .ok (.aload_n 0, 1) := by decide +kernel
theorem dX0_settleAll_14 : decode cX0_settleAll 14 = .ok (.getfield 47, 3) := by decide +kernel
theorem dX0_settleAll_17 : decode cX0_settleAll 17 = .ok (.if_icmp .ge 48, 3) := by decide +kernel
theorem dX0_settleAll_20 : decode cX0_settleAll 20 = .ok (.aload_n 0, 1) := by decide +kernel
theorem dX0_settleAll_21 : decode cX0_settleAll 21 = .ok (.getfield 15, 3) := by decide +kernel
theorem dX0_settleAll_24 : decode cX0_settleAll 24 = .ok (.iload_n 2, 1) := by decide +kernel
theorem dX0_settleAll_25 : decode cX0_settleAll 25 = .ok (.iaload, 1) := by decide +kernel
theorem dX0_settleAll_26 : decode cX0_settleAll 26 = .ok (.istore_n 3, 1) := by decide +kernel
theorem dX0_settleAll_27 : decode cX0_settleAll 27 = .ok (.aload_n 0, 1) := by decide +kernel
theorem dX0_settleAll_28 : decode cX0_settleAll 28 = .ok (.getfield 41, 3) := by decide +kernel
theorem dX0_settleAll_31 : decode cX0_settleAll 31 = .ok (.iload_n 2, 1) := by decide +kernel
theorem dX0_settleAll_32 : decode cX0_settleAll 32 = .ok (.baload, 1) := by decide +kernel
theorem dX0_settleAll_33 : decode cX0_settleAll 33 = .ok (.ifCond .ne 26, 3) := by decide +kernel
theorem dX0_settleAll_36 : decode cX0_settleAll 36 = .ok (.aload_n 0, 1) := by decide +kernel
theorem dX0_settleAll_37 : decode cX0_settleAll 37 = .ok (.iload_n 3, 1) := by decide +kernel
theorem dX0_settleAll_38 : decode cX0_settleAll 38 = .ok (.invokevirtual 51, 3) := by decide +kernel
theorem dX0_settleAll_41 : decode cX0_settleAll 41 = .ok (.ifCond .eq 18, 3) := by decide +kernel
theorem dX0_settleAll_44 : decode cX0_settleAll 44 = .ok (.aload_n 0, 1) := by decide +kernel
theorem dX0_settleAll_45 : decode cX0_settleAll 45 = .ok (.getfield 41, 3) := by decide +kernel
theorem dX0_settleAll_48 : decode cX0_settleAll 48 = .ok (.iload_n 3, 1) := by decide +kernel
theorem dX0_settleAll_49 : decode cX0_settleAll 49 = .ok (.baload, 1) := by decide +kernel
theorem dX0_settleAll_50 : decode cX0_settleAll 50 = .ok (.ifCond .eq 9, 3) := by decide +kernel
theorem dX0_settleAll_53 : decode cX0_settleAll 53 = .ok (.aload_n 0, 1) := by decide +kernel
theorem dX0_settleAll_54 : decode cX0_settleAll 54 = .ok (.iload_n 2, 1) := by decide +kernel
theorem dX0_settleAll_55 : decode cX0_settleAll 55 = .ok (.iload_n 3, 1) := by decide +kernel
theorem dX0_settleAll_56 : decode cX0_settleAll 56 = .ok (.invokevirtual 55, 3) := by decide +kernel
theorem dX0_settleAll_59 : decode cX0_settleAll 59 = .ok (.iinc 2 1, 3) := by decide +kernel
theorem dX0_settleAll_62 : decode cX0_settleAll 62 = .ok (.goto (-50), 3) := by decide +kernel
theorem dX0_settleAll_65 : decode cX0_settleAll 65 = .ok (.iinc 1 1, 3) := by decide +kernel
theorem dX0_settleAll_68 : decode cX0_settleAll 68 = .ok (.goto (-66), 3) := by decide +kernel
theorem dX0_settleAll_71 : decode cX0_settleAll 71 = .ok (.return_, 1) := by decide +kernel
theorem dX0_settle_0 : decode cX0_settle 0 = .ok (.aload_n 0, 1) := by decide +kernel
theorem dX0_settle_1 : decode cX0_settle 1 = .ok (.getfield 41, 3) := by decide +kernel
theorem dX0_settle_4 : decode cX0_settle 4 = .ok (.iload_n 1, 1) := by decide +kernel
theorem dX0_settle_5 : decode cX0_settle 5 = .ok (.iconst 1, 1) := by decide +kernel
theorem dX0_settle_6 : decode cX0_settle 6 = .ok (.bastore, 1) := by decide +kernel
theorem dX0_settle_7 : decode cX0_settle 7 = .ok (.aload_n 0, 1) := by decide +kernel
theorem dX0_settle_8 : decode cX0_settle 8 = .ok (.getfield 44, 3) := by decide +kernel
theorem dX0_settle_11 : decode cX0_settle 11 = .ok (.iload_n 1, 1) := by decide +kernel
theorem dX0_settle_12 : decode cX0_settle 12 = .ok (.aload_n 0, 1) := by decide +kernel
theorem dX0_settle_13 : decode cX0_settle 13 = .ok (.getfield 44, 3) := by decide +kernel
theorem dX0_settle_16 : decode cX0_settle 16 = .ok (.iload_n 2, 1) := by decide +kernel
theorem dX0_settle_17 : decode cX0_settle 17 = .ok (.baload, 1) := by decide +kernel
theorem dX0_settle_18 : decode cX0_settle 18 = .ok (.bastore, 1) := by decide +kernel
theorem dX0_settle_19 : decode cX0_settle 19 = .ok (.aload_n 0, 1) := by decide +kernel
theorem dX0_settle_20 : decode cX0_settle 20 = .ok (.getfield 44, 3) := by decide +kernel
theorem dX0_settle_23 : decode cX0_settle 23 = .ok (.iload_n 2, 1) := by decide +kernel
theorem dX0_settle_24 : decode cX0_settle 24 = .ok (.baload, 1) := by decide +kernel
theorem dX0_settle_25 : decode cX0_settle 25 = .ok (.ifCond .eq 4, 3) := by decide +kernel
theorem dX0_settle_28 : decode cX0_settle 28 = .ok (.return_, 1) := by decide +kernel
theorem dX0_settle_29 : decode cX0_settle 29 = .ok (.aload_n 0, 1) := by decide +kernel
theorem dX0_settle_30 : decode cX0_settle 30 = .ok (.getfield 28, 3) := by decide +kernel
theorem dX0_settle_33 : decode cX0_settle 33 = .ok (.iload_n 2, 1) := by decide +kernel
theorem dX0_settle_34 : decode cX0_settle 34 = .ok (.laload, 1) := by decide +kernel
theorem dX0_settle_35 : decode cX0_settle 35 = .ok (.aload_n 0, 1) := by decide +kernel
theorem dX0_settle_36 : decode cX0_settle 36 = .ok (.getfield 22, 3) := by decide +kernel
theorem dX0_settle_39 : decode cX0_settle 39 = .ok (.iload_n 1, 1) := by decide +kernel
theorem dX0_settle_40 : decode cX0_settle 40 = .ok (.iaload, 1) := by decide +kernel
theorem dX0_settle_41 : decode cX0_settle 41 = .ok (.i2l, 1) := by decide +kernel
theorem dX0_settle_42 : decode cX0_settle 42 = .ok (.lmul, 1) := by decide +kernel
theorem dX0_settle_43 : decode cX0_settle 43 = .ok (.lstore_n 3, 1) := by decide +kernel
theorem dX0_settle_44 : decode cX0_settle 44 = .ok (.aload_n 0, 1) := by decide +kernel
theorem dX0_settle_45 : decode cX0_settle 45 = .ok (.getfield 18, 3) := by decide +kernel
theorem dX0_settle_48 : decode cX0_settle 48 = .ok (.iload_n 1, 1) := by decide +kernel
theorem dX0_settle_49 : decode cX0_settle 49 = .ok (.baload, 1) := by decide +kernel
theorem dX0_settle_50 : decode cX0_settle 50 = .ok (.ifCond .eq 12, 3) := by decide +kernel
theorem dX0_settle_53 : decode cX0_settle 53 = .ok (.aload_n 0, 1) := by decide +kernel
theorem dX0_settle_54 : decode cX0_settle 54 = .ok (.getfield 35, 3) := by decide +kernel
theorem dX0_settle_57 : decode cX0_settle 57 = .ok (.iload_n 2, 1) := by decide +kernel
theorem dX0_settle_58 : decode cX0_settle 58 = .ok (.laload, 1) := by decide +kernel
theorem dX0_settle_59 : decode cX0_settle 59 = .ok (.goto 9, 3) := by decide +kernel
theorem dX0_settle_62 : decode cX0_settle 62 = .ok (.aload_n 0, 1) := by decide +kernel
theorem dX0_settle_63 : decode cX0_settle 63 = .ok (.getfield 32, 3) := by decide +kernel
theorem dX0_settle_66 : decode cX0_settle 66 = .ok (.iload_n 2, 1) := by decide +kernel
theorem dX0_settle_67 : decode cX0_settle 67 = .ok (.laload, 1) := by decide +kernel
theorem dX0_settle_68 : decode cX0_settle 68 = .ok (.aload_n 0, 1) := by decide +kernel
theorem dX0_settle_69 : decode cX0_settle 69 = .ok (.getfield 22, 3) := by decide +kernel
theorem dX0_settle_72 : decode cX0_settle 72 = .ok (.iload_n 1, 1) := by decide +kernel
theorem dX0_settle_73 : decode cX0_settle 73 = .ok (.iaload, 1) := by decide +kernel
theorem dX0_settle_74 : decode cX0_settle 74 = .ok (.i2l, 1) := by decide +kernel
theorem dX0_settle_75 : decode cX0_settle 75 = .ok (.lmul, 1) := by decide +kernel
theorem dX0_settle_76 : decode cX0_settle 76 = .ok (.lstore 5, 2) := by decide +kernel
theorem dX0_settle_78 : decode cX0_settle 78 = .ok (.aload_n 0, 1) := by decide +kernel
theorem dX0_settle_79 : decode cX0_settle 79 = .ok (.getfield 18, 3) := by decide +kernel
theorem dX0_settle_82 : decode cX0_settle 82 = .ok (.iload_n 1, 1) := by decide +kernel
theorem dX0_settle_83 : decode cX0_settle 83 = .ok (.baload, 1) := by decide +kernel
theorem dX0_settle_84 : decode cX0_settle 84 = .ok (.ifCond .eq 12, 3) := by decide +kernel
theorem dX0_settle_87 : decode cX0_settle 87 = .ok (.aload_n 0, 1) := by decide +kernel
theorem dX0_settle_88 : decode cX0_settle 88 = .ok (.getfield 32, 3) := by decide +kernel
theorem dX0_settle_91 : decode cX0_settle 91 = .ok (.iload_n 2, 1) := by decide +kernel
theorem dX0_settle_92 : decode cX0_settle 92 = .ok (.laload, 1) := by decide +kernel
theorem dX0_settle_93 : decode cX0_settle 93 = .ok (.goto 9, 3) := by decide +kernel
theorem dX0_settle_96 : decode cX0_settle 96 = .ok (.aload_n 0, 1) := by decide +kernel
theorem dX0_settle_97 : decode cX0_settle 97 = .ok (.getfield 35, 3) := by decide +kernel
theorem dX0_settle_100 : decode cX0_settle 100 = .ok (.iload_n 2, 1) := by decide +kernel
theorem dX0_settle_101 : decode cX0_settle 101 = .ok (.laload, 1) := by decide +kernel
theorem dX0_settle_102 : decode cX0_settle 102 = .ok (.aload_n 0, 1) := by decide +kernel
theorem dX0_settle_103 : decode cX0_settle 103 = .ok (.getfield 22, 3) := by decide +kernel
theorem dX0_settle_106 : decode cX0_settle 106 = .ok (.iload_n 1, 1) := by decide +kernel
theorem dX0_settle_107 : decode cX0_settle 107 = .ok (.iaload, 1) := by decide +kernel
theorem dX0_settle_108 : decode cX0_settle 108 = .ok (.i2l, 1) := by decide +kernel
theorem dX0_settle_109 : decode cX0_settle 109 = .ok (.lmul, 1) := by decide +kernel
theorem dX0_settle_110 : decode cX0_settle 110 = .ok (.lstore 7, 2) := by decide +kernel
theorem dX0_settle_112 : decode cX0_settle 112 = .ok (.aload_n 0, 1) := by decide +kernel
theorem dX0_settle_113 : decode cX0_settle 113 = .ok (.getfield 38, 3) := by decide +kernel
theorem dX0_settle_116 : decode cX0_settle 116 = .ok (.iload_n 2, 1) := by decide +kernel
theorem dX0_settle_117 : decode cX0_settle 117 = .ok (.laload, 1) := by decide +kernel
theorem dX0_settle_118 : decode cX0_settle 118 = .ok (.aload_n 0, 1) := by decide +kernel
theorem dX0_settle_119 : decode cX0_settle 119 = .ok (.getfield 25, 3) := by decide +kernel
theorem dX0_settle_122 : decode cX0_settle 122 = .ok (.iload_n 1, 1) := by decide +kernel
theorem dX0_settle_123 : decode cX0_settle 123 = .ok (.iaload, 1) := by decide +kernel
theorem dX0_settle_124 : decode cX0_settle 124 = .ok (.i2l, 1) := by decide +kernel
theorem dX0_settle_125 : decode cX0_settle 125 = .ok (.lmul, 1) := by decide +kernel
theorem dX0_settle_126 : decode cX0_settle 126 = .ok (.lstore 9, 2) := by decide +kernel
theorem dX0_settle_128 : decode cX0_settle 128 = .ok (.lload_n 3, 1) := by decide +kernel
theorem dX0_settle_129 : decode cX0_settle 129 = .ok (.lload 5, 2) := by decide +kernel
theorem dX0_settle_131 : decode cX0_settle 131 = .ok (.invokestatic 59, 3) := by decide +kernel
theorem dX0_settle_134 : decode cX0_settle 134 = .ok (.lload 7, 2) := by decide +kernel
theorem dX0_settle_136 : decode cX0_settle 136 = .ok (.lload 9, 2) := by decide +kernel
theorem dX0_settle_138 : decode cX0_settle 138 = .ok (.invokestatic 59, 3) := by decide +kernel
theorem dX0_settle_141 : decode cX0_settle 141 = .ok (.invokestatic 59, 3) := by decide +kernel
theorem dX0_settle_144 : decode cX0_settle 144 = .ok (.lstore 11, 2) := by decide +kernel
theorem dX0_settle_146 : decode cX0_settle 146 = .ok (.aload_n 0, 1) := by decide +kernel
theorem dX0_settle_147 : decode cX0_settle 147 = .ok (.getfield 28, 3) := by decide +kernel
theorem dX0_settle_150 : decode cX0_settle 150 = .ok (.iload_n 1, 1) := by decide +kernel
theorem dX0_settle_151 : decode cX0_settle 151 = .ok (.lload_n 3, 1) := by decide +kernel
theorem dX0_settle_152 : decode cX0_settle 152 = .ok (.lload 11, 2) := by decide +kernel
theorem dX0_settle_154 : decode cX0_settle 154 = .ok (.ldiv, 1) := by decide +kernel
theorem dX0_settle_155 : decode cX0_settle 155 = .ok (.lastore, 1) := by decide +kernel
theorem dX0_settle_156 : decode cX0_settle 156 = .ok (.aload_n 0, 1) := by decide +kernel
theorem dX0_settle_157 : decode cX0_settle 157 = .ok (.getfield 32, 3) := by decide +kernel
theorem dX0_settle_160 : decode cX0_settle 160 = .ok (.iload_n 1, 1) := by decide +kernel
theorem dX0_settle_161 : decode cX0_settle 161 = .ok (.lload 5, 2) := by decide +kernel
theorem dX0_settle_163 : decode cX0_settle 163 = .ok (.lload 11, 2) := by decide +kernel
theorem dX0_settle_165 : decode cX0_settle 165 = .ok (.ldiv, 1) := by decide +kernel
theorem dX0_settle_166 : decode cX0_settle 166 = .ok (.lastore, 1) := by decide +kernel
theorem dX0_settle_167 : decode cX0_settle 167 = .ok (.aload_n 0, 1) := by decide +kernel
theorem dX0_settle_168 : decode cX0_settle 168 = .ok (.getfield 35, 3) := by decide +kernel
theorem dX0_settle_171 : decode cX0_settle 171 = .ok (.iload_n 1, 1) := by decide +kernel
theorem dX0_settle_172 : decode cX0_settle 172 = .ok (.lload 7, 2) := by decide +kernel
theorem dX0_settle_174 : decode cX0_settle 174 = .ok (.lload 11, 2) := by decide +kernel
theorem dX0_settle_176 : decode cX0_settle 176 = .ok (.ldiv, 1) := by decide +kernel
theorem dX0_settle_177 : decode cX0_settle 177 = .ok (.lastore, 1) := by decide +kernel
theorem dX0_settle_178 : decode cX0_settle 178 = .ok (.aload_n 0, 1) := by decide +kernel
theorem dX0_settle_179 : decode cX0_settle 179 = .ok (.getfield 38, 3) := by decide +kernel
theorem dX0_settle_182 : decode cX0_settle 182 = .ok (.iload_n 1, 1) := by decide +kernel
theorem dX0_settle_183 : decode cX0_settle 183 = .ok (.lload 9, 2) := by decide +kernel
theorem dX0_settle_185 : decode cX0_settle 185 = .ok (.lload 11, 2) := by decide +kernel
theorem dX0_settle_187 : decode cX0_settle 187 = .ok (.ldiv, 1) := by decide +kernel
theorem dX0_settle_188 : decode cX0_settle 188 = .ok (.lastore, 1) := by decide +kernel
theorem dX0_settle_189 : decode cX0_settle 189 = .ok (.aload_n 0, 1) := by decide +kernel
theorem dX0_settle_190 : decode cX0_settle 190 = .ok (.getfield 44, 3) := by decide +kernel
theorem dX0_settle_193 : decode cX0_settle 193 = .ok (.iload_n 1, 1) := by decide +kernel
theorem dX0_settle_194 : decode cX0_settle 194 = .ok (.aload_n 0, 1) := by decide +kernel
theorem dX0_settle_195 : decode cX0_settle 195 = .ok (.getfield 28, 3) := by decide +kernel
theorem dX0_settle_198 : decode cX0_settle 198 = .ok (.iload_n 1, 1) := by decide +kernel
theorem dX0_settle_199 : decode cX0_settle 199 = .ok (.laload, 1) := by decide +kernel
theorem dX0_settle_200 : decode cX0_settle 200 = .ok (.ldc2_w 63, 3) := by decide +kernel
theorem dX0_settle_203 : decode cX0_settle 203 = .ok (.lcmp, 1) := by decide +kernel
theorem dX0_settle_204 : decode cX0_settle 204 = .ok (.ifCond .gt 16, 3) := by decide +kernel
theorem dX0_settle_207 : decode cX0_settle 207 = .ok (.aload_n 0, 1) := by decide +kernel
theorem dX0_settle_208 : decode cX0_settle 208 = .ok (.getfield 38, 3) := by decide +kernel
theorem dX0_settle_211 : decode cX0_settle 211 = .ok (.iload_n 1, 1) := by decide +kernel
theorem dX0_settle_212 : decode cX0_settle 212 = .ok (.laload, 1) := by decide +kernel
theorem dX0_settle_213 : decode cX0_settle 213 = .ok (.ldc2_w 63, 3) := by decide +kernel
theorem dX0_settle_216 : decode cX0_settle 216 = .ok (.lcmp, 1) := by decide +kernel
theorem dX0_settle_217 : decode cX0_settle 217 = .ok (.ifCond .le 7, 3) := by decide +kernel
theorem dX0_settle_220 : decode cX0_settle 220 = .ok (.iconst 1, 1) := by decide +kernel
theorem dX0_settle_221 : decode cX0_settle 221 = .ok (.goto 4, 3) := by decide +kernel
theorem dX0_settle_224 : decode cX0_settle 224 = .ok (.iconst 0, 1) := by decide +kernel
theorem dX0_settle_225 : decode cX0_settle 225 = .ok (.bastore, 1) := by decide +kernel
theorem dX0_settle_226 : decode cX0_settle 226 = .ok (.return_, 1) := by decide +kernel
theorem dX0_fact_0 : decode cX0_fact 0 = .ok (.aload_n 0, 1) := by decide +kernel
theorem dX0_fact_1 : decode cX0_fact 1 = .ok (.iload_n 1, 1) := by decide +kernel
theorem dX0_fact_2 : decode cX0_fact 2 = .ok (.invokevirtual 51, 3) := by decide +kernel
theorem dX0_fact_5 : decode cX0_fact 5 = .ok (.ifCond .ne 5, 3) := by decide +kernel
theorem dX0_fact_8 : decode cX0_fact 8 = .ok (.iconst (-1), 1) := by decide +kernel
theorem dX0_fact_9 : decode cX0_fact 9 = .ok (.ireturn, 1) := by decide +kernel
theorem dX0_fact_10 : decode cX0_fact 10 = .ok (.iload_n 2, 1) := by decide +kernel
theorem dX0_fact_11 : decode cX0_fact 11 = .ok (.tableswitch 72 0 4 #[33, 41, 49, 57, 65], 33) := by decide +kernel
theorem dX0_fact_44 : decode cX0_fact 44 = .ok (.aload_n 0, 1) := by decide +kernel
theorem dX0_fact_45 : decode cX0_fact 45 = .ok (.getfield 28, 3) := by decide +kernel
theorem dX0_fact_48 : decode cX0_fact 48 = .ok (.iload_n 1, 1) := by decide +kernel
theorem dX0_fact_49 : decode cX0_fact 49 = .ok (.laload, 1) := by decide +kernel
theorem dX0_fact_50 : decode cX0_fact 50 = .ok (.l2i, 1) := by decide +kernel
theorem dX0_fact_51 : decode cX0_fact 51 = .ok (.ireturn, 1) := by decide +kernel
theorem dX0_fact_52 : decode cX0_fact 52 = .ok (.aload_n 0, 1) := by decide +kernel
theorem dX0_fact_53 : decode cX0_fact 53 = .ok (.getfield 32, 3) := by decide +kernel
theorem dX0_fact_56 : decode cX0_fact 56 = .ok (.iload_n 1, 1) := by decide +kernel
theorem dX0_fact_57 : decode cX0_fact 57 = .ok (.laload, 1) := by decide +kernel
theorem dX0_fact_58 : decode cX0_fact 58 = .ok (.l2i, 1) := by decide +kernel
theorem dX0_fact_59 : decode cX0_fact 59 = .ok (.ireturn, 1) := by decide +kernel
theorem dX0_fact_60 : decode cX0_fact 60 = .ok (.aload_n 0, 1) := by decide +kernel
theorem dX0_fact_61 : decode cX0_fact 61 = .ok (.getfield 35, 3) := by decide +kernel
theorem dX0_fact_64 : decode cX0_fact 64 = .ok (.iload_n 1, 1) := by decide +kernel
theorem dX0_fact_65 : decode cX0_fact 65 = .ok (.laload, 1) := by decide +kernel
theorem dX0_fact_66 : decode cX0_fact 66 = .ok (.l2i, 1) := by decide +kernel
theorem dX0_fact_67 : decode cX0_fact 67 = .ok (.ireturn, 1) := by decide +kernel
theorem dX0_fact_68 : decode cX0_fact 68 = .ok (.aload_n 0, 1) := by decide +kernel
theorem dX0_fact_69 : decode cX0_fact 69 = .ok (.getfield 38, 3) := by decide +kernel
theorem dX0_fact_72 : decode cX0_fact 72 = .ok (.iload_n 1, 1) := by decide +kernel
theorem dX0_fact_73 : decode cX0_fact 73 = .ok (.laload, 1) := by decide +kernel
theorem dX0_fact_74 : decode cX0_fact 74 = .ok (.l2i, 1) := by decide +kernel
theorem dX0_fact_75 : decode cX0_fact 75 = .ok (.ireturn, 1) := by decide +kernel
theorem dX0_fact_76 : decode cX0_fact 76 = .ok (.aload_n 0, 1) := by decide +kernel
theorem dX0_fact_77 : decode cX0_fact 77 = .ok (.getfield 9, 3) := by decide +kernel
theorem dX0_fact_80 : decode cX0_fact 80 = .ok (.iload_n 1, 1) := by decide +kernel
theorem dX0_fact_81 : decode cX0_fact 81 = .ok (.iaload, 1) := by decide +kernel
theorem dX0_fact_82 : decode cX0_fact 82 = .ok (.ireturn, 1) := by decide +kernel
theorem dX0_fact_83 : decode cX0_fact 83 = .ok (.aload_n 0, 1) := by decide +kernel
theorem dX0_fact_84 : decode cX0_fact 84 = .ok (.getfield 15, 3) := by decide +kernel
theorem dX0_fact_87 : decode cX0_fact 87 = .ok (.iload_n 1, 1) := by decide +kernel
theorem dX0_fact_88 : decode cX0_fact 88 = .ok (.iaload, 1) := by decide +kernel
theorem dX0_fact_89 : decode cX0_fact 89 = .ok (.ireturn, 1) := by decide +kernel
theorem dX0_edgePart_0 : decode cX0_edgePart 0 = .ok (.aload_n 0, 1) := by decide +kernel
theorem dX0_edgePart_1 : decode cX0_edgePart 1 = .ok (.iload_n 1, 1) := by decide +kernel
theorem dX0_edgePart_2 : decode cX0_edgePart 2 = .ok (.invokevirtual 51, 3) := by decide +kernel
theorem dX0_edgePart_5 : decode cX0_edgePart 5 = .ok (.ifCond .ne 7, 3) := by decide +kernel
theorem dX0_edgePart_8 : decode cX0_edgePart 8 = .ok (.ldc2_w 65, 3) := by decide +kernel
theorem dX0_edgePart_11 : decode cX0_edgePart 11 = .ok (.lreturn, 1) := by decide +kernel
theorem dX0_edgePart_12 : decode cX0_edgePart 12 = .ok (.aload_n 0, 1) := by decide +kernel
theorem dX0_edgePart_13 : decode cX0_edgePart 13 = .ok (.getfield 32, 3) := by decide +kernel
theorem dX0_edgePart_16 : decode cX0_edgePart 16 = .ok (.iload_n 1, 1) := by decide +kernel
theorem dX0_edgePart_17 : decode cX0_edgePart 17 = .ok (.laload, 1) := by decide +kernel
theorem dX0_edgePart_18 : decode cX0_edgePart 18 = .ok (.aload_n 0, 1) := by decide +kernel
theorem dX0_edgePart_19 : decode cX0_edgePart 19 = .ok (.getfield 35, 3) := by decide +kernel
theorem dX0_edgePart_22 : decode cX0_edgePart 22 = .ok (.iload_n 1, 1) := by decide +kernel
theorem dX0_edgePart_23 : decode cX0_edgePart 23 = .ok (.laload, 1) := by decide +kernel
theorem dX0_edgePart_24 : decode cX0_edgePart 24 = .ok (.lcmp, 1) := by decide +kernel
theorem dX0_edgePart_25 : decode cX0_edgePart 25 = .ok (.ifCond .ge 7, 3) := by decide +kernel
theorem dX0_edgePart_28 : decode cX0_edgePart 28 = .ok (.iconst 1, 1) := by decide +kernel
theorem dX0_edgePart_29 : decode cX0_edgePart 29 = .ok (.goto 4, 3) := by decide +kernel
theorem dX0_edgePart_32 : decode cX0_edgePart 32 = .ok (.iconst 0, 1) := by decide +kernel
theorem dX0_edgePart_33 : decode cX0_edgePart 33 = .ok (.istore 4, 2) := by decide +kernel
theorem dX0_edgePart_35 : decode cX0_edgePart 35 = .ok (.iload 4, 2) := by decide +kernel
theorem dX0_edgePart_37 : decode cX0_edgePart 37 = .ok (.iload_n 2, 1) := by decide +kernel
theorem dX0_edgePart_38 : decode cX0_edgePart 38 = .ok (.iconst 2, 1) := by decide +kernel
theorem dX0_edgePart_39 : decode cX0_edgePart 39 = .ok (.irem, 1) := by decide +kernel
theorem dX0_edgePart_40 : decode cX0_edgePart 40 = .ok (.ifCond .ne 7, 3) := by decide +kernel
theorem dX0_edgePart_43 : decode cX0_edgePart 43 = .ok (.iconst 1, 1) := by decide +kernel
theorem dX0_edgePart_44 : decode cX0_edgePart 44 = .ok (.goto 4, 3) := by decide +kernel
theorem dX0_edgePart_47 : decode cX0_edgePart 47 = .ok (.iconst 0, 1) := by decide +kernel
theorem dX0_edgePart_48 : decode cX0_edgePart 48 = .ok (.if_icmp .ne 7, 3) := by decide +kernel
theorem dX0_edgePart_51 : decode cX0_edgePart 51 = .ok (.iconst 1, 1) := by decide +kernel
theorem dX0_edgePart_52 : decode cX0_edgePart 52 = .ok (.goto 4, 3) := by decide +kernel
theorem dX0_edgePart_55 : decode cX0_edgePart 55 = .ok (.iconst 0, 1) := by decide +kernel
theorem dX0_edgePart_56 : decode cX0_edgePart 56 = .ok (.istore 5, 2) := by decide +kernel
theorem dX0_edgePart_58 : decode cX0_edgePart 58 = .ok (.iload_n 3, 1) := by decide +kernel
theorem dX0_edgePart_59 : decode cX0_edgePart 59 = .ok (.iconst 2, 1) := by decide +kernel
theorem dX0_edgePart_60 : decode cX0_edgePart 60 = .ok (.if_icmp .ne 14, 3) := by decide +kernel
theorem dX0_edgePart_63 : decode cX0_edgePart 63 = .ok (.iload 5, 2) := by decide +kernel
theorem dX0_edgePart_65 : decode cX0_edgePart 65 = .ok (.ifCond .eq 7, 3) := by decide +kernel
theorem dX0_edgePart_68 : decode cX0_edgePart 68 = .ok (.lconst 1, 1) := by decide +kernel
theorem dX0_edgePart_69 : decode cX0_edgePart 69 = .ok (.goto 4, 3) := by decide +kernel
theorem dX0_edgePart_72 : decode cX0_edgePart 72 = .ok (.lconst 0, 1) := by decide +kernel
theorem dX0_edgePart_73 : decode cX0_edgePart 73 = .ok (.lreturn, 1) := by decide +kernel
theorem dX0_edgePart_74 : decode cX0_edgePart 74 = .ok (.iload 5, 2) := by decide +kernel
theorem dX0_edgePart_76 : decode cX0_edgePart 76 = .ok (.ifCond .eq 12, 3) := by decide +kernel
theorem dX0_edgePart_79 : decode cX0_edgePart 79 = .ok (.aload_n 0, 1) := by decide +kernel
theorem dX0_edgePart_80 : decode cX0_edgePart 80 = .ok (.getfield 32, 3) := by decide +kernel
theorem dX0_edgePart_83 : decode cX0_edgePart 83 = .ok (.iload_n 1, 1) := by decide +kernel
theorem dX0_edgePart_84 : decode cX0_edgePart 84 = .ok (.laload, 1) := by decide +kernel
theorem dX0_edgePart_85 : decode cX0_edgePart 85 = .ok (.goto 9, 3) := by decide +kernel
theorem dX0_edgePart_88 : decode cX0_edgePart 88 = .ok (.aload_n 0, 1) := by decide +kernel
theorem dX0_edgePart_89 : decode cX0_edgePart 89 = .ok (.getfield 35, 3) := by decide +kernel
theorem dX0_edgePart_92 : decode cX0_edgePart 92 = .ok (.iload_n 1, 1) := by decide +kernel
theorem dX0_edgePart_93 : decode cX0_edgePart 93 = .ok (.laload, 1) := by decide +kernel
theorem dX0_edgePart_94 : decode cX0_edgePart 94 = .ok (.lstore 6, 2) := by decide +kernel
theorem dX0_edgePart_96 : decode cX0_edgePart 96 = .ok (.lload 6, 2) := by decide +kernel
theorem dX0_edgePart_98 : decode cX0_edgePart 98 = .ok (.iload_n 2, 1) := by decide +kernel
theorem dX0_edgePart_99 : decode cX0_edgePart 99 = .ok (.iconst 2, 1) := by decide +kernel
theorem dX0_edgePart_100 : decode cX0_edgePart 100 = .ok (.idiv, 1) := by decide +kernel
theorem dX0_edgePart_101 : decode cX0_edgePart 101 = .ok (.i2l, 1) := by decide +kernel
theorem dX0_edgePart_102 : decode cX0_edgePart 102 = .ok (.aload_n 0, 1) := by decide +kernel
theorem dX0_edgePart_103 : decode cX0_edgePart 103 = .ok (.getfield 28, 3) := by decide +kernel
theorem dX0_edgePart_106 : decode cX0_edgePart 106 = .ok (.iload_n 1, 1) := by decide +kernel
theorem dX0_edgePart_107 : decode cX0_edgePart 107 = .ok (.laload, 1) := by decide +kernel
theorem dX0_edgePart_108 : decode cX0_edgePart 108 = .ok (.lmul, 1) := by decide +kernel
theorem dX0_edgePart_109 : decode cX0_edgePart 109 = .ok (.ladd, 1) := by decide +kernel
theorem dX0_edgePart_110 : decode cX0_edgePart 110 = .ok (.aload_n 0, 1) := by decide +kernel
theorem dX0_edgePart_111 : decode cX0_edgePart 111 = .ok (.getfield 38, 3) := by decide +kernel
theorem dX0_edgePart_114 : decode cX0_edgePart 114 = .ok (.iload_n 1, 1) := by decide +kernel
theorem dX0_edgePart_115 : decode cX0_edgePart 115 = .ok (.laload, 1) := by decide +kernel
theorem dX0_edgePart_116 : decode cX0_edgePart 116 = .ok (.iload_n 3, 1) := by decide +kernel
theorem dX0_edgePart_117 : decode cX0_edgePart 117 = .ok (.invokestatic 67, 3) := by decide +kernel
theorem dX0_edgePart_120 : decode cX0_edgePart 120 = .ok (.lreturn, 1) := by decide +kernel
theorem dX0_distancePart_0 : decode cX0_distancePart 0 = .ok (.aload_n 0, 1) := by decide +kernel
theorem dX0_distancePart_1 : decode cX0_distancePart 1 = .ok (.iload_n 1, 1) := by decide +kernel
theorem dX0_distancePart_2 : decode cX0_distancePart 2 = .ok (.invokevirtual 51, 3) := by decide +kernel
theorem dX0_distancePart_5 : decode cX0_distancePart 5 = .ok (.ifCond .eq 11, 3) := by decide +kernel
theorem dX0_distancePart_8 : decode cX0_distancePart 8 = .ok (.aload_n 0, 1) := by decide +kernel
theorem dX0_distancePart_9 : decode cX0_distancePart 9 = .ok (.iload_n 2, 1) := by decide +kernel
theorem dX0_distancePart_10 : decode cX0_distancePart 10 = .ok (.invokevirtual 51, 3) := by decide +kernel
theorem dX0_distancePart_13 : decode cX0_distancePart 13 = .ok (.ifCond .ne 7, 3) := by decide +kernel
theorem dX0_distancePart_16 : decode cX0_distancePart 16 = .ok (.ldc2_w 65, 3) := by decide +kernel
theorem dX0_distancePart_19 : decode cX0_distancePart 19 = .ok (.lreturn, 1) := by decide +kernel
theorem dX0_distancePart_20 : decode cX0_distancePart 20 = .ok (.aload_n 0, 1) := by decide +kernel
theorem dX0_distancePart_21 : decode cX0_distancePart 21 = .ok (.getfield 38, 3) := by decide +kernel
theorem dX0_distancePart_24 : decode cX0_distancePart 24 = .ok (.iload_n 1, 1) := by decide +kernel
theorem dX0_distancePart_25 : decode cX0_distancePart 25 = .ok (.laload, 1) := by decide +kernel
theorem dX0_distancePart_26 : decode cX0_distancePart 26 = .ok (.aload_n 0, 1) := by decide +kernel
theorem dX0_distancePart_27 : decode cX0_distancePart 27 = .ok (.getfield 38, 3) := by decide +kernel
theorem dX0_distancePart_30 : decode cX0_distancePart 30 = .ok (.iload_n 2, 1) := by decide +kernel
theorem dX0_distancePart_31 : decode cX0_distancePart 31 = .ok (.laload, 1) := by decide +kernel
theorem dX0_distancePart_32 : decode cX0_distancePart 32 = .ok (.invokestatic 59, 3) := by decide +kernel
theorem dX0_distancePart_35 : decode cX0_distancePart 35 = .ok (.lstore 4, 2) := by decide +kernel
theorem dX0_distancePart_37 : decode cX0_distancePart 37 = .ok (.aload_n 0, 1) := by decide +kernel
theorem dX0_distancePart_38 : decode cX0_distancePart 38 = .ok (.getfield 38, 3) := by decide +kernel
theorem dX0_distancePart_41 : decode cX0_distancePart 41 = .ok (.iload_n 2, 1) := by decide +kernel
theorem dX0_distancePart_42 : decode cX0_distancePart 42 = .ok (.laload, 1) := by decide +kernel
theorem dX0_distancePart_43 : decode cX0_distancePart 43 = .ok (.lload 4, 2) := by decide +kernel
theorem dX0_distancePart_45 : decode cX0_distancePart 45 = .ok (.ldiv, 1) := by decide +kernel
theorem dX0_distancePart_46 : decode cX0_distancePart 46 = .ok (.lstore 6, 2) := by decide +kernel
theorem dX0_distancePart_48 : decode cX0_distancePart 48 = .ok (.aload_n 0, 1) := by decide +kernel
theorem dX0_distancePart_49 : decode cX0_distancePart 49 = .ok (.getfield 38, 3) := by decide +kernel
theorem dX0_distancePart_52 : decode cX0_distancePart 52 = .ok (.iload_n 1, 1) := by decide +kernel
theorem dX0_distancePart_53 : decode cX0_distancePart 53 = .ok (.laload, 1) := by decide +kernel
theorem dX0_distancePart_54 : decode cX0_distancePart 54 = .ok (.lload 4, 2) := by decide +kernel
theorem dX0_distancePart_56 : decode cX0_distancePart 56 = .ok (.ldiv, 1) := by decide +kernel
theorem dX0_distancePart_57 : decode cX0_distancePart 57 = .ok (.lstore 8, 2) := by decide +kernel
theorem dX0_distancePart_59 : decode cX0_distancePart 59 = .ok (.aload_n 0, 1) := by decide +kernel
theorem dX0_distancePart_60 : decode cX0_distancePart 60 = .ok (.getfield 28, 3) := by decide +kernel
theorem dX0_distancePart_63 : decode cX0_distancePart 63 = .ok (.iload_n 1, 1) := by decide +kernel
theorem dX0_distancePart_64 : decode cX0_distancePart 64 = .ok (.laload, 1) := by decide +kernel
theorem dX0_distancePart_65 : decode cX0_distancePart 65 = .ok (.lload 6, 2) := by decide +kernel
theorem dX0_distancePart_67 : decode cX0_distancePart 67 = .ok (.lmul, 1) := by decide +kernel
theorem dX0_distancePart_68 : decode cX0_distancePart 68 = .ok (.aload_n 0, 1) := by decide +kernel
theorem dX0_distancePart_69 : decode cX0_distancePart 69 = .ok (.getfield 28, 3) := by decide +kernel
theorem dX0_distancePart_72 : decode cX0_distancePart 72 = .ok (.iload_n 2, 1) := by decide +kernel
theorem dX0_distancePart_73 : decode cX0_distancePart 73 = .ok (.laload, 1) := by decide +kernel
theorem dX0_distancePart_74 : decode cX0_distancePart 74 = .ok (.lload 8, 2) := by decide +kernel
theorem dX0_distancePart_76 : decode cX0_distancePart 76 = .ok (.lmul, 1) := by decide +kernel
theorem dX0_distancePart_77 : decode cX0_distancePart 77 = .ok (.invokestatic 59, 3) := by decide +kernel
theorem dX0_distancePart_80 : decode cX0_distancePart 80 = .ok (.lstore 10, 2) := by decide +kernel
theorem dX0_distancePart_82 : decode cX0_distancePart 82 = .ok (.aload_n 0, 1) := by decide +kernel
theorem dX0_distancePart_83 : decode cX0_distancePart 83 = .ok (.getfield 32, 3) := by decide +kernel
theorem dX0_distancePart_86 : decode cX0_distancePart 86 = .ok (.iload_n 2, 1) := by decide +kernel
theorem dX0_distancePart_87 : decode cX0_distancePart 87 = .ok (.laload, 1) := by decide +kernel
theorem dX0_distancePart_88 : decode cX0_distancePart 88 = .ok (.lload 8, 2) := by decide +kernel
theorem dX0_distancePart_90 : decode cX0_distancePart 90 = .ok (.lmul, 1) := by decide +kernel
theorem dX0_distancePart_91 : decode cX0_distancePart 91 = .ok (.aload_n 0, 1) := by decide +kernel
theorem dX0_distancePart_92 : decode cX0_distancePart 92 = .ok (.getfield 32, 3) := by decide +kernel
theorem dX0_distancePart_95 : decode cX0_distancePart 95 = .ok (.iload_n 1, 1) := by decide +kernel
theorem dX0_distancePart_96 : decode cX0_distancePart 96 = .ok (.laload, 1) := by decide +kernel
theorem dX0_distancePart_97 : decode cX0_distancePart 97 = .ok (.lload 6, 2) := by decide +kernel
theorem dX0_distancePart_99 : decode cX0_distancePart 99 = .ok (.lmul, 1) := by decide +kernel
theorem dX0_distancePart_100 : decode cX0_distancePart 100 = .ok (.lsub, 1) := by decide +kernel
theorem dX0_distancePart_101 : decode cX0_distancePart 101 = .ok (.lload 10, 2) := by decide +kernel
theorem dX0_distancePart_103 : decode cX0_distancePart 103 = .ok (.invokestatic 71, 3) := by decide +kernel
theorem dX0_distancePart_106 : decode cX0_distancePart 106 = .ok (.lstore 12, 2) := by decide +kernel
theorem dX0_distancePart_108 : decode cX0_distancePart 108 = .ok (.lload 12, 2) := by decide +kernel
theorem dX0_distancePart_110 : decode cX0_distancePart 110 = .ok (.lconst 0, 1) := by decide +kernel
theorem dX0_distancePart_111 : decode cX0_distancePart 111 = .ok (.lcmp, 1) := by decide +kernel
theorem dX0_distancePart_112 : decode cX0_distancePart 112 = .ok (.ifCond .ne 8, 3) := by decide +kernel
theorem dX0_distancePart_115 : decode cX0_distancePart 115 = .ok (.lload 10, 2) := by decide +kernel
theorem dX0_distancePart_117 : decode cX0_distancePart 117 = .ok (.goto 5, 3) := by decide +kernel
theorem dX0_distancePart_120 : decode cX0_distancePart 120 = .ok (.lload 12, 2) := by decide +kernel
theorem dX0_distancePart_122 : decode cX0_distancePart 122 = .ok (.aload_n 0, 1) := by decide +kernel
theorem dX0_distancePart_123 : decode cX0_distancePart 123 = .ok (.getfield 38, 3) := by decide +kernel
theorem dX0_distancePart_126 : decode cX0_distancePart 126 = .ok (.iload_n 1, 1) := by decide +kernel
theorem dX0_distancePart_127 : decode cX0_distancePart 127 = .ok (.laload, 1) := by decide +kernel
theorem dX0_distancePart_128 : decode cX0_distancePart 128 = .ok (.lload 6, 2) := by decide +kernel
theorem dX0_distancePart_130 : decode cX0_distancePart 130 = .ok (.lmul, 1) := by decide +kernel
theorem dX0_distancePart_131 : decode cX0_distancePart 131 = .ok (.iload_n 3, 1) := by decide +kernel
theorem dX0_distancePart_132 : decode cX0_distancePart 132 = .ok (.invokestatic 67, 3) := by decide +kernel
theorem dX0_distancePart_135 : decode cX0_distancePart 135 = .ok (.lreturn, 1) := by decide +kernel
theorem dX1_init_0 : decode cX1_init 0 = .ok (.aload_n 0, 1) := by decide +kernel
theorem dX1_init_1 : decode cX1_init 1 = .ok (.invokespecial 3, 3) := by decide +kernel
theorem dX1_init_4 : decode cX1_init 4 = .ok (.aload_n 0, 1) := by decide +kernel
theorem dX1_init_5 : decode cX1_init 5 = .ok (.sipush 640, 3) := by decide +kernel
theorem dX1_init_8 : decode cX1_init 8 = .ok (.newarray .char, 2) := by decide +kernel
theorem dX1_init_10 : decode cX1_init 10 = .ok (.putfield 9, 3) := by decide +kernel
theorem dX1_init_13 : decode cX1_init 13 = .ok (.aload_n 0, 1) := by decide +kernel
theorem dX1_init_14 : decode cX1_init 14 = .ok (.bipush 40, 2) := by decide +kernel
theorem dX1_init_16 : decode cX1_init 16 = .ok (.newarray .int, 2) := by decide +kernel
theorem dX1_init_18 : decode cX1_init 18 = .ok (.putfield 15, 3) := by decide +kernel
theorem dX1_init_21 : decode cX1_init 21 = .ok (.return_, 1) := by decide +kernel
theorem dX1_has_0 : decode cX1_has 0 = .ok (.iload_n 0, 1) := by decide +kernel
theorem dX1_has_1 : decode cX1_has 1 = .ok (.ifCond .lt 13, 3) := by decide +kernel
theorem dX1_has_4 : decode cX1_has 4 = .ok (.iload_n 0, 1) := by decide +kernel
theorem dX1_has_5 : decode cX1_has 5 = .ok (.bipush 40, 2) := by decide +kernel
theorem dX1_has_7 : decode cX1_has 7 = .ok (.if_icmp .ge 7, 3) := by decide +kernel
theorem dX1_has_10 : decode cX1_has 10 = .ok (.iconst 1, 1) := by decide +kernel
theorem dX1_has_11 : decode cX1_has 11 = .ok (.goto 4, 3) := by decide +kernel
theorem dX1_has_14 : decode cX1_has 14 = .ok (.iconst 0, 1) := by decide +kernel
theorem dX1_has_15 : decode cX1_has 15 = .ok (.ireturn, 1) := by decide +kernel
theorem dX1_grow_0 : decode cX1_grow 0 = .ok (.aload_n 0, 1) := by decide +kernel
theorem dX1_grow_1 : decode cX1_grow 1 = .ok (.iload_n 1, 1) := by decide +kernel
theorem dX1_grow_2 : decode cX1_grow 2 = .ok (.invokevirtual 19, 3) := by decide +kernel
theorem dX1_grow_5 : decode cX1_grow 5 = .ok (.istore_n 3, 1) := by decide +kernel
theorem dX1_grow_6 : decode cX1_grow 6 = .ok (.iload_n 1, 1) := by decide +kernel
theorem dX1_grow_7 : decode cX1_grow 7 = .ok (.invokestatic 23, 3) := by decide +kernel
theorem dX1_grow_10 : decode cX1_grow 10 = .ok (.ifCond .eq 9, 3) := by decide +kernel
theorem dX1_grow_13 : decode cX1_grow 13 = .ok (.iload_n 3, 1) := by decide +kernel
theorem dX1_grow_14 : decode cX1_grow 14 = .ok (.bipush 16, 2) := by decide +kernel
theorem dX1_grow_16 : decode cX1_grow 16 = .ok (.if_icmp .lt 5, 3) := by decide +kernel
theorem dX1_grow_19 : decode cX1_grow 19 = .ok (.iconst 0, 1) := by decide +kernel
theorem dX1_grow_20 : decode cX1_grow 20 = .ok (.ireturn, 1) := by decide +kernel
theorem dX1_grow_21 : decode cX1_grow 21 = .ok (.aload_n 0, 1) := by decide +kernel
theorem dX1_grow_22 : decode cX1_grow 22 = .ok (.getfield 9, 3) := by decide +kernel
theorem dX1_grow_25 : decode cX1_grow 25 = .ok (.iload_n 1, 1) := by decide +kernel
theorem dX1_grow_26 : decode cX1_grow 26 = .ok (.bipush 16, 2) := by decide +kernel
theorem dX1_grow_28 : decode cX1_grow 28 = .ok (.imul, 1) := by decide +kernel
theorem dX1_grow_29 : decode cX1_grow 29 = .ok (.iload_n 3, 1) := by decide +kernel
theorem dX1_grow_30 : decode cX1_grow 30 = .ok (.iadd, 1) := by decide +kernel
theorem dX1_grow_31 : decode cX1_grow 31 = .ok (.iload_n 2, 1) := by decide +kernel
theorem dX1_grow_32 : decode cX1_grow 32 = .ok (.i2c, 1) := by decide +kernel
theorem dX1_grow_33 : decode cX1_grow 33 = .ok (.castore, 1) := by decide +kernel
theorem dX1_grow_34 : decode cX1_grow 34 = .ok (.aload_n 0, 1) := by decide +kernel
theorem dX1_grow_35 : decode cX1_grow 35 = .ok (.getfield 15, 3) := by decide +kernel
theorem dX1_grow_38 : decode cX1_grow 38 = .ok (.iload_n 1, 1) := by decide +kernel
theorem dX1_grow_39 : decode cX1_grow 39 = .ok (.iload_n 3, 1) := by decide +kernel
theorem dX1_grow_40 : decode cX1_grow 40 = .ok (.iconst 1, 1) := by decide +kernel
theorem dX1_grow_41 : decode cX1_grow 41 = .ok (.iadd, 1) := by decide +kernel
theorem dX1_grow_42 : decode cX1_grow 42 = .ok (.iastore, 1) := by decide +kernel
theorem dX1_grow_43 : decode cX1_grow 43 = .ok (.iconst 1, 1) := by decide +kernel
theorem dX1_grow_44 : decode cX1_grow 44 = .ok (.ireturn, 1) := by decide +kernel
theorem dX1_lengthOf_0 : decode cX1_lengthOf 0 = .ok (.iload_n 1, 1) := by decide +kernel
theorem dX1_lengthOf_1 : decode cX1_lengthOf 1 = .ok (.invokestatic 23, 3) := by decide +kernel
theorem dX1_lengthOf_4 : decode cX1_lengthOf 4 = .ok (.ifCond .eq 12, 3) := by decide +kernel
theorem dX1_lengthOf_7 : decode cX1_lengthOf 7 = .ok (.aload_n 0, 1) := by decide +kernel
theorem dX1_lengthOf_8 : decode cX1_lengthOf 8 = .ok (.getfield 15, 3) := by decide +kernel
theorem dX1_lengthOf_11 : decode cX1_lengthOf 11 = .ok (.iload_n 1, 1) := by decide +kernel
theorem dX1_lengthOf_12 : decode cX1_lengthOf 12 = .ok (.iaload, 1) := by decide +kernel
theorem dX1_lengthOf_13 : decode cX1_lengthOf 13 = .ok (.goto 4, 3) := by decide +kernel
theorem dX1_lengthOf_16 : decode cX1_lengthOf 16 = .ok (.iconst 0, 1) := by decide +kernel
theorem dX1_lengthOf_17 : decode cX1_lengthOf 17 = .ok (.ireturn, 1) := by decide +kernel
theorem dX1_at_0 : decode cX1_at 0 = .ok (.iload_n 2, 1) := by decide +kernel
theorem dX1_at_1 : decode cX1_at 1 = .ok (.ifCond .lt 26, 3) := by decide +kernel
theorem dX1_at_4 : decode cX1_at 4 = .ok (.iload_n 2, 1) := by decide +kernel
theorem dX1_at_5 : decode cX1_at 5 = .ok (.aload_n 0, 1) := by decide +kernel
theorem dX1_at_6 : decode cX1_at 6 = .ok (.iload_n 1, 1) := by decide +kernel
theorem dX1_at_7 : decode cX1_at 7 = .ok (.invokevirtual 19, 3) := by decide +kernel
theorem dX1_at_10 : decode cX1_at 10 = .ok (.if_icmp .ge 17, 3) := by decide +kernel
theorem dX1_at_13 : decode cX1_at 13 = .ok (.aload_n 0, 1) := by decide +kernel
theorem dX1_at_14 : decode cX1_at 14 = .ok (.getfield 9, 3) := by decide +kernel
theorem dX1_at_17 : decode cX1_at 17 = .ok (.iload_n 1, 1) := by decide +kernel
theorem dX1_at_18 : decode cX1_at 18 = .ok (.bipush 16, 2) := by decide +kernel
theorem dX1_at_20 : decode cX1_at 20 = .ok (.imul, 1) := by decide +kernel
theorem dX1_at_21 : decode cX1_at 21 = .ok (.iload_n 2, 1) := by decide +kernel
theorem dX1_at_22 : decode cX1_at 22 = .ok (.iadd, 1) := by decide +kernel
theorem dX1_at_23 : decode cX1_at 23 = .ok (.caload, 1) := by decide +kernel
theorem dX1_at_24 : decode cX1_at 24 = .ok (.goto 4, 3) := by decide +kernel
theorem dX1_at_27 : decode cX1_at 27 = .ok (.iconst 0, 1) := by decide +kernel
theorem dX1_at_28 : decode cX1_at 28 = .ok (.ireturn, 1) := by decide +kernel
theorem dX2_init_0 : decode cX2_init 0 = .ok (.aload_n 0, 1) := by decide +kernel
theorem dX2_init_1 : decode cX2_init 1 = .ok (.invokespecial 3, 3) := by decide +kernel
theorem dX2_init_4 : decode cX2_init 4 = .ok (.aload_n 0, 1) := by decide +kernel
theorem dX2_init_5 : decode cX2_init 5 = .ok (.new 9, 3) := by decide +kernel
theorem dX2_init_8 : decode cX2_init 8 = .ok (.dup, 1) := by decide +kernel
theorem dX2_init_9 : decode cX2_init 9 = .ok (.invokespecial 11, 3) := by decide +kernel
theorem dX2_init_12 : decode cX2_init 12 = .ok (.putfield 12, 3) := by decide +kernel
theorem dX2_init_15 : decode cX2_init 15 = .ok (.aload_n 0, 1) := by decide +kernel
theorem dX2_init_16 : decode cX2_init 16 = .ok (.bipush 12, 2) := by decide +kernel
theorem dX2_init_18 : decode cX2_init 18 = .ok (.newarray .int, 2) := by decide +kernel
theorem dX2_init_20 : decode cX2_init 20 = .ok (.putfield 18, 3) := by decide +kernel
theorem dX2_init_23 : decode cX2_init 23 = .ok (.aload_n 0, 1) := by decide +kernel
theorem dX2_init_24 : decode cX2_init 24 = .ok (.bipush 12, 2) := by decide +kernel
theorem dX2_init_26 : decode cX2_init 26 = .ok (.newarray .int, 2) := by decide +kernel
theorem dX2_init_28 : decode cX2_init 28 = .ok (.putfield 22, 3) := by decide +kernel
theorem dX2_init_31 : decode cX2_init 31 = .ok (.aload_n 0, 1) := by decide +kernel
theorem dX2_init_32 : decode cX2_init 32 = .ok (.bipush 80, 2) := by decide +kernel
theorem dX2_init_34 : decode cX2_init 34 = .ok (.newarray .int, 2) := by decide +kernel
theorem dX2_init_36 : decode cX2_init 36 = .ok (.putfield 25, 3) := by decide +kernel
theorem dX2_init_39 : decode cX2_init 39 = .ok (.aload_n 0, 1) := by decide +kernel
theorem dX2_init_40 : decode cX2_init 40 = .ok (.bipush 80, 2) := by decide +kernel
theorem dX2_init_42 : decode cX2_init 42 = .ok (.newarray .int, 2) := by decide +kernel
theorem dX2_init_44 : decode cX2_init 44 = .ok (.putfield 28, 3) := by decide +kernel
theorem dX2_init_47 : decode cX2_init 47 = .ok (.aload_n 0, 1) := by decide +kernel
theorem dX2_init_48 : decode cX2_init 48 = .ok (.new 31, 3) := by decide +kernel
theorem dX2_init_51 : decode cX2_init 51 = .ok (.dup, 1) := by decide +kernel
theorem dX2_init_52 : decode cX2_init 52 = .ok (.invokespecial 33, 3) := by decide +kernel
theorem dX2_init_55 : decode cX2_init 55 = .ok (.putfield 34, 3) := by decide +kernel
theorem dX2_init_58 : decode cX2_init 58 = .ok (.aload_n 0, 1) := by decide +kernel
theorem dX2_init_59 : decode cX2_init 59 = .ok (.iconst 0, 1) := by decide +kernel
theorem dX2_init_60 : decode cX2_init 60 = .ok (.putfield 38, 3) := by decide +kernel
theorem dX2_init_63 : decode cX2_init 63 = .ok (.aload_n 0, 1) := by decide +kernel
theorem dX2_init_64 : decode cX2_init 64 = .ok (.iconst 0, 1) := by decide +kernel
theorem dX2_init_65 : decode cX2_init 65 = .ok (.putfield 42, 3) := by decide +kernel
theorem dX2_init_68 : decode cX2_init 68 = .ok (.return_, 1) := by decide +kernel
theorem dX2_exchange_0 : decode cX2_exchange 0 = .ok (.aload_n 0, 1) := by decide +kernel
theorem dX2_exchange_1 : decode cX2_exchange 1 = .ok (.getfield 34, 3) := by decide +kernel
theorem dX2_exchange_4 : decode cX2_exchange 4 = .ok (.astore_n 2, 1) := by decide +kernel
theorem dX2_exchange_5 : decode cX2_exchange 5 = .ok (.aload_n 0, 1) := by decide +kernel
theorem dX2_exchange_6 : decode cX2_exchange 6 = .ok (.aload_n 1, 1) := by decide +kernel
theorem dX2_exchange_7 : decode cX2_exchange 7 = .ok (.putfield 34, 3) := by decide +kernel
theorem dX2_exchange_10 : decode cX2_exchange 10 = .ok (.aload_n 2, 1) := by decide +kernel
theorem dX2_exchange_11 : decode cX2_exchange 11 = .ok (.areturn, 1) := by decide +kernel
theorem dX2_faultOfTape_0 : decode cX2_faultOfTape 0 = .ok (.aload_n 0, 1) := by decide +kernel
theorem dX2_faultOfTape_1 : decode cX2_faultOfTape 1 = .ok (.getfield 34, 3) := by decide +kernel
theorem dX2_faultOfTape_4 : decode cX2_faultOfTape 4 = .ok (.invokevirtual 45, 3) := by decide +kernel
theorem dX2_faultOfTape_7 : decode cX2_faultOfTape 7 = .ok (.aload_n 0, 1) := by decide +kernel
theorem dX2_faultOfTape_8 : decode cX2_faultOfTape 8 = .ok (.iconst 0, 1) := by decide +kernel
theorem dX2_faultOfTape_9 : decode cX2_faultOfTape 9 = .ok (.putfield 38, 3) := by decide +kernel
theorem dX2_faultOfTape_12 : decode cX2_faultOfTape 12 = .ok (.aload_n 0, 1) := by decide +kernel
theorem dX2_faultOfTape_13 : decode cX2_faultOfTape 13 = .ok (.iconst 0, 1) := by decide +kernel
theorem dX2_faultOfTape_14 : decode cX2_faultOfTape 14 = .ok (.putfield 42, 3) := by decide +kernel
theorem dX2_faultOfTape_17 : decode cX2_faultOfTape 17 = .ok (.aload_n 0, 1) := by decide +kernel
theorem dX2_faultOfTape_18 : decode cX2_faultOfTape 18 = .ok (.getfield 28, 3) := by decide +kernel
theorem dX2_faultOfTape_21 : decode cX2_faultOfTape 21 = .ok (.iconst 0, 1) := by decide +kernel
theorem dX2_faultOfTape_22 : decode cX2_faultOfTape 22 = .ok (.invokestatic 48, 3) := by decide +kernel
theorem dX2_faultOfTape_25 : decode cX2_faultOfTape 25 = .ok (.iconst 0, 1) := by decide +kernel
theorem dX2_faultOfTape_26 : decode cX2_faultOfTape 26 = .ok (.istore_n 1, 1) := by decide +kernel
theorem dX2_faultOfTape_27 : decode cX2_faultOfTape 27 = .ok (.iload_n 1, 1) := by decide +kernel
theorem dX2_faultOfTape_28 : decode cX2_faultOfTape 28 = .ok (.bipush 40, 2) := by decide +kernel
theorem dX2_faultOfTape_30 : decode cX2_faultOfTape 30 = .ok (.if_icmp .gt 48, 3) := by decide +kernel
theorem dX2_faultOfTape_33 : decode cX2_faultOfTape 33 = .ok (.aload_n 0, 1) := by decide +kernel
theorem dX2_faultOfTape_34 : decode cX2_faultOfTape 34 = .ok (.invokevirtual 54, 3) := by decide +kernel
theorem dX2_faultOfTape_37 : decode cX2_faultOfTape 37 = .ok (.aload_n 0, 1) := by decide +kernel
theorem dX2_faultOfTape_38 : decode cX2_faultOfTape 38 = .ok (.getfield 38, 3) := by decide +kernel
theorem dX2_faultOfTape_41 : decode cX2_faultOfTape 41 = .ok (.aload_n 0, 1) := by decide +kernel
theorem dX2_faultOfTape_42 : decode cX2_faultOfTape 42 = .ok (.getfield 12, 3) := by decide +kernel
theorem dX2_faultOfTape_45 : decode cX2_faultOfTape 45 = .ok (.getfield 57, 3) := by decide +kernel
theorem dX2_faultOfTape_48 : decode cX2_faultOfTape 48 = .ok (.if_icmp .ne 6, 3) := by decide +kernel
theorem dX2_faultOfTape_51 : decode cX2_faultOfTape 51 = .ok (.goto 27, 3) := by decide +kernel
theorem dX2_faultOfTape_54 : decode cX2_faultOfTape 54 = .ok (.iload_n 1, 1) := by decide +kernel
theorem dX2_faultOfTape_55 : decode cX2_faultOfTape 55 = .ok (.bipush 40, 2) := by decide +kernel
theorem dX2_faultOfTape_57 : decode cX2_faultOfTape 57 = .ok (.if_icmp .eq 10, 3) := by decide +kernel
theorem dX2_faultOfTape_60 : decode cX2_faultOfTape 60 = .ok (.aload_n 0, 1) := by decide +kernel
theorem dX2_faultOfTape_61 : decode cX2_faultOfTape 61 = .ok (.invokevirtual 60, 3) := by decide +kernel
theorem dX2_faultOfTape_64 : decode cX2_faultOfTape 64 = .ok (.ifCond .ne 8, 3) := by decide +kernel
theorem dX2_faultOfTape_67 : decode cX2_faultOfTape 67 = .ok (.aload_n 0, 1) := by decide +kernel
theorem dX2_faultOfTape_68 : decode cX2_faultOfTape 68 = .ok (.getfield 38, 3) := by decide +kernel
theorem dX2_faultOfTape_71 : decode cX2_faultOfTape 71 = .ok (.ireturn, 1) := by decide +kernel
theorem dX2_faultOfTape_72 : decode cX2_faultOfTape 72 = .ok (.iinc 1 1, 3) := by decide +kernel
theorem dX2_faultOfTape_75 : decode cX2_faultOfTape 75 = .ok (.goto (-48), 3) := by decide +kernel
theorem dX2_faultOfTape_78 : decode cX2_faultOfTape 78 = .ok (.aload_n 0, 1) := by decide +kernel
theorem dX2_faultOfTape_79 : decode cX2_faultOfTape 79 = .ok (.invokevirtual 64, 3) := by decide +kernel
theorem dX2_faultOfTape_82 : decode cX2_faultOfTape 82 = .ok (.ifCond .eq 21, 3) := by decide +kernel
theorem dX2_faultOfTape_85 : decode cX2_faultOfTape 85 = .ok (.aload_n 0, 1) := by decide +kernel
theorem dX2_faultOfTape_86 : decode cX2_faultOfTape 86 = .ok (.invokevirtual 67, 3) := by decide +kernel
theorem dX2_faultOfTape_89 : decode cX2_faultOfTape 89 = .ok (.ifCond .eq 14, 3) := by decide +kernel
theorem dX2_faultOfTape_92 : decode cX2_faultOfTape 92 = .ok (.aload_n 0, 1) := by decide +kernel
theorem dX2_faultOfTape_93 : decode cX2_faultOfTape 93 = .ok (.invokevirtual 70, 3) := by decide +kernel
theorem dX2_faultOfTape_96 : decode cX2_faultOfTape 96 = .ok (.ifCond .eq 7, 3) := by decide +kernel
theorem dX2_faultOfTape_99 : decode cX2_faultOfTape 99 = .ok (.iconst (-1), 1) := by decide +kernel
theorem dX2_faultOfTape_100 : decode cX2_faultOfTape 100 = .ok (.goto 7, 3) := by decide +kernel
theorem dX2_faultOfTape_103 : decode cX2_faultOfTape 103 = .ok (.aload_n 0, 1) := by decide +kernel
theorem dX2_faultOfTape_104 : decode cX2_faultOfTape 104 = .ok (.getfield 38, 3) := by decide +kernel
theorem dX2_faultOfTape_107 : decode cX2_faultOfTape 107 = .ok (.ireturn, 1) := by decide +kernel
theorem dX2_takeRow_0 : decode cX2_takeRow 0 = .ok (.aload_n 0, 1) := by decide +kernel
theorem dX2_takeRow_1 : decode cX2_takeRow 1 = .ok (.invokevirtual 73, 3) := by decide +kernel
theorem dX2_takeRow_4 : decode cX2_takeRow 4 = .ok (.istore_n 1, 1) := by decide +kernel
theorem dX2_takeRow_5 : decode cX2_takeRow 5 = .ok (.iload_n 1, 1) := by decide +kernel
theorem dX2_takeRow_6 : decode cX2_takeRow 6 = .ok (.iconst (-1), 1) := by decide +kernel
theorem dX2_takeRow_7 : decode cX2_takeRow 7 = .ok (.if_icmp .ne 5, 3) := by decide +kernel
theorem dX2_takeRow_10 : decode cX2_takeRow 10 = .ok (.iconst 0, 1) := by decide +kernel
theorem dX2_takeRow_11 : decode cX2_takeRow 11 = .ok (.ireturn, 1) := by decide +kernel
theorem dX2_takeRow_12 : decode cX2_takeRow 12 = .ok (.aload_n 0, 1) := by decide +kernel
theorem dX2_takeRow_13 : decode cX2_takeRow 13 = .ok (.getfield 34, 3) := by decide +kernel
theorem dX2_takeRow_16 : decode cX2_takeRow 16 = .ok (.iload_n 1, 1) := by decide +kernel
theorem dX2_takeRow_17 : decode cX2_takeRow 17 = .ok (.invokevirtual 77, 3) := by decide +kernel
theorem dX2_takeRow_20 : decode cX2_takeRow 20 = .ok (.aload_n 0, 1) := by decide +kernel
theorem dX2_takeRow_21 : decode cX2_takeRow 21 = .ok (.invokevirtual 81, 3) := by decide +kernel
theorem dX2_takeRow_24 : decode cX2_takeRow 24 = .ok (.iload_n 1, 1) := by decide +kernel
theorem dX2_takeRow_25 : decode cX2_takeRow 25 = .ok (.tableswitch 212 0 7 #[47, 78, 78, 127, 152, 160, 186, 186], 47) := by decide +kernel
theorem dX2_takeRow_72 : decode cX2_takeRow 72 = .ok (.aload_n 0, 1) := by decide +kernel
theorem dX2_takeRow_73 : decode cX2_takeRow 73 = .ok (.invokevirtual 84, 3) := by decide +kernel
theorem dX2_takeRow_76 : decode cX2_takeRow 76 = .ok (.ifCond .eq 22, 3) := by decide +kernel
theorem dX2_takeRow_79 : decode cX2_takeRow 79 = .ok (.aload_n 0, 1) := by decide +kernel
theorem dX2_takeRow_80 : decode cX2_takeRow 80 = .ok (.invokevirtual 87, 3) := by decide +kernel
theorem dX2_takeRow_83 : decode cX2_takeRow 83 = .ok (.ifCond .eq 15, 3) := by decide +kernel
theorem dX2_takeRow_86 : decode cX2_takeRow 86 = .ok (.aload_n 0, 1) := by decide +kernel
theorem dX2_takeRow_87 : decode cX2_takeRow 87 = .ok (.iconst 0, 1) := by decide +kernel
theorem dX2_takeRow_88 : decode cX2_takeRow 88 = .ok (.invokevirtual 90, 3) := by decide +kernel
theorem dX2_takeRow_91 : decode cX2_takeRow 91 = .ok (.ifCond .eq 7, 3) := by decide +kernel
theorem dX2_takeRow_94 : decode cX2_takeRow 94 = .ok (.iconst 1, 1) := by decide +kernel
theorem dX2_takeRow_95 : decode cX2_takeRow 95 = .ok (.goto 4, 3) := by decide +kernel
theorem dX2_takeRow_98 : decode cX2_takeRow 98 = .ok (.iconst 0, 1) := by decide +kernel
theorem dX2_takeRow_99 : decode cX2_takeRow 99 = .ok (.istore_n 2, 1) := by decide +kernel
theorem dX2_takeRow_100 : decode cX2_takeRow 100 = .ok (.goto 161, 3) := by decide +kernel
theorem dX2_takeRow_103 : decode cX2_takeRow 103 = .ok (.aload_n 0, 1) := by decide +kernel
theorem dX2_takeRow_104 : decode cX2_takeRow 104 = .ok (.invokevirtual 84, 3) := by decide +kernel
theorem dX2_takeRow_107 : decode cX2_takeRow 107 = .ok (.ifCond .eq 40, 3) := by decide +kernel
theorem dX2_takeRow_110 : decode cX2_takeRow 110 = .ok (.aload_n 0, 1) := by decide +kernel
theorem dX2_takeRow_111 : decode cX2_takeRow 111 = .ok (.iconst 0, 1) := by decide +kernel
theorem dX2_takeRow_112 : decode cX2_takeRow 112 = .ok (.invokevirtual 94, 3) := by decide +kernel
theorem dX2_takeRow_115 : decode cX2_takeRow 115 = .ok (.ifCond .eq 32, 3) := by decide +kernel
theorem dX2_takeRow_118 : decode cX2_takeRow 118 = .ok (.aload_n 0, 1) := by decide +kernel
theorem dX2_takeRow_119 : decode cX2_takeRow 119 = .ok (.iload_n 1, 1) := by decide +kernel
theorem dX2_takeRow_120 : decode cX2_takeRow 120 = .ok (.iconst 2, 1) := by decide +kernel
theorem dX2_takeRow_121 : decode cX2_takeRow 121 = .ok (.if_icmp .ne 7, 3) := by decide +kernel
theorem dX2_takeRow_124 : decode cX2_takeRow 124 = .ok (.iconst 1, 1) := by decide +kernel
theorem dX2_takeRow_125 : decode cX2_takeRow 125 = .ok (.goto 4, 3) := by decide +kernel
theorem dX2_takeRow_128 : decode cX2_takeRow 128 = .ok (.iconst 0, 1) := by decide +kernel
theorem dX2_takeRow_129 : decode cX2_takeRow 129 = .ok (.invokevirtual 97, 3) := by decide +kernel
theorem dX2_takeRow_132 : decode cX2_takeRow 132 = .ok (.ifCond .eq 15, 3) := by decide +kernel
theorem dX2_takeRow_135 : decode cX2_takeRow 135 = .ok (.aload_n 0, 1) := by decide +kernel
theorem dX2_takeRow_136 : decode cX2_takeRow 136 = .ok (.iconst 0, 1) := by decide +kernel
theorem dX2_takeRow_137 : decode cX2_takeRow 137 = .ok (.invokevirtual 90, 3) := by decide +kernel
theorem dX2_takeRow_140 : decode cX2_takeRow 140 = .ok (.ifCond .eq 7, 3) := by decide +kernel
theorem dX2_takeRow_143 : decode cX2_takeRow 143 = .ok (.iconst 1, 1) := by decide +kernel
theorem dX2_takeRow_144 : decode cX2_takeRow 144 = .ok (.goto 4, 3) := by decide +kernel
theorem dX2_takeRow_147 : decode cX2_takeRow 147 = .ok (.iconst 0, 1) := by decide +kernel
theorem dX2_takeRow_148 : decode cX2_takeRow 148 = .ok (.istore_n 2, 1) := by decide +kernel
theorem dX2_takeRow_149 : decode cX2_takeRow 149 = .ok (.goto 112, 3) := by decide +kernel
theorem dX2_takeRow_152 : decode cX2_takeRow 152 = .ok (.aload_n 0, 1) := by decide +kernel
theorem dX2_takeRow_153 : decode cX2_takeRow 153 = .ok (.iconst 0, 1) := by decide +kernel
theorem dX2_takeRow_154 : decode cX2_takeRow 154 = .ok (.invokevirtual 94, 3) := by decide +kernel
theorem dX2_takeRow_157 : decode cX2_takeRow 157 = .ok (.ifCond .eq 15, 3) := by decide +kernel
theorem dX2_takeRow_160 : decode cX2_takeRow 160 = .ok (.aload_n 0, 1) := by decide +kernel
theorem dX2_takeRow_161 : decode cX2_takeRow 161 = .ok (.iconst 1, 1) := by decide +kernel
theorem dX2_takeRow_162 : decode cX2_takeRow 162 = .ok (.invokevirtual 94, 3) := by decide +kernel
theorem dX2_takeRow_165 : decode cX2_takeRow 165 = .ok (.ifCond .eq 7, 3) := by decide +kernel
theorem dX2_takeRow_168 : decode cX2_takeRow 168 = .ok (.iconst 1, 1) := by decide +kernel
theorem dX2_takeRow_169 : decode cX2_takeRow 169 = .ok (.goto 4, 3) := by decide +kernel
theorem dX2_takeRow_172 : decode cX2_takeRow 172 = .ok (.iconst 0, 1) := by decide +kernel
theorem dX2_takeRow_173 : decode cX2_takeRow 173 = .ok (.istore_n 2, 1) := by decide +kernel
theorem dX2_takeRow_174 : decode cX2_takeRow 174 = .ok (.goto 87, 3) := by decide +kernel
theorem dX2_takeRow_177 : decode cX2_takeRow 177 = .ok (.aload_n 0, 1) := by decide +kernel
theorem dX2_takeRow_178 : decode cX2_takeRow 178 = .ok (.invokevirtual 101, 3) := by decide +kernel
theorem dX2_takeRow_181 : decode cX2_takeRow 181 = .ok (.istore_n 2, 1) := by decide +kernel
theorem dX2_takeRow_182 : decode cX2_takeRow 182 = .ok (.goto 79, 3) := by decide +kernel
theorem dX2_takeRow_185 : decode cX2_takeRow 185 = .ok (.aload_n 0, 1) := by decide +kernel
theorem dX2_takeRow_186 : decode cX2_takeRow 186 = .ok (.iconst 2, 1) := by decide +kernel
theorem dX2_takeRow_187 : decode cX2_takeRow 187 = .ok (.bipush 100, 2) := by decide +kernel
theorem dX2_takeRow_189 : decode cX2_takeRow 189 = .ok (.invokevirtual 104, 3) := by decide +kernel
theorem dX2_takeRow_192 : decode cX2_takeRow 192 = .ok (.ifCond .eq 14, 3) := by decide +kernel
theorem dX2_takeRow_195 : decode cX2_takeRow 195 = .ok (.aload_n 0, 1) := by decide +kernel
theorem dX2_takeRow_196 : decode cX2_takeRow 196 = .ok (.invokevirtual 101, 3) := by decide +kernel
theorem dX2_takeRow_199 : decode cX2_takeRow 199 = .ok (.ifCond .eq 7, 3) := by decide +kernel
theorem dX2_takeRow_202 : decode cX2_takeRow 202 = .ok (.iconst 1, 1) := by decide +kernel
theorem dX2_takeRow_203 : decode cX2_takeRow 203 = .ok (.goto 4, 3) := by decide +kernel
theorem dX2_takeRow_206 : decode cX2_takeRow 206 = .ok (.iconst 0, 1) := by decide +kernel
theorem dX2_takeRow_207 : decode cX2_takeRow 207 = .ok (.istore_n 2, 1) := by decide +kernel
theorem dX2_takeRow_208 : decode cX2_takeRow 208 = .ok (.goto 53, 3) := by decide +kernel
theorem dX2_takeRow_211 : decode cX2_takeRow 211 = .ok (.aload_n 0, 1) := by decide +kernel
theorem dX2_takeRow_212 : decode cX2_takeRow 212 = .ok (.iconst 0, 1) := by decide +kernel
theorem dX2_takeRow_213 : decode cX2_takeRow 213 = .ok (.ldc 108, 2) := by decide +kernel
theorem dX2_takeRow_215 : decode cX2_takeRow 215 = .ok (.invokevirtual 104, 3) := by decide +kernel
theorem dX2_takeRow_218 : decode cX2_takeRow 218 = .ok (.ifCond .eq 14, 3) := by decide +kernel
theorem dX2_takeRow_221 : decode cX2_takeRow 221 = .ok (.aload_n 0, 1) := by decide +kernel
theorem dX2_takeRow_222 : decode cX2_takeRow 222 = .ok (.invokevirtual 101, 3) := by decide +kernel
theorem dX2_takeRow_225 : decode cX2_takeRow 225 = .ok (.ifCond .eq 7, 3) := by decide +kernel
theorem dX2_takeRow_228 : decode cX2_takeRow 228 = .ok (.iconst 1, 1) := by decide +kernel
theorem dX2_takeRow_229 : decode cX2_takeRow 229 = .ok (.goto 4, 3) := by decide +kernel
theorem dX2_takeRow_232 : decode cX2_takeRow 232 = .ok (.iconst 0, 1) := by decide +kernel
theorem dX2_takeRow_233 : decode cX2_takeRow 233 = .ok (.istore_n 2, 1) := by decide +kernel
theorem dX2_takeRow_234 : decode cX2_takeRow 234 = .ok (.goto 27, 3) := by decide +kernel
theorem dX2_takeRow_237 : decode cX2_takeRow 237 = .ok (.aload_n 0, 1) := by decide +kernel
theorem dX2_takeRow_238 : decode cX2_takeRow 238 = .ok (.iconst 0, 1) := by decide +kernel
theorem dX2_takeRow_239 : decode cX2_takeRow 239 = .ok (.ldc 108, 2) := by decide +kernel
theorem dX2_takeRow_241 : decode cX2_takeRow 241 = .ok (.invokevirtual 104, 3) := by decide +kernel
theorem dX2_takeRow_244 : decode cX2_takeRow 244 = .ok (.ifCond .eq 15, 3) := by decide +kernel
theorem dX2_takeRow_247 : decode cX2_takeRow 247 = .ok (.aload_n 0, 1) := by decide +kernel
theorem dX2_takeRow_248 : decode cX2_takeRow 248 = .ok (.iconst 0, 1) := by decide +kernel
theorem dX2_takeRow_249 : decode cX2_takeRow 249 = .ok (.invokevirtual 90, 3) := by decide +kernel
theorem dX2_takeRow_252 : decode cX2_takeRow 252 = .ok (.ifCond .eq 7, 3) := by decide +kernel
theorem dX2_takeRow_255 : decode cX2_takeRow 255 = .ok (.iconst 1, 1) := by decide +kernel
theorem dX2_takeRow_256 : decode cX2_takeRow 256 = .ok (.goto 4, 3) := by decide +kernel
theorem dX2_takeRow_259 : decode cX2_takeRow 259 = .ok (.iconst 0, 1) := by decide +kernel
theorem dX2_takeRow_260 : decode cX2_takeRow 260 = .ok (.istore_n 2, 1) := by decide +kernel
theorem dX2_takeRow_261 : decode cX2_takeRow 261 = .ok (.iload_n 2, 1) := by decide +kernel
theorem dX2_takeRow_262 : decode cX2_takeRow 262 = .ok (.ifCond .eq 14, 3) := by decide +kernel
theorem dX2_takeRow_265 : decode cX2_takeRow 265 = .ok (.aload_n 0, 1) := by decide +kernel
theorem dX2_takeRow_266 : decode cX2_takeRow 266 = .ok (.invokevirtual 109, 3) := by decide +kernel
theorem dX2_takeRow_269 : decode cX2_takeRow 269 = .ok (.ifCond .eq 7, 3) := by decide +kernel
theorem dX2_takeRow_272 : decode cX2_takeRow 272 = .ok (.iconst 1, 1) := by decide +kernel
theorem dX2_takeRow_273 : decode cX2_takeRow 273 = .ok (.goto 4, 3) := by decide +kernel
theorem dX2_takeRow_276 : decode cX2_takeRow 276 = .ok (.iconst 0, 1) := by decide +kernel
theorem dX2_takeRow_277 : decode cX2_takeRow 277 = .ok (.ireturn, 1) := by decide +kernel
theorem dX2_takeWord_0 : decode cX2_takeWord 0 = .ok (.aload_n 0, 1) := by decide +kernel
theorem dX2_takeWord_1 : decode cX2_takeWord 1 = .ok (.getfield 42, 3) := by decide +kernel
theorem dX2_takeWord_4 : decode cX2_takeWord 4 = .ok (.istore_n 1, 1) := by decide +kernel
theorem dX2_takeWord_5 : decode cX2_takeWord 5 = .ok (.iload_n 1, 1) := by decide +kernel
theorem dX2_takeWord_6 : decode cX2_takeWord 6 = .ok (.aload_n 0, 1) := by decide +kernel
theorem dX2_takeWord_7 : decode cX2_takeWord 7 = .ok (.getfield 12, 3) := by decide +kernel
theorem dX2_takeWord_10 : decode cX2_takeWord 10 = .ok (.getfield 57, 3) := by decide +kernel
theorem dX2_takeWord_13 : decode cX2_takeWord 13 = .ok (.if_icmp .ge 23, 3) := by decide +kernel
theorem dX2_takeWord_16 : decode cX2_takeWord 16 = .ok (.aload_n 0, 1) := by decide +kernel
theorem dX2_takeWord_17 : decode cX2_takeWord 17 = .ok (.getfield 12, 3) := by decide +kernel
theorem dX2_takeWord_20 : decode cX2_takeWord 20 = .ok (.iload_n 1, 1) := by decide +kernel
theorem dX2_takeWord_21 : decode cX2_takeWord 21 = .ok (.invokevirtual 112, 3) := by decide +kernel
theorem dX2_takeWord_24 : decode cX2_takeWord 24 = .ok (.invokestatic 116, 3) := by decide +kernel
theorem dX2_takeWord_27 : decode cX2_takeWord 27 = .ok (.ifCond .eq 9, 3) := by decide +kernel
theorem dX2_takeWord_30 : decode cX2_takeWord 30 = .ok (.iinc 1 1, 3) := by decide +kernel
theorem dX2_takeWord_33 : decode cX2_takeWord 33 = .ok (.goto (-28), 3) := by decide +kernel
theorem dX2_takeWord_36 : decode cX2_takeWord 36 = .ok (.iload_n 1, 1) := by decide +kernel
theorem dX2_takeWord_37 : decode cX2_takeWord 37 = .ok (.istore_n 2, 1) := by decide +kernel
theorem dX2_takeWord_38 : decode cX2_takeWord 38 = .ok (.iload_n 2, 1) := by decide +kernel
theorem dX2_takeWord_39 : decode cX2_takeWord 39 = .ok (.aload_n 0, 1) := by decide +kernel
theorem dX2_takeWord_40 : decode cX2_takeWord 40 = .ok (.getfield 12, 3) := by decide +kernel
theorem dX2_takeWord_43 : decode cX2_takeWord 43 = .ok (.getfield 57, 3) := by decide +kernel
theorem dX2_takeWord_46 : decode cX2_takeWord 46 = .ok (.if_icmp .ge 36, 3) := by decide +kernel
theorem dX2_takeWord_49 : decode cX2_takeWord 49 = .ok (.aload_n 0, 1) := by decide +kernel
theorem dX2_takeWord_50 : decode cX2_takeWord 50 = .ok (.getfield 12, 3) := by decide +kernel
theorem dX2_takeWord_53 : decode cX2_takeWord 53 = .ok (.iload_n 2, 1) := by decide +kernel
theorem dX2_takeWord_54 : decode cX2_takeWord 54 = .ok (.invokevirtual 112, 3) := by decide +kernel
theorem dX2_takeWord_57 : decode cX2_takeWord 57 = .ok (.invokestatic 116, 3) := by decide +kernel
theorem dX2_takeWord_60 : decode cX2_takeWord 60 = .ok (.ifCond .ne 22, 3) := by decide +kernel
theorem dX2_takeWord_63 : decode cX2_takeWord 63 = .ok (.aload_n 0, 1) := by decide +kernel
theorem dX2_takeWord_64 : decode cX2_takeWord 64 = .ok (.getfield 12, 3) := by decide +kernel
theorem dX2_takeWord_67 : decode cX2_takeWord 67 = .ok (.iload_n 2, 1) := by decide +kernel
theorem dX2_takeWord_68 : decode cX2_takeWord 68 = .ok (.invokevirtual 112, 3) := by decide +kernel
theorem dX2_takeWord_71 : decode cX2_takeWord 71 = .ok (.bipush 59, 2) := by decide +kernel
theorem dX2_takeWord_73 : decode cX2_takeWord 73 = .ok (.if_icmp .eq 9, 3) := by decide +kernel
theorem dX2_takeWord_76 : decode cX2_takeWord 76 = .ok (.iinc 2 1, 3) := by decide +kernel
theorem dX2_takeWord_79 : decode cX2_takeWord 79 = .ok (.goto (-41), 3) := by decide +kernel
theorem dX2_takeWord_82 : decode cX2_takeWord 82 = .ok (.iload_n 2, 1) := by decide +kernel
theorem dX2_takeWord_83 : decode cX2_takeWord 83 = .ok (.iload_n 1, 1) := by decide +kernel
theorem dX2_takeWord_84 : decode cX2_takeWord 84 = .ok (.if_icmp .ne 19, 3) := by decide +kernel
theorem dX2_takeWord_87 : decode cX2_takeWord 87 = .ok (.aload_n 0, 1) := by decide +kernel
theorem dX2_takeWord_88 : decode cX2_takeWord 88 = .ok (.getfield 12, 3) := by decide +kernel
theorem dX2_takeWord_91 : decode cX2_takeWord 91 = .ok (.iload_n 2, 1) := by decide +kernel
theorem dX2_takeWord_92 : decode cX2_takeWord 92 = .ok (.invokevirtual 112, 3) := by decide +kernel
theorem dX2_takeWord_95 : decode cX2_takeWord 95 = .ok (.bipush 59, 2) := by decide +kernel
theorem dX2_takeWord_97 : decode cX2_takeWord 97 = .ok (.if_icmp .ne 6, 3) := by decide +kernel
theorem dX2_takeWord_100 : decode cX2_takeWord 100 = .ok (.iinc 2 1, 3) := by decide +kernel
theorem dX2_takeWord_103 : decode cX2_takeWord 103 = .ok (.aload_n 0, 1) := by decide +kernel
theorem dX2_takeWord_104 : decode cX2_takeWord 104 = .ok (.iload_n 1, 1) := by decide +kernel
theorem dX2_takeWord_105 : decode cX2_takeWord 105 = .ok (.putfield 38, 3) := by decide +kernel
theorem dX2_takeWord_108 : decode cX2_takeWord 108 = .ok (.aload_n 0, 1) := by decide +kernel
theorem dX2_takeWord_109 : decode cX2_takeWord 109 = .ok (.iload_n 2, 1) := by decide +kernel
theorem dX2_takeWord_110 : decode cX2_takeWord 110 = .ok (.putfield 42, 3) := by decide +kernel
theorem dX2_takeWord_113 : decode cX2_takeWord 113 = .ok (.return_, 1) := by decide +kernel
theorem dX2_takeNewClock_0 : decode cX2_takeNewClock 0 = .ok (.aload_n 0, 1) := by decide +kernel
theorem dX2_takeNewClock_1 : decode cX2_takeNewClock 1 = .ok (.invokevirtual 54, 3) := by decide +kernel
theorem dX2_takeNewClock_4 : decode cX2_takeNewClock 4 = .ok (.aload_n 0, 1) := by decide +kernel
theorem dX2_takeNewClock_5 : decode cX2_takeNewClock 5 = .ok (.getfield 34, 3) := by decide +kernel
theorem dX2_takeNewClock_8 : decode cX2_takeNewClock 8 = .ok (.getfield 119, 3) := by decide +kernel
theorem dX2_takeNewClock_11 : decode cX2_takeNewClock 11 = .ok (.getfield 123, 3) := by decide +kernel
theorem dX2_takeNewClock_14 : decode cX2_takeNewClock 14 = .ok (.istore_n 1, 1) := by decide +kernel
theorem dX2_takeNewClock_15 : decode cX2_takeNewClock 15 = .ok (.aload_n 0, 1) := by decide +kernel
theorem dX2_takeNewClock_16 : decode cX2_takeNewClock 16 = .ok (.invokevirtual 128, 3) := by decide +kernel
theorem dX2_takeNewClock_19 : decode cX2_takeNewClock 19 = .ok (.ifCond .eq 30, 3) := by decide +kernel
theorem dX2_takeNewClock_22 : decode cX2_takeNewClock 22 = .ok (.iload_n 1, 1) := by decide +kernel
theorem dX2_takeNewClock_23 : decode cX2_takeNewClock 23 = .ok (.bipush 12, 2) := by decide +kernel
theorem dX2_takeNewClock_25 : decode cX2_takeNewClock 25 = .ok (.if_icmp .ge 24, 3) := by decide +kernel
theorem dX2_takeNewClock_28 : decode cX2_takeNewClock 28 = .ok (.aload_n 0, 1) := by decide +kernel
theorem dX2_takeNewClock_29 : decode cX2_takeNewClock 29 = .ok (.aload_n 0, 1) := by decide +kernel
theorem dX2_takeNewClock_30 : decode cX2_takeNewClock 30 = .ok (.getfield 38, 3) := by decide +kernel
theorem dX2_takeNewClock_33 : decode cX2_takeNewClock 33 = .ok (.aload_n 0, 1) := by decide +kernel
theorem dX2_takeNewClock_34 : decode cX2_takeNewClock 34 = .ok (.getfield 42, 3) := by decide +kernel
theorem dX2_takeNewClock_37 : decode cX2_takeNewClock 37 = .ok (.aload_n 0, 1) := by decide +kernel
theorem dX2_takeNewClock_38 : decode cX2_takeNewClock 38 = .ok (.getfield 38, 3) := by decide +kernel
theorem dX2_takeNewClock_41 : decode cX2_takeNewClock 41 = .ok (.isub, 1) := by decide +kernel
theorem dX2_takeNewClock_42 : decode cX2_takeNewClock 42 = .ok (.invokevirtual 131, 3) := by decide +kernel
theorem dX2_takeNewClock_45 : decode cX2_takeNewClock 45 = .ok (.iconst (-1), 1) := by decide +kernel
theorem dX2_takeNewClock_46 : decode cX2_takeNewClock 46 = .ok (.if_icmp .eq 5, 3) := by decide +kernel
theorem dX2_takeNewClock_49 : decode cX2_takeNewClock 49 = .ok (.iconst 0, 1) := by decide +kernel
theorem dX2_takeNewClock_50 : decode cX2_takeNewClock 50 = .ok (.ireturn, 1) := by decide +kernel
theorem dX2_takeNewClock_51 : decode cX2_takeNewClock 51 = .ok (.aload_n 0, 1) := by decide +kernel
theorem dX2_takeNewClock_52 : decode cX2_takeNewClock 52 = .ok (.getfield 18, 3) := by decide +kernel
theorem dX2_takeNewClock_55 : decode cX2_takeNewClock 55 = .ok (.iload_n 1, 1) := by decide +kernel
theorem dX2_takeNewClock_56 : decode cX2_takeNewClock 56 = .ok (.aload_n 0, 1) := by decide +kernel
theorem dX2_takeNewClock_57 : decode cX2_takeNewClock 57 = .ok (.getfield 38, 3) := by decide +kernel
theorem dX2_takeNewClock_60 : decode cX2_takeNewClock 60 = .ok (.iastore, 1) := by decide +kernel
theorem dX2_takeNewClock_61 : decode cX2_takeNewClock 61 = .ok (.aload_n 0, 1) := by decide +kernel
theorem dX2_takeNewClock_62 : decode cX2_takeNewClock 62 = .ok (.getfield 22, 3) := by decide +kernel
theorem dX2_takeNewClock_65 : decode cX2_takeNewClock 65 = .ok (.iload_n 1, 1) := by decide +kernel
theorem dX2_takeNewClock_66 : decode cX2_takeNewClock 66 = .ok (.aload_n 0, 1) := by decide +kernel
theorem dX2_takeNewClock_67 : decode cX2_takeNewClock 67 = .ok (.getfield 42, 3) := by decide +kernel
theorem dX2_takeNewClock_70 : decode cX2_takeNewClock 70 = .ok (.aload_n 0, 1) := by decide +kernel
theorem dX2_takeNewClock_71 : decode cX2_takeNewClock 71 = .ok (.getfield 38, 3) := by decide +kernel
theorem dX2_takeNewClock_74 : decode cX2_takeNewClock 74 = .ok (.isub, 1) := by decide +kernel
theorem dX2_takeNewClock_75 : decode cX2_takeNewClock 75 = .ok (.iastore, 1) := by decide +kernel
theorem dX2_takeNewClock_76 : decode cX2_takeNewClock 76 = .ok (.aload_n 0, 1) := by decide +kernel
theorem dX2_takeNewClock_77 : decode cX2_takeNewClock 77 = .ok (.getfield 34, 3) := by decide +kernel
theorem dX2_takeNewClock_80 : decode cX2_takeNewClock 80 = .ok (.getfield 119, 3) := by decide +kernel
theorem dX2_takeNewClock_83 : decode cX2_takeNewClock 83 = .ok (.aload_n 0, 1) := by decide +kernel
theorem dX2_takeNewClock_84 : decode cX2_takeNewClock 84 = .ok (.getfield 34, 3) := by decide +kernel
theorem dX2_takeNewClock_87 : decode cX2_takeNewClock 87 = .ok (.getfield 135, 3) := by decide +kernel
theorem dX2_takeNewClock_90 : decode cX2_takeNewClock 90 = .ok (.invokevirtual 138, 3) := by decide +kernel
theorem dX2_takeNewClock_93 : decode cX2_takeNewClock 93 = .ok (.aload_n 0, 1) := by decide +kernel
theorem dX2_takeNewClock_94 : decode cX2_takeNewClock 94 = .ok (.invokevirtual 81, 3) := by decide +kernel
theorem dX2_takeNewClock_97 : decode cX2_takeNewClock 97 = .ok (.iconst 1, 1) := by decide +kernel
theorem dX2_takeNewClock_98 : decode cX2_takeNewClock 98 = .ok (.ireturn, 1) := by decide +kernel
theorem dX2_takeTimes_0 : decode cX2_takeTimes 0 = .ok (.aload_n 0, 1) := by decide +kernel
theorem dX2_takeTimes_1 : decode cX2_takeTimes 1 = .ok (.iconst 1, 1) := by decide +kernel
theorem dX2_takeTimes_2 : decode cX2_takeTimes 2 = .ok (.ldc 108, 2) := by decide +kernel
theorem dX2_takeTimes_4 : decode cX2_takeTimes 4 = .ok (.invokevirtual 139, 3) := by decide +kernel
theorem dX2_takeTimes_7 : decode cX2_takeTimes 7 = .ok (.istore_n 1, 1) := by decide +kernel
theorem dX2_takeTimes_8 : decode cX2_takeTimes 8 = .ok (.iload_n 1, 1) := by decide +kernel
theorem dX2_takeTimes_9 : decode cX2_takeTimes 9 = .ok (.iconst (-1), 1) := by decide +kernel
theorem dX2_takeTimes_10 : decode cX2_takeTimes 10 = .ok (.if_icmp .ne 5, 3) := by decide +kernel
theorem dX2_takeTimes_13 : decode cX2_takeTimes 13 = .ok (.iconst 0, 1) := by decide +kernel
theorem dX2_takeTimes_14 : decode cX2_takeTimes 14 = .ok (.ireturn, 1) := by decide +kernel
theorem dX2_takeTimes_15 : decode cX2_takeTimes 15 = .ok (.aload_n 0, 1) := by decide +kernel
theorem dX2_takeTimes_16 : decode cX2_takeTimes 16 = .ok (.iconst 0, 1) := by decide +kernel
theorem dX2_takeTimes_17 : decode cX2_takeTimes 17 = .ok (.iload_n 1, 1) := by decide +kernel
theorem dX2_takeTimes_18 : decode cX2_takeTimes 18 = .ok (.iconst 1, 1) := by decide +kernel
theorem dX2_takeTimes_19 : decode cX2_takeTimes 19 = .ok (.isub, 1) := by decide +kernel
theorem dX2_takeTimes_20 : decode cX2_takeTimes 20 = .ok (.invokevirtual 139, 3) := by decide +kernel
theorem dX2_takeTimes_23 : decode cX2_takeTimes 23 = .ok (.istore_n 2, 1) := by decide +kernel
theorem dX2_takeTimes_24 : decode cX2_takeTimes 24 = .ok (.iload_n 2, 1) := by decide +kernel
theorem dX2_takeTimes_25 : decode cX2_takeTimes 25 = .ok (.iconst (-1), 1) := by decide +kernel
theorem dX2_takeTimes_26 : decode cX2_takeTimes 26 = .ok (.if_icmp .ne 5, 3) := by decide +kernel
theorem dX2_takeTimes_29 : decode cX2_takeTimes 29 = .ok (.iconst 0, 1) := by decide +kernel
theorem dX2_takeTimes_30 : decode cX2_takeTimes 30 = .ok (.ireturn, 1) := by decide +kernel
theorem dX2_takeTimes_31 : decode cX2_takeTimes 31 = .ok (.aload_n 0, 1) := by decide +kernel
theorem dX2_takeTimes_32 : decode cX2_takeTimes 32 = .ok (.iconst 0, 1) := by decide +kernel
theorem dX2_takeTimes_33 : decode cX2_takeTimes 33 = .ok (.iload_n 1, 1) := by decide +kernel
theorem dX2_takeTimes_34 : decode cX2_takeTimes 34 = .ok (.iconst 1, 1) := by decide +kernel
theorem dX2_takeTimes_35 : decode cX2_takeTimes 35 = .ok (.isub, 1) := by decide +kernel
theorem dX2_takeTimes_36 : decode cX2_takeTimes 36 = .ok (.invokevirtual 139, 3) := by decide +kernel
theorem dX2_takeTimes_39 : decode cX2_takeTimes 39 = .ok (.istore_n 3, 1) := by decide +kernel
theorem dX2_takeTimes_40 : decode cX2_takeTimes 40 = .ok (.iload_n 3, 1) := by decide +kernel
theorem dX2_takeTimes_41 : decode cX2_takeTimes 41 = .ok (.iconst (-1), 1) := by decide +kernel
theorem dX2_takeTimes_42 : decode cX2_takeTimes 42 = .ok (.if_icmp .eq 8, 3) := by decide +kernel
theorem dX2_takeTimes_45 : decode cX2_takeTimes 45 = .ok (.iload_n 3, 1) := by decide +kernel
theorem dX2_takeTimes_46 : decode cX2_takeTimes 46 = .ok (.iload_n 2, 1) := by decide +kernel
theorem dX2_takeTimes_47 : decode cX2_takeTimes 47 = .ok (.if_icmp .ne 5, 3) := by decide +kernel
theorem dX2_takeTimes_50 : decode cX2_takeTimes 50 = .ok (.iconst 0, 1) := by decide +kernel
theorem dX2_takeTimes_51 : decode cX2_takeTimes 51 = .ok (.ireturn, 1) := by decide +kernel
theorem dX2_takeTimes_52 : decode cX2_takeTimes 52 = .ok (.aload_n 0, 1) := by decide +kernel
theorem dX2_takeTimes_53 : decode cX2_takeTimes 53 = .ok (.getfield 34, 3) := by decide +kernel
theorem dX2_takeTimes_56 : decode cX2_takeTimes 56 = .ok (.getfield 119, 3) := by decide +kernel
theorem dX2_takeTimes_59 : decode cX2_takeTimes 59 = .ok (.iload_n 1, 1) := by decide +kernel
theorem dX2_takeTimes_60 : decode cX2_takeTimes 60 = .ok (.iload_n 2, 1) := by decide +kernel
theorem dX2_takeTimes_61 : decode cX2_takeTimes 61 = .ok (.iload_n 3, 1) := by decide +kernel
theorem dX2_takeTimes_62 : decode cX2_takeTimes 62 = .ok (.invokevirtual 142, 3) := by decide +kernel
theorem dX2_takeTimes_65 : decode cX2_takeTimes 65 = .ok (.iconst 1, 1) := by decide +kernel
theorem dX2_takeTimes_66 : decode cX2_takeTimes 66 = .ok (.ireturn, 1) := by decide +kernel
theorem dX2_takeLink_0 : decode cX2_takeLink 0 = .ok (.aload_n 0, 1) := by decide +kernel
theorem dX2_takeLink_1 : decode cX2_takeLink 1 = .ok (.invokevirtual 54, 3) := by decide +kernel
theorem dX2_takeLink_4 : decode cX2_takeLink 4 = .ok (.aload_n 0, 1) := by decide +kernel
theorem dX2_takeLink_5 : decode cX2_takeLink 5 = .ok (.getfield 34, 3) := by decide +kernel
theorem dX2_takeLink_8 : decode cX2_takeLink 8 = .ok (.getfield 135, 3) := by decide +kernel
theorem dX2_takeLink_11 : decode cX2_takeLink 11 = .ok (.iconst 1, 1) := by decide +kernel
theorem dX2_takeLink_12 : decode cX2_takeLink 12 = .ok (.isub, 1) := by decide +kernel
theorem dX2_takeLink_13 : decode cX2_takeLink 13 = .ok (.iconst 2, 1) := by decide +kernel
theorem dX2_takeLink_14 : decode cX2_takeLink 14 = .ok (.imul, 1) := by decide +kernel
theorem dX2_takeLink_15 : decode cX2_takeLink 15 = .ok (.iload_n 1, 1) := by decide +kernel
theorem dX2_takeLink_16 : decode cX2_takeLink 16 = .ok (.iadd, 1) := by decide +kernel
theorem dX2_takeLink_17 : decode cX2_takeLink 17 = .ok (.istore_n 2, 1) := by decide +kernel
theorem dX2_takeLink_18 : decode cX2_takeLink 18 = .ok (.aload_n 0, 1) := by decide +kernel
theorem dX2_takeLink_19 : decode cX2_takeLink 19 = .ok (.invokevirtual 128, 3) := by decide +kernel
theorem dX2_takeLink_22 : decode cX2_takeLink 22 = .ok (.ifCond .eq 16, 3) := by decide +kernel
theorem dX2_takeLink_25 : decode cX2_takeLink 25 = .ok (.iload_n 2, 1) := by decide +kernel
theorem dX2_takeLink_26 : decode cX2_takeLink 26 = .ok (.ifCond .lt 12, 3) := by decide +kernel
theorem dX2_takeLink_29 : decode cX2_takeLink 29 = .ok (.iload_n 2, 1) := by decide +kernel
theorem dX2_takeLink_30 : decode cX2_takeLink 30 = .ok (.aload_n 0, 1) := by decide +kernel
theorem dX2_takeLink_31 : decode cX2_takeLink 31 = .ok (.getfield 25, 3) := by decide +kernel
theorem dX2_takeLink_34 : decode cX2_takeLink 34 = .ok (.arraylength, 1) := by decide +kernel
theorem dX2_takeLink_35 : decode cX2_takeLink 35 = .ok (.if_icmp .lt 5, 3) := by decide +kernel
theorem dX2_takeLink_38 : decode cX2_takeLink 38 = .ok (.iconst 0, 1) := by decide +kernel
theorem dX2_takeLink_39 : decode cX2_takeLink 39 = .ok (.ireturn, 1) := by decide +kernel
theorem dX2_takeLink_40 : decode cX2_takeLink 40 = .ok (.aload_n 0, 1) := by decide +kernel
theorem dX2_takeLink_41 : decode cX2_takeLink 41 = .ok (.getfield 25, 3) := by decide +kernel
theorem dX2_takeLink_44 : decode cX2_takeLink 44 = .ok (.iload_n 2, 1) := by decide +kernel
theorem dX2_takeLink_45 : decode cX2_takeLink 45 = .ok (.aload_n 0, 1) := by decide +kernel
theorem dX2_takeLink_46 : decode cX2_takeLink 46 = .ok (.getfield 38, 3) := by decide +kernel
theorem dX2_takeLink_49 : decode cX2_takeLink 49 = .ok (.iastore, 1) := by decide +kernel
theorem dX2_takeLink_50 : decode cX2_takeLink 50 = .ok (.aload_n 0, 1) := by decide +kernel
theorem dX2_takeLink_51 : decode cX2_takeLink 51 = .ok (.getfield 28, 3) := by decide +kernel
theorem dX2_takeLink_54 : decode cX2_takeLink 54 = .ok (.iload_n 2, 1) := by decide +kernel
theorem dX2_takeLink_55 : decode cX2_takeLink 55 = .ok (.aload_n 0, 1) := by decide +kernel
theorem dX2_takeLink_56 : decode cX2_takeLink 56 = .ok (.getfield 42, 3) := by decide +kernel
theorem dX2_takeLink_59 : decode cX2_takeLink 59 = .ok (.aload_n 0, 1) := by decide +kernel
theorem dX2_takeLink_60 : decode cX2_takeLink 60 = .ok (.getfield 38, 3) := by decide +kernel
theorem dX2_takeLink_63 : decode cX2_takeLink 63 = .ok (.isub, 1) := by decide +kernel
theorem dX2_takeLink_64 : decode cX2_takeLink 64 = .ok (.iastore, 1) := by decide +kernel
theorem dX2_takeLink_65 : decode cX2_takeLink 65 = .ok (.aload_n 0, 1) := by decide +kernel
theorem dX2_takeLink_66 : decode cX2_takeLink 66 = .ok (.invokevirtual 81, 3) := by decide +kernel
theorem dX2_takeLink_69 : decode cX2_takeLink 69 = .ok (.iconst 1, 1) := by decide +kernel
theorem dX2_takeLink_70 : decode cX2_takeLink 70 = .ok (.ireturn, 1) := by decide +kernel
theorem dX2_takeRatio_0 : decode cX2_takeRatio 0 = .ok (.aload_n 0, 1) := by decide +kernel
theorem dX2_takeRatio_1 : decode cX2_takeRatio 1 = .ok (.iconst 1, 1) := by decide +kernel
theorem dX2_takeRatio_2 : decode cX2_takeRatio 2 = .ok (.sipush 1000, 3) := by decide +kernel
theorem dX2_takeRatio_5 : decode cX2_takeRatio 5 = .ok (.invokevirtual 139, 3) := by decide +kernel
theorem dX2_takeRatio_8 : decode cX2_takeRatio 8 = .ok (.istore_n 2, 1) := by decide +kernel
theorem dX2_takeRatio_9 : decode cX2_takeRatio 9 = .ok (.iload_n 2, 1) := by decide +kernel
theorem dX2_takeRatio_10 : decode cX2_takeRatio 10 = .ok (.iconst (-1), 1) := by decide +kernel
theorem dX2_takeRatio_11 : decode cX2_takeRatio 11 = .ok (.if_icmp .ne 5, 3) := by decide +kernel
theorem dX2_takeRatio_14 : decode cX2_takeRatio 14 = .ok (.iconst 0, 1) := by decide +kernel
theorem dX2_takeRatio_15 : decode cX2_takeRatio 15 = .ok (.ireturn, 1) := by decide +kernel
theorem dX2_takeRatio_16 : decode cX2_takeRatio 16 = .ok (.aload_n 0, 1) := by decide +kernel
theorem dX2_takeRatio_17 : decode cX2_takeRatio 17 = .ok (.iconst 1, 1) := by decide +kernel
theorem dX2_takeRatio_18 : decode cX2_takeRatio 18 = .ok (.sipush 1000, 3) := by decide +kernel
theorem dX2_takeRatio_21 : decode cX2_takeRatio 21 = .ok (.invokevirtual 139, 3) := by decide +kernel
theorem dX2_takeRatio_24 : decode cX2_takeRatio 24 = .ok (.istore_n 3, 1) := by decide +kernel
theorem dX2_takeRatio_25 : decode cX2_takeRatio 25 = .ok (.iload_n 3, 1) := by decide +kernel
theorem dX2_takeRatio_26 : decode cX2_takeRatio 26 = .ok (.iconst (-1), 1) := by decide +kernel
theorem dX2_takeRatio_27 : decode cX2_takeRatio 27 = .ok (.if_icmp .ne 5, 3) := by decide +kernel
theorem dX2_takeRatio_30 : decode cX2_takeRatio 30 = .ok (.iconst 0, 1) := by decide +kernel
theorem dX2_takeRatio_31 : decode cX2_takeRatio 31 = .ok (.ireturn, 1) := by decide +kernel
theorem dX2_takeRatio_32 : decode cX2_takeRatio 32 = .ok (.aload_n 0, 1) := by decide +kernel
theorem dX2_takeRatio_33 : decode cX2_takeRatio 33 = .ok (.getfield 34, 3) := by decide +kernel
theorem dX2_takeRatio_36 : decode cX2_takeRatio 36 = .ok (.getfield 119, 3) := by decide +kernel
theorem dX2_takeRatio_39 : decode cX2_takeRatio 39 = .ok (.iload_n 2, 1) := by decide +kernel
theorem dX2_takeRatio_40 : decode cX2_takeRatio 40 = .ok (.iload_n 3, 1) := by decide +kernel
theorem dX2_takeRatio_41 : decode cX2_takeRatio 41 = .ok (.iload_n 1, 1) := by decide +kernel
theorem dX2_takeRatio_42 : decode cX2_takeRatio 42 = .ok (.invokevirtual 146, 3) := by decide +kernel
theorem dX2_takeRatio_45 : decode cX2_takeRatio 45 = .ok (.iconst 1, 1) := by decide +kernel
theorem dX2_takeRatio_46 : decode cX2_takeRatio 46 = .ok (.ireturn, 1) := by decide +kernel
theorem dX2_takeValue_0 : decode cX2_takeValue 0 = .ok (.aload_n 0, 1) := by decide +kernel
theorem dX2_takeValue_1 : decode cX2_takeValue 1 = .ok (.iload_n 1, 1) := by decide +kernel
theorem dX2_takeValue_2 : decode cX2_takeValue 2 = .ok (.iload_n 2, 1) := by decide +kernel
theorem dX2_takeValue_3 : decode cX2_takeValue 3 = .ok (.invokevirtual 139, 3) := by decide +kernel
theorem dX2_takeValue_6 : decode cX2_takeValue 6 = .ok (.istore_n 3, 1) := by decide +kernel
theorem dX2_takeValue_7 : decode cX2_takeValue 7 = .ok (.iload_n 3, 1) := by decide +kernel
theorem dX2_takeValue_8 : decode cX2_takeValue 8 = .ok (.iconst (-1), 1) := by decide +kernel
theorem dX2_takeValue_9 : decode cX2_takeValue 9 = .ok (.if_icmp .ne 5, 3) := by decide +kernel
theorem dX2_takeValue_12 : decode cX2_takeValue 12 = .ok (.iconst 0, 1) := by decide +kernel
theorem dX2_takeValue_13 : decode cX2_takeValue 13 = .ok (.ireturn, 1) := by decide +kernel
theorem dX2_takeValue_14 : decode cX2_takeValue 14 = .ok (.aload_n 0, 1) := by decide +kernel
theorem dX2_takeValue_15 : decode cX2_takeValue 15 = .ok (.getfield 34, 3) := by decide +kernel
theorem dX2_takeValue_18 : decode cX2_takeValue 18 = .ok (.iload_n 3, 1) := by decide +kernel
theorem dX2_takeValue_19 : decode cX2_takeValue 19 = .ok (.invokevirtual 150, 3) := by decide +kernel
theorem dX2_takeValue_22 : decode cX2_takeValue 22 = .ok (.iconst 1, 1) := by decide +kernel
theorem dX2_takeValue_23 : decode cX2_takeValue 23 = .ok (.ireturn, 1) := by decide +kernel
theorem dX2_takeWhole_0 : decode cX2_takeWhole 0 = .ok (.aload_n 0, 1) := by decide +kernel
theorem dX2_takeWhole_1 : decode cX2_takeWhole 1 = .ok (.invokevirtual 54, 3) := by decide +kernel
theorem dX2_takeWhole_4 : decode cX2_takeWhole 4 = .ok (.aload_n 0, 1) := by decide +kernel
theorem dX2_takeWhole_5 : decode cX2_takeWhole 5 = .ok (.invokevirtual 153, 3) := by decide +kernel
theorem dX2_takeWhole_8 : decode cX2_takeWhole 8 = .ok (.istore_n 3, 1) := by decide +kernel
theorem dX2_takeWhole_9 : decode cX2_takeWhole 9 = .ok (.iload_n 3, 1) := by decide +kernel
theorem dX2_takeWhole_10 : decode cX2_takeWhole 10 = .ok (.iload_n 1, 1) := by decide +kernel
theorem dX2_takeWhole_11 : decode cX2_takeWhole 11 = .ok (.if_icmp .lt 8, 3) := by decide +kernel
theorem dX2_takeWhole_14 : decode cX2_takeWhole 14 = .ok (.iload_n 3, 1) := by decide +kernel
theorem dX2_takeWhole_15 : decode cX2_takeWhole 15 = .ok (.iload_n 2, 1) := by decide +kernel
theorem dX2_takeWhole_16 : decode cX2_takeWhole 16 = .ok (.if_icmp .le 5, 3) := by decide +kernel
theorem dX2_takeWhole_19 : decode cX2_takeWhole 19 = .ok (.iconst (-1), 1) := by decide +kernel
theorem dX2_takeWhole_20 : decode cX2_takeWhole 20 = .ok (.ireturn, 1) := by decide +kernel
theorem dX2_takeWhole_21 : decode cX2_takeWhole 21 = .ok (.aload_n 0, 1) := by decide +kernel
theorem dX2_takeWhole_22 : decode cX2_takeWhole 22 = .ok (.getfield 34, 3) := by decide +kernel
theorem dX2_takeWhole_25 : decode cX2_takeWhole 25 = .ok (.iload_n 3, 1) := by decide +kernel
theorem dX2_takeWhole_26 : decode cX2_takeWhole 26 = .ok (.invokevirtual 156, 3) := by decide +kernel
theorem dX2_takeWhole_29 : decode cX2_takeWhole 29 = .ok (.iload_n 3, 1) := by decide +kernel
theorem dX2_takeWhole_30 : decode cX2_takeWhole 30 = .ok (.ireturn, 1) := by decide +kernel
theorem dX2_takePath_0 : decode cX2_takePath 0 = .ok (.iconst 0, 1) := by decide +kernel
theorem dX2_takePath_1 : decode cX2_takePath 1 = .ok (.istore_n 1, 1) := by decide +kernel
theorem dX2_takePath_2 : decode cX2_takePath 2 = .ok (.iload_n 1, 1) := by decide +kernel
theorem dX2_takePath_3 : decode cX2_takePath 3 = .ok (.iconst 3, 1) := by decide +kernel
theorem dX2_takePath_4 : decode cX2_takePath 4 = .ok (.if_icmp .ge 37, 3) := by decide +kernel
theorem dX2_takePath_7 : decode cX2_takePath 7 = .ok (.aload_n 0, 1) := by decide +kernel
theorem dX2_takePath_8 : decode cX2_takePath 8 = .ok (.invokevirtual 54, 3) := by decide +kernel
theorem dX2_takePath_11 : decode cX2_takePath 11 = .ok (.aload_n 0, 1) := by decide +kernel
theorem dX2_takePath_12 : decode cX2_takePath 12 = .ok (.invokevirtual 159, 3) := by decide +kernel
theorem dX2_takePath_15 : decode cX2_takePath 15 = .ok (.ifCond .eq 10, 3) := by decide +kernel
theorem dX2_takePath_18 : decode cX2_takePath 18 = .ok (.aload_n 0, 1) := by decide +kernel
theorem dX2_takePath_19 : decode cX2_takePath 19 = .ok (.invokevirtual 81, 3) := by decide +kernel
theorem dX2_takePath_22 : decode cX2_takePath 22 = .ok (.goto 13, 3) := by decide +kernel
theorem dX2_takePath_25 : decode cX2_takePath 25 = .ok (.aload_n 0, 1) := by decide +kernel
theorem dX2_takePath_26 : decode cX2_takePath 26 = .ok (.iload_n 1, 1) := by decide +kernel
theorem dX2_takePath_27 : decode cX2_takePath 27 = .ok (.invokevirtual 162, 3) := by decide +kernel
theorem dX2_takePath_30 : decode cX2_takePath 30 = .ok (.ifCond .ne 5, 3) := by decide +kernel
theorem dX2_takePath_33 : decode cX2_takePath 33 = .ok (.iconst 0, 1) := by decide +kernel
theorem dX2_takePath_34 : decode cX2_takePath 34 = .ok (.ireturn, 1) := by decide +kernel
theorem dX2_takePath_35 : decode cX2_takePath 35 = .ok (.iinc 1 1, 3) := by decide +kernel
theorem dX2_takePath_38 : decode cX2_takePath 38 = .ok (.goto (-36), 3) := by decide +kernel
theorem dX2_takePath_41 : decode cX2_takePath 41 = .ok (.aload_n 0, 1) := by decide +kernel
theorem dX2_takePath_42 : decode cX2_takePath 42 = .ok (.getfield 34, 3) := by decide +kernel
theorem dX2_takePath_45 : decode cX2_takePath 45 = .ok (.invokevirtual 165, 3) := by decide +kernel
theorem dX2_takePath_48 : decode cX2_takePath 48 = .ok (.ireturn, 1) := by decide +kernel
theorem dX2_takePattern_0 : decode cX2_takePattern 0 = .ok (.aload_n 0, 1) := by decide +kernel
theorem dX2_takePattern_1 : decode cX2_takePattern 1 = .ok (.invokevirtual 54, 3) := by decide +kernel
theorem dX2_takePattern_4 : decode cX2_takePattern 4 = .ok (.aload_n 0, 1) := by decide +kernel
theorem dX2_takePattern_5 : decode cX2_takePattern 5 = .ok (.iload_n 1, 1) := by decide +kernel
theorem dX2_takePattern_6 : decode cX2_takePattern 6 = .ok (.invokevirtual 162, 3) := by decide +kernel
theorem dX2_takePattern_9 : decode cX2_takePattern 9 = .ok (.ireturn, 1) := by decide +kernel
theorem dX2_keepPattern_0 : decode cX2_keepPattern 0 = .ok (.aload_n 0, 1) := by decide +kernel
theorem dX2_keepPattern_1 : decode cX2_keepPattern 1 = .ok (.invokevirtual 168, 3) := by decide +kernel
theorem dX2_keepPattern_4 : decode cX2_keepPattern 4 = .ok (.ifCond .ne 5, 3) := by decide +kernel
theorem dX2_keepPattern_7 : decode cX2_keepPattern 7 = .ok (.iconst 0, 1) := by decide +kernel
theorem dX2_keepPattern_8 : decode cX2_keepPattern 8 = .ok (.ireturn, 1) := by decide +kernel
theorem dX2_keepPattern_9 : decode cX2_keepPattern 9 = .ok (.aload_n 0, 1) := by decide +kernel
theorem dX2_keepPattern_10 : decode cX2_keepPattern 10 = .ok (.invokevirtual 81, 3) := by decide +kernel
theorem dX2_keepPattern_13 : decode cX2_keepPattern 13 = .ok (.aload_n 0, 1) := by decide +kernel
theorem dX2_keepPattern_14 : decode cX2_keepPattern 14 = .ok (.getfield 34, 3) := by decide +kernel
theorem dX2_keepPattern_17 : decode cX2_keepPattern 17 = .ok (.iload_n 1, 1) := by decide +kernel
theorem dX2_keepPattern_18 : decode cX2_keepPattern 18 = .ok (.aload_n 0, 1) := by decide +kernel
theorem dX2_keepPattern_19 : decode cX2_keepPattern 19 = .ok (.getfield 42, 3) := by decide +kernel
theorem dX2_keepPattern_22 : decode cX2_keepPattern 22 = .ok (.aload_n 0, 1) := by decide +kernel
theorem dX2_keepPattern_23 : decode cX2_keepPattern 23 = .ok (.getfield 38, 3) := by decide +kernel
theorem dX2_keepPattern_26 : decode cX2_keepPattern 26 = .ok (.isub, 1) := by decide +kernel
theorem dX2_keepPattern_27 : decode cX2_keepPattern 27 = .ok (.invokevirtual 171, 3) := by decide +kernel
theorem dX2_keepPattern_30 : decode cX2_keepPattern 30 = .ok (.iconst 1, 1) := by decide +kernel
theorem dX2_keepPattern_31 : decode cX2_keepPattern 31 = .ok (.ireturn, 1) := by decide +kernel
theorem dX2_takeEnd_0 : decode cX2_takeEnd 0 = .ok (.aload_n 0, 1) := by decide +kernel
theorem dX2_takeEnd_1 : decode cX2_takeEnd 1 = .ok (.invokevirtual 54, 3) := by decide +kernel
theorem dX2_takeEnd_4 : decode cX2_takeEnd 4 = .ok (.aload_n 0, 1) := by decide +kernel
theorem dX2_takeEnd_5 : decode cX2_takeEnd 5 = .ok (.getfield 12, 3) := by decide +kernel
theorem dX2_takeEnd_8 : decode cX2_takeEnd 8 = .ok (.aload_n 0, 1) := by decide +kernel
theorem dX2_takeEnd_9 : decode cX2_takeEnd 9 = .ok (.getfield 38, 3) := by decide +kernel
theorem dX2_takeEnd_12 : decode cX2_takeEnd 12 = .ok (.invokevirtual 112, 3) := by decide +kernel
theorem dX2_takeEnd_15 : decode cX2_takeEnd 15 = .ok (.bipush 59, 2) := by decide +kernel
theorem dX2_takeEnd_17 : decode cX2_takeEnd 17 = .ok (.if_icmp .eq 5, 3) := by decide +kernel
theorem dX2_takeEnd_20 : decode cX2_takeEnd 20 = .ok (.iconst 0, 1) := by decide +kernel
theorem dX2_takeEnd_21 : decode cX2_takeEnd 21 = .ok (.ireturn, 1) := by decide +kernel
theorem dX2_takeEnd_22 : decode cX2_takeEnd 22 = .ok (.aload_n 0, 1) := by decide +kernel
theorem dX2_takeEnd_23 : decode cX2_takeEnd 23 = .ok (.getfield 34, 3) := by decide +kernel
theorem dX2_takeEnd_26 : decode cX2_takeEnd 26 = .ok (.bipush 59, 2) := by decide +kernel
theorem dX2_takeEnd_28 : decode cX2_takeEnd 28 = .ok (.invokevirtual 175, 3) := by decide +kernel
theorem dX2_takeEnd_31 : decode cX2_takeEnd 31 = .ok (.aload_n 0, 1) := by decide +kernel
theorem dX2_takeEnd_32 : decode cX2_takeEnd 32 = .ok (.getfield 34, 3) := by decide +kernel
theorem dX2_takeEnd_35 : decode cX2_takeEnd 35 = .ok (.bipush 10, 2) := by decide +kernel
theorem dX2_takeEnd_37 : decode cX2_takeEnd 37 = .ok (.invokevirtual 175, 3) := by decide +kernel
theorem dX2_takeEnd_40 : decode cX2_takeEnd 40 = .ok (.iconst 1, 1) := by decide +kernel
theorem dX2_takeEnd_41 : decode cX2_takeEnd 41 = .ok (.ireturn, 1) := by decide +kernel
theorem dX2_printWord_0 : decode cX2_printWord 0 = .ok (.aload_n 0, 1) := by decide +kernel
theorem dX2_printWord_1 : decode cX2_printWord 1 = .ok (.getfield 34, 3) := by decide +kernel
theorem dX2_printWord_4 : decode cX2_printWord 4 = .ok (.invokevirtual 178, 3) := by decide +kernel
theorem dX2_printWord_7 : decode cX2_printWord 7 = .ok (.aload_n 0, 1) := by decide +kernel
theorem dX2_printWord_8 : decode cX2_printWord 8 = .ok (.getfield 38, 3) := by decide +kernel
theorem dX2_printWord_11 : decode cX2_printWord 11 = .ok (.istore_n 1, 1) := by decide +kernel
theorem dX2_printWord_12 : decode cX2_printWord 12 = .ok (.iload_n 1, 1) := by decide +kernel
theorem dX2_printWord_13 : decode cX2_printWord 13 = .ok (.aload_n 0, 1) := by decide +kernel
theorem dX2_printWord_14 : decode cX2_printWord 14 = .ok (.getfield 42, 3) := by decide +kernel
theorem dX2_printWord_17 : decode cX2_printWord 17 = .ok (.if_icmp .ge 24, 3) := by decide +kernel
theorem dX2_printWord_20 : decode cX2_printWord 20 = .ok (.aload_n 0, 1) := by decide +kernel
theorem dX2_printWord_21 : decode cX2_printWord 21 = .ok (.getfield 34, 3) := by decide +kernel
theorem dX2_printWord_24 : decode cX2_printWord 24 = .ok (.aload_n 0, 1) := by decide +kernel
theorem dX2_printWord_25 : decode cX2_printWord 25 = .ok (.getfield 12, 3) := by decide +kernel
theorem dX2_printWord_28 : decode cX2_printWord 28 = .ok (.iload_n 1, 1) := by decide +kernel
theorem dX2_printWord_29 : decode cX2_printWord 29 = .ok (.invokevirtual 112, 3) := by decide +kernel
theorem dX2_printWord_32 : decode cX2_printWord 32 = .ok (.invokevirtual 175, 3) := by decide +kernel
theorem dX2_printWord_35 : decode cX2_printWord 35 = .ok (.iinc 1 1, 3) := by decide +kernel
theorem dX2_printWord_38 : decode cX2_printWord 38 = .ok (.goto (-26), 3) := by decide +kernel
theorem dX2_printWord_41 : decode cX2_printWord 41 = .ok (.return_, 1) := by decide +kernel
theorem dX2_sortInHand_0 : decode cX2_sortInHand 0 = .ok (.iconst 0, 1) := by decide +kernel
theorem dX2_sortInHand_1 : decode cX2_sortInHand 1 = .ok (.istore_n 1, 1) := by decide +kernel
theorem dX2_sortInHand_2 : decode cX2_sortInHand 2 = .ok (.iload_n 1, 1) := by decide +kernel
theorem dX2_sortInHand_3 : decode cX2_sortInHand 3 = .ok (.bipush 10, 2) := by decide +kernel
theorem dX2_sortInHand_5 : decode cX2_sortInHand 5 = .ok (.if_icmp .ge 22, 3) := by decide +kernel
theorem dX2_sortInHand_8 : decode cX2_sortInHand 8 = .ok (.aload_n 0, 1) := by decide +kernel
theorem dX2_sortInHand_9 : decode cX2_sortInHand 9 = .ok (.iload_n 1, 1) := by decide +kernel
theorem dX2_sortInHand_10 : decode cX2_sortInHand 10 = .ok (.invokestatic 181, 3) := by decide +kernel
theorem dX2_sortInHand_13 : decode cX2_sortInHand 13 = .ok (.invokevirtual 185, 3) := by decide +kernel
theorem dX2_sortInHand_16 : decode cX2_sortInHand 16 = .ok (.ifCond .eq 5, 3) := by decide +kernel
theorem dX2_sortInHand_19 : decode cX2_sortInHand 19 = .ok (.iload_n 1, 1) := by decide +kernel
theorem dX2_sortInHand_20 : decode cX2_sortInHand 20 = .ok (.ireturn, 1) := by decide +kernel
theorem dX2_sortInHand_21 : decode cX2_sortInHand 21 = .ok (.iinc 1 1, 3) := by decide +kernel
theorem dX2_sortInHand_24 : decode cX2_sortInHand 24 = .ok (.goto (-22), 3) := by decide +kernel
theorem dX2_sortInHand_27 : decode cX2_sortInHand 27 = .ok (.iconst (-1), 1) := by decide +kernel
theorem dX2_sortInHand_28 : decode cX2_sortInHand 28 = .ok (.ireturn, 1) := by decide +kernel
theorem dX2_isInHand_0 : decode cX2_isInHand 0 = .ok (.aload_n 1, 1) := by decide +kernel
theorem dX2_isInHand_1 : decode cX2_isInHand 1 = .ok (.invokevirtual 189, 3) := by decide +kernel
theorem dX2_isInHand_4 : decode cX2_isInHand 4 = .ok (.aload_n 0, 1) := by decide +kernel
theorem dX2_isInHand_5 : decode cX2_isInHand 5 = .ok (.getfield 42, 3) := by decide +kernel
theorem dX2_isInHand_8 : decode cX2_isInHand 8 = .ok (.aload_n 0, 1) := by decide +kernel
theorem dX2_isInHand_9 : decode cX2_isInHand 9 = .ok (.getfield 38, 3) := by decide +kernel
theorem dX2_isInHand_12 : decode cX2_isInHand 12 = .ok (.isub, 1) := by decide +kernel
theorem dX2_isInHand_13 : decode cX2_isInHand 13 = .ok (.if_icmp .eq 5, 3) := by decide +kernel
theorem dX2_isInHand_16 : decode cX2_isInHand 16 = .ok (.iconst 0, 1) := by decide +kernel
theorem dX2_isInHand_17 : decode cX2_isInHand 17 = .ok (.ireturn, 1) := by decide +kernel
theorem dX2_isInHand_18 : decode cX2_isInHand 18 = .ok (.iconst 0, 1) := by decide +kernel
theorem dX2_isInHand_19 : decode cX2_isInHand 19 = .ok (.istore_n 2, 1) := by decide +kernel
theorem dX2_isInHand_20 : decode cX2_isInHand 20 = .ok (.iload_n 2, 1) := by decide +kernel
theorem dX2_isInHand_21 : decode cX2_isInHand 21 = .ok (.aload_n 1, 1) := by decide +kernel
theorem dX2_isInHand_22 : decode cX2_isInHand 22 = .ok (.invokevirtual 189, 3) := by decide +kernel
theorem dX2_isInHand_25 : decode cX2_isInHand 25 = .ok (.if_icmp .ge 32, 3) := by decide +kernel
theorem dX2_isInHand_28 : decode cX2_isInHand 28 = .ok (.aload_n 1, 1) := by decide +kernel
theorem dX2_isInHand_29 : decode cX2_isInHand 29 = .ok (.iload_n 2, 1) := by decide +kernel
theorem dX2_isInHand_30 : decode cX2_isInHand 30 = .ok (.invokevirtual 193, 3) := by decide +kernel
theorem dX2_isInHand_33 : decode cX2_isInHand 33 = .ok (.aload_n 0, 1) := by decide +kernel
theorem dX2_isInHand_34 : decode cX2_isInHand 34 = .ok (.getfield 12, 3) := by decide +kernel
theorem dX2_isInHand_37 : decode cX2_isInHand 37 = .ok (.aload_n 0, 1) := by decide +kernel
theorem dX2_isInHand_38 : decode cX2_isInHand 38 = .ok (.getfield 38, 3) := by decide +kernel
theorem dX2_isInHand_41 : decode cX2_isInHand 41 = .ok (.iload_n 2, 1) := by decide +kernel
theorem dX2_isInHand_42 : decode cX2_isInHand 42 = .ok (.iadd, 1) := by decide +kernel
theorem dX2_isInHand_43 : decode cX2_isInHand 43 = .ok (.invokevirtual 112, 3) := by decide +kernel
theorem dX2_isInHand_46 : decode cX2_isInHand 46 = .ok (.if_icmp .eq 5, 3) := by decide +kernel
theorem dX2_isInHand_49 : decode cX2_isInHand 49 = .ok (.iconst 0, 1) := by decide +kernel
theorem dX2_isInHand_50 : decode cX2_isInHand 50 = .ok (.ireturn, 1) := by decide +kernel
theorem dX2_isInHand_51 : decode cX2_isInHand 51 = .ok (.iinc 2 1, 3) := by decide +kernel
theorem dX2_isInHand_54 : decode cX2_isInHand 54 = .ok (.goto (-34), 3) := by decide +kernel
theorem dX2_isInHand_57 : decode cX2_isInHand 57 = .ok (.iconst 1, 1) := by decide +kernel
theorem dX2_isInHand_58 : decode cX2_isInHand 58 = .ok (.ireturn, 1) := by decide +kernel
theorem dX2_isAnyInHand_0 : decode cX2_isAnyInHand 0 = .ok (.aload_n 0, 1) := by decide +kernel
theorem dX2_isAnyInHand_1 : decode cX2_isAnyInHand 1 = .ok (.getfield 42, 3) := by decide +kernel
theorem dX2_isAnyInHand_4 : decode cX2_isAnyInHand 4 = .ok (.aload_n 0, 1) := by decide +kernel
theorem dX2_isAnyInHand_5 : decode cX2_isAnyInHand 5 = .ok (.getfield 38, 3) := by decide +kernel
theorem dX2_isAnyInHand_8 : decode cX2_isAnyInHand 8 = .ok (.isub, 1) := by decide +kernel
theorem dX2_isAnyInHand_9 : decode cX2_isAnyInHand 9 = .ok (.iconst 1, 1) := by decide +kernel
theorem dX2_isAnyInHand_10 : decode cX2_isAnyInHand 10 = .ok (.if_icmp .ne 23, 3) := by decide +kernel
theorem dX2_isAnyInHand_13 : decode cX2_isAnyInHand 13 = .ok (.aload_n 0, 1) := by decide +kernel
theorem dX2_isAnyInHand_14 : decode cX2_isAnyInHand 14 = .ok (.getfield 12, 3) := by decide +kernel
theorem dX2_isAnyInHand_17 : decode cX2_isAnyInHand 17 = .ok (.aload_n 0, 1) := by decide +kernel
theorem dX2_isAnyInHand_18 : decode cX2_isAnyInHand 18 = .ok (.getfield 38, 3) := by decide +kernel
theorem dX2_isAnyInHand_21 : decode cX2_isAnyInHand 21 = .ok (.invokevirtual 112, 3) := by decide +kernel
theorem dX2_isAnyInHand_24 : decode cX2_isAnyInHand 24 = .ok (.bipush 45, 2) := by decide +kernel
theorem dX2_isAnyInHand_26 : decode cX2_isAnyInHand 26 = .ok (.if_icmp .ne 7, 3) := by decide +kernel
theorem dX2_isAnyInHand_29 : decode cX2_isAnyInHand 29 = .ok (.iconst 1, 1) := by decide +kernel
theorem dX2_isAnyInHand_30 : decode cX2_isAnyInHand 30 = .ok (.goto 4, 3) := by decide +kernel
theorem dX2_isAnyInHand_33 : decode cX2_isAnyInHand 33 = .ok (.iconst 0, 1) := by decide +kernel
theorem dX2_isAnyInHand_34 : decode cX2_isAnyInHand 34 = .ok (.ireturn, 1) := by decide +kernel
theorem dX2_isNameInHand_0 : decode cX2_isNameInHand 0 = .ok (.aload_n 0, 1) := by decide +kernel
theorem dX2_isNameInHand_1 : decode cX2_isNameInHand 1 = .ok (.getfield 42, 3) := by decide +kernel
theorem dX2_isNameInHand_4 : decode cX2_isNameInHand 4 = .ok (.aload_n 0, 1) := by decide +kernel
theorem dX2_isNameInHand_5 : decode cX2_isNameInHand 5 = .ok (.getfield 38, 3) := by decide +kernel
theorem dX2_isNameInHand_8 : decode cX2_isNameInHand 8 = .ok (.if_icmp .eq 17, 3) := by decide +kernel
theorem dX2_isNameInHand_11 : decode cX2_isNameInHand 11 = .ok (.aload_n 0, 1) := by decide +kernel
theorem dX2_isNameInHand_12 : decode cX2_isNameInHand 12 = .ok (.getfield 42, 3) := by decide +kernel
theorem dX2_isNameInHand_15 : decode cX2_isNameInHand 15 = .ok (.aload_n 0, 1) := by decide +kernel
theorem dX2_isNameInHand_16 : decode cX2_isNameInHand 16 = .ok (.getfield 38, 3) := by decide +kernel
theorem dX2_isNameInHand_19 : decode cX2_isNameInHand 19 = .ok (.isub, 1) := by decide +kernel
theorem dX2_isNameInHand_20 : decode cX2_isNameInHand 20 = .ok (.bipush 8, 2) := by decide +kernel
theorem dX2_isNameInHand_22 : decode cX2_isNameInHand 22 = .ok (.if_icmp .le 5, 3) := by decide +kernel
theorem dX2_isNameInHand_25 : decode cX2_isNameInHand 25 = .ok (.iconst 0, 1) := by decide +kernel
theorem dX2_isNameInHand_26 : decode cX2_isNameInHand 26 = .ok (.ireturn, 1) := by decide +kernel
theorem dX2_isNameInHand_27 : decode cX2_isNameInHand 27 = .ok (.aload_n 0, 1) := by decide +kernel
theorem dX2_isNameInHand_28 : decode cX2_isNameInHand 28 = .ok (.getfield 38, 3) := by decide +kernel
theorem dX2_isNameInHand_31 : decode cX2_isNameInHand 31 = .ok (.istore_n 1, 1) := by decide +kernel
theorem dX2_isNameInHand_32 : decode cX2_isNameInHand 32 = .ok (.iload_n 1, 1) := by decide +kernel
theorem dX2_isNameInHand_33 : decode cX2_isNameInHand 33 = .ok (.aload_n 0, 1) := by decide +kernel
theorem dX2_isNameInHand_34 : decode cX2_isNameInHand 34 = .ok (.getfield 42, 3) := by decide +kernel
theorem dX2_isNameInHand_37 : decode cX2_isNameInHand 37 = .ok (.if_icmp .ge 25, 3) := by decide +kernel
theorem dX2_isNameInHand_40 : decode cX2_isNameInHand 40 = .ok (.aload_n 0, 1) := by decide +kernel
theorem dX2_isNameInHand_41 : decode cX2_isNameInHand 41 = .ok (.getfield 12, 3) := by decide +kernel
theorem dX2_isNameInHand_44 : decode cX2_isNameInHand 44 = .ok (.iload_n 1, 1) := by decide +kernel
theorem dX2_isNameInHand_45 : decode cX2_isNameInHand 45 = .ok (.invokevirtual 112, 3) := by decide +kernel
theorem dX2_isNameInHand_48 : decode cX2_isNameInHand 48 = .ok (.invokestatic 196, 3) := by decide +kernel
theorem dX2_isNameInHand_51 : decode cX2_isNameInHand 51 = .ok (.ifCond .ne 5, 3) := by decide +kernel
theorem dX2_isNameInHand_54 : decode cX2_isNameInHand 54 = .ok (.iconst 0, 1) := by decide +kernel
theorem dX2_isNameInHand_55 : decode cX2_isNameInHand 55 = .ok (.ireturn, 1) := by decide +kernel
theorem dX2_isNameInHand_56 : decode cX2_isNameInHand 56 = .ok (.iinc 1 1, 3) := by decide +kernel
theorem dX2_isNameInHand_59 : decode cX2_isNameInHand 59 = .ok (.goto (-27), 3) := by decide +kernel
theorem dX2_isNameInHand_62 : decode cX2_isNameInHand 62 = .ok (.iconst 1, 1) := by decide +kernel
theorem dX2_isNameInHand_63 : decode cX2_isNameInHand 63 = .ok (.ireturn, 1) := by decide +kernel
theorem dX2_isPatternInHand_0 : decode cX2_isPatternInHand 0 = .ok (.aload_n 0, 1) := by decide +kernel
theorem dX2_isPatternInHand_1 : decode cX2_isPatternInHand 1 = .ok (.getfield 42, 3) := by decide +kernel
theorem dX2_isPatternInHand_4 : decode cX2_isPatternInHand 4 = .ok (.aload_n 0, 1) := by decide +kernel
theorem dX2_isPatternInHand_5 : decode cX2_isPatternInHand 5 = .ok (.getfield 38, 3) := by decide +kernel
theorem dX2_isPatternInHand_8 : decode cX2_isPatternInHand 8 = .ok (.if_icmp .eq 17, 3) := by decide +kernel
theorem dX2_isPatternInHand_11 : decode cX2_isPatternInHand 11 = .ok (.aload_n 0, 1) := by decide +kernel
theorem dX2_isPatternInHand_12 : decode cX2_isPatternInHand 12 = .ok (.getfield 42, 3) := by decide +kernel
theorem dX2_isPatternInHand_15 : decode cX2_isPatternInHand 15 = .ok (.aload_n 0, 1) := by decide +kernel
theorem dX2_isPatternInHand_16 : decode cX2_isPatternInHand 16 = .ok (.getfield 38, 3) := by decide +kernel
theorem dX2_isPatternInHand_19 : decode cX2_isPatternInHand 19 = .ok (.isub, 1) := by decide +kernel
theorem dX2_isPatternInHand_20 : decode cX2_isPatternInHand 20 = .ok (.bipush 16, 2) := by decide +kernel
theorem dX2_isPatternInHand_22 : decode cX2_isPatternInHand 22 = .ok (.if_icmp .le 5, 3) := by decide +kernel
theorem dX2_isPatternInHand_25 : decode cX2_isPatternInHand 25 = .ok (.iconst 0, 1) := by decide +kernel
theorem dX2_isPatternInHand_26 : decode cX2_isPatternInHand 26 = .ok (.ireturn, 1) := by decide +kernel
theorem dX2_isPatternInHand_27 : decode cX2_isPatternInHand 27 = .ok (.aload_n 0, 1) := by decide +kernel
theorem dX2_isPatternInHand_28 : decode cX2_isPatternInHand 28 = .ok (.getfield 38, 3) := by decide +kernel
theorem dX2_isPatternInHand_31 : decode cX2_isPatternInHand 31 = .ok (.istore_n 1, 1) := by decide +kernel
theorem dX2_isPatternInHand_32 : decode cX2_isPatternInHand 32 = .ok (.iload_n 1, 1) := by decide +kernel
theorem dX2_isPatternInHand_33 : decode cX2_isPatternInHand 33 = .ok (.aload_n 0, 1) := by decide +kernel
theorem dX2_isPatternInHand_34 : decode cX2_isPatternInHand 34 = .ok (.getfield 42, 3) := by decide +kernel
theorem dX2_isPatternInHand_37 : decode cX2_isPatternInHand 37 = .ok (.if_icmp .ge 39, 3) := by decide +kernel
theorem dX2_isPatternInHand_40 : decode cX2_isPatternInHand 40 = .ok (.aload_n 0, 1) := by decide +kernel
theorem dX2_isPatternInHand_41 : decode cX2_isPatternInHand 41 = .ok (.getfield 12, 3) := by decide +kernel
theorem dX2_isPatternInHand_44 : decode cX2_isPatternInHand 44 = .ok (.iload_n 1, 1) := by decide +kernel
theorem dX2_isPatternInHand_45 : decode cX2_isPatternInHand 45 = .ok (.invokevirtual 112, 3) := by decide +kernel
theorem dX2_isPatternInHand_48 : decode cX2_isPatternInHand 48 = .ok (.istore_n 2, 1) := by decide +kernel
theorem dX2_isPatternInHand_49 : decode cX2_isPatternInHand 49 = .ok (.iload_n 2, 1) := by decide +kernel
theorem dX2_isPatternInHand_50 : decode cX2_isPatternInHand 50 = .ok (.invokestatic 199, 3) := by decide +kernel
theorem dX2_isPatternInHand_53 : decode cX2_isPatternInHand 53 = .ok (.ifCond .ne 17, 3) := by decide +kernel
theorem dX2_isPatternInHand_56 : decode cX2_isPatternInHand 56 = .ok (.iload_n 2, 1) := by decide +kernel
theorem dX2_isPatternInHand_57 : decode cX2_isPatternInHand 57 = .ok (.bipush 42, 2) := by decide +kernel
theorem dX2_isPatternInHand_59 : decode cX2_isPatternInHand 59 = .ok (.if_icmp .eq 11, 3) := by decide +kernel
theorem dX2_isPatternInHand_62 : decode cX2_isPatternInHand 62 = .ok (.iload_n 2, 1) := by decide +kernel
theorem dX2_isPatternInHand_63 : decode cX2_isPatternInHand 63 = .ok (.bipush 63, 2) := by decide +kernel
theorem dX2_isPatternInHand_65 : decode cX2_isPatternInHand 65 = .ok (.if_icmp .eq 5, 3) := by decide +kernel
theorem dX2_isPatternInHand_68 : decode cX2_isPatternInHand 68 = .ok (.iconst 0, 1) := by decide +kernel
theorem dX2_isPatternInHand_69 : decode cX2_isPatternInHand 69 = .ok (.ireturn, 1) := by decide +kernel
theorem dX2_isPatternInHand_70 : decode cX2_isPatternInHand 70 = .ok (.iinc 1 1, 3) := by decide +kernel
theorem dX2_isPatternInHand_73 : decode cX2_isPatternInHand 73 = .ok (.goto (-41), 3) := by decide +kernel
theorem dX2_isPatternInHand_76 : decode cX2_isPatternInHand 76 = .ok (.iconst 1, 1) := by decide +kernel
theorem dX2_isPatternInHand_77 : decode cX2_isPatternInHand 77 = .ok (.ireturn, 1) := by decide +kernel
theorem dX2_wholeInHand_0 : decode cX2_wholeInHand 0 = .ok (.aload_n 0, 1) := by decide +kernel
theorem dX2_wholeInHand_1 : decode cX2_wholeInHand 1 = .ok (.getfield 42, 3) := by decide +kernel
theorem dX2_wholeInHand_4 : decode cX2_wholeInHand 4 = .ok (.aload_n 0, 1) := by decide +kernel
theorem dX2_wholeInHand_5 : decode cX2_wholeInHand 5 = .ok (.getfield 38, 3) := by decide +kernel
theorem dX2_wholeInHand_8 : decode cX2_wholeInHand 8 = .ok (.if_icmp .eq 17, 3) := by decide +kernel
theorem dX2_wholeInHand_11 : decode cX2_wholeInHand 11 = .ok (.aload_n 0, 1) := by decide +kernel
theorem dX2_wholeInHand_12 : decode cX2_wholeInHand 12 = .ok (.getfield 42, 3) := by decide +kernel
theorem dX2_wholeInHand_15 : decode cX2_wholeInHand 15 = .ok (.aload_n 0, 1) := by decide +kernel
theorem dX2_wholeInHand_16 : decode cX2_wholeInHand 16 = .ok (.getfield 38, 3) := by decide +kernel
theorem dX2_wholeInHand_19 : decode cX2_wholeInHand 19 = .ok (.isub, 1) := by decide +kernel
theorem dX2_wholeInHand_20 : decode cX2_wholeInHand 20 = .ok (.bipush 6, 2) := by decide +kernel
theorem dX2_wholeInHand_22 : decode cX2_wholeInHand 22 = .ok (.if_icmp .le 5, 3) := by decide +kernel
theorem dX2_wholeInHand_25 : decode cX2_wholeInHand 25 = .ok (.iconst (-1), 1) := by decide +kernel
theorem dX2_wholeInHand_26 : decode cX2_wholeInHand 26 = .ok (.ireturn, 1) := by decide +kernel
theorem dX2_wholeInHand_27 : decode cX2_wholeInHand 27 = .ok (.iconst 0, 1) := by decide +kernel
theorem dX2_wholeInHand_28 : decode cX2_wholeInHand 28 = .ok (.istore_n 1, 1) := by decide +kernel
theorem dX2_wholeInHand_29 : decode cX2_wholeInHand 29 = .ok (.aload_n 0, 1) := by decide +kernel
theorem dX2_wholeInHand_30 : decode cX2_wholeInHand 30 = .ok (.getfield 38, 3) := by decide +kernel
theorem dX2_wholeInHand_33 : decode cX2_wholeInHand 33 = .ok (.istore_n 2, 1) := by decide +kernel
theorem dX2_wholeInHand_34 : decode cX2_wholeInHand 34 = .ok (.iload_n 2, 1) := by decide +kernel
theorem dX2_wholeInHand_35 : decode cX2_wholeInHand 35 = .ok (.aload_n 0, 1) := by decide +kernel
theorem dX2_wholeInHand_36 : decode cX2_wholeInHand 36 = .ok (.getfield 42, 3) := by decide +kernel
theorem dX2_wholeInHand_39 : decode cX2_wholeInHand 39 = .ok (.if_icmp .ge 37, 3) := by decide +kernel
theorem dX2_wholeInHand_42 : decode cX2_wholeInHand 42 = .ok (.aload_n 0, 1) := by decide +kernel
theorem dX2_wholeInHand_43 : decode cX2_wholeInHand 43 = .ok (.getfield 12, 3) := by decide +kernel
theorem dX2_wholeInHand_46 : decode cX2_wholeInHand 46 = .ok (.iload_n 2, 1) := by decide +kernel
theorem dX2_wholeInHand_47 : decode cX2_wholeInHand 47 = .ok (.invokevirtual 112, 3) := by decide +kernel
theorem dX2_wholeInHand_50 : decode cX2_wholeInHand 50 = .ok (.istore_n 3, 1) := by decide +kernel
theorem dX2_wholeInHand_51 : decode cX2_wholeInHand 51 = .ok (.iload_n 3, 1) := by decide +kernel
theorem dX2_wholeInHand_52 : decode cX2_wholeInHand 52 = .ok (.invokestatic 202, 3) := by decide +kernel
theorem dX2_wholeInHand_55 : decode cX2_wholeInHand 55 = .ok (.ifCond .ne 5, 3) := by decide +kernel
theorem dX2_wholeInHand_58 : decode cX2_wholeInHand 58 = .ok (.iconst (-1), 1) := by decide +kernel
theorem dX2_wholeInHand_59 : decode cX2_wholeInHand 59 = .ok (.ireturn, 1) := by decide +kernel
theorem dX2_wholeInHand_60 : decode cX2_wholeInHand 60 = .ok (.iload_n 1, 1) := by decide +kernel
theorem dX2_wholeInHand_61 : decode cX2_wholeInHand 61 = .ok (.bipush 10, 2) := by decide +kernel
theorem dX2_wholeInHand_63 : decode cX2_wholeInHand 63 = .ok (.imul, 1) := by decide +kernel
theorem dX2_wholeInHand_64 : decode cX2_wholeInHand 64 = .ok (.iload_n 3, 1) := by decide +kernel
theorem dX2_wholeInHand_65 : decode cX2_wholeInHand 65 = .ok (.bipush 48, 2) := by decide +kernel
theorem dX2_wholeInHand_67 : decode cX2_wholeInHand 67 = .ok (.isub, 1) := by decide +kernel
theorem dX2_wholeInHand_68 : decode cX2_wholeInHand 68 = .ok (.iadd, 1) := by decide +kernel
theorem dX2_wholeInHand_69 : decode cX2_wholeInHand 69 = .ok (.istore_n 1, 1) := by decide +kernel
theorem dX2_wholeInHand_70 : decode cX2_wholeInHand 70 = .ok (.iinc 2 1, 3) := by decide +kernel
theorem dX2_wholeInHand_73 : decode cX2_wholeInHand 73 = .ok (.goto (-39), 3) := by decide +kernel
theorem dX2_wholeInHand_76 : decode cX2_wholeInHand 76 = .ok (.iload_n 1, 1) := by decide +kernel
theorem dX2_wholeInHand_77 : decode cX2_wholeInHand 77 = .ok (.ireturn, 1) := by decide +kernel
theorem dX2_clockNamed_0 : decode cX2_clockNamed 0 = .ok (.iconst 0, 1) := by decide +kernel
theorem dX2_clockNamed_1 : decode cX2_clockNamed 1 = .ok (.istore_n 3, 1) := by decide +kernel
theorem dX2_clockNamed_2 : decode cX2_clockNamed 2 = .ok (.iload_n 3, 1) := by decide +kernel
theorem dX2_clockNamed_3 : decode cX2_clockNamed 3 = .ok (.aload_n 0, 1) := by decide +kernel
theorem dX2_clockNamed_4 : decode cX2_clockNamed 4 = .ok (.getfield 34, 3) := by decide +kernel
theorem dX2_clockNamed_7 : decode cX2_clockNamed 7 = .ok (.getfield 119, 3) := by decide +kernel
theorem dX2_clockNamed_10 : decode cX2_clockNamed 10 = .ok (.getfield 123, 3) := by decide +kernel
theorem dX2_clockNamed_13 : decode cX2_clockNamed 13 = .ok (.if_icmp .ge 36, 3) := by decide +kernel
theorem dX2_clockNamed_16 : decode cX2_clockNamed 16 = .ok (.aload_n 0, 1) := by decide +kernel
theorem dX2_clockNamed_17 : decode cX2_clockNamed 17 = .ok (.getfield 22, 3) := by decide +kernel
theorem dX2_clockNamed_20 : decode cX2_clockNamed 20 = .ok (.iload_n 3, 1) := by decide +kernel
theorem dX2_clockNamed_21 : decode cX2_clockNamed 21 = .ok (.iaload, 1) := by decide +kernel
theorem dX2_clockNamed_22 : decode cX2_clockNamed 22 = .ok (.iload_n 2, 1) := by decide +kernel
theorem dX2_clockNamed_23 : decode cX2_clockNamed 23 = .ok (.if_icmp .ne 20, 3) := by decide +kernel
theorem dX2_clockNamed_26 : decode cX2_clockNamed 26 = .ok (.aload_n 0, 1) := by decide +kernel
theorem dX2_clockNamed_27 : decode cX2_clockNamed 27 = .ok (.aload_n 0, 1) := by decide +kernel
theorem dX2_clockNamed_28 : decode cX2_clockNamed 28 = .ok (.getfield 18, 3) := by decide +kernel
theorem dX2_clockNamed_31 : decode cX2_clockNamed 31 = .ok (.iload_n 3, 1) := by decide +kernel
theorem dX2_clockNamed_32 : decode cX2_clockNamed 32 = .ok (.iaload, 1) := by decide +kernel
theorem dX2_clockNamed_33 : decode cX2_clockNamed 33 = .ok (.iload_n 1, 1) := by decide +kernel
theorem dX2_clockNamed_34 : decode cX2_clockNamed 34 = .ok (.iload_n 2, 1) := by decide +kernel
theorem dX2_clockNamed_35 : decode cX2_clockNamed 35 = .ok (.invokevirtual 205, 3) := by decide +kernel
theorem dX2_clockNamed_38 : decode cX2_clockNamed 38 = .ok (.ifCond .eq 5, 3) := by decide +kernel
theorem dX2_clockNamed_41 : decode cX2_clockNamed 41 = .ok (.iload_n 3, 1) := by decide +kernel
theorem dX2_clockNamed_42 : decode cX2_clockNamed 42 = .ok (.ireturn, 1) := by decide +kernel
theorem dX2_clockNamed_43 : decode cX2_clockNamed 43 = .ok (.iinc 3 1, 3) := by decide +kernel
theorem dX2_clockNamed_46 : decode cX2_clockNamed 46 = .ok (.goto (-44), 3) := by decide +kernel
theorem dX2_clockNamed_49 : decode cX2_clockNamed 49 = .ok (.iconst (-1), 1) := by decide +kernel
theorem dX2_clockNamed_50 : decode cX2_clockNamed 50 = .ok (.ireturn, 1) := by decide +kernel
theorem dX2_isSameText_0 : decode cX2_isSameText 0 = .ok (.iconst 0, 1) := by decide +kernel
theorem dX2_isSameText_1 : decode cX2_isSameText 1 = .ok (.istore 4, 2) := by decide +kernel
theorem dX2_isSameText_3 : decode cX2_isSameText 3 = .ok (.iload 4, 2) := by decide +kernel
theorem dX2_isSameText_5 : decode cX2_isSameText 5 = .ok (.iload_n 3, 1) := by decide +kernel
theorem dX2_isSameText_6 : decode cX2_isSameText 6 = .ok (.if_icmp .ge 36, 3) := by decide +kernel
theorem dX2_isSameText_9 : decode cX2_isSameText 9 = .ok (.aload_n 0, 1) := by decide +kernel
theorem dX2_isSameText_10 : decode cX2_isSameText 10 = .ok (.getfield 12, 3) := by decide +kernel
theorem dX2_isSameText_13 : decode cX2_isSameText 13 = .ok (.iload_n 1, 1) := by decide +kernel
theorem dX2_isSameText_14 : decode cX2_isSameText 14 = .ok (.iload 4, 2) := by decide +kernel
theorem dX2_isSameText_16 : decode cX2_isSameText 16 = .ok (.iadd, 1) := by decide +kernel
theorem dX2_isSameText_17 : decode cX2_isSameText 17 = .ok (.invokevirtual 112, 3) := by decide +kernel
theorem dX2_isSameText_20 : decode cX2_isSameText 20 = .ok (.aload_n 0, 1) := by decide +kernel
theorem dX2_isSameText_21 : decode cX2_isSameText 21 = .ok (.getfield 12, 3) := by decide +kernel
theorem dX2_isSameText_24 : decode cX2_isSameText 24 = .ok (.iload_n 2, 1) := by decide +kernel
theorem dX2_isSameText_25 : decode cX2_isSameText 25 = .ok (.iload 4, 2) := by decide +kernel
theorem dX2_isSameText_27 : decode cX2_isSameText 27 = .ok (.iadd, 1) := by decide +kernel
theorem dX2_isSameText_28 : decode cX2_isSameText 28 = .ok (.invokevirtual 112, 3) := by decide +kernel
theorem dX2_isSameText_31 : decode cX2_isSameText 31 = .ok (.if_icmp .eq 5, 3) := by decide +kernel
theorem dX2_isSameText_34 : decode cX2_isSameText 34 = .ok (.iconst 0, 1) := by decide +kernel
theorem dX2_isSameText_35 : decode cX2_isSameText 35 = .ok (.ireturn, 1) := by decide +kernel
theorem dX2_isSameText_36 : decode cX2_isSameText 36 = .ok (.iinc 4 1, 3) := by decide +kernel
theorem dX2_isSameText_39 : decode cX2_isSameText 39 = .ok (.goto (-36), 3) := by decide +kernel
theorem dX2_isSameText_42 : decode cX2_isSameText 42 = .ok (.iconst 1, 1) := by decide +kernel
theorem dX2_isSameText_43 : decode cX2_isSameText 43 = .ok (.ireturn, 1) := by decide +kernel
theorem dX2_bindLinks_0 : decode cX2_bindLinks 0 = .ok (.iconst 0, 1) := by decide +kernel
theorem dX2_bindLinks_1 : decode cX2_bindLinks 1 = .ok (.istore_n 1, 1) := by decide +kernel
theorem dX2_bindLinks_2 : decode cX2_bindLinks 2 = .ok (.iload_n 1, 1) := by decide +kernel
theorem dX2_bindLinks_3 : decode cX2_bindLinks 3 = .ok (.aload_n 0, 1) := by decide +kernel
theorem dX2_bindLinks_4 : decode cX2_bindLinks 4 = .ok (.getfield 34, 3) := by decide +kernel
theorem dX2_bindLinks_7 : decode cX2_bindLinks 7 = .ok (.getfield 135, 3) := by decide +kernel
theorem dX2_bindLinks_10 : decode cX2_bindLinks 10 = .ok (.iconst 2, 1) := by decide +kernel
theorem dX2_bindLinks_11 : decode cX2_bindLinks 11 = .ok (.imul, 1) := by decide +kernel
theorem dX2_bindLinks_12 : decode cX2_bindLinks 12 = .ok (.if_icmp .ge 62, 3) := by decide +kernel
theorem dX2_bindLinks_15 : decode cX2_bindLinks 15 = .ok (.aload_n 0, 1) := by decide +kernel
theorem dX2_bindLinks_16 : decode cX2_bindLinks 16 = .ok (.getfield 28, 3) := by decide +kernel
theorem dX2_bindLinks_19 : decode cX2_bindLinks 19 = .ok (.iload_n 1, 1) := by decide +kernel
theorem dX2_bindLinks_20 : decode cX2_bindLinks 20 = .ok (.iaload, 1) := by decide +kernel
theorem dX2_bindLinks_21 : decode cX2_bindLinks 21 = .ok (.ifCond .le 47, 3) := by decide +kernel
theorem dX2_bindLinks_24 : decode cX2_bindLinks 24 = .ok (.aload_n 0, 1) := by decide +kernel
theorem dX2_bindLinks_25 : decode cX2_bindLinks 25 = .ok (.aload_n 0, 1) := by decide +kernel
theorem dX2_bindLinks_26 : decode cX2_bindLinks 26 = .ok (.getfield 25, 3) := by decide +kernel
theorem dX2_bindLinks_29 : decode cX2_bindLinks 29 = .ok (.iload_n 1, 1) := by decide +kernel
theorem dX2_bindLinks_30 : decode cX2_bindLinks 30 = .ok (.iaload, 1) := by decide +kernel
theorem dX2_bindLinks_31 : decode cX2_bindLinks 31 = .ok (.aload_n 0, 1) := by decide +kernel
theorem dX2_bindLinks_32 : decode cX2_bindLinks 32 = .ok (.getfield 28, 3) := by decide +kernel
theorem dX2_bindLinks_35 : decode cX2_bindLinks 35 = .ok (.iload_n 1, 1) := by decide +kernel
theorem dX2_bindLinks_36 : decode cX2_bindLinks 36 = .ok (.iaload, 1) := by decide +kernel
theorem dX2_bindLinks_37 : decode cX2_bindLinks 37 = .ok (.invokevirtual 131, 3) := by decide +kernel
theorem dX2_bindLinks_40 : decode cX2_bindLinks 40 = .ok (.istore_n 2, 1) := by decide +kernel
theorem dX2_bindLinks_41 : decode cX2_bindLinks 41 = .ok (.iload_n 2, 1) := by decide +kernel
theorem dX2_bindLinks_42 : decode cX2_bindLinks 42 = .ok (.iconst (-1), 1) := by decide +kernel
theorem dX2_bindLinks_43 : decode cX2_bindLinks 43 = .ok (.if_icmp .ne 15, 3) := by decide +kernel
theorem dX2_bindLinks_46 : decode cX2_bindLinks 46 = .ok (.aload_n 0, 1) := by decide +kernel
theorem dX2_bindLinks_47 : decode cX2_bindLinks 47 = .ok (.aload_n 0, 1) := by decide +kernel
theorem dX2_bindLinks_48 : decode cX2_bindLinks 48 = .ok (.getfield 25, 3) := by decide +kernel
theorem dX2_bindLinks_51 : decode cX2_bindLinks 51 = .ok (.iload_n 1, 1) := by decide +kernel
theorem dX2_bindLinks_52 : decode cX2_bindLinks 52 = .ok (.iaload, 1) := by decide +kernel
theorem dX2_bindLinks_53 : decode cX2_bindLinks 53 = .ok (.putfield 38, 3) := by decide +kernel
theorem dX2_bindLinks_56 : decode cX2_bindLinks 56 = .ok (.iconst 0, 1) := by decide +kernel
theorem dX2_bindLinks_57 : decode cX2_bindLinks 57 = .ok (.ireturn, 1) := by decide +kernel
theorem dX2_bindLinks_58 : decode cX2_bindLinks 58 = .ok (.aload_n 0, 1) := by decide +kernel
theorem dX2_bindLinks_59 : decode cX2_bindLinks 59 = .ok (.getfield 34, 3) := by decide +kernel
theorem dX2_bindLinks_62 : decode cX2_bindLinks 62 = .ok (.getfield 209, 3) := by decide +kernel
theorem dX2_bindLinks_65 : decode cX2_bindLinks 65 = .ok (.iload_n 1, 1) := by decide +kernel
theorem dX2_bindLinks_66 : decode cX2_bindLinks 66 = .ok (.iload_n 2, 1) := by decide +kernel
theorem dX2_bindLinks_67 : decode cX2_bindLinks 67 = .ok (.iastore, 1) := by decide +kernel
theorem dX2_bindLinks_68 : decode cX2_bindLinks 68 = .ok (.iinc 1 1, 3) := by decide +kernel
theorem dX2_bindLinks_71 : decode cX2_bindLinks 71 = .ok (.goto (-69), 3) := by decide +kernel
theorem dX2_bindLinks_74 : decode cX2_bindLinks 74 = .ok (.iconst 0, 1) := by decide +kernel
theorem dX2_bindLinks_75 : decode cX2_bindLinks 75 = .ok (.istore_n 1, 1) := by decide +kernel
theorem dX2_bindLinks_76 : decode cX2_bindLinks 76 = .ok (.iload_n 1, 1) := by decide +kernel
theorem dX2_bindLinks_77 : decode cX2_bindLinks 77 = .ok (.aload_n 0, 1) := by decide +kernel
theorem dX2_bindLinks_78 : decode cX2_bindLinks 78 = .ok (.getfield 34, 3) := by decide +kernel
theorem dX2_bindLinks_81 : decode cX2_bindLinks 81 = .ok (.getfield 119, 3) := by decide +kernel
theorem dX2_bindLinks_84 : decode cX2_bindLinks 84 = .ok (.getfield 123, 3) := by decide +kernel
theorem dX2_bindLinks_87 : decode cX2_bindLinks 87 = .ok (.if_icmp .ge 41, 3) := by decide +kernel
theorem dX2_bindLinks_90 : decode cX2_bindLinks 90 = .ok (.aload_n 0, 1) := by decide +kernel
theorem dX2_bindLinks_91 : decode cX2_bindLinks 91 = .ok (.getfield 34, 3) := by decide +kernel
theorem dX2_bindLinks_94 : decode cX2_bindLinks 94 = .ok (.getfield 119, 3) := by decide +kernel
theorem dX2_bindLinks_97 : decode cX2_bindLinks 97 = .ok (.getfield 212, 3) := by decide +kernel
theorem dX2_bindLinks_100 : decode cX2_bindLinks 100 = .ok (.iload_n 1, 1) := by decide +kernel
theorem dX2_bindLinks_101 : decode cX2_bindLinks 101 = .ok (.aload_n 0, 1) := by decide +kernel
theorem dX2_bindLinks_102 : decode cX2_bindLinks 102 = .ok (.getfield 34, 3) := by decide +kernel
theorem dX2_bindLinks_105 : decode cX2_bindLinks 105 = .ok (.aload_n 0, 1) := by decide +kernel
theorem dX2_bindLinks_106 : decode cX2_bindLinks 106 = .ok (.getfield 34, 3) := by decide +kernel
theorem dX2_bindLinks_109 : decode cX2_bindLinks 109 = .ok (.getfield 119, 3) := by decide +kernel
theorem dX2_bindLinks_112 : decode cX2_bindLinks 112 = .ok (.getfield 215, 3) := by decide +kernel
theorem dX2_bindLinks_115 : decode cX2_bindLinks 115 = .ok (.iload_n 1, 1) := by decide +kernel
theorem dX2_bindLinks_116 : decode cX2_bindLinks 116 = .ok (.iaload, 1) := by decide +kernel
theorem dX2_bindLinks_117 : decode cX2_bindLinks 117 = .ok (.iconst 0, 1) := by decide +kernel
theorem dX2_bindLinks_118 : decode cX2_bindLinks 118 = .ok (.invokevirtual 218, 3) := by decide +kernel
theorem dX2_bindLinks_121 : decode cX2_bindLinks 121 = .ok (.iastore, 1) := by decide +kernel
theorem dX2_bindLinks_122 : decode cX2_bindLinks 122 = .ok (.iinc 1 1, 3) := by decide +kernel
theorem dX2_bindLinks_125 : decode cX2_bindLinks 125 = .ok (.goto (-49), 3) := by decide +kernel
theorem dX2_bindLinks_128 : decode cX2_bindLinks 128 = .ok (.iconst 1, 1) := by decide +kernel
theorem dX2_bindLinks_129 : decode cX2_bindLinks 129 = .ok (.ireturn, 1) := by decide +kernel
theorem dX2_hasNoRing_0 : decode cX2_hasNoRing 0 = .ok (.iconst 0, 1) := by decide +kernel
theorem dX2_hasNoRing_1 : decode cX2_hasNoRing 1 = .ok (.istore_n 1, 1) := by decide +kernel
theorem dX2_hasNoRing_2 : decode cX2_hasNoRing 2 = .ok (.iload_n 1, 1) := by decide +kernel
theorem dX2_hasNoRing_3 : decode cX2_hasNoRing 3 = .ok (.aload_n 0, 1) := by decide +kernel
theorem dX2_hasNoRing_4 : decode cX2_hasNoRing 4 = .ok (.getfield 34, 3) := by decide +kernel
theorem dX2_hasNoRing_7 : decode cX2_hasNoRing 7 = .ok (.getfield 119, 3) := by decide +kernel
theorem dX2_hasNoRing_10 : decode cX2_hasNoRing 10 = .ok (.getfield 123, 3) := by decide +kernel
theorem dX2_hasNoRing_13 : decode cX2_hasNoRing 13 = .ok (.if_icmp .ge 35, 3) := by decide +kernel
theorem dX2_hasNoRing_16 : decode cX2_hasNoRing 16 = .ok (.aload_n 0, 1) := by decide +kernel
theorem dX2_hasNoRing_17 : decode cX2_hasNoRing 17 = .ok (.getfield 34, 3) := by decide +kernel
theorem dX2_hasNoRing_20 : decode cX2_hasNoRing 20 = .ok (.getfield 119, 3) := by decide +kernel
theorem dX2_hasNoRing_23 : decode cX2_hasNoRing 23 = .ok (.iload_n 1, 1) := by decide +kernel
theorem dX2_hasNoRing_24 : decode cX2_hasNoRing 24 = .ok (.invokevirtual 221, 3) := by decide +kernel
theorem dX2_hasNoRing_27 : decode cX2_hasNoRing 27 = .ok (.ifCond .eq 15, 3) := by decide +kernel
theorem dX2_hasNoRing_30 : decode cX2_hasNoRing 30 = .ok (.aload_n 0, 1) := by decide +kernel
theorem dX2_hasNoRing_31 : decode cX2_hasNoRing 31 = .ok (.aload_n 0, 1) := by decide +kernel
theorem dX2_hasNoRing_32 : decode cX2_hasNoRing 32 = .ok (.getfield 18, 3) := by decide +kernel
theorem dX2_hasNoRing_35 : decode cX2_hasNoRing 35 = .ok (.iload_n 1, 1) := by decide +kernel
theorem dX2_hasNoRing_36 : decode cX2_hasNoRing 36 = .ok (.iaload, 1) := by decide +kernel
theorem dX2_hasNoRing_37 : decode cX2_hasNoRing 37 = .ok (.putfield 38, 3) := by decide +kernel
theorem dX2_hasNoRing_40 : decode cX2_hasNoRing 40 = .ok (.iconst 0, 1) := by decide +kernel
theorem dX2_hasNoRing_41 : decode cX2_hasNoRing 41 = .ok (.ireturn, 1) := by decide +kernel
theorem dX2_hasNoRing_42 : decode cX2_hasNoRing 42 = .ok (.iinc 1 1, 3) := by decide +kernel
theorem dX2_hasNoRing_45 : decode cX2_hasNoRing 45 = .ok (.goto (-43), 3) := by decide +kernel
theorem dX2_hasNoRing_48 : decode cX2_hasNoRing 48 = .ok (.iconst 1, 1) := by decide +kernel
theorem dX2_hasNoRing_49 : decode cX2_hasNoRing 49 = .ok (.ireturn, 1) := by decide +kernel
theorem dX2_hasNoneGreat_0 : decode cX2_hasNoneGreat 0 = .ok (.aload_n 0, 1) := by decide +kernel
theorem dX2_hasNoneGreat_1 : decode cX2_hasNoneGreat 1 = .ok (.getfield 34, 3) := by decide +kernel
theorem dX2_hasNoneGreat_4 : decode cX2_hasNoneGreat 4 = .ok (.getfield 119, 3) := by decide +kernel
theorem dX2_hasNoneGreat_7 : decode cX2_hasNoneGreat 7 = .ok (.invokevirtual 224, 3) := by decide +kernel
theorem dX2_hasNoneGreat_10 : decode cX2_hasNoneGreat 10 = .ok (.iconst 0, 1) := by decide +kernel
theorem dX2_hasNoneGreat_11 : decode cX2_hasNoneGreat 11 = .ok (.istore_n 1, 1) := by decide +kernel
theorem dX2_hasNoneGreat_12 : decode cX2_hasNoneGreat 12 = .ok (.iload_n 1, 1) := by decide +kernel
theorem dX2_hasNoneGreat_13 : decode cX2_hasNoneGreat 13 = .ok (.aload_n 0, 1) := by decide +kernel
theorem dX2_hasNoneGreat_14 : decode cX2_hasNoneGreat 14 = .ok (.getfield 34, 3) := by decide +kernel
theorem dX2_hasNoneGreat_17 : decode cX2_hasNoneGreat 17 = .ok (.getfield 119, 3) := by decide +kernel
theorem dX2_hasNoneGreat_20 : decode cX2_hasNoneGreat 20 = .ok (.getfield 123, 3) := by decide +kernel
theorem dX2_hasNoneGreat_23 : decode cX2_hasNoneGreat 23 = .ok (.if_icmp .ge 36, 3) := by decide +kernel
theorem dX2_hasNoneGreat_26 : decode cX2_hasNoneGreat 26 = .ok (.aload_n 0, 1) := by decide +kernel
theorem dX2_hasNoneGreat_27 : decode cX2_hasNoneGreat 27 = .ok (.getfield 34, 3) := by decide +kernel
theorem dX2_hasNoneGreat_30 : decode cX2_hasNoneGreat 30 = .ok (.getfield 119, 3) := by decide +kernel
theorem dX2_hasNoneGreat_33 : decode cX2_hasNoneGreat 33 = .ok (.getfield 227, 3) := by decide +kernel
theorem dX2_hasNoneGreat_36 : decode cX2_hasNoneGreat 36 = .ok (.iload_n 1, 1) := by decide +kernel
theorem dX2_hasNoneGreat_37 : decode cX2_hasNoneGreat 37 = .ok (.baload, 1) := by decide +kernel
theorem dX2_hasNoneGreat_38 : decode cX2_hasNoneGreat 38 = .ok (.ifCond .eq 15, 3) := by decide +kernel
theorem dX2_hasNoneGreat_41 : decode cX2_hasNoneGreat 41 = .ok (.aload_n 0, 1) := by decide +kernel
theorem dX2_hasNoneGreat_42 : decode cX2_hasNoneGreat 42 = .ok (.aload_n 0, 1) := by decide +kernel
theorem dX2_hasNoneGreat_43 : decode cX2_hasNoneGreat 43 = .ok (.getfield 18, 3) := by decide +kernel
theorem dX2_hasNoneGreat_46 : decode cX2_hasNoneGreat 46 = .ok (.iload_n 1, 1) := by decide +kernel
theorem dX2_hasNoneGreat_47 : decode cX2_hasNoneGreat 47 = .ok (.iaload, 1) := by decide +kernel
theorem dX2_hasNoneGreat_48 : decode cX2_hasNoneGreat 48 = .ok (.putfield 38, 3) := by decide +kernel
theorem dX2_hasNoneGreat_51 : decode cX2_hasNoneGreat 51 = .ok (.iconst 0, 1) := by decide +kernel
theorem dX2_hasNoneGreat_52 : decode cX2_hasNoneGreat 52 = .ok (.ireturn, 1) := by decide +kernel
theorem dX2_hasNoneGreat_53 : decode cX2_hasNoneGreat 53 = .ok (.iinc 1 1, 3) := by decide +kernel
theorem dX2_hasNoneGreat_56 : decode cX2_hasNoneGreat 56 = .ok (.goto (-44), 3) := by decide +kernel
theorem dX2_hasNoneGreat_59 : decode cX2_hasNoneGreat 59 = .ok (.iconst 1, 1) := by decide +kernel
theorem dX2_hasNoneGreat_60 : decode cX2_hasNoneGreat 60 = .ok (.ireturn, 1) := by decide +kernel
theorem dX3_init_0 : decode cX3_init 0 = .ok (.aload_n 0, 1) := by decide +kernel
theorem dX3_init_1 : decode cX3_init 1 = .ok (.invokespecial 3, 3) := by decide +kernel
theorem dX3_init_4 : decode cX3_init 4 = .ok (.aload_n 0, 1) := by decide +kernel
theorem dX3_init_5 : decode cX3_init 5 = .ok (.bipush 40, 2) := by decide +kernel
theorem dX3_init_7 : decode cX3_init 7 = .ok (.newarray .int, 2) := by decide +kernel
theorem dX3_init_9 : decode cX3_init 9 = .ok (.putfield 9, 3) := by decide +kernel
theorem dX3_init_12 : decode cX3_init 12 = .ok (.aload_n 0, 1) := by decide +kernel
theorem dX3_init_13 : decode cX3_init 13 = .ok (.bipush 40, 2) := by decide +kernel
theorem dX3_init_15 : decode cX3_init 15 = .ok (.newarray .int, 2) := by decide +kernel
theorem dX3_init_17 : decode cX3_init 17 = .ok (.putfield 15, 3) := by decide +kernel
theorem dX3_init_20 : decode cX3_init 20 = .ok (.aload_n 0, 1) := by decide +kernel
theorem dX3_init_21 : decode cX3_init 21 = .ok (.bipush 80, 2) := by decide +kernel
theorem dX3_init_23 : decode cX3_init 23 = .ok (.newarray .int, 2) := by decide +kernel
theorem dX3_init_25 : decode cX3_init 25 = .ok (.putfield 18, 3) := by decide +kernel
theorem dX3_init_28 : decode cX3_init 28 = .ok (.aload_n 0, 1) := by decide +kernel
theorem dX3_init_29 : decode cX3_init 29 = .ok (.bipush 120, 2) := by decide +kernel
theorem dX3_init_31 : decode cX3_init 31 = .ok (.newarray .int, 2) := by decide +kernel
theorem dX3_init_33 : decode cX3_init 33 = .ok (.putfield 21, 3) := by decide +kernel
theorem dX3_init_36 : decode cX3_init 36 = .ok (.aload_n 0, 1) := by decide +kernel
theorem dX3_init_37 : decode cX3_init 37 = .ok (.bipush 120, 2) := by decide +kernel
theorem dX3_init_39 : decode cX3_init 39 = .ok (.newarray .int, 2) := by decide +kernel
theorem dX3_init_41 : decode cX3_init 41 = .ok (.putfield 24, 3) := by decide +kernel
theorem dX3_init_44 : decode cX3_init 44 = .ok (.aload_n 0, 1) := by decide +kernel
theorem dX3_init_45 : decode cX3_init 45 = .ok (.bipush 120, 2) := by decide +kernel
theorem dX3_init_47 : decode cX3_init 47 = .ok (.newarray .long, 2) := by decide +kernel
theorem dX3_init_49 : decode cX3_init 49 = .ok (.putfield 27, 3) := by decide +kernel
theorem dX3_init_52 : decode cX3_init 52 = .ok (.aload_n 0, 1) := by decide +kernel
theorem dX3_init_53 : decode cX3_init 53 = .ok (.sipush 1240, 3) := by decide +kernel
theorem dX3_init_56 : decode cX3_init 56 = .ok (.newarray .char, 2) := by decide +kernel
theorem dX3_init_58 : decode cX3_init 58 = .ok (.putfield 31, 3) := by decide +kernel
theorem dX3_init_61 : decode cX3_init 61 = .ok (.aload_n 0, 1) := by decide +kernel
theorem dX3_init_62 : decode cX3_init 62 = .ok (.new 35, 3) := by decide +kernel
theorem dX3_init_65 : decode cX3_init 65 = .ok (.dup, 1) := by decide +kernel
theorem dX3_init_66 : decode cX3_init 66 = .ok (.invokespecial 37, 3) := by decide +kernel
theorem dX3_init_69 : decode cX3_init 69 = .ok (.putfield 38, 3) := by decide +kernel
theorem dX3_init_72 : decode cX3_init 72 = .ok (.aload_n 0, 1) := by decide +kernel
theorem dX3_init_73 : decode cX3_init 73 = .ok (.iconst 0, 1) := by decide +kernel
theorem dX3_init_74 : decode cX3_init 74 = .ok (.putfield 42, 3) := by decide +kernel
theorem dX3_init_77 : decode cX3_init 77 = .ok (.aload_n 0, 1) := by decide +kernel
theorem dX3_init_78 : decode cX3_init 78 = .ok (.iconst 0, 1) := by decide +kernel
theorem dX3_init_79 : decode cX3_init 79 = .ok (.putfield 46, 3) := by decide +kernel
theorem dX3_init_82 : decode cX3_init 82 = .ok (.return_, 1) := by decide +kernel
theorem dX3_wipe_0 : decode cX3_wipe 0 = .ok (.aload_n 0, 1) := by decide +kernel
theorem dX3_wipe_1 : decode cX3_wipe 1 = .ok (.iconst 0, 1) := by decide +kernel
theorem dX3_wipe_2 : decode cX3_wipe 2 = .ok (.putfield 42, 3) := by decide +kernel
theorem dX3_wipe_5 : decode cX3_wipe 5 = .ok (.aload_n 0, 1) := by decide +kernel
theorem dX3_wipe_6 : decode cX3_wipe 6 = .ok (.iconst 0, 1) := by decide +kernel
theorem dX3_wipe_7 : decode cX3_wipe 7 = .ok (.putfield 46, 3) := by decide +kernel
theorem dX3_wipe_10 : decode cX3_wipe 10 = .ok (.aload_n 0, 1) := by decide +kernel
theorem dX3_wipe_11 : decode cX3_wipe 11 = .ok (.getfield 38, 3) := by decide +kernel
theorem dX3_wipe_14 : decode cX3_wipe 14 = .ok (.invokevirtual 49, 3) := by decide +kernel
theorem dX3_wipe_17 : decode cX3_wipe 17 = .ok (.return_, 1) := by decide +kernel
theorem dX3_open_0 : decode cX3_open 0 = .ok (.aload_n 0, 1) := by decide +kernel
theorem dX3_open_1 : decode cX3_open 1 = .ok (.getfield 42, 3) := by decide +kernel
theorem dX3_open_4 : decode cX3_open 4 = .ok (.bipush 40, 2) := by decide +kernel
theorem dX3_open_6 : decode cX3_open 6 = .ok (.if_icmp .ge 101, 3) := by decide +kernel
theorem dX3_open_9 : decode cX3_open 9 = .ok (.aload_n 0, 1) := by decide +kernel
theorem dX3_open_10 : decode cX3_open 10 = .ok (.getfield 9, 3) := by decide +kernel
theorem dX3_open_13 : decode cX3_open 13 = .ok (.aload_n 0, 1) := by decide +kernel
theorem dX3_open_14 : decode cX3_open 14 = .ok (.getfield 42, 3) := by decide +kernel
theorem dX3_open_17 : decode cX3_open 17 = .ok (.iload_n 1, 1) := by decide +kernel
theorem dX3_open_18 : decode cX3_open 18 = .ok (.iastore, 1) := by decide +kernel
theorem dX3_open_19 : decode cX3_open 19 = .ok (.aload_n 0, 1) := by decide +kernel
theorem dX3_open_20 : decode cX3_open 20 = .ok (.getfield 15, 3) := by decide +kernel
theorem dX3_open_23 : decode cX3_open 23 = .ok (.aload_n 0, 1) := by decide +kernel
theorem dX3_open_24 : decode cX3_open 24 = .ok (.getfield 42, 3) := by decide +kernel
theorem dX3_open_27 : decode cX3_open 27 = .ok (.iconst 0, 1) := by decide +kernel
theorem dX3_open_28 : decode cX3_open 28 = .ok (.iastore, 1) := by decide +kernel
theorem dX3_open_29 : decode cX3_open 29 = .ok (.iconst 0, 1) := by decide +kernel
theorem dX3_open_30 : decode cX3_open 30 = .ok (.istore_n 2, 1) := by decide +kernel
theorem dX3_open_31 : decode cX3_open 31 = .ok (.iload_n 2, 1) := by decide +kernel
theorem dX3_open_32 : decode cX3_open 32 = .ok (.iconst 2, 1) := by decide +kernel
theorem dX3_open_33 : decode cX3_open 33 = .ok (.if_icmp .ge 23, 3) := by decide +kernel
theorem dX3_open_36 : decode cX3_open 36 = .ok (.aload_n 0, 1) := by decide +kernel
theorem dX3_open_37 : decode cX3_open 37 = .ok (.getfield 18, 3) := by decide +kernel
theorem dX3_open_40 : decode cX3_open 40 = .ok (.aload_n 0, 1) := by decide +kernel
theorem dX3_open_41 : decode cX3_open 41 = .ok (.getfield 42, 3) := by decide +kernel
theorem dX3_open_44 : decode cX3_open 44 = .ok (.iconst 2, 1) := by decide +kernel
theorem dX3_open_45 : decode cX3_open 45 = .ok (.imul, 1) := by decide +kernel
theorem dX3_open_46 : decode cX3_open 46 = .ok (.iload_n 2, 1) := by decide +kernel
theorem dX3_open_47 : decode cX3_open 47 = .ok (.iadd, 1) := by decide +kernel
theorem dX3_open_48 : decode cX3_open 48 = .ok (.iconst (-1), 1) := by decide +kernel
theorem dX3_open_49 : decode cX3_open 49 = .ok (.iastore, 1) := by decide +kernel
theorem dX3_open_50 : decode cX3_open 50 = .ok (.iinc 2 1, 3) := by decide +kernel
theorem dX3_open_53 : decode cX3_open 53 = .ok (.goto (-22), 3) := by decide +kernel
theorem dX3_open_56 : decode cX3_open 56 = .ok (.iconst 0, 1) := by decide +kernel
theorem dX3_open_57 : decode cX3_open 57 = .ok (.istore_n 2, 1) := by decide +kernel
theorem dX3_open_58 : decode cX3_open 58 = .ok (.iload_n 2, 1) := by decide +kernel
theorem dX3_open_59 : decode cX3_open 59 = .ok (.iconst 3, 1) := by decide +kernel
theorem dX3_open_60 : decode cX3_open 60 = .ok (.if_icmp .ge 37, 3) := by decide +kernel
theorem dX3_open_63 : decode cX3_open 63 = .ok (.aload_n 0, 1) := by decide +kernel
theorem dX3_open_64 : decode cX3_open 64 = .ok (.getfield 24, 3) := by decide +kernel
theorem dX3_open_67 : decode cX3_open 67 = .ok (.aload_n 0, 1) := by decide +kernel
theorem dX3_open_68 : decode cX3_open 68 = .ok (.getfield 42, 3) := by decide +kernel
theorem dX3_open_71 : decode cX3_open 71 = .ok (.iconst 3, 1) := by decide +kernel
theorem dX3_open_72 : decode cX3_open 72 = .ok (.imul, 1) := by decide +kernel
theorem dX3_open_73 : decode cX3_open 73 = .ok (.iload_n 2, 1) := by decide +kernel
theorem dX3_open_74 : decode cX3_open 74 = .ok (.iadd, 1) := by decide +kernel
theorem dX3_open_75 : decode cX3_open 75 = .ok (.iconst 0, 1) := by decide +kernel
theorem dX3_open_76 : decode cX3_open 76 = .ok (.iastore, 1) := by decide +kernel
theorem dX3_open_77 : decode cX3_open 77 = .ok (.aload_n 0, 1) := by decide +kernel
theorem dX3_open_78 : decode cX3_open 78 = .ok (.getfield 27, 3) := by decide +kernel
theorem dX3_open_81 : decode cX3_open 81 = .ok (.aload_n 0, 1) := by decide +kernel
theorem dX3_open_82 : decode cX3_open 82 = .ok (.getfield 42, 3) := by decide +kernel
theorem dX3_open_85 : decode cX3_open 85 = .ok (.iconst 3, 1) := by decide +kernel
theorem dX3_open_86 : decode cX3_open 86 = .ok (.imul, 1) := by decide +kernel
theorem dX3_open_87 : decode cX3_open 87 = .ok (.iload_n 2, 1) := by decide +kernel
theorem dX3_open_88 : decode cX3_open 88 = .ok (.iadd, 1) := by decide +kernel
theorem dX3_open_89 : decode cX3_open 89 = .ok (.lconst 0, 1) := by decide +kernel
theorem dX3_open_90 : decode cX3_open 90 = .ok (.lastore, 1) := by decide +kernel
theorem dX3_open_91 : decode cX3_open 91 = .ok (.iinc 2 1, 3) := by decide +kernel
theorem dX3_open_94 : decode cX3_open 94 = .ok (.goto (-36), 3) := by decide +kernel
theorem dX3_open_97 : decode cX3_open 97 = .ok (.aload_n 0, 1) := by decide +kernel
theorem dX3_open_98 : decode cX3_open 98 = .ok (.dup, 1) := by decide +kernel
theorem dX3_open_99 : decode cX3_open 99 = .ok (.getfield 42, 3) := by decide +kernel
theorem dX3_open_102 : decode cX3_open 102 = .ok (.iconst 1, 1) := by decide +kernel
theorem dX3_open_103 : decode cX3_open 103 = .ok (.iadd, 1) := by decide +kernel
theorem dX3_open_104 : decode cX3_open 104 = .ok (.putfield 42, 3) := by decide +kernel
theorem dX3_open_107 : decode cX3_open 107 = .ok (.return_, 1) := by decide +kernel
theorem dX3_setValue_0 : decode cX3_setValue 0 = .ok (.aload_n 0, 1) := by decide +kernel
theorem dX3_setValue_1 : decode cX3_setValue 1 = .ok (.getfield 42, 3) := by decide +kernel
theorem dX3_setValue_4 : decode cX3_setValue 4 = .ok (.ifCond .le 15, 3) := by decide +kernel
theorem dX3_setValue_7 : decode cX3_setValue 7 = .ok (.aload_n 0, 1) := by decide +kernel
theorem dX3_setValue_8 : decode cX3_setValue 8 = .ok (.getfield 15, 3) := by decide +kernel
theorem dX3_setValue_11 : decode cX3_setValue 11 = .ok (.aload_n 0, 1) := by decide +kernel
theorem dX3_setValue_12 : decode cX3_setValue 12 = .ok (.getfield 42, 3) := by decide +kernel
theorem dX3_setValue_15 : decode cX3_setValue 15 = .ok (.iconst 1, 1) := by decide +kernel
theorem dX3_setValue_16 : decode cX3_setValue 16 = .ok (.isub, 1) := by decide +kernel
theorem dX3_setValue_17 : decode cX3_setValue 17 = .ok (.iload_n 1, 1) := by decide +kernel
theorem dX3_setValue_18 : decode cX3_setValue 18 = .ok (.iastore, 1) := by decide +kernel
theorem dX3_setValue_19 : decode cX3_setValue 19 = .ok (.return_, 1) := by decide +kernel
theorem dX3_setPattern_0 : decode cX3_setPattern 0 = .ok (.aload_n 0, 1) := by decide +kernel
theorem dX3_setPattern_1 : decode cX3_setPattern 1 = .ok (.aload_n 0, 1) := by decide +kernel
theorem dX3_setPattern_2 : decode cX3_setPattern 2 = .ok (.getfield 42, 3) := by decide +kernel
theorem dX3_setPattern_5 : decode cX3_setPattern 5 = .ok (.iload_n 1, 1) := by decide +kernel
theorem dX3_setPattern_6 : decode cX3_setPattern 6 = .ok (.invokevirtual 52, 3) := by decide +kernel
theorem dX3_setPattern_9 : decode cX3_setPattern 9 = .ok (.istore_n 3, 1) := by decide +kernel
theorem dX3_setPattern_10 : decode cX3_setPattern 10 = .ok (.iload_n 3, 1) := by decide +kernel
theorem dX3_setPattern_11 : decode cX3_setPattern 11 = .ok (.iconst (-1), 1) := by decide +kernel
theorem dX3_setPattern_12 : decode cX3_setPattern 12 = .ok (.if_icmp .eq 22, 3) := by decide +kernel
theorem dX3_setPattern_15 : decode cX3_setPattern 15 = .ok (.aload_n 0, 1) := by decide +kernel
theorem dX3_setPattern_16 : decode cX3_setPattern 16 = .ok (.getfield 21, 3) := by decide +kernel
theorem dX3_setPattern_19 : decode cX3_setPattern 19 = .ok (.iload_n 3, 1) := by decide +kernel
theorem dX3_setPattern_20 : decode cX3_setPattern 20 = .ok (.aload_n 0, 1) := by decide +kernel
theorem dX3_setPattern_21 : decode cX3_setPattern 21 = .ok (.getfield 46, 3) := by decide +kernel
theorem dX3_setPattern_24 : decode cX3_setPattern 24 = .ok (.iload_n 2, 1) := by decide +kernel
theorem dX3_setPattern_25 : decode cX3_setPattern 25 = .ok (.isub, 1) := by decide +kernel
theorem dX3_setPattern_26 : decode cX3_setPattern 26 = .ok (.iastore, 1) := by decide +kernel
theorem dX3_setPattern_27 : decode cX3_setPattern 27 = .ok (.aload_n 0, 1) := by decide +kernel
theorem dX3_setPattern_28 : decode cX3_setPattern 28 = .ok (.getfield 24, 3) := by decide +kernel
theorem dX3_setPattern_31 : decode cX3_setPattern 31 = .ok (.iload_n 3, 1) := by decide +kernel
theorem dX3_setPattern_32 : decode cX3_setPattern 32 = .ok (.iload_n 2, 1) := by decide +kernel
theorem dX3_setPattern_33 : decode cX3_setPattern 33 = .ok (.iastore, 1) := by decide +kernel
theorem dX3_setPattern_34 : decode cX3_setPattern 34 = .ok (.return_, 1) := by decide +kernel
theorem dX3_patternOf_0 : decode cX3_patternOf 0 = .ok (.iload_n 1, 1) := by decide +kernel
theorem dX3_patternOf_1 : decode cX3_patternOf 1 = .ok (.iconst 1, 1) := by decide +kernel
theorem dX3_patternOf_2 : decode cX3_patternOf 2 = .ok (.if_icmp .lt 24, 3) := by decide +kernel
theorem dX3_patternOf_5 : decode cX3_patternOf 5 = .ok (.iload_n 1, 1) := by decide +kernel
theorem dX3_patternOf_6 : decode cX3_patternOf 6 = .ok (.aload_n 0, 1) := by decide +kernel
theorem dX3_patternOf_7 : decode cX3_patternOf 7 = .ok (.getfield 42, 3) := by decide +kernel
theorem dX3_patternOf_10 : decode cX3_patternOf 10 = .ok (.if_icmp .gt 16, 3) := by decide +kernel
theorem dX3_patternOf_13 : decode cX3_patternOf 13 = .ok (.iload_n 2, 1) := by decide +kernel
theorem dX3_patternOf_14 : decode cX3_patternOf 14 = .ok (.ifCond .lt 12, 3) := by decide +kernel
theorem dX3_patternOf_17 : decode cX3_patternOf 17 = .ok (.iload_n 2, 1) := by decide +kernel
theorem dX3_patternOf_18 : decode cX3_patternOf 18 = .ok (.iconst 3, 1) := by decide +kernel
theorem dX3_patternOf_19 : decode cX3_patternOf 19 = .ok (.if_icmp .ge 7, 3) := by decide +kernel
theorem dX3_patternOf_22 : decode cX3_patternOf 22 = .ok (.iconst 1, 1) := by decide +kernel
theorem dX3_patternOf_23 : decode cX3_patternOf 23 = .ok (.goto 4, 3) := by decide +kernel
theorem dX3_patternOf_26 : decode cX3_patternOf 26 = .ok (.iconst 0, 1) := by decide +kernel
theorem dX3_patternOf_27 : decode cX3_patternOf 27 = .ok (.istore_n 3, 1) := by decide +kernel
theorem dX3_patternOf_28 : decode cX3_patternOf 28 = .ok (.iload_n 3, 1) := by decide +kernel
theorem dX3_patternOf_29 : decode cX3_patternOf 29 = .ok (.ifCond .eq 13, 3) := by decide +kernel
theorem dX3_patternOf_32 : decode cX3_patternOf 32 = .ok (.iload_n 1, 1) := by decide +kernel
theorem dX3_patternOf_33 : decode cX3_patternOf 33 = .ok (.iconst 1, 1) := by decide +kernel
theorem dX3_patternOf_34 : decode cX3_patternOf 34 = .ok (.isub, 1) := by decide +kernel
theorem dX3_patternOf_35 : decode cX3_patternOf 35 = .ok (.iconst 3, 1) := by decide +kernel
theorem dX3_patternOf_36 : decode cX3_patternOf 36 = .ok (.imul, 1) := by decide +kernel
theorem dX3_patternOf_37 : decode cX3_patternOf 37 = .ok (.iload_n 2, 1) := by decide +kernel
theorem dX3_patternOf_38 : decode cX3_patternOf 38 = .ok (.iadd, 1) := by decide +kernel
theorem dX3_patternOf_39 : decode cX3_patternOf 39 = .ok (.goto 4, 3) := by decide +kernel
theorem dX3_patternOf_42 : decode cX3_patternOf 42 = .ok (.iconst (-1), 1) := by decide +kernel
theorem dX3_patternOf_43 : decode cX3_patternOf 43 = .ok (.ireturn, 1) := by decide +kernel
theorem dX3_newestHasPattern_0 : decode cX3_newestHasPattern 0 = .ok (.iconst 0, 1) := by decide +kernel
theorem dX3_newestHasPattern_1 : decode cX3_newestHasPattern 1 = .ok (.istore_n 1, 1) := by decide +kernel
theorem dX3_newestHasPattern_2 : decode cX3_newestHasPattern 2 = .ok (.iload_n 1, 1) := by decide +kernel
theorem dX3_newestHasPattern_3 : decode cX3_newestHasPattern 3 = .ok (.iconst 3, 1) := by decide +kernel
theorem dX3_newestHasPattern_4 : decode cX3_newestHasPattern 4 = .ok (.if_icmp .ge 23, 3) := by decide +kernel
theorem dX3_newestHasPattern_7 : decode cX3_newestHasPattern 7 = .ok (.aload_n 0, 1) := by decide +kernel
theorem dX3_newestHasPattern_8 : decode cX3_newestHasPattern 8 = .ok (.aload_n 0, 1) := by decide +kernel
theorem dX3_newestHasPattern_9 : decode cX3_newestHasPattern 9 = .ok (.getfield 42, 3) := by decide +kernel
theorem dX3_newestHasPattern_12 : decode cX3_newestHasPattern 12 = .ok (.iload_n 1, 1) := by decide +kernel
theorem dX3_newestHasPattern_13 : decode cX3_newestHasPattern 13 = .ok (.invokevirtual 56, 3) := by decide +kernel
theorem dX3_newestHasPattern_16 : decode cX3_newestHasPattern 16 = .ok (.ifCond .eq 5, 3) := by decide +kernel
theorem dX3_newestHasPattern_19 : decode cX3_newestHasPattern 19 = .ok (.iconst 1, 1) := by decide +kernel
theorem dX3_newestHasPattern_20 : decode cX3_newestHasPattern 20 = .ok (.ireturn, 1) := by decide +kernel
theorem dX3_newestHasPattern_21 : decode cX3_newestHasPattern 21 = .ok (.iinc 1 1, 3) := by decide +kernel
theorem dX3_newestHasPattern_24 : decode cX3_newestHasPattern 24 = .ok (.goto (-22), 3) := by decide +kernel
theorem dX3_newestHasPattern_27 : decode cX3_newestHasPattern 27 = .ok (.iconst 0, 1) := by decide +kernel
theorem dX3_newestHasPattern_28 : decode cX3_newestHasPattern 28 = .ok (.ireturn, 1) := by decide +kernel
theorem dX3_print_0 : decode cX3_print 0 = .ok (.aload_n 0, 1) := by decide +kernel
theorem dX3_print_1 : decode cX3_print 1 = .ok (.getfield 46, 3) := by decide +kernel
theorem dX3_print_4 : decode cX3_print 4 = .ok (.aload_n 0, 1) := by decide +kernel
theorem dX3_print_5 : decode cX3_print 5 = .ok (.getfield 31, 3) := by decide +kernel
theorem dX3_print_8 : decode cX3_print 8 = .ok (.arraylength, 1) := by decide +kernel
theorem dX3_print_9 : decode cX3_print 9 = .ok (.if_icmp .ge 24, 3) := by decide +kernel
theorem dX3_print_12 : decode cX3_print 12 = .ok (.aload_n 0, 1) := by decide +kernel
theorem dX3_print_13 : decode cX3_print 13 = .ok (.getfield 31, 3) := by decide +kernel
theorem dX3_print_16 : decode cX3_print 16 = .ok (.aload_n 0, 1) := by decide +kernel
theorem dX3_print_17 : decode cX3_print 17 = .ok (.getfield 46, 3) := by decide +kernel
theorem dX3_print_20 : decode cX3_print 20 = .ok (.iload_n 1, 1) := by decide +kernel
theorem dX3_print_21 : decode cX3_print 21 = .ok (.i2c, 1) := by decide +kernel
theorem dX3_print_22 : decode cX3_print 22 = .ok (.castore, 1) := by decide +kernel
theorem dX3_print_23 : decode cX3_print 23 = .ok (.aload_n 0, 1) := by decide +kernel
theorem dX3_print_24 : decode cX3_print 24 = .ok (.dup, 1) := by decide +kernel
theorem dX3_print_25 : decode cX3_print 25 = .ok (.getfield 46, 3) := by decide +kernel
theorem dX3_print_28 : decode cX3_print 28 = .ok (.iconst 1, 1) := by decide +kernel
theorem dX3_print_29 : decode cX3_print 29 = .ok (.iadd, 1) := by decide +kernel
theorem dX3_print_30 : decode cX3_print 30 = .ok (.putfield 46, 3) := by decide +kernel
theorem dX3_print_33 : decode cX3_print 33 = .ok (.return_, 1) := by decide +kernel
theorem dX3_printGap_0 : decode cX3_printGap 0 = .ok (.aload_n 0, 1) := by decide +kernel
theorem dX3_printGap_1 : decode cX3_printGap 1 = .ok (.getfield 46, 3) := by decide +kernel
theorem dX3_printGap_4 : decode cX3_printGap 4 = .ok (.ifCond .le 24, 3) := by decide +kernel
theorem dX3_printGap_7 : decode cX3_printGap 7 = .ok (.aload_n 0, 1) := by decide +kernel
theorem dX3_printGap_8 : decode cX3_printGap 8 = .ok (.aload_n 0, 1) := by decide +kernel
theorem dX3_printGap_9 : decode cX3_printGap 9 = .ok (.getfield 46, 3) := by decide +kernel
theorem dX3_printGap_12 : decode cX3_printGap 12 = .ok (.iconst 1, 1) := by decide +kernel
theorem dX3_printGap_13 : decode cX3_printGap 13 = .ok (.isub, 1) := by decide +kernel
theorem dX3_printGap_14 : decode cX3_printGap 14 = .ok (.invokevirtual 60, 3) := by decide +kernel
theorem dX3_printGap_17 : decode cX3_printGap 17 = .ok (.bipush 10, 2) := by decide +kernel
theorem dX3_printGap_19 : decode cX3_printGap 19 = .ok (.if_icmp .eq 9, 3) := by decide +kernel
theorem dX3_printGap_22 : decode cX3_printGap 22 = .ok (.aload_n 0, 1) := by decide +kernel
theorem dX3_printGap_23 : decode cX3_printGap 23 = .ok (.bipush 32, 2) := by decide +kernel
theorem dX3_printGap_25 : decode cX3_printGap 25 = .ok (.invokevirtual 64, 3) := by decide +kernel
theorem dX3_printGap_28 : decode cX3_printGap 28 = .ok (.return_, 1) := by decide +kernel
theorem dX3_printWhole_0 : decode cX3_printWhole 0 = .ok (.aload_n 0, 1) := by decide +kernel
theorem dX3_printWhole_1 : decode cX3_printWhole 1 = .ok (.invokevirtual 68, 3) := by decide +kernel
theorem dX3_printWhole_4 : decode cX3_printWhole 4 = .ok (.ldc 71, 2) := by decide +kernel
theorem dX3_printWhole_6 : decode cX3_printWhole 6 = .ok (.istore_n 2, 1) := by decide +kernel
theorem dX3_printWhole_7 : decode cX3_printWhole 7 = .ok (.iload_n 2, 1) := by decide +kernel
theorem dX3_printWhole_8 : decode cX3_printWhole 8 = .ok (.ifCond .le 34, 3) := by decide +kernel
theorem dX3_printWhole_11 : decode cX3_printWhole 11 = .ok (.iload_n 1, 1) := by decide +kernel
theorem dX3_printWhole_12 : decode cX3_printWhole 12 = .ok (.iload_n 2, 1) := by decide +kernel
theorem dX3_printWhole_13 : decode cX3_printWhole 13 = .ok (.if_icmp .ge 8, 3) := by decide +kernel
theorem dX3_printWhole_16 : decode cX3_printWhole 16 = .ok (.iload_n 2, 1) := by decide +kernel
theorem dX3_printWhole_17 : decode cX3_printWhole 17 = .ok (.iconst 1, 1) := by decide +kernel
theorem dX3_printWhole_18 : decode cX3_printWhole 18 = .ok (.if_icmp .ne 16, 3) := by decide +kernel
theorem dX3_printWhole_21 : decode cX3_printWhole 21 = .ok (.aload_n 0, 1) := by decide +kernel
theorem dX3_printWhole_22 : decode cX3_printWhole 22 = .ok (.bipush 48, 2) := by decide +kernel
theorem dX3_printWhole_24 : decode cX3_printWhole 24 = .ok (.iload_n 1, 1) := by decide +kernel
theorem dX3_printWhole_25 : decode cX3_printWhole 25 = .ok (.iload_n 2, 1) := by decide +kernel
theorem dX3_printWhole_26 : decode cX3_printWhole 26 = .ok (.idiv, 1) := by decide +kernel
theorem dX3_printWhole_27 : decode cX3_printWhole 27 = .ok (.bipush 10, 2) := by decide +kernel
theorem dX3_printWhole_29 : decode cX3_printWhole 29 = .ok (.irem, 1) := by decide +kernel
theorem dX3_printWhole_30 : decode cX3_printWhole 30 = .ok (.iadd, 1) := by decide +kernel
theorem dX3_printWhole_31 : decode cX3_printWhole 31 = .ok (.invokevirtual 64, 3) := by decide +kernel
theorem dX3_printWhole_34 : decode cX3_printWhole 34 = .ok (.iload_n 2, 1) := by decide +kernel
theorem dX3_printWhole_35 : decode cX3_printWhole 35 = .ok (.bipush 10, 2) := by decide +kernel
theorem dX3_printWhole_37 : decode cX3_printWhole 37 = .ok (.idiv, 1) := by decide +kernel
theorem dX3_printWhole_38 : decode cX3_printWhole 38 = .ok (.istore_n 2, 1) := by decide +kernel
theorem dX3_printWhole_39 : decode cX3_printWhole 39 = .ok (.goto (-32), 3) := by decide +kernel
theorem dX3_printWhole_42 : decode cX3_printWhole 42 = .ok (.return_, 1) := by decide +kernel
theorem dX3_printedAt_0 : decode cX3_printedAt 0 = .ok (.iload_n 1, 1) := by decide +kernel
theorem dX3_printedAt_1 : decode cX3_printedAt 1 = .ok (.ifCond .lt 29, 3) := by decide +kernel
theorem dX3_printedAt_4 : decode cX3_printedAt 4 = .ok (.iload_n 1, 1) := by decide +kernel
theorem dX3_printedAt_5 : decode cX3_printedAt 5 = .ok (.aload_n 0, 1) := by decide +kernel
theorem dX3_printedAt_6 : decode cX3_printedAt 6 = .ok (.getfield 46, 3) := by decide +kernel
theorem dX3_printedAt_9 : decode cX3_printedAt 9 = .ok (.if_icmp .ge 21, 3) := by decide +kernel
theorem dX3_printedAt_12 : decode cX3_printedAt 12 = .ok (.iload_n 1, 1) := by decide +kernel
theorem dX3_printedAt_13 : decode cX3_printedAt 13 = .ok (.aload_n 0, 1) := by decide +kernel
theorem dX3_printedAt_14 : decode cX3_printedAt 14 = .ok (.getfield 31, 3) := by decide +kernel
theorem dX3_printedAt_17 : decode cX3_printedAt 17 = .ok (.arraylength, 1) := by decide +kernel
theorem dX3_printedAt_18 : decode cX3_printedAt 18 = .ok (.if_icmp .ge 12, 3) := by decide +kernel
theorem dX3_printedAt_21 : decode cX3_printedAt 21 = .ok (.aload_n 0, 1) := by decide +kernel
theorem dX3_printedAt_22 : decode cX3_printedAt 22 = .ok (.getfield 31, 3) := by decide +kernel
theorem dX3_printedAt_25 : decode cX3_printedAt 25 = .ok (.iload_n 1, 1) := by decide +kernel
theorem dX3_printedAt_26 : decode cX3_printedAt 26 = .ok (.caload, 1) := by decide +kernel
theorem dX3_printedAt_27 : decode cX3_printedAt 27 = .ok (.goto 4, 3) := by decide +kernel
theorem dX3_printedAt_30 : decode cX3_printedAt 30 = .ok (.iconst (-1), 1) := by decide +kernel
theorem dX3_printedAt_31 : decode cX3_printedAt 31 = .ok (.ireturn, 1) := by decide +kernel
theorem dX3_hitsOf_0 : decode cX3_hitsOf 0 = .ok (.aload_n 0, 1) := by decide +kernel
theorem dX3_hitsOf_1 : decode cX3_hitsOf 1 = .ok (.iload_n 1, 1) := by decide +kernel
theorem dX3_hitsOf_2 : decode cX3_hitsOf 2 = .ok (.iload_n 2, 1) := by decide +kernel
theorem dX3_hitsOf_3 : decode cX3_hitsOf 3 = .ok (.invokevirtual 52, 3) := by decide +kernel
theorem dX3_hitsOf_6 : decode cX3_hitsOf 6 = .ok (.istore_n 3, 1) := by decide +kernel
theorem dX3_hitsOf_7 : decode cX3_hitsOf 7 = .ok (.iload_n 3, 1) := by decide +kernel
theorem dX3_hitsOf_8 : decode cX3_hitsOf 8 = .ok (.iconst (-1), 1) := by decide +kernel
theorem dX3_hitsOf_9 : decode cX3_hitsOf 9 = .ok (.if_icmp .ne 7, 3) := by decide +kernel
theorem dX3_hitsOf_12 : decode cX3_hitsOf 12 = .ok (.lconst 0, 1) := by decide +kernel
theorem dX3_hitsOf_13 : decode cX3_hitsOf 13 = .ok (.goto 9, 3) := by decide +kernel
theorem dX3_hitsOf_16 : decode cX3_hitsOf 16 = .ok (.aload_n 0, 1) := by decide +kernel
theorem dX3_hitsOf_17 : decode cX3_hitsOf 17 = .ok (.getfield 27, 3) := by decide +kernel
theorem dX3_hitsOf_20 : decode cX3_hitsOf 20 = .ok (.iload_n 3, 1) := by decide +kernel
theorem dX3_hitsOf_21 : decode cX3_hitsOf 21 = .ok (.laload, 1) := by decide +kernel
theorem dX3_hitsOf_22 : decode cX3_hitsOf 22 = .ok (.lreturn, 1) := by decide +kernel
theorem dX3_matchPin_0 : decode cX3_matchPin 0 = .ok (.iconst 0, 1) := by decide +kernel
theorem dX3_matchPin_1 : decode cX3_matchPin 1 = .ok (.istore_n 3, 1) := by decide +kernel
theorem dX3_matchPin_2 : decode cX3_matchPin 2 = .ok (.iload_n 3, 1) := by decide +kernel
theorem dX3_matchPin_3 : decode cX3_matchPin 3 = .ok (.aload_n 0, 1) := by decide +kernel
theorem dX3_matchPin_4 : decode cX3_matchPin 4 = .ok (.getfield 42, 3) := by decide +kernel
theorem dX3_matchPin_7 : decode cX3_matchPin 7 = .ok (.iconst 3, 1) := by decide +kernel
theorem dX3_matchPin_8 : decode cX3_matchPin 8 = .ok (.imul, 1) := by decide +kernel
theorem dX3_matchPin_9 : decode cX3_matchPin 9 = .ok (.if_icmp .ge 61, 3) := by decide +kernel
theorem dX3_matchPin_12 : decode cX3_matchPin 12 = .ok (.aload_n 0, 1) := by decide +kernel
theorem dX3_matchPin_13 : decode cX3_matchPin 13 = .ok (.getfield 24, 3) := by decide +kernel
theorem dX3_matchPin_16 : decode cX3_matchPin 16 = .ok (.iload_n 3, 1) := by decide +kernel
theorem dX3_matchPin_17 : decode cX3_matchPin 17 = .ok (.iaload, 1) := by decide +kernel
theorem dX3_matchPin_18 : decode cX3_matchPin 18 = .ok (.ifCond .le 46, 3) := by decide +kernel
theorem dX3_matchPin_21 : decode cX3_matchPin 21 = .ok (.aload_n 0, 1) := by decide +kernel
theorem dX3_matchPin_22 : decode cX3_matchPin 22 = .ok (.getfield 27, 3) := by decide +kernel
theorem dX3_matchPin_25 : decode cX3_matchPin 25 = .ok (.iload_n 3, 1) := by decide +kernel
theorem dX3_matchPin_26 : decode cX3_matchPin 26 = .ok (.laload, 1) := by decide +kernel
theorem dX3_matchPin_27 : decode cX3_matchPin 27 = .ok (.lconst 1, 1) := by decide +kernel
theorem dX3_matchPin_28 : decode cX3_matchPin 28 = .ok (.iload_n 2, 1) := by decide +kernel
theorem dX3_matchPin_29 : decode cX3_matchPin 29 = .ok (.lshl, 1) := by decide +kernel
theorem dX3_matchPin_30 : decode cX3_matchPin 30 = .ok (.ldc2_w 72, 3) := by decide +kernel
theorem dX3_matchPin_33 : decode cX3_matchPin 33 = .ok (.lxor, 1) := by decide +kernel
theorem dX3_matchPin_34 : decode cX3_matchPin 34 = .ok (.land, 1) := by decide +kernel
theorem dX3_matchPin_35 : decode cX3_matchPin 35 = .ok (.lstore 4, 2) := by decide +kernel
theorem dX3_matchPin_37 : decode cX3_matchPin 37 = .ok (.aload_n 0, 1) := by decide +kernel
theorem dX3_matchPin_38 : decode cX3_matchPin 38 = .ok (.getfield 27, 3) := by decide +kernel
theorem dX3_matchPin_41 : decode cX3_matchPin 41 = .ok (.iload_n 3, 1) := by decide +kernel
theorem dX3_matchPin_42 : decode cX3_matchPin 42 = .ok (.aload_n 0, 1) := by decide +kernel
theorem dX3_matchPin_43 : decode cX3_matchPin 43 = .ok (.iload_n 3, 1) := by decide +kernel
theorem dX3_matchPin_44 : decode cX3_matchPin 44 = .ok (.aload_n 1, 1) := by decide +kernel
theorem dX3_matchPin_45 : decode cX3_matchPin 45 = .ok (.iload_n 2, 1) := by decide +kernel
theorem dX3_matchPin_46 : decode cX3_matchPin 46 = .ok (.invokevirtual 74, 3) := by decide +kernel
theorem dX3_matchPin_49 : decode cX3_matchPin 49 = .ok (.ifCond .eq 12, 3) := by decide +kernel
theorem dX3_matchPin_52 : decode cX3_matchPin 52 = .ok (.lload 4, 2) := by decide +kernel
theorem dX3_matchPin_54 : decode cX3_matchPin 54 = .ok (.lconst 1, 1) := by decide +kernel
theorem dX3_matchPin_55 : decode cX3_matchPin 55 = .ok (.iload_n 2, 1) := by decide +kernel
theorem dX3_matchPin_56 : decode cX3_matchPin 56 = .ok (.lshl, 1) := by decide +kernel
theorem dX3_matchPin_57 : decode cX3_matchPin 57 = .ok (.lor, 1) := by decide +kernel
theorem dX3_matchPin_58 : decode cX3_matchPin 58 = .ok (.goto 5, 3) := by decide +kernel
theorem dX3_matchPin_61 : decode cX3_matchPin 61 = .ok (.lload 4, 2) := by decide +kernel
theorem dX3_matchPin_63 : decode cX3_matchPin 63 = .ok (.lastore, 1) := by decide +kernel
theorem dX3_matchPin_64 : decode cX3_matchPin 64 = .ok (.iinc 3 1, 3) := by decide +kernel
theorem dX3_matchPin_67 : decode cX3_matchPin 67 = .ok (.goto (-65), 3) := by decide +kernel
theorem dX3_matchPin_70 : decode cX3_matchPin 70 = .ok (.return_, 1) := by decide +kernel
theorem dX3_fits_0 : decode cX3_fits 0 = .ok (.aload_n 2, 1) := by decide +kernel
theorem dX3_fits_1 : decode cX3_fits 1 = .ok (.iload_n 3, 1) := by decide +kernel
theorem dX3_fits_2 : decode cX3_fits 2 = .ok (.invokevirtual 78, 3) := by decide +kernel
theorem dX3_fits_5 : decode cX3_fits 5 = .ok (.istore 4, 2) := by decide +kernel
theorem dX3_fits_7 : decode cX3_fits 7 = .ok (.iload 4, 2) := by decide +kernel
theorem dX3_fits_9 : decode cX3_fits 9 = .ok (.ifCond .ne 5, 3) := by decide +kernel
theorem dX3_fits_12 : decode cX3_fits 12 = .ok (.iconst 0, 1) := by decide +kernel
theorem dX3_fits_13 : decode cX3_fits 13 = .ok (.ireturn, 1) := by decide +kernel
theorem dX3_fits_14 : decode cX3_fits 14 = .ok (.aload_n 0, 1) := by decide +kernel
theorem dX3_fits_15 : decode cX3_fits 15 = .ok (.iload_n 1, 1) := by decide +kernel
theorem dX3_fits_16 : decode cX3_fits 16 = .ok (.invokevirtual 83, 3) := by decide +kernel
theorem dX3_fits_19 : decode cX3_fits 19 = .ok (.istore 5, 2) := by decide +kernel
theorem dX3_fits_21 : decode cX3_fits 21 = .ok (.iconst 0, 1) := by decide +kernel
theorem dX3_fits_22 : decode cX3_fits 22 = .ok (.istore 6, 2) := by decide +kernel
theorem dX3_fits_24 : decode cX3_fits 24 = .ok (.iload 6, 2) := by decide +kernel
theorem dX3_fits_26 : decode cX3_fits 26 = .ok (.iload 4, 2) := by decide +kernel
theorem dX3_fits_28 : decode cX3_fits 28 = .ok (.if_icmp .ge 30, 3) := by decide +kernel
theorem dX3_fits_31 : decode cX3_fits 31 = .ok (.iload 5, 2) := by decide +kernel
theorem dX3_fits_33 : decode cX3_fits 33 = .ok (.ifCond .eq 25, 3) := by decide +kernel
theorem dX3_fits_36 : decode cX3_fits 36 = .ok (.aload_n 0, 1) := by decide +kernel
theorem dX3_fits_37 : decode cX3_fits 37 = .ok (.iload_n 1, 1) := by decide +kernel
theorem dX3_fits_38 : decode cX3_fits 38 = .ok (.iload 5, 2) := by decide +kernel
theorem dX3_fits_40 : decode cX3_fits 40 = .ok (.aload_n 2, 1) := by decide +kernel
theorem dX3_fits_41 : decode cX3_fits 41 = .ok (.iload_n 3, 1) := by decide +kernel
theorem dX3_fits_42 : decode cX3_fits 42 = .ok (.iload 6, 2) := by decide +kernel
theorem dX3_fits_44 : decode cX3_fits 44 = .ok (.invokevirtual 86, 3) := by decide +kernel
theorem dX3_fits_47 : decode cX3_fits 47 = .ok (.invokevirtual 90, 3) := by decide +kernel
theorem dX3_fits_50 : decode cX3_fits 50 = .ok (.istore 5, 2) := by decide +kernel
theorem dX3_fits_52 : decode cX3_fits 52 = .ok (.iinc 6 1, 3) := by decide +kernel
theorem dX3_fits_55 : decode cX3_fits 55 = .ok (.goto (-31), 3) := by decide +kernel
theorem dX3_fits_58 : decode cX3_fits 58 = .ok (.iload 5, 2) := by decide +kernel
theorem dX3_fits_60 : decode cX3_fits 60 = .ok (.aload_n 0, 1) := by decide +kernel
theorem dX3_fits_61 : decode cX3_fits 61 = .ok (.getfield 24, 3) := by decide +kernel
theorem dX3_fits_64 : decode cX3_fits 64 = .ok (.iload_n 1, 1) := by decide +kernel
theorem dX3_fits_65 : decode cX3_fits 65 = .ok (.iaload, 1) := by decide +kernel
theorem dX3_fits_66 : decode cX3_fits 66 = .ok (.ishr, 1) := by decide +kernel
theorem dX3_fits_67 : decode cX3_fits 67 = .ok (.iconst 1, 1) := by decide +kernel
theorem dX3_fits_68 : decode cX3_fits 68 = .ok (.iand, 1) := by decide +kernel
theorem dX3_fits_69 : decode cX3_fits 69 = .ok (.iconst 1, 1) := by decide +kernel
theorem dX3_fits_70 : decode cX3_fits 70 = .ok (.if_icmp .ne 7, 3) := by decide +kernel
theorem dX3_fits_73 : decode cX3_fits 73 = .ok (.iconst 1, 1) := by decide +kernel
theorem dX3_fits_74 : decode cX3_fits 74 = .ok (.goto 4, 3) := by decide +kernel
theorem dX3_fits_77 : decode cX3_fits 77 = .ok (.iconst 0, 1) := by decide +kernel
theorem dX3_fits_78 : decode cX3_fits 78 = .ok (.ireturn, 1) := by decide +kernel
theorem dX3_reachedByStars_0 : decode cX3_reachedByStars 0 = .ok (.iconst 1, 1) := by decide +kernel
theorem dX3_reachedByStars_1 : decode cX3_reachedByStars 1 = .ok (.istore_n 2, 1) := by decide +kernel
theorem dX3_reachedByStars_2 : decode cX3_reachedByStars 2 = .ok (.iconst 0, 1) := by decide +kernel
theorem dX3_reachedByStars_3 : decode cX3_reachedByStars 3 = .ok (.istore_n 3, 1) := by decide +kernel
theorem dX3_reachedByStars_4 : decode cX3_reachedByStars 4 = .ok (.iload_n 3, 1) := by decide +kernel
theorem dX3_reachedByStars_5 : decode cX3_reachedByStars 5 = .ok (.aload_n 0, 1) := by decide +kernel
theorem dX3_reachedByStars_6 : decode cX3_reachedByStars 6 = .ok (.getfield 24, 3) := by decide +kernel
theorem dX3_reachedByStars_9 : decode cX3_reachedByStars 9 = .ok (.iload_n 1, 1) := by decide +kernel
theorem dX3_reachedByStars_10 : decode cX3_reachedByStars 10 = .ok (.iaload, 1) := by decide +kernel
theorem dX3_reachedByStars_11 : decode cX3_reachedByStars 11 = .ok (.if_icmp .ge 35, 3) := by decide +kernel
theorem dX3_reachedByStars_14 : decode cX3_reachedByStars 14 = .ok (.aload_n 0, 1) := by decide +kernel
theorem dX3_reachedByStars_15 : decode cX3_reachedByStars 15 = .ok (.aload_n 0, 1) := by decide +kernel
theorem dX3_reachedByStars_16 : decode cX3_reachedByStars 16 = .ok (.getfield 21, 3) := by decide +kernel
theorem dX3_reachedByStars_19 : decode cX3_reachedByStars 19 = .ok (.iload_n 1, 1) := by decide +kernel
theorem dX3_reachedByStars_20 : decode cX3_reachedByStars 20 = .ok (.iaload, 1) := by decide +kernel
theorem dX3_reachedByStars_21 : decode cX3_reachedByStars 21 = .ok (.iload_n 3, 1) := by decide +kernel
theorem dX3_reachedByStars_22 : decode cX3_reachedByStars 22 = .ok (.iadd, 1) := by decide +kernel
theorem dX3_reachedByStars_23 : decode cX3_reachedByStars 23 = .ok (.invokevirtual 60, 3) := by decide +kernel
theorem dX3_reachedByStars_26 : decode cX3_reachedByStars 26 = .ok (.bipush 42, 2) := by decide +kernel
theorem dX3_reachedByStars_28 : decode cX3_reachedByStars 28 = .ok (.if_icmp .eq 6, 3) := by decide +kernel
theorem dX3_reachedByStars_31 : decode cX3_reachedByStars 31 = .ok (.goto 15, 3) := by decide +kernel
theorem dX3_reachedByStars_34 : decode cX3_reachedByStars 34 = .ok (.iload_n 2, 1) := by decide +kernel
theorem dX3_reachedByStars_35 : decode cX3_reachedByStars 35 = .ok (.iconst 2, 1) := by decide +kernel
theorem dX3_reachedByStars_36 : decode cX3_reachedByStars 36 = .ok (.iload_n 3, 1) := by decide +kernel
theorem dX3_reachedByStars_37 : decode cX3_reachedByStars 37 = .ok (.ishl, 1) := by decide +kernel
theorem dX3_reachedByStars_38 : decode cX3_reachedByStars 38 = .ok (.ior, 1) := by decide +kernel
theorem dX3_reachedByStars_39 : decode cX3_reachedByStars 39 = .ok (.istore_n 2, 1) := by decide +kernel
theorem dX3_reachedByStars_40 : decode cX3_reachedByStars 40 = .ok (.iinc 3 1, 3) := by decide +kernel
theorem dX3_reachedByStars_43 : decode cX3_reachedByStars 43 = .ok (.goto (-39), 3) := by decide +kernel
theorem dX3_reachedByStars_46 : decode cX3_reachedByStars 46 = .ok (.iload_n 2, 1) := by decide +kernel
theorem dX3_reachedByStars_47 : decode cX3_reachedByStars 47 = .ok (.ireturn, 1) := by decide +kernel
theorem dX3_reachedBy_0 : decode cX3_reachedBy 0 = .ok (.iconst 0, 1) := by decide +kernel
theorem dX3_reachedBy_1 : decode cX3_reachedBy 1 = .ok (.istore 4, 2) := by decide +kernel
theorem dX3_reachedBy_3 : decode cX3_reachedBy 3 = .ok (.iconst 0, 1) := by decide +kernel
theorem dX3_reachedBy_4 : decode cX3_reachedBy 4 = .ok (.istore 5, 2) := by decide +kernel
theorem dX3_reachedBy_6 : decode cX3_reachedBy 6 = .ok (.iload 5, 2) := by decide +kernel
theorem dX3_reachedBy_8 : decode cX3_reachedBy 8 = .ok (.aload_n 0, 1) := by decide +kernel
theorem dX3_reachedBy_9 : decode cX3_reachedBy 9 = .ok (.getfield 24, 3) := by decide +kernel
theorem dX3_reachedBy_12 : decode cX3_reachedBy 12 = .ok (.iload_n 1, 1) := by decide +kernel
theorem dX3_reachedBy_13 : decode cX3_reachedBy 13 = .ok (.iaload, 1) := by decide +kernel
theorem dX3_reachedBy_14 : decode cX3_reachedBy 14 = .ok (.if_icmp .ge 85, 3) := by decide +kernel
theorem dX3_reachedBy_17 : decode cX3_reachedBy 17 = .ok (.aload_n 0, 1) := by decide +kernel
theorem dX3_reachedBy_18 : decode cX3_reachedBy 18 = .ok (.aload_n 0, 1) := by decide +kernel
theorem dX3_reachedBy_19 : decode cX3_reachedBy 19 = .ok (.getfield 21, 3) := by decide +kernel
theorem dX3_reachedBy_22 : decode cX3_reachedBy 22 = .ok (.iload_n 1, 1) := by decide +kernel
theorem dX3_reachedBy_23 : decode cX3_reachedBy 23 = .ok (.iaload, 1) := by decide +kernel
theorem dX3_reachedBy_24 : decode cX3_reachedBy 24 = .ok (.iload 5, 2) := by decide +kernel
theorem dX3_reachedBy_26 : decode cX3_reachedBy 26 = .ok (.iadd, 1) := by decide +kernel
theorem dX3_reachedBy_27 : decode cX3_reachedBy 27 = .ok (.invokevirtual 60, 3) := by decide +kernel
theorem dX3_reachedBy_30 : decode cX3_reachedBy 30 = .ok (.istore 6, 2) := by decide +kernel
theorem dX3_reachedBy_32 : decode cX3_reachedBy 32 = .ok (.iload_n 2, 1) := by decide +kernel
theorem dX3_reachedBy_33 : decode cX3_reachedBy 33 = .ok (.iconst 1, 1) := by decide +kernel
theorem dX3_reachedBy_34 : decode cX3_reachedBy 34 = .ok (.iload 5, 2) := by decide +kernel
theorem dX3_reachedBy_36 : decode cX3_reachedBy 36 = .ok (.ishl, 1) := by decide +kernel
theorem dX3_reachedBy_37 : decode cX3_reachedBy 37 = .ok (.iand, 1) := by decide +kernel
theorem dX3_reachedBy_38 : decode cX3_reachedBy 38 = .ok (.istore 7, 2) := by decide +kernel
theorem dX3_reachedBy_40 : decode cX3_reachedBy 40 = .ok (.iload 6, 2) := by decide +kernel
theorem dX3_reachedBy_42 : decode cX3_reachedBy 42 = .ok (.bipush 42, 2) := by decide +kernel
theorem dX3_reachedBy_44 : decode cX3_reachedBy 44 = .ok (.if_icmp .ne 27, 3) := by decide +kernel
theorem dX3_reachedBy_47 : decode cX3_reachedBy 47 = .ok (.iload 4, 2) := by decide +kernel
theorem dX3_reachedBy_49 : decode cX3_reachedBy 49 = .ok (.iload 7, 2) := by decide +kernel
theorem dX3_reachedBy_51 : decode cX3_reachedBy 51 = .ok (.ior, 1) := by decide +kernel
theorem dX3_reachedBy_52 : decode cX3_reachedBy 52 = .ok (.istore 4, 2) := by decide +kernel
theorem dX3_reachedBy_54 : decode cX3_reachedBy 54 = .ok (.iload 4, 2) := by decide +kernel
theorem dX3_reachedBy_56 : decode cX3_reachedBy 56 = .ok (.iload 4, 2) := by decide +kernel
theorem dX3_reachedBy_58 : decode cX3_reachedBy 58 = .ok (.iconst 1, 1) := by decide +kernel
theorem dX3_reachedBy_59 : decode cX3_reachedBy 59 = .ok (.iload 5, 2) := by decide +kernel
theorem dX3_reachedBy_61 : decode cX3_reachedBy 61 = .ok (.ishl, 1) := by decide +kernel
theorem dX3_reachedBy_62 : decode cX3_reachedBy 62 = .ok (.iand, 1) := by decide +kernel
theorem dX3_reachedBy_63 : decode cX3_reachedBy 63 = .ok (.iconst 1, 1) := by decide +kernel
theorem dX3_reachedBy_64 : decode cX3_reachedBy 64 = .ok (.ishl, 1) := by decide +kernel
theorem dX3_reachedBy_65 : decode cX3_reachedBy 65 = .ok (.ior, 1) := by decide +kernel
theorem dX3_reachedBy_66 : decode cX3_reachedBy 66 = .ok (.istore 4, 2) := by decide +kernel
theorem dX3_reachedBy_68 : decode cX3_reachedBy 68 = .ok (.goto 25, 3) := by decide +kernel
theorem dX3_reachedBy_71 : decode cX3_reachedBy 71 = .ok (.iload 6, 2) := by decide +kernel
theorem dX3_reachedBy_73 : decode cX3_reachedBy 73 = .ok (.bipush 63, 2) := by decide +kernel
theorem dX3_reachedBy_75 : decode cX3_reachedBy 75 = .ok (.if_icmp .eq 9, 3) := by decide +kernel
theorem dX3_reachedBy_78 : decode cX3_reachedBy 78 = .ok (.iload 6, 2) := by decide +kernel
theorem dX3_reachedBy_80 : decode cX3_reachedBy 80 = .ok (.iload_n 3, 1) := by decide +kernel
theorem dX3_reachedBy_81 : decode cX3_reachedBy 81 = .ok (.if_icmp .ne 12, 3) := by decide +kernel
theorem dX3_reachedBy_84 : decode cX3_reachedBy 84 = .ok (.iload 4, 2) := by decide +kernel
theorem dX3_reachedBy_86 : decode cX3_reachedBy 86 = .ok (.iload 7, 2) := by decide +kernel
theorem dX3_reachedBy_88 : decode cX3_reachedBy 88 = .ok (.iconst 1, 1) := by decide +kernel
theorem dX3_reachedBy_89 : decode cX3_reachedBy 89 = .ok (.ishl, 1) := by decide +kernel
theorem dX3_reachedBy_90 : decode cX3_reachedBy 90 = .ok (.ior, 1) := by decide +kernel
theorem dX3_reachedBy_91 : decode cX3_reachedBy 91 = .ok (.istore 4, 2) := by decide +kernel
theorem dX3_reachedBy_93 : decode cX3_reachedBy 93 = .ok (.iinc 5 1, 3) := by decide +kernel
theorem dX3_reachedBy_96 : decode cX3_reachedBy 96 = .ok (.goto (-90), 3) := by decide +kernel
theorem dX3_reachedBy_99 : decode cX3_reachedBy 99 = .ok (.iload 4, 2) := by decide +kernel
theorem dX3_reachedBy_101 : decode cX3_reachedBy 101 = .ok (.ireturn, 1) := by decide +kernel
theorem dX3_linkOf_0 : decode cX3_linkOf 0 = .ok (.iload_n 1, 1) := by decide +kernel
theorem dX3_linkOf_1 : decode cX3_linkOf 1 = .ok (.iconst 1, 1) := by decide +kernel
theorem dX3_linkOf_2 : decode cX3_linkOf 2 = .ok (.if_icmp .lt 24, 3) := by decide +kernel
theorem dX3_linkOf_5 : decode cX3_linkOf 5 = .ok (.iload_n 1, 1) := by decide +kernel
theorem dX3_linkOf_6 : decode cX3_linkOf 6 = .ok (.aload_n 0, 1) := by decide +kernel
theorem dX3_linkOf_7 : decode cX3_linkOf 7 = .ok (.getfield 42, 3) := by decide +kernel
theorem dX3_linkOf_10 : decode cX3_linkOf 10 = .ok (.if_icmp .gt 16, 3) := by decide +kernel
theorem dX3_linkOf_13 : decode cX3_linkOf 13 = .ok (.iload_n 2, 1) := by decide +kernel
theorem dX3_linkOf_14 : decode cX3_linkOf 14 = .ok (.ifCond .lt 12, 3) := by decide +kernel
theorem dX3_linkOf_17 : decode cX3_linkOf 17 = .ok (.iload_n 2, 1) := by decide +kernel
theorem dX3_linkOf_18 : decode cX3_linkOf 18 = .ok (.iconst 2, 1) := by decide +kernel
theorem dX3_linkOf_19 : decode cX3_linkOf 19 = .ok (.if_icmp .ge 7, 3) := by decide +kernel
theorem dX3_linkOf_22 : decode cX3_linkOf 22 = .ok (.iconst 1, 1) := by decide +kernel
theorem dX3_linkOf_23 : decode cX3_linkOf 23 = .ok (.goto 4, 3) := by decide +kernel
theorem dX3_linkOf_26 : decode cX3_linkOf 26 = .ok (.iconst 0, 1) := by decide +kernel
theorem dX3_linkOf_27 : decode cX3_linkOf 27 = .ok (.istore_n 3, 1) := by decide +kernel
theorem dX3_linkOf_28 : decode cX3_linkOf 28 = .ok (.iload_n 3, 1) := by decide +kernel
theorem dX3_linkOf_29 : decode cX3_linkOf 29 = .ok (.ifCond .eq 18, 3) := by decide +kernel
theorem dX3_linkOf_32 : decode cX3_linkOf 32 = .ok (.aload_n 0, 1) := by decide +kernel
theorem dX3_linkOf_33 : decode cX3_linkOf 33 = .ok (.getfield 18, 3) := by decide +kernel
theorem dX3_linkOf_36 : decode cX3_linkOf 36 = .ok (.iload_n 1, 1) := by decide +kernel
theorem dX3_linkOf_37 : decode cX3_linkOf 37 = .ok (.iconst 1, 1) := by decide +kernel
theorem dX3_linkOf_38 : decode cX3_linkOf 38 = .ok (.isub, 1) := by decide +kernel
theorem dX3_linkOf_39 : decode cX3_linkOf 39 = .ok (.iconst 2, 1) := by decide +kernel
theorem dX3_linkOf_40 : decode cX3_linkOf 40 = .ok (.imul, 1) := by decide +kernel
theorem dX3_linkOf_41 : decode cX3_linkOf 41 = .ok (.iload_n 2, 1) := by decide +kernel
theorem dX3_linkOf_42 : decode cX3_linkOf 42 = .ok (.iadd, 1) := by decide +kernel
theorem dX3_linkOf_43 : decode cX3_linkOf 43 = .ok (.iaload, 1) := by decide +kernel
theorem dX3_linkOf_44 : decode cX3_linkOf 44 = .ok (.goto 4, 3) := by decide +kernel
theorem dX3_linkOf_47 : decode cX3_linkOf 47 = .ok (.iconst (-1), 1) := by decide +kernel
theorem dX3_linkOf_48 : decode cX3_linkOf 48 = .ok (.ireturn, 1) := by decide +kernel
theorem dX3_saysApart_0 : decode cX3_saysApart 0 = .ok (.iconst 1, 1) := by decide +kernel
theorem dX3_saysApart_1 : decode cX3_saysApart 1 = .ok (.istore_n 3, 1) := by decide +kernel
theorem dX3_saysApart_2 : decode cX3_saysApart 2 = .ok (.iload_n 3, 1) := by decide +kernel
theorem dX3_saysApart_3 : decode cX3_saysApart 3 = .ok (.aload_n 0, 1) := by decide +kernel
theorem dX3_saysApart_4 : decode cX3_saysApart 4 = .ok (.getfield 42, 3) := by decide +kernel
theorem dX3_saysApart_7 : decode cX3_saysApart 7 = .ok (.if_icmp .gt 63, 3) := by decide +kernel
theorem dX3_saysApart_10 : decode cX3_saysApart 10 = .ok (.aload_n 0, 1) := by decide +kernel
theorem dX3_saysApart_11 : decode cX3_saysApart 11 = .ok (.getfield 9, 3) := by decide +kernel
theorem dX3_saysApart_14 : decode cX3_saysApart 14 = .ok (.iload_n 3, 1) := by decide +kernel
theorem dX3_saysApart_15 : decode cX3_saysApart 15 = .ok (.iconst 1, 1) := by decide +kernel
theorem dX3_saysApart_16 : decode cX3_saysApart 16 = .ok (.isub, 1) := by decide +kernel
theorem dX3_saysApart_17 : decode cX3_saysApart 17 = .ok (.iaload, 1) := by decide +kernel
theorem dX3_saysApart_18 : decode cX3_saysApart 18 = .ok (.iconst 3, 1) := by decide +kernel
theorem dX3_saysApart_19 : decode cX3_saysApart 19 = .ok (.if_icmp .ne 45, 3) := by decide +kernel
theorem dX3_saysApart_22 : decode cX3_saysApart 22 = .ok (.aload_n 0, 1) := by decide +kernel
theorem dX3_saysApart_23 : decode cX3_saysApart 23 = .ok (.iload_n 3, 1) := by decide +kernel
theorem dX3_saysApart_24 : decode cX3_saysApart 24 = .ok (.iconst 0, 1) := by decide +kernel
theorem dX3_saysApart_25 : decode cX3_saysApart 25 = .ok (.invokevirtual 94, 3) := by decide +kernel
theorem dX3_saysApart_28 : decode cX3_saysApart 28 = .ok (.istore 4, 2) := by decide +kernel
theorem dX3_saysApart_30 : decode cX3_saysApart 30 = .ok (.aload_n 0, 1) := by decide +kernel
theorem dX3_saysApart_31 : decode cX3_saysApart 31 = .ok (.iload_n 3, 1) := by decide +kernel
theorem dX3_saysApart_32 : decode cX3_saysApart 32 = .ok (.iconst 1, 1) := by decide +kernel
theorem dX3_saysApart_33 : decode cX3_saysApart 33 = .ok (.invokevirtual 94, 3) := by decide +kernel
theorem dX3_saysApart_36 : decode cX3_saysApart 36 = .ok (.istore 5, 2) := by decide +kernel
theorem dX3_saysApart_38 : decode cX3_saysApart 38 = .ok (.iload 4, 2) := by decide +kernel
theorem dX3_saysApart_40 : decode cX3_saysApart 40 = .ok (.iload_n 1, 1) := by decide +kernel
theorem dX3_saysApart_41 : decode cX3_saysApart 41 = .ok (.if_icmp .ne 9, 3) := by decide +kernel
theorem dX3_saysApart_44 : decode cX3_saysApart 44 = .ok (.iload 5, 2) := by decide +kernel
theorem dX3_saysApart_46 : decode cX3_saysApart 46 = .ok (.iload_n 2, 1) := by decide +kernel
theorem dX3_saysApart_47 : decode cX3_saysApart 47 = .ok (.if_icmp .eq 15, 3) := by decide +kernel
theorem dX3_saysApart_50 : decode cX3_saysApart 50 = .ok (.iload 4, 2) := by decide +kernel
theorem dX3_saysApart_52 : decode cX3_saysApart 52 = .ok (.iload_n 2, 1) := by decide +kernel
theorem dX3_saysApart_53 : decode cX3_saysApart 53 = .ok (.if_icmp .ne 11, 3) := by decide +kernel
theorem dX3_saysApart_56 : decode cX3_saysApart 56 = .ok (.iload 5, 2) := by decide +kernel
theorem dX3_saysApart_58 : decode cX3_saysApart 58 = .ok (.iload_n 1, 1) := by decide +kernel
theorem dX3_saysApart_59 : decode cX3_saysApart 59 = .ok (.if_icmp .ne 5, 3) := by decide +kernel
theorem dX3_saysApart_62 : decode cX3_saysApart 62 = .ok (.iconst 1, 1) := by decide +kernel
theorem dX3_saysApart_63 : decode cX3_saysApart 63 = .ok (.ireturn, 1) := by decide +kernel
theorem dX3_saysApart_64 : decode cX3_saysApart 64 = .ok (.iinc 3 1, 3) := by decide +kernel
theorem dX3_saysApart_67 : decode cX3_saysApart 67 = .ok (.goto (-65), 3) := by decide +kernel
theorem dX3_saysApart_70 : decode cX3_saysApart 70 = .ok (.iconst 0, 1) := by decide +kernel
theorem dX3_saysApart_71 : decode cX3_saysApart 71 = .ok (.ireturn, 1) := by decide +kernel
theorem dX3_winner_0 : decode cX3_winner 0 = .ok (.iconst 0, 1) := by decide +kernel
theorem dX3_winner_1 : decode cX3_winner 1 = .ok (.istore 4, 2) := by decide +kernel
theorem dX3_winner_3 : decode cX3_winner 3 = .ok (.iconst 0, 1) := by decide +kernel
theorem dX3_winner_4 : decode cX3_winner 4 = .ok (.istore 5, 2) := by decide +kernel
theorem dX3_winner_6 : decode cX3_winner 6 = .ok (.iconst 1, 1) := by decide +kernel
theorem dX3_winner_7 : decode cX3_winner 7 = .ok (.istore 6, 2) := by decide +kernel
theorem dX3_winner_9 : decode cX3_winner 9 = .ok (.iload 6, 2) := by decide +kernel
theorem dX3_winner_11 : decode cX3_winner 11 = .ok (.aload_n 0, 1) := by decide +kernel
theorem dX3_winner_12 : decode cX3_winner 12 = .ok (.getfield 42, 3) := by decide +kernel
theorem dX3_winner_15 : decode cX3_winner 15 = .ok (.if_icmp .gt 102, 3) := by decide +kernel
theorem dX3_winner_18 : decode cX3_winner 18 = .ok (.aload_n 0, 1) := by decide +kernel
theorem dX3_winner_19 : decode cX3_winner 19 = .ok (.getfield 9, 3) := by decide +kernel
theorem dX3_winner_22 : decode cX3_winner 22 = .ok (.iload 6, 2) := by decide +kernel
theorem dX3_winner_24 : decode cX3_winner 24 = .ok (.iconst 1, 1) := by decide +kernel
theorem dX3_winner_25 : decode cX3_winner 25 = .ok (.isub, 1) := by decide +kernel
theorem dX3_winner_26 : decode cX3_winner 26 = .ok (.iaload, 1) := by decide +kernel
theorem dX3_winner_27 : decode cX3_winner 27 = .ok (.invokestatic 97, 3) := by decide +kernel
theorem dX3_winner_30 : decode cX3_winner 30 = .ok (.istore 7, 2) := by decide +kernel
theorem dX3_winner_32 : decode cX3_winner 32 = .ok (.iload 7, 2) := by decide +kernel
theorem dX3_winner_34 : decode cX3_winner 34 = .ok (.ifCond .le 40, 3) := by decide +kernel
theorem dX3_winner_37 : decode cX3_winner 37 = .ok (.aload_n 0, 1) := by decide +kernel
theorem dX3_winner_38 : decode cX3_winner 38 = .ok (.iload 6, 2) := by decide +kernel
theorem dX3_winner_40 : decode cX3_winner 40 = .ok (.iconst 0, 1) := by decide +kernel
theorem dX3_winner_41 : decode cX3_winner 41 = .ok (.iload_n 1, 1) := by decide +kernel
theorem dX3_winner_42 : decode cX3_winner 42 = .ok (.invokevirtual 100, 3) := by decide +kernel
theorem dX3_winner_45 : decode cX3_winner 45 = .ok (.ifCond .eq 29, 3) := by decide +kernel
theorem dX3_winner_48 : decode cX3_winner 48 = .ok (.aload_n 0, 1) := by decide +kernel
theorem dX3_winner_49 : decode cX3_winner 49 = .ok (.iload 6, 2) := by decide +kernel
theorem dX3_winner_51 : decode cX3_winner 51 = .ok (.iconst 1, 1) := by decide +kernel
theorem dX3_winner_52 : decode cX3_winner 52 = .ok (.iload_n 2, 1) := by decide +kernel
theorem dX3_winner_53 : decode cX3_winner 53 = .ok (.invokevirtual 100, 3) := by decide +kernel
theorem dX3_winner_56 : decode cX3_winner 56 = .ok (.ifCond .eq 18, 3) := by decide +kernel
theorem dX3_winner_59 : decode cX3_winner 59 = .ok (.aload_n 0, 1) := by decide +kernel
theorem dX3_winner_60 : decode cX3_winner 60 = .ok (.iload 6, 2) := by decide +kernel
theorem dX3_winner_62 : decode cX3_winner 62 = .ok (.iconst 2, 1) := by decide +kernel
theorem dX3_winner_63 : decode cX3_winner 63 = .ok (.iload_n 3, 1) := by decide +kernel
theorem dX3_winner_64 : decode cX3_winner 64 = .ok (.invokevirtual 100, 3) := by decide +kernel
theorem dX3_winner_67 : decode cX3_winner 67 = .ok (.ifCond .eq 7, 3) := by decide +kernel
theorem dX3_winner_70 : decode cX3_winner 70 = .ok (.iconst 1, 1) := by decide +kernel
theorem dX3_winner_71 : decode cX3_winner 71 = .ok (.goto 4, 3) := by decide +kernel
theorem dX3_winner_74 : decode cX3_winner 74 = .ok (.iconst 0, 1) := by decide +kernel
theorem dX3_winner_75 : decode cX3_winner 75 = .ok (.istore 8, 2) := by decide +kernel
theorem dX3_winner_77 : decode cX3_winner 77 = .ok (.iload 7, 2) := by decide +kernel
theorem dX3_winner_79 : decode cX3_winner 79 = .ok (.bipush 8, 2) := by decide +kernel
theorem dX3_winner_81 : decode cX3_winner 81 = .ok (.imul, 1) := by decide +kernel
theorem dX3_winner_82 : decode cX3_winner 82 = .ok (.aload_n 0, 1) := by decide +kernel
theorem dX3_winner_83 : decode cX3_winner 83 = .ok (.iload 6, 2) := by decide +kernel
theorem dX3_winner_85 : decode cX3_winner 85 = .ok (.invokevirtual 104, 3) := by decide +kernel
theorem dX3_winner_88 : decode cX3_winner 88 = .ok (.iadd, 1) := by decide +kernel
theorem dX3_winner_89 : decode cX3_winner 89 = .ok (.istore 9, 2) := by decide +kernel
theorem dX3_winner_91 : decode cX3_winner 91 = .ok (.iload 8, 2) := by decide +kernel
theorem dX3_winner_93 : decode cX3_winner 93 = .ok (.ifCond .eq 18, 3) := by decide +kernel
theorem dX3_winner_96 : decode cX3_winner 96 = .ok (.iload 9, 2) := by decide +kernel
theorem dX3_winner_98 : decode cX3_winner 98 = .ok (.iload 5, 2) := by decide +kernel
theorem dX3_winner_100 : decode cX3_winner 100 = .ok (.if_icmp .lt 11, 3) := by decide +kernel
theorem dX3_winner_103 : decode cX3_winner 103 = .ok (.iload 6, 2) := by decide +kernel
theorem dX3_winner_105 : decode cX3_winner 105 = .ok (.istore 4, 2) := by decide +kernel
theorem dX3_winner_107 : decode cX3_winner 107 = .ok (.iload 9, 2) := by decide +kernel
theorem dX3_winner_109 : decode cX3_winner 109 = .ok (.istore 5, 2) := by decide +kernel
theorem dX3_winner_111 : decode cX3_winner 111 = .ok (.iinc 6 1, 3) := by decide +kernel
theorem dX3_winner_114 : decode cX3_winner 114 = .ok (.goto (-105), 3) := by decide +kernel
theorem dX3_winner_117 : decode cX3_winner 117 = .ok (.iload 4, 2) := by decide +kernel
theorem dX3_winner_119 : decode cX3_winner 119 = .ok (.ireturn, 1) := by decide +kernel
theorem dX3_strengthOf_0 : decode cX3_strengthOf 0 = .ok (.iload_n 0, 1) := by decide +kernel
theorem dX3_strengthOf_1 : decode cX3_strengthOf 1 = .ok (.tableswitch 37 4 7 #[31, 35, 33, 33], 31) := by decide +kernel
theorem dX3_strengthOf_32 : decode cX3_strengthOf 32 = .ok (.iconst 3, 1) := by decide +kernel
theorem dX3_strengthOf_33 : decode cX3_strengthOf 33 = .ok (.ireturn, 1) := by decide +kernel
theorem dX3_strengthOf_34 : decode cX3_strengthOf 34 = .ok (.iconst 2, 1) := by decide +kernel
theorem dX3_strengthOf_35 : decode cX3_strengthOf 35 = .ok (.ireturn, 1) := by decide +kernel
theorem dX3_strengthOf_36 : decode cX3_strengthOf 36 = .ok (.iconst 1, 1) := by decide +kernel
theorem dX3_strengthOf_37 : decode cX3_strengthOf 37 = .ok (.ireturn, 1) := by decide +kernel
theorem dX3_strengthOf_38 : decode cX3_strengthOf 38 = .ok (.iconst 0, 1) := by decide +kernel
theorem dX3_strengthOf_39 : decode cX3_strengthOf 39 = .ok (.ireturn, 1) := by decide +kernel
theorem dX3_weightOf_0 : decode cX3_weightOf 0 = .ok (.aload_n 0, 1) := by decide +kernel
theorem dX3_weightOf_1 : decode cX3_weightOf 1 = .ok (.iload_n 1, 1) := by decide +kernel
theorem dX3_weightOf_2 : decode cX3_weightOf 2 = .ok (.iconst 0, 1) := by decide +kernel
theorem dX3_weightOf_3 : decode cX3_weightOf 3 = .ok (.invokevirtual 56, 3) := by decide +kernel
theorem dX3_weightOf_6 : decode cX3_weightOf 6 = .ok (.ifCond .eq 7, 3) := by decide +kernel
theorem dX3_weightOf_9 : decode cX3_weightOf 9 = .ok (.iconst 4, 1) := by decide +kernel
theorem dX3_weightOf_10 : decode cX3_weightOf 10 = .ok (.goto 4, 3) := by decide +kernel
theorem dX3_weightOf_13 : decode cX3_weightOf 13 = .ok (.iconst 0, 1) := by decide +kernel
theorem dX3_weightOf_14 : decode cX3_weightOf 14 = .ok (.aload_n 0, 1) := by decide +kernel
theorem dX3_weightOf_15 : decode cX3_weightOf 15 = .ok (.iload_n 1, 1) := by decide +kernel
theorem dX3_weightOf_16 : decode cX3_weightOf 16 = .ok (.iconst 2, 1) := by decide +kernel
theorem dX3_weightOf_17 : decode cX3_weightOf 17 = .ok (.invokevirtual 56, 3) := by decide +kernel
theorem dX3_weightOf_20 : decode cX3_weightOf 20 = .ok (.ifCond .eq 7, 3) := by decide +kernel
theorem dX3_weightOf_23 : decode cX3_weightOf 23 = .ok (.iconst 2, 1) := by decide +kernel
theorem dX3_weightOf_24 : decode cX3_weightOf 24 = .ok (.goto 4, 3) := by decide +kernel
theorem dX3_weightOf_27 : decode cX3_weightOf 27 = .ok (.iconst 0, 1) := by decide +kernel
theorem dX3_weightOf_28 : decode cX3_weightOf 28 = .ok (.iadd, 1) := by decide +kernel
theorem dX3_weightOf_29 : decode cX3_weightOf 29 = .ok (.aload_n 0, 1) := by decide +kernel
theorem dX3_weightOf_30 : decode cX3_weightOf 30 = .ok (.iload_n 1, 1) := by decide +kernel
theorem dX3_weightOf_31 : decode cX3_weightOf 31 = .ok (.iconst 1, 1) := by decide +kernel
theorem dX3_weightOf_32 : decode cX3_weightOf 32 = .ok (.invokevirtual 56, 3) := by decide +kernel
theorem dX3_weightOf_35 : decode cX3_weightOf 35 = .ok (.ifCond .eq 7, 3) := by decide +kernel
theorem dX3_weightOf_38 : decode cX3_weightOf 38 = .ok (.iconst 1, 1) := by decide +kernel
theorem dX3_weightOf_39 : decode cX3_weightOf 39 = .ok (.goto 4, 3) := by decide +kernel
theorem dX3_weightOf_42 : decode cX3_weightOf 42 = .ok (.iconst 0, 1) := by decide +kernel
theorem dX3_weightOf_43 : decode cX3_weightOf 43 = .ok (.iadd, 1) := by decide +kernel
theorem dX3_weightOf_44 : decode cX3_weightOf 44 = .ok (.ireturn, 1) := by decide +kernel
theorem dX3_admits_0 : decode cX3_admits 0 = .ok (.aload_n 0, 1) := by decide +kernel
theorem dX3_admits_1 : decode cX3_admits 1 = .ok (.iload_n 1, 1) := by decide +kernel
theorem dX3_admits_2 : decode cX3_admits 2 = .ok (.iload_n 2, 1) := by decide +kernel
theorem dX3_admits_3 : decode cX3_admits 3 = .ok (.invokevirtual 56, 3) := by decide +kernel
theorem dX3_admits_6 : decode cX3_admits 6 = .ok (.ifCond .eq 13, 3) := by decide +kernel
theorem dX3_admits_9 : decode cX3_admits 9 = .ok (.aload_n 0, 1) := by decide +kernel
theorem dX3_admits_10 : decode cX3_admits 10 = .ok (.iload_n 1, 1) := by decide +kernel
theorem dX3_admits_11 : decode cX3_admits 11 = .ok (.iload_n 2, 1) := by decide +kernel
theorem dX3_admits_12 : decode cX3_admits 12 = .ok (.iload_n 3, 1) := by decide +kernel
theorem dX3_admits_13 : decode cX3_admits 13 = .ok (.invokevirtual 107, 3) := by decide +kernel
theorem dX3_admits_16 : decode cX3_admits 16 = .ok (.ifCond .eq 7, 3) := by decide +kernel
theorem dX3_admits_19 : decode cX3_admits 19 = .ok (.iconst 1, 1) := by decide +kernel
theorem dX3_admits_20 : decode cX3_admits 20 = .ok (.goto 4, 3) := by decide +kernel
theorem dX3_admits_23 : decode cX3_admits 23 = .ok (.iconst 0, 1) := by decide +kernel
theorem dX3_admits_24 : decode cX3_admits 24 = .ok (.ireturn, 1) := by decide +kernel
theorem dX3_hasPattern_0 : decode cX3_hasPattern 0 = .ok (.aload_n 0, 1) := by decide +kernel
theorem dX3_hasPattern_1 : decode cX3_hasPattern 1 = .ok (.iload_n 1, 1) := by decide +kernel
theorem dX3_hasPattern_2 : decode cX3_hasPattern 2 = .ok (.iload_n 2, 1) := by decide +kernel
theorem dX3_hasPattern_3 : decode cX3_hasPattern 3 = .ok (.invokevirtual 52, 3) := by decide +kernel
theorem dX3_hasPattern_6 : decode cX3_hasPattern 6 = .ok (.istore_n 3, 1) := by decide +kernel
theorem dX3_hasPattern_7 : decode cX3_hasPattern 7 = .ok (.iload_n 3, 1) := by decide +kernel
theorem dX3_hasPattern_8 : decode cX3_hasPattern 8 = .ok (.iconst (-1), 1) := by decide +kernel
theorem dX3_hasPattern_9 : decode cX3_hasPattern 9 = .ok (.if_icmp .eq 16, 3) := by decide +kernel
theorem dX3_hasPattern_12 : decode cX3_hasPattern 12 = .ok (.aload_n 0, 1) := by decide +kernel
theorem dX3_hasPattern_13 : decode cX3_hasPattern 13 = .ok (.getfield 24, 3) := by decide +kernel
theorem dX3_hasPattern_16 : decode cX3_hasPattern 16 = .ok (.iload_n 3, 1) := by decide +kernel
theorem dX3_hasPattern_17 : decode cX3_hasPattern 17 = .ok (.iaload, 1) := by decide +kernel
theorem dX3_hasPattern_18 : decode cX3_hasPattern 18 = .ok (.ifCond .le 7, 3) := by decide +kernel
theorem dX3_hasPattern_21 : decode cX3_hasPattern 21 = .ok (.iconst 1, 1) := by decide +kernel
theorem dX3_hasPattern_22 : decode cX3_hasPattern 22 = .ok (.goto 4, 3) := by decide +kernel
theorem dX3_hasPattern_25 : decode cX3_hasPattern 25 = .ok (.iconst 0, 1) := by decide +kernel
theorem dX3_hasPattern_26 : decode cX3_hasPattern 26 = .ok (.ireturn, 1) := by decide +kernel
theorem dX3_matches_0 : decode cX3_matches 0 = .ok (.iload_n 3, 1) := by decide +kernel
theorem dX3_matches_1 : decode cX3_matches 1 = .ok (.iconst (-1), 1) := by decide +kernel
theorem dX3_matches_2 : decode cX3_matches 2 = .ok (.if_icmp .eq 22, 3) := by decide +kernel
theorem dX3_matches_5 : decode cX3_matches 5 = .ok (.aload_n 0, 1) := by decide +kernel
theorem dX3_matches_6 : decode cX3_matches 6 = .ok (.iload_n 1, 1) := by decide +kernel
theorem dX3_matches_7 : decode cX3_matches 7 = .ok (.iload_n 2, 1) := by decide +kernel
theorem dX3_matches_8 : decode cX3_matches 8 = .ok (.invokevirtual 110, 3) := by decide +kernel
theorem dX3_matches_11 : decode cX3_matches 11 = .ok (.iload_n 3, 1) := by decide +kernel
theorem dX3_matches_12 : decode cX3_matches 12 = .ok (.lushr, 1) := by decide +kernel
theorem dX3_matches_13 : decode cX3_matches 13 = .ok (.lconst 1, 1) := by decide +kernel
theorem dX3_matches_14 : decode cX3_matches 14 = .ok (.land, 1) := by decide +kernel
theorem dX3_matches_15 : decode cX3_matches 15 = .ok (.lconst 1, 1) := by decide +kernel
theorem dX3_matches_16 : decode cX3_matches 16 = .ok (.lcmp, 1) := by decide +kernel
theorem dX3_matches_17 : decode cX3_matches 17 = .ok (.ifCond .ne 7, 3) := by decide +kernel
theorem dX3_matches_20 : decode cX3_matches 20 = .ok (.iconst 1, 1) := by decide +kernel
theorem dX3_matches_21 : decode cX3_matches 21 = .ok (.goto 4, 3) := by decide +kernel
theorem dX3_matches_24 : decode cX3_matches 24 = .ok (.iconst 0, 1) := by decide +kernel
theorem dX3_matches_25 : decode cX3_matches 25 = .ok (.ireturn, 1) := by decide +kernel
theorem dX3_latestValue_0 : decode cX3_latestValue 0 = .ok (.aload_n 0, 1) := by decide +kernel
theorem dX3_latestValue_1 : decode cX3_latestValue 1 = .ok (.getfield 42, 3) := by decide +kernel
theorem dX3_latestValue_4 : decode cX3_latestValue 4 = .ok (.istore_n 3, 1) := by decide +kernel
theorem dX3_latestValue_5 : decode cX3_latestValue 5 = .ok (.iload_n 3, 1) := by decide +kernel
theorem dX3_latestValue_6 : decode cX3_latestValue 6 = .ok (.iconst 1, 1) := by decide +kernel
theorem dX3_latestValue_7 : decode cX3_latestValue 7 = .ok (.if_icmp .lt 40, 3) := by decide +kernel
theorem dX3_latestValue_10 : decode cX3_latestValue 10 = .ok (.aload_n 0, 1) := by decide +kernel
theorem dX3_latestValue_11 : decode cX3_latestValue 11 = .ok (.getfield 9, 3) := by decide +kernel
theorem dX3_latestValue_14 : decode cX3_latestValue 14 = .ok (.iload_n 3, 1) := by decide +kernel
theorem dX3_latestValue_15 : decode cX3_latestValue 15 = .ok (.iconst 1, 1) := by decide +kernel
theorem dX3_latestValue_16 : decode cX3_latestValue 16 = .ok (.isub, 1) := by decide +kernel
theorem dX3_latestValue_17 : decode cX3_latestValue 17 = .ok (.iaload, 1) := by decide +kernel
theorem dX3_latestValue_18 : decode cX3_latestValue 18 = .ok (.iload_n 1, 1) := by decide +kernel
theorem dX3_latestValue_19 : decode cX3_latestValue 19 = .ok (.if_icmp .ne 22, 3) := by decide +kernel
theorem dX3_latestValue_22 : decode cX3_latestValue 22 = .ok (.aload_n 0, 1) := by decide +kernel
theorem dX3_latestValue_23 : decode cX3_latestValue 23 = .ok (.iload_n 3, 1) := by decide +kernel
theorem dX3_latestValue_24 : decode cX3_latestValue 24 = .ok (.iconst 0, 1) := by decide +kernel
theorem dX3_latestValue_25 : decode cX3_latestValue 25 = .ok (.iload_n 2, 1) := by decide +kernel
theorem dX3_latestValue_26 : decode cX3_latestValue 26 = .ok (.invokevirtual 107, 3) := by decide +kernel
theorem dX3_latestValue_29 : decode cX3_latestValue 29 = .ok (.ifCond .eq 12, 3) := by decide +kernel
theorem dX3_latestValue_32 : decode cX3_latestValue 32 = .ok (.aload_n 0, 1) := by decide +kernel
theorem dX3_latestValue_33 : decode cX3_latestValue 33 = .ok (.getfield 15, 3) := by decide +kernel
theorem dX3_latestValue_36 : decode cX3_latestValue 36 = .ok (.iload_n 3, 1) := by decide +kernel
theorem dX3_latestValue_37 : decode cX3_latestValue 37 = .ok (.iconst 1, 1) := by decide +kernel
theorem dX3_latestValue_38 : decode cX3_latestValue 38 = .ok (.isub, 1) := by decide +kernel
theorem dX3_latestValue_39 : decode cX3_latestValue 39 = .ok (.iaload, 1) := by decide +kernel
theorem dX3_latestValue_40 : decode cX3_latestValue 40 = .ok (.ireturn, 1) := by decide +kernel
theorem dX3_latestValue_41 : decode cX3_latestValue 41 = .ok (.iinc 3 (-1), 3) := by decide +kernel
theorem dX3_latestValue_44 : decode cX3_latestValue 44 = .ok (.goto (-39), 3) := by decide +kernel
theorem dX3_latestValue_47 : decode cX3_latestValue 47 = .ok (.iconst (-1), 1) := by decide +kernel
theorem dX3_latestValue_48 : decode cX3_latestValue 48 = .ok (.ireturn, 1) := by decide +kernel
theorem dX3_idleRow_0 : decode cX3_idleRow 0 = .ok (.iconst 0, 1) := by decide +kernel
theorem dX3_idleRow_1 : decode cX3_idleRow 1 = .ok (.istore_n 2, 1) := by decide +kernel
theorem dX3_idleRow_2 : decode cX3_idleRow 2 = .ok (.iconst 1, 1) := by decide +kernel
theorem dX3_idleRow_3 : decode cX3_idleRow 3 = .ok (.istore_n 3, 1) := by decide +kernel
theorem dX3_idleRow_4 : decode cX3_idleRow 4 = .ok (.iload_n 3, 1) := by decide +kernel
theorem dX3_idleRow_5 : decode cX3_idleRow 5 = .ok (.aload_n 0, 1) := by decide +kernel
theorem dX3_idleRow_6 : decode cX3_idleRow 6 = .ok (.getfield 42, 3) := by decide +kernel
theorem dX3_idleRow_9 : decode cX3_idleRow 9 = .ok (.if_icmp .gt 27, 3) := by decide +kernel
theorem dX3_idleRow_12 : decode cX3_idleRow 12 = .ok (.aload_n 0, 1) := by decide +kernel
theorem dX3_idleRow_13 : decode cX3_idleRow 13 = .ok (.iload_n 3, 1) := by decide +kernel
theorem dX3_idleRow_14 : decode cX3_idleRow 14 = .ok (.invokevirtual 114, 3) := by decide +kernel
theorem dX3_idleRow_17 : decode cX3_idleRow 17 = .ok (.ifCond .eq 13, 3) := by decide +kernel
theorem dX3_idleRow_20 : decode cX3_idleRow 20 = .ok (.iload_n 2, 1) := by decide +kernel
theorem dX3_idleRow_21 : decode cX3_idleRow 21 = .ok (.iload_n 1, 1) := by decide +kernel
theorem dX3_idleRow_22 : decode cX3_idleRow 22 = .ok (.if_icmp .ne 5, 3) := by decide +kernel
theorem dX3_idleRow_25 : decode cX3_idleRow 25 = .ok (.iload_n 3, 1) := by decide +kernel
theorem dX3_idleRow_26 : decode cX3_idleRow 26 = .ok (.ireturn, 1) := by decide +kernel
theorem dX3_idleRow_27 : decode cX3_idleRow 27 = .ok (.iinc 2 1, 3) := by decide +kernel
theorem dX3_idleRow_30 : decode cX3_idleRow 30 = .ok (.iinc 3 1, 3) := by decide +kernel
theorem dX3_idleRow_33 : decode cX3_idleRow 33 = .ok (.goto (-29), 3) := by decide +kernel
theorem dX3_idleRow_36 : decode cX3_idleRow 36 = .ok (.iconst (-1), 1) := by decide +kernel
theorem dX3_idleRow_37 : decode cX3_idleRow 37 = .ok (.ireturn, 1) := by decide +kernel
theorem dX3_isIdle_0 : decode cX3_isIdle 0 = .ok (.iconst 0, 1) := by decide +kernel
theorem dX3_isIdle_1 : decode cX3_isIdle 1 = .ok (.istore_n 2, 1) := by decide +kernel
theorem dX3_isIdle_2 : decode cX3_isIdle 2 = .ok (.iload_n 2, 1) := by decide +kernel
theorem dX3_isIdle_3 : decode cX3_isIdle 3 = .ok (.iconst 3, 1) := by decide +kernel
theorem dX3_isIdle_4 : decode cX3_isIdle 4 = .ok (.if_icmp .ge 31, 3) := by decide +kernel
theorem dX3_isIdle_7 : decode cX3_isIdle 7 = .ok (.aload_n 0, 1) := by decide +kernel
theorem dX3_isIdle_8 : decode cX3_isIdle 8 = .ok (.iload_n 1, 1) := by decide +kernel
theorem dX3_isIdle_9 : decode cX3_isIdle 9 = .ok (.iload_n 2, 1) := by decide +kernel
theorem dX3_isIdle_10 : decode cX3_isIdle 10 = .ok (.invokevirtual 56, 3) := by decide +kernel
theorem dX3_isIdle_13 : decode cX3_isIdle 13 = .ok (.ifCond .eq 16, 3) := by decide +kernel
theorem dX3_isIdle_16 : decode cX3_isIdle 16 = .ok (.aload_n 0, 1) := by decide +kernel
theorem dX3_isIdle_17 : decode cX3_isIdle 17 = .ok (.iload_n 1, 1) := by decide +kernel
theorem dX3_isIdle_18 : decode cX3_isIdle 18 = .ok (.iload_n 2, 1) := by decide +kernel
theorem dX3_isIdle_19 : decode cX3_isIdle 19 = .ok (.invokevirtual 110, 3) := by decide +kernel
theorem dX3_isIdle_22 : decode cX3_isIdle 22 = .ok (.lconst 0, 1) := by decide +kernel
theorem dX3_isIdle_23 : decode cX3_isIdle 23 = .ok (.lcmp, 1) := by decide +kernel
theorem dX3_isIdle_24 : decode cX3_isIdle 24 = .ok (.ifCond .ne 5, 3) := by decide +kernel
theorem dX3_isIdle_27 : decode cX3_isIdle 27 = .ok (.iconst 1, 1) := by decide +kernel
theorem dX3_isIdle_28 : decode cX3_isIdle 28 = .ok (.ireturn, 1) := by decide +kernel
theorem dX3_isIdle_29 : decode cX3_isIdle 29 = .ok (.iinc 2 1, 3) := by decide +kernel
theorem dX3_isIdle_32 : decode cX3_isIdle 32 = .ok (.goto (-30), 3) := by decide +kernel
theorem dX3_isIdle_35 : decode cX3_isIdle 35 = .ok (.iconst 0, 1) := by decide +kernel
theorem dX3_isIdle_36 : decode cX3_isIdle 36 = .ok (.ireturn, 1) := by decide +kernel
theorem dX3_clashingRow_0 : decode cX3_clashingRow 0 = .ok (.iconst 0, 1) := by decide +kernel
theorem dX3_clashingRow_1 : decode cX3_clashingRow 1 = .ok (.istore_n 3, 1) := by decide +kernel
theorem dX3_clashingRow_2 : decode cX3_clashingRow 2 = .ok (.iconst 1, 1) := by decide +kernel
theorem dX3_clashingRow_3 : decode cX3_clashingRow 3 = .ok (.istore 4, 2) := by decide +kernel
theorem dX3_clashingRow_5 : decode cX3_clashingRow 5 = .ok (.iload 4, 2) := by decide +kernel
theorem dX3_clashingRow_7 : decode cX3_clashingRow 7 = .ok (.aload_n 0, 1) := by decide +kernel
theorem dX3_clashingRow_8 : decode cX3_clashingRow 8 = .ok (.getfield 42, 3) := by decide +kernel
theorem dX3_clashingRow_11 : decode cX3_clashingRow 11 = .ok (.if_icmp .gt 61, 3) := by decide +kernel
theorem dX3_clashingRow_14 : decode cX3_clashingRow 14 = .ok (.iload 4, 2) := by decide +kernel
theorem dX3_clashingRow_16 : decode cX3_clashingRow 16 = .ok (.iconst 1, 1) := by decide +kernel
theorem dX3_clashingRow_17 : decode cX3_clashingRow 17 = .ok (.iadd, 1) := by decide +kernel
theorem dX3_clashingRow_18 : decode cX3_clashingRow 18 = .ok (.istore 5, 2) := by decide +kernel
theorem dX3_clashingRow_20 : decode cX3_clashingRow 20 = .ok (.iload 5, 2) := by decide +kernel
theorem dX3_clashingRow_22 : decode cX3_clashingRow 22 = .ok (.aload_n 0, 1) := by decide +kernel
theorem dX3_clashingRow_23 : decode cX3_clashingRow 23 = .ok (.getfield 42, 3) := by decide +kernel
theorem dX3_clashingRow_26 : decode cX3_clashingRow 26 = .ok (.if_icmp .gt 40, 3) := by decide +kernel
theorem dX3_clashingRow_29 : decode cX3_clashingRow 29 = .ok (.aload_n 0, 1) := by decide +kernel
theorem dX3_clashingRow_30 : decode cX3_clashingRow 30 = .ok (.iload 4, 2) := by decide +kernel
theorem dX3_clashingRow_32 : decode cX3_clashingRow 32 = .ok (.iload 5, 2) := by decide +kernel
theorem dX3_clashingRow_34 : decode cX3_clashingRow 34 = .ok (.invokevirtual 118, 3) := by decide +kernel
theorem dX3_clashingRow_37 : decode cX3_clashingRow 37 = .ok (.ifCond .eq 23, 3) := by decide +kernel
theorem dX3_clashingRow_40 : decode cX3_clashingRow 40 = .ok (.iload_n 3, 1) := by decide +kernel
theorem dX3_clashingRow_41 : decode cX3_clashingRow 41 = .ok (.iload_n 1, 1) := by decide +kernel
theorem dX3_clashingRow_42 : decode cX3_clashingRow 42 = .ok (.if_icmp .ne 15, 3) := by decide +kernel
theorem dX3_clashingRow_45 : decode cX3_clashingRow 45 = .ok (.iload_n 2, 1) := by decide +kernel
theorem dX3_clashingRow_46 : decode cX3_clashingRow 46 = .ok (.ifCond .ne 8, 3) := by decide +kernel
theorem dX3_clashingRow_49 : decode cX3_clashingRow 49 = .ok (.iload 4, 2) := by decide +kernel
theorem dX3_clashingRow_51 : decode cX3_clashingRow 51 = .ok (.goto 5, 3) := by decide +kernel
theorem dX3_clashingRow_54 : decode cX3_clashingRow 54 = .ok (.iload 5, 2) := by decide +kernel
theorem dX3_clashingRow_56 : decode cX3_clashingRow 56 = .ok (.ireturn, 1) := by decide +kernel
theorem dX3_clashingRow_57 : decode cX3_clashingRow 57 = .ok (.iinc 3 1, 3) := by decide +kernel
theorem dX3_clashingRow_60 : decode cX3_clashingRow 60 = .ok (.iinc 5 1, 3) := by decide +kernel
theorem dX3_clashingRow_63 : decode cX3_clashingRow 63 = .ok (.goto (-43), 3) := by decide +kernel
theorem dX3_clashingRow_66 : decode cX3_clashingRow 66 = .ok (.iinc 4 1, 3) := by decide +kernel
theorem dX3_clashingRow_69 : decode cX3_clashingRow 69 = .ok (.goto (-64), 3) := by decide +kernel
theorem dX3_clashingRow_72 : decode cX3_clashingRow 72 = .ok (.iconst (-1), 1) := by decide +kernel
theorem dX3_clashingRow_73 : decode cX3_clashingRow 73 = .ok (.ireturn, 1) := by decide +kernel
theorem dX3_haveClash_0 : decode cX3_haveClash 0 = .ok (.aload_n 0, 1) := by decide +kernel
theorem dX3_haveClash_1 : decode cX3_haveClash 1 = .ok (.getfield 9, 3) := by decide +kernel
theorem dX3_haveClash_4 : decode cX3_haveClash 4 = .ok (.iload_n 1, 1) := by decide +kernel
theorem dX3_haveClash_5 : decode cX3_haveClash 5 = .ok (.iconst 1, 1) := by decide +kernel
theorem dX3_haveClash_6 : decode cX3_haveClash 6 = .ok (.isub, 1) := by decide +kernel
theorem dX3_haveClash_7 : decode cX3_haveClash 7 = .ok (.iaload, 1) := by decide +kernel
theorem dX3_haveClash_8 : decode cX3_haveClash 8 = .ok (.istore_n 3, 1) := by decide +kernel
theorem dX3_haveClash_9 : decode cX3_haveClash 9 = .ok (.aload_n 0, 1) := by decide +kernel
theorem dX3_haveClash_10 : decode cX3_haveClash 10 = .ok (.getfield 9, 3) := by decide +kernel
theorem dX3_haveClash_13 : decode cX3_haveClash 13 = .ok (.iload_n 2, 1) := by decide +kernel
theorem dX3_haveClash_14 : decode cX3_haveClash 14 = .ok (.iconst 1, 1) := by decide +kernel
theorem dX3_haveClash_15 : decode cX3_haveClash 15 = .ok (.isub, 1) := by decide +kernel
theorem dX3_haveClash_16 : decode cX3_haveClash 16 = .ok (.iaload, 1) := by decide +kernel
theorem dX3_haveClash_17 : decode cX3_haveClash 17 = .ok (.istore 4, 2) := by decide +kernel
theorem dX3_haveClash_19 : decode cX3_haveClash 19 = .ok (.iload_n 3, 1) := by decide +kernel
theorem dX3_haveClash_20 : decode cX3_haveClash 20 = .ok (.invokestatic 121, 3) := by decide +kernel
theorem dX3_haveClash_23 : decode cX3_haveClash 23 = .ok (.ifCond .eq 15, 3) := by decide +kernel
theorem dX3_haveClash_26 : decode cX3_haveClash 26 = .ok (.iload 4, 2) := by decide +kernel
