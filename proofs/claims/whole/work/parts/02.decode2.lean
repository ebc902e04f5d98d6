theorem dX3_haveClash_28 : decode cX3_haveClash 28 = .ok (.invokestatic 121, 3) := by decide +kernel
theorem dX3_haveClash_31 : decode cX3_haveClash 31 = .ok (.ifCond .eq 7, 3) := by decide +kernel
theorem dX3_haveClash_34 : decode cX3_haveClash 34 = .ok (.iconst 1, 1) := by decide +kernel
theorem dX3_haveClash_35 : decode cX3_haveClash 35 = .ok (.goto 4, 3) := by decide +kernel
theorem dX3_haveClash_38 : decode cX3_haveClash 38 = .ok (.iconst 0, 1) := by decide +kernel
theorem dX3_haveClash_39 : decode cX3_haveClash 39 = .ok (.istore 5, 2) := by decide +kernel
theorem dX3_haveClash_41 : decode cX3_haveClash 41 = .ok (.iload_n 3, 1) := by decide +kernel
theorem dX3_haveClash_42 : decode cX3_haveClash 42 = .ok (.bipush 8, 2) := by decide +kernel
theorem dX3_haveClash_44 : decode cX3_haveClash 44 = .ok (.if_icmp .eq 9, 3) := by decide +kernel
theorem dX3_haveClash_47 : decode cX3_haveClash 47 = .ok (.iload_n 3, 1) := by decide +kernel
theorem dX3_haveClash_48 : decode cX3_haveClash 48 = .ok (.bipush 9, 2) := by decide +kernel
theorem dX3_haveClash_50 : decode cX3_haveClash 50 = .ok (.if_icmp .ne 32, 3) := by decide +kernel
theorem dX3_haveClash_53 : decode cX3_haveClash 53 = .ok (.iload_n 3, 1) := by decide +kernel
theorem dX3_haveClash_54 : decode cX3_haveClash 54 = .ok (.iload 4, 2) := by decide +kernel
theorem dX3_haveClash_56 : decode cX3_haveClash 56 = .ok (.if_icmp .ne 26, 3) := by decide +kernel
theorem dX3_haveClash_59 : decode cX3_haveClash 59 = .ok (.aload_n 0, 1) := by decide +kernel
theorem dX3_haveClash_60 : decode cX3_haveClash 60 = .ok (.getfield 15, 3) := by decide +kernel
theorem dX3_haveClash_63 : decode cX3_haveClash 63 = .ok (.iload_n 1, 1) := by decide +kernel
theorem dX3_haveClash_64 : decode cX3_haveClash 64 = .ok (.iconst 1, 1) := by decide +kernel
theorem dX3_haveClash_65 : decode cX3_haveClash 65 = .ok (.isub, 1) := by decide +kernel
theorem dX3_haveClash_66 : decode cX3_haveClash 66 = .ok (.iaload, 1) := by decide +kernel
theorem dX3_haveClash_67 : decode cX3_haveClash 67 = .ok (.aload_n 0, 1) := by decide +kernel
theorem dX3_haveClash_68 : decode cX3_haveClash 68 = .ok (.getfield 15, 3) := by decide +kernel
theorem dX3_haveClash_71 : decode cX3_haveClash 71 = .ok (.iload_n 2, 1) := by decide +kernel
theorem dX3_haveClash_72 : decode cX3_haveClash 72 = .ok (.iconst 1, 1) := by decide +kernel
theorem dX3_haveClash_73 : decode cX3_haveClash 73 = .ok (.isub, 1) := by decide +kernel
theorem dX3_haveClash_74 : decode cX3_haveClash 74 = .ok (.iaload, 1) := by decide +kernel
theorem dX3_haveClash_75 : decode cX3_haveClash 75 = .ok (.if_icmp .eq 7, 3) := by decide +kernel
theorem dX3_haveClash_78 : decode cX3_haveClash 78 = .ok (.iconst 1, 1) := by decide +kernel
theorem dX3_haveClash_79 : decode cX3_haveClash 79 = .ok (.goto 4, 3) := by decide +kernel
theorem dX3_haveClash_82 : decode cX3_haveClash 82 = .ok (.iconst 0, 1) := by decide +kernel
theorem dX3_haveClash_83 : decode cX3_haveClash 83 = .ok (.istore 6, 2) := by decide +kernel
theorem dX3_haveClash_85 : decode cX3_haveClash 85 = .ok (.iload 5, 2) := by decide +kernel
theorem dX3_haveClash_87 : decode cX3_haveClash 87 = .ok (.ifCond .ne 8, 3) := by decide +kernel
theorem dX3_haveClash_90 : decode cX3_haveClash 90 = .ok (.iload 6, 2) := by decide +kernel
theorem dX3_haveClash_92 : decode cX3_haveClash 92 = .ok (.ifCond .eq 25, 3) := by decide +kernel
theorem dX3_haveClash_95 : decode cX3_haveClash 95 = .ok (.aload_n 0, 1) := by decide +kernel
theorem dX3_haveClash_96 : decode cX3_haveClash 96 = .ok (.iload_n 1, 1) := by decide +kernel
theorem dX3_haveClash_97 : decode cX3_haveClash 97 = .ok (.iconst 0, 1) := by decide +kernel
theorem dX3_haveClash_98 : decode cX3_haveClash 98 = .ok (.invokevirtual 110, 3) := by decide +kernel
theorem dX3_haveClash_101 : decode cX3_haveClash 101 = .ok (.aload_n 0, 1) := by decide +kernel
theorem dX3_haveClash_102 : decode cX3_haveClash 102 = .ok (.iload_n 2, 1) := by decide +kernel
theorem dX3_haveClash_103 : decode cX3_haveClash 103 = .ok (.iconst 0, 1) := by decide +kernel
theorem dX3_haveClash_104 : decode cX3_haveClash 104 = .ok (.invokevirtual 110, 3) := by decide +kernel
theorem dX3_haveClash_107 : decode cX3_haveClash 107 = .ok (.land, 1) := by decide +kernel
theorem dX3_haveClash_108 : decode cX3_haveClash 108 = .ok (.lconst 0, 1) := by decide +kernel
theorem dX3_haveClash_109 : decode cX3_haveClash 109 = .ok (.lcmp, 1) := by decide +kernel
theorem dX3_haveClash_110 : decode cX3_haveClash 110 = .ok (.ifCond .eq 7, 3) := by decide +kernel
theorem dX3_haveClash_113 : decode cX3_haveClash 113 = .ok (.iconst 1, 1) := by decide +kernel
theorem dX3_haveClash_114 : decode cX3_haveClash 114 = .ok (.goto 4, 3) := by decide +kernel
theorem dX3_haveClash_117 : decode cX3_haveClash 117 = .ok (.iconst 0, 1) := by decide +kernel
theorem dX3_haveClash_118 : decode cX3_haveClash 118 = .ok (.ireturn, 1) := by decide +kernel
theorem dX4_init_0 : decode cX4_init 0 = .ok (.aload_n 0, 1) := by decide +kernel
theorem dX4_init_1 : decode cX4_init 1 = .ok (.invokespecial 3, 3) := by decide +kernel
theorem dX4_init_4 : decode cX4_init 4 = .ok (.aload_n 0, 1) := by decide +kernel
theorem dX4_init_5 : decode cX4_init 5 = .ok (.sipush 1200, 3) := by decide +kernel
theorem dX4_init_8 : decode cX4_init 8 = .ok (.newarray .char, 2) := by decide +kernel
theorem dX4_init_10 : decode cX4_init 10 = .ok (.putfield 9, 3) := by decide +kernel
theorem dX4_init_13 : decode cX4_init 13 = .ok (.aload_n 0, 1) := by decide +kernel
theorem dX4_init_14 : decode cX4_init 14 = .ok (.iconst 0, 1) := by decide +kernel
theorem dX4_init_15 : decode cX4_init 15 = .ok (.putfield 15, 3) := by decide +kernel
theorem dX4_init_18 : decode cX4_init 18 = .ok (.return_, 1) := by decide +kernel
theorem dX4_takes_0 : decode cX4_takes 0 = .ok (.iload_n 0, 1) := by decide +kernel
theorem dX4_takes_1 : decode cX4_takes 1 = .ok (.bipush 32, 2) := by decide +kernel
theorem dX4_takes_3 : decode cX4_takes 3 = .ok (.if_icmp .lt 9, 3) := by decide +kernel
theorem dX4_takes_6 : decode cX4_takes 6 = .ok (.iload_n 0, 1) := by decide +kernel
theorem dX4_takes_7 : decode cX4_takes 7 = .ok (.bipush 126, 2) := by decide +kernel
theorem dX4_takes_9 : decode cX4_takes 9 = .ok (.if_icmp .le 9, 3) := by decide +kernel
theorem dX4_takes_12 : decode cX4_takes 12 = .ok (.iload_n 0, 1) := by decide +kernel
theorem dX4_takes_13 : decode cX4_takes 13 = .ok (.bipush 10, 2) := by decide +kernel
theorem dX4_takes_15 : decode cX4_takes 15 = .ok (.if_icmp .ne 7, 3) := by decide +kernel
theorem dX4_takes_18 : decode cX4_takes 18 = .ok (.iconst 1, 1) := by decide +kernel
theorem dX4_takes_19 : decode cX4_takes 19 = .ok (.goto 4, 3) := by decide +kernel
theorem dX4_takes_22 : decode cX4_takes 22 = .ok (.iconst 0, 1) := by decide +kernel
theorem dX4_takes_23 : decode cX4_takes 23 = .ok (.ireturn, 1) := by decide +kernel
theorem dX4_room_0 : decode cX4_room 0 = .ok (.sipush 1200, 3) := by decide +kernel
theorem dX4_room_3 : decode cX4_room 3 = .ok (.aload_n 0, 1) := by decide +kernel
theorem dX4_room_4 : decode cX4_room 4 = .ok (.getfield 15, 3) := by decide +kernel
theorem dX4_room_7 : decode cX4_room 7 = .ok (.isub, 1) := by decide +kernel
theorem dX4_room_8 : decode cX4_room 8 = .ok (.ireturn, 1) := by decide +kernel
theorem dX4_append_0 : decode cX4_append 0 = .ok (.aload_n 0, 1) := by decide +kernel
theorem dX4_append_1 : decode cX4_append 1 = .ok (.getfield 15, 3) := by decide +kernel
theorem dX4_append_4 : decode cX4_append 4 = .ok (.aload_n 0, 1) := by decide +kernel
theorem dX4_append_5 : decode cX4_append 5 = .ok (.getfield 9, 3) := by decide +kernel
theorem dX4_append_8 : decode cX4_append 8 = .ok (.arraylength, 1) := by decide +kernel
theorem dX4_append_9 : decode cX4_append 9 = .ok (.if_icmp .ge 24, 3) := by decide +kernel
theorem dX4_append_12 : decode cX4_append 12 = .ok (.aload_n 0, 1) := by decide +kernel
theorem dX4_append_13 : decode cX4_append 13 = .ok (.getfield 9, 3) := by decide +kernel
theorem dX4_append_16 : decode cX4_append 16 = .ok (.aload_n 0, 1) := by decide +kernel
theorem dX4_append_17 : decode cX4_append 17 = .ok (.getfield 15, 3) := by decide +kernel
theorem dX4_append_20 : decode cX4_append 20 = .ok (.iload_n 1, 1) := by decide +kernel
theorem dX4_append_21 : decode cX4_append 21 = .ok (.i2c, 1) := by decide +kernel
theorem dX4_append_22 : decode cX4_append 22 = .ok (.castore, 1) := by decide +kernel
theorem dX4_append_23 : decode cX4_append 23 = .ok (.aload_n 0, 1) := by decide +kernel
theorem dX4_append_24 : decode cX4_append 24 = .ok (.dup, 1) := by decide +kernel
theorem dX4_append_25 : decode cX4_append 25 = .ok (.getfield 15, 3) := by decide +kernel
theorem dX4_append_28 : decode cX4_append 28 = .ok (.iconst 1, 1) := by decide +kernel
theorem dX4_append_29 : decode cX4_append 29 = .ok (.iadd, 1) := by decide +kernel
theorem dX4_append_30 : decode cX4_append 30 = .ok (.putfield 15, 3) := by decide +kernel
theorem dX4_append_33 : decode cX4_append 33 = .ok (.return_, 1) := by decide +kernel
theorem dX4_wipe_0 : decode cX4_wipe 0 = .ok (.aload_n 0, 1) := by decide +kernel
theorem dX4_wipe_1 : decode cX4_wipe 1 = .ok (.iconst 0, 1) := by decide +kernel
theorem dX4_wipe_2 : decode cX4_wipe 2 = .ok (.putfield 15, 3) := by decide +kernel
theorem dX4_wipe_5 : decode cX4_wipe 5 = .ok (.return_, 1) := by decide +kernel
theorem dX4_at_0 : decode cX4_at 0 = .ok (.iload_n 1, 1) := by decide +kernel
theorem dX4_at_1 : decode cX4_at 1 = .ok (.ifCond .lt 20, 3) := by decide +kernel
theorem dX4_at_4 : decode cX4_at 4 = .ok (.iload_n 1, 1) := by decide +kernel
theorem dX4_at_5 : decode cX4_at 5 = .ok (.aload_n 0, 1) := by decide +kernel
theorem dX4_at_6 : decode cX4_at 6 = .ok (.getfield 15, 3) := by decide +kernel
theorem dX4_at_9 : decode cX4_at 9 = .ok (.if_icmp .ge 12, 3) := by decide +kernel
theorem dX4_at_12 : decode cX4_at 12 = .ok (.aload_n 0, 1) := by decide +kernel
theorem dX4_at_13 : decode cX4_at 13 = .ok (.getfield 9, 3) := by decide +kernel
theorem dX4_at_16 : decode cX4_at 16 = .ok (.iload_n 1, 1) := by decide +kernel
theorem dX4_at_17 : decode cX4_at 17 = .ok (.caload, 1) := by decide +kernel
theorem dX4_at_18 : decode cX4_at 18 = .ok (.goto 4, 3) := by decide +kernel
theorem dX4_at_21 : decode cX4_at 21 = .ok (.iconst 0, 1) := by decide +kernel
theorem dX4_at_22 : decode cX4_at 22 = .ok (.ireturn, 1) := by decide +kernel
theorem dX5_init_0 : decode cX5_init 0 = .ok (.aload_n 0, 1) := by decide +kernel
theorem dX5_init_1 : decode cX5_init 1 = .ok (.invokespecial 3, 3) := by decide +kernel
theorem dX5_init_4 : decode cX5_init 4 = .ok (.aload_n 0, 1) := by decide +kernel
theorem dX5_init_5 : decode cX5_init 5 = .ok (.new 9, 3) := by decide +kernel
theorem dX5_init_8 : decode cX5_init 8 = .ok (.dup, 1) := by decide +kernel
theorem dX5_init_9 : decode cX5_init 9 = .ok (.invokespecial 11, 3) := by decide +kernel
theorem dX5_init_12 : decode cX5_init 12 = .ok (.putfield 12, 3) := by decide +kernel
theorem dX5_init_15 : decode cX5_init 15 = .ok (.aload_n 0, 1) := by decide +kernel
theorem dX5_init_16 : decode cX5_init 16 = .ok (.aload_n 0, 1) := by decide +kernel
theorem dX5_init_17 : decode cX5_init 17 = .ok (.getfield 12, 3) := by decide +kernel
theorem dX5_init_20 : decode cX5_init 20 = .ok (.getfield 16, 3) := by decide +kernel
theorem dX5_init_23 : decode cX5_init 23 = .ok (.putfield 20, 3) := by decide +kernel
theorem dX5_init_26 : decode cX5_init 26 = .ok (.aload_n 0, 1) := by decide +kernel
theorem dX5_init_27 : decode cX5_init 27 = .ok (.new 21, 3) := by decide +kernel
theorem dX5_init_30 : decode cX5_init 30 = .ok (.dup, 1) := by decide +kernel
theorem dX5_init_31 : decode cX5_init 31 = .ok (.invokespecial 23, 3) := by decide +kernel
theorem dX5_init_34 : decode cX5_init 34 = .ok (.putfield 24, 3) := by decide +kernel
theorem dX5_init_37 : decode cX5_init 37 = .ok (.aload_n 0, 1) := by decide +kernel
theorem dX5_init_38 : decode cX5_init 38 = .ok (.new 28, 3) := by decide +kernel
theorem dX5_init_41 : decode cX5_init 41 = .ok (.dup, 1) := by decide +kernel
theorem dX5_init_42 : decode cX5_init 42 = .ok (.invokespecial 30, 3) := by decide +kernel
theorem dX5_init_45 : decode cX5_init 45 = .ok (.putfield 31, 3) := by decide +kernel
theorem dX5_init_48 : decode cX5_init 48 = .ok (.return_, 1) := by decide +kernel
theorem dX5_unit_0 : decode cX5_unit 0 = .ok (.iload_n 1, 1) := by decide +kernel
theorem dX5_unit_1 : decode cX5_unit 1 = .ok (.invokestatic 35, 3) := by decide +kernel
theorem dX5_unit_4 : decode cX5_unit 4 = .ok (.ifCond .eq 14, 3) := by decide +kernel
theorem dX5_unit_7 : decode cX5_unit 7 = .ok (.aload_n 0, 1) := by decide +kernel
theorem dX5_unit_8 : decode cX5_unit 8 = .ok (.getfield 20, 3) := by decide +kernel
theorem dX5_unit_11 : decode cX5_unit 11 = .ok (.invokevirtual 41, 3) := by decide +kernel
theorem dX5_unit_14 : decode cX5_unit 14 = .ok (.iconst 1, 1) := by decide +kernel
theorem dX5_unit_15 : decode cX5_unit 15 = .ok (.if_icmp .ge 5, 3) := by decide +kernel
theorem dX5_unit_18 : decode cX5_unit 18 = .ok (.iconst 0, 1) := by decide +kernel
theorem dX5_unit_19 : decode cX5_unit 19 = .ok (.ireturn, 1) := by decide +kernel
theorem dX5_unit_20 : decode cX5_unit 20 = .ok (.aload_n 0, 1) := by decide +kernel
theorem dX5_unit_21 : decode cX5_unit 21 = .ok (.getfield 20, 3) := by decide +kernel
theorem dX5_unit_24 : decode cX5_unit 24 = .ok (.iload_n 1, 1) := by decide +kernel
theorem dX5_unit_25 : decode cX5_unit 25 = .ok (.invokevirtual 45, 3) := by decide +kernel
theorem dX5_unit_28 : decode cX5_unit 28 = .ok (.iconst 1, 1) := by decide +kernel
theorem dX5_unit_29 : decode cX5_unit 29 = .ok (.ireturn, 1) := by decide +kernel
theorem dX5_units_0 : decode cX5_units 0 = .ok (.iconst 0, 1) := by decide +kernel
theorem dX5_units_1 : decode cX5_units 1 = .ok (.istore_n 2, 1) := by decide +kernel
theorem dX5_units_2 : decode cX5_units 2 = .ok (.bipush 24, 2) := by decide +kernel
theorem dX5_units_4 : decode cX5_units 4 = .ok (.istore_n 3, 1) := by decide +kernel
theorem dX5_units_5 : decode cX5_units 5 = .ok (.iload_n 3, 1) := by decide +kernel
theorem dX5_units_6 : decode cX5_units 6 = .ok (.ifCond .lt 36, 3) := by decide +kernel
theorem dX5_units_9 : decode cX5_units 9 = .ok (.iload_n 1, 1) := by decide +kernel
theorem dX5_units_10 : decode cX5_units 10 = .ok (.iload_n 3, 1) := by decide +kernel
theorem dX5_units_11 : decode cX5_units 11 = .ok (.iushr, 1) := by decide +kernel
theorem dX5_units_12 : decode cX5_units 12 = .ok (.sipush 255, 3) := by decide +kernel
theorem dX5_units_15 : decode cX5_units 15 = .ok (.iand, 1) := by decide +kernel
theorem dX5_units_16 : decode cX5_units 16 = .ok (.istore 4, 2) := by decide +kernel
theorem dX5_units_18 : decode cX5_units 18 = .ok (.iload 4, 2) := by decide +kernel
theorem dX5_units_20 : decode cX5_units 20 = .ok (.ifCond .eq 16, 3) := by decide +kernel
theorem dX5_units_23 : decode cX5_units 23 = .ok (.iload 4, 2) := by decide +kernel
theorem dX5_units_25 : decode cX5_units 25 = .ok (.invokestatic 35, 3) := by decide +kernel
theorem dX5_units_28 : decode cX5_units 28 = .ok (.ifCond .ne 5, 3) := by decide +kernel
theorem dX5_units_31 : decode cX5_units 31 = .ok (.iconst 0, 1) := by decide +kernel
theorem dX5_units_32 : decode cX5_units 32 = .ok (.ireturn, 1) := by decide +kernel
theorem dX5_units_33 : decode cX5_units 33 = .ok (.iinc 2 1, 3) := by decide +kernel
theorem dX5_units_36 : decode cX5_units 36 = .ok (.iinc 3 (-8), 3) := by decide +kernel
theorem dX5_units_39 : decode cX5_units 39 = .ok (.goto (-34), 3) := by decide +kernel
theorem dX5_units_42 : decode cX5_units 42 = .ok (.aload_n 0, 1) := by decide +kernel
theorem dX5_units_43 : decode cX5_units 43 = .ok (.getfield 20, 3) := by decide +kernel
theorem dX5_units_46 : decode cX5_units 46 = .ok (.invokevirtual 41, 3) := by decide +kernel
theorem dX5_units_49 : decode cX5_units 49 = .ok (.iload_n 2, 1) := by decide +kernel
theorem dX5_units_50 : decode cX5_units 50 = .ok (.if_icmp .ge 5, 3) := by decide +kernel
theorem dX5_units_53 : decode cX5_units 53 = .ok (.iconst 0, 1) := by decide +kernel
theorem dX5_units_54 : decode cX5_units 54 = .ok (.ireturn, 1) := by decide +kernel
theorem dX5_units_55 : decode cX5_units 55 = .ok (.bipush 24, 2) := by decide +kernel
theorem dX5_units_57 : decode cX5_units 57 = .ok (.istore_n 3, 1) := by decide +kernel
theorem dX5_units_58 : decode cX5_units 58 = .ok (.iload_n 3, 1) := by decide +kernel
theorem dX5_units_59 : decode cX5_units 59 = .ok (.ifCond .lt 32, 3) := by decide +kernel
theorem dX5_units_62 : decode cX5_units 62 = .ok (.iload_n 1, 1) := by decide +kernel
theorem dX5_units_63 : decode cX5_units 63 = .ok (.iload_n 3, 1) := by decide +kernel
theorem dX5_units_64 : decode cX5_units 64 = .ok (.iushr, 1) := by decide +kernel
theorem dX5_units_65 : decode cX5_units 65 = .ok (.sipush 255, 3) := by decide +kernel
theorem dX5_units_68 : decode cX5_units 68 = .ok (.iand, 1) := by decide +kernel
theorem dX5_units_69 : decode cX5_units 69 = .ok (.istore 4, 2) := by decide +kernel
theorem dX5_units_71 : decode cX5_units 71 = .ok (.iload 4, 2) := by decide +kernel
theorem dX5_units_73 : decode cX5_units 73 = .ok (.ifCond .eq 12, 3) := by decide +kernel
theorem dX5_units_76 : decode cX5_units 76 = .ok (.aload_n 0, 1) := by decide +kernel
theorem dX5_units_77 : decode cX5_units 77 = .ok (.getfield 20, 3) := by decide +kernel
theorem dX5_units_80 : decode cX5_units 80 = .ok (.iload 4, 2) := by decide +kernel
theorem dX5_units_82 : decode cX5_units 82 = .ok (.invokevirtual 45, 3) := by decide +kernel
theorem dX5_units_85 : decode cX5_units 85 = .ok (.iinc 3 (-8), 3) := by decide +kernel
theorem dX5_units_88 : decode cX5_units 88 = .ok (.goto (-30), 3) := by decide +kernel
theorem dX5_units_91 : decode cX5_units 91 = .ok (.iconst 1, 1) := by decide +kernel
theorem dX5_units_92 : decode cX5_units 92 = .ok (.ireturn, 1) := by decide +kernel
theorem dX5_name_0 : decode cX5_name 0 = .ok (.iload_n 1, 1) := by decide +kernel
theorem dX5_name_1 : decode cX5_name 1 = .ok (.invokestatic 49, 3) := by decide +kernel
theorem dX5_name_4 : decode cX5_name 4 = .ok (.ifCond .ne 13, 3) := by decide +kernel
theorem dX5_name_7 : decode cX5_name 7 = .ok (.new 52, 3) := by decide +kernel
theorem dX5_name_10 : decode cX5_name 10 = .ok (.dup, 1) := by decide +kernel
theorem dX5_name_11 : decode cX5_name 11 = .ok (.ldc 54, 2) := by decide +kernel
theorem dX5_name_13 : decode cX5_name 13 = .ok (.invokespecial 56, 3) := by decide +kernel
theorem dX5_name_16 : decode cX5_name 16 = .ok (.athrow, 1) := by decide +kernel
theorem dX5_name_17 : decode cX5_name 17 = .ok (.iload_n 2, 1) := by decide +kernel
theorem dX5_name_18 : decode cX5_name 18 = .ok (.invokestatic 59, 3) := by decide +kernel
theorem dX5_name_21 : decode cX5_name 21 = .ok (.ifCond .eq 15, 3) := by decide +kernel
theorem dX5_name_24 : decode cX5_name 24 = .ok (.aload_n 0, 1) := by decide +kernel
theorem dX5_name_25 : decode cX5_name 25 = .ok (.getfield 24, 3) := by decide +kernel
theorem dX5_name_28 : decode cX5_name 28 = .ok (.iload_n 1, 1) := by decide +kernel
theorem dX5_name_29 : decode cX5_name 29 = .ok (.iload_n 2, 1) := by decide +kernel
theorem dX5_name_30 : decode cX5_name 30 = .ok (.invokevirtual 62, 3) := by decide +kernel
theorem dX5_name_33 : decode cX5_name 33 = .ok (.ifCond .ne 5, 3) := by decide +kernel
theorem dX5_name_36 : decode cX5_name 36 = .ok (.iconst 0, 1) := by decide +kernel
theorem dX5_name_37 : decode cX5_name 37 = .ok (.ireturn, 1) := by decide +kernel
theorem dX5_name_38 : decode cX5_name 38 = .ok (.aload_n 0, 1) := by decide +kernel
theorem dX5_name_39 : decode cX5_name 39 = .ok (.getfield 31, 3) := by decide +kernel
theorem dX5_name_42 : decode cX5_name 42 = .ok (.aload_n 0, 1) := by decide +kernel
theorem dX5_name_43 : decode cX5_name 43 = .ok (.getfield 24, 3) := by decide +kernel
theorem dX5_name_46 : decode cX5_name 46 = .ok (.iload_n 1, 1) := by decide +kernel
theorem dX5_name_47 : decode cX5_name 47 = .ok (.invokevirtual 66, 3) := by decide +kernel
theorem dX5_name_50 : decode cX5_name 50 = .ok (.iconst 1, 1) := by decide +kernel
theorem dX5_name_51 : decode cX5_name 51 = .ok (.ireturn, 1) := by decide +kernel
theorem dX5_read_0 : decode cX5_read 0 = .ok (.aload_n 0, 1) := by decide +kernel
theorem dX5_read_1 : decode cX5_read 1 = .ok (.getfield 12, 3) := by decide +kernel
theorem dX5_read_4 : decode cX5_read 4 = .ok (.invokevirtual 70, 3) := by decide +kernel
theorem dX5_read_7 : decode cX5_read 7 = .ok (.istore_n 1, 1) := by decide +kernel
theorem dX5_read_8 : decode cX5_read 8 = .ok (.aload_n 0, 1) := by decide +kernel
theorem dX5_read_9 : decode cX5_read 9 = .ok (.getfield 20, 3) := by decide +kernel
theorem dX5_read_12 : decode cX5_read 12 = .ok (.invokevirtual 73, 3) := by decide +kernel
theorem dX5_read_15 : decode cX5_read 15 = .ok (.iload_n 1, 1) := by decide +kernel
theorem dX5_read_16 : decode cX5_read 16 = .ok (.iconst (-1), 1) := by decide +kernel
theorem dX5_read_17 : decode cX5_read 17 = .ok (.if_icmp .eq 7, 3) := by decide +kernel
theorem dX5_read_20 : decode cX5_read 20 = .ok (.iconst (-1), 1) := by decide +kernel
theorem dX5_read_21 : decode cX5_read 21 = .ok (.iload_n 1, 1) := by decide +kernel
theorem dX5_read_22 : decode cX5_read 22 = .ok (.isub, 1) := by decide +kernel
theorem dX5_read_23 : decode cX5_read 23 = .ok (.ireturn, 1) := by decide +kernel
theorem dX5_read_24 : decode cX5_read 24 = .ok (.aload_n 0, 1) := by decide +kernel
theorem dX5_read_25 : decode cX5_read 25 = .ok (.aload_n 0, 1) := by decide +kernel
theorem dX5_read_26 : decode cX5_read 26 = .ok (.getfield 12, 3) := by decide +kernel
theorem dX5_read_29 : decode cX5_read 29 = .ok (.aload_n 0, 1) := by decide +kernel
theorem dX5_read_30 : decode cX5_read 30 = .ok (.getfield 31, 3) := by decide +kernel
theorem dX5_read_33 : decode cX5_read 33 = .ok (.invokevirtual 76, 3) := by decide +kernel
theorem dX5_read_36 : decode cX5_read 36 = .ok (.putfield 31, 3) := by decide +kernel
theorem dX5_read_39 : decode cX5_read 39 = .ok (.iconst 0, 1) := by decide +kernel
theorem dX5_read_40 : decode cX5_read 40 = .ok (.istore_n 2, 1) := by decide +kernel
theorem dX5_read_41 : decode cX5_read 41 = .ok (.iload_n 2, 1) := by decide +kernel
theorem dX5_read_42 : decode cX5_read 42 = .ok (.bipush 40, 2) := by decide +kernel
theorem dX5_read_44 : decode cX5_read 44 = .ok (.if_icmp .ge 21, 3) := by decide +kernel
theorem dX5_read_47 : decode cX5_read 47 = .ok (.aload_n 0, 1) := by decide +kernel
theorem dX5_read_48 : decode cX5_read 48 = .ok (.getfield 31, 3) := by decide +kernel
theorem dX5_read_51 : decode cX5_read 51 = .ok (.aload_n 0, 1) := by decide +kernel
theorem dX5_read_52 : decode cX5_read 52 = .ok (.getfield 24, 3) := by decide +kernel
theorem dX5_read_55 : decode cX5_read 55 = .ok (.iload_n 2, 1) := by decide +kernel
theorem dX5_read_56 : decode cX5_read 56 = .ok (.invokevirtual 66, 3) := by decide +kernel
theorem dX5_read_59 : decode cX5_read 59 = .ok (.iinc 2 1, 3) := by decide +kernel
theorem dX5_read_62 : decode cX5_read 62 = .ok (.goto (-21), 3) := by decide +kernel
theorem dX5_read_65 : decode cX5_read 65 = .ok (.aload_n 0, 1) := by decide +kernel
theorem dX5_read_66 : decode cX5_read 66 = .ok (.getfield 31, 3) := by decide +kernel
theorem dX5_read_69 : decode cX5_read 69 = .ok (.getfield 80, 3) := by decide +kernel
theorem dX5_read_72 : decode cX5_read 72 = .ok (.ireturn, 1) := by decide +kernel
theorem dX5_clock_0 : decode cX5_clock 0 = .ok (.aload_n 0, 1) := by decide +kernel
theorem dX5_clock_1 : decode cX5_clock 1 = .ok (.getfield 31, 3) := by decide +kernel
theorem dX5_clock_4 : decode cX5_clock 4 = .ok (.getfield 84, 3) := by decide +kernel
theorem dX5_clock_7 : decode cX5_clock 7 = .ok (.iload_n 1, 1) := by decide +kernel
theorem dX5_clock_8 : decode cX5_clock 8 = .ok (.invokevirtual 88, 3) := by decide +kernel
theorem dX5_clock_11 : decode cX5_clock 11 = .ok (.ifCond .eq 13, 3) := by decide +kernel
theorem dX5_clock_14 : decode cX5_clock 14 = .ok (.iload_n 2, 1) := by decide +kernel
theorem dX5_clock_15 : decode cX5_clock 15 = .ok (.ifCond .lt 9, 3) := by decide +kernel
theorem dX5_clock_18 : decode cX5_clock 18 = .ok (.iload_n 2, 1) := by decide +kernel
theorem dX5_clock_19 : decode cX5_clock 19 = .ok (.bipush 6, 2) := by decide +kernel
theorem dX5_clock_21 : decode cX5_clock 21 = .ok (.if_icmp .le 13, 3) := by decide +kernel
theorem dX5_clock_24 : decode cX5_clock 24 = .ok (.new 52, 3) := by decide +kernel
theorem dX5_clock_27 : decode cX5_clock 27 = .ok (.dup, 1) := by decide +kernel
theorem dX5_clock_28 : decode cX5_clock 28 = .ok (.ldc 91, 2) := by decide +kernel
theorem dX5_clock_30 : decode cX5_clock 30 = .ok (.invokespecial 56, 3) := by decide +kernel
theorem dX5_clock_33 : decode cX5_clock 33 = .ok (.athrow, 1) := by decide +kernel
theorem dX5_clock_34 : decode cX5_clock 34 = .ok (.iload_n 2, 1) := by decide +kernel
theorem dX5_clock_35 : decode cX5_clock 35 = .ok (.bipush 6, 2) := by decide +kernel
theorem dX5_clock_37 : decode cX5_clock 37 = .ok (.if_icmp .ne 27, 3) := by decide +kernel
theorem dX5_clock_40 : decode cX5_clock 40 = .ok (.aload_n 0, 1) := by decide +kernel
theorem dX5_clock_41 : decode cX5_clock 41 = .ok (.getfield 31, 3) := by decide +kernel
theorem dX5_clock_44 : decode cX5_clock 44 = .ok (.aload_n 0, 1) := by decide +kernel
theorem dX5_clock_45 : decode cX5_clock 45 = .ok (.getfield 31, 3) := by decide +kernel
theorem dX5_clock_48 : decode cX5_clock 48 = .ok (.getfield 84, 3) := by decide +kernel
theorem dX5_clock_51 : decode cX5_clock 51 = .ok (.getfield 93, 3) := by decide +kernel
theorem dX5_clock_54 : decode cX5_clock 54 = .ok (.iload_n 1, 1) := by decide +kernel
theorem dX5_clock_55 : decode cX5_clock 55 = .ok (.iaload, 1) := by decide +kernel
theorem dX5_clock_56 : decode cX5_clock 56 = .ok (.iconst 0, 1) := by decide +kernel
theorem dX5_clock_57 : decode cX5_clock 57 = .ok (.invokevirtual 97, 3) := by decide +kernel
theorem dX5_clock_60 : decode cX5_clock 60 = .ok (.invokestatic 101, 3) := by decide +kernel
theorem dX5_clock_63 : decode cX5_clock 63 = .ok (.ireturn, 1) := by decide +kernel
theorem dX5_clock_64 : decode cX5_clock 64 = .ok (.aload_n 0, 1) := by decide +kernel
theorem dX5_clock_65 : decode cX5_clock 65 = .ok (.getfield 31, 3) := by decide +kernel
theorem dX5_clock_68 : decode cX5_clock 68 = .ok (.getfield 84, 3) := by decide +kernel
theorem dX5_clock_71 : decode cX5_clock 71 = .ok (.iload_n 1, 1) := by decide +kernel
theorem dX5_clock_72 : decode cX5_clock 72 = .ok (.iload_n 2, 1) := by decide +kernel
theorem dX5_clock_73 : decode cX5_clock 73 = .ok (.invokevirtual 107, 3) := by decide +kernel
theorem dX5_clock_76 : decode cX5_clock 76 = .ok (.ireturn, 1) := by decide +kernel
theorem dX5_edge_0 : decode cX5_edge 0 = .ok (.aload_n 0, 1) := by decide +kernel
theorem dX5_edge_1 : decode cX5_edge 1 = .ok (.getfield 31, 3) := by decide +kernel
theorem dX5_edge_4 : decode cX5_edge 4 = .ok (.getfield 84, 3) := by decide +kernel
theorem dX5_edge_7 : decode cX5_edge 7 = .ok (.iload_n 1, 1) := by decide +kernel
theorem dX5_edge_8 : decode cX5_edge 8 = .ok (.invokevirtual 88, 3) := by decide +kernel
theorem dX5_edge_11 : decode cX5_edge 11 = .ok (.ifCond .eq 23, 3) := by decide +kernel
theorem dX5_edge_14 : decode cX5_edge 14 = .ok (.iload_n 2, 1) := by decide +kernel
theorem dX5_edge_15 : decode cX5_edge 15 = .ok (.ifCond .lt 19, 3) := by decide +kernel
theorem dX5_edge_18 : decode cX5_edge 18 = .ok (.iload_n 2, 1) := by decide +kernel
theorem dX5_edge_19 : decode cX5_edge 19 = .ok (.sipush 1000, 3) := by decide +kernel
theorem dX5_edge_22 : decode cX5_edge 22 = .ok (.if_icmp .gt 12, 3) := by decide +kernel
theorem dX5_edge_25 : decode cX5_edge 25 = .ok (.iload_n 3, 1) := by decide +kernel
theorem dX5_edge_26 : decode cX5_edge 26 = .ok (.ifCond .lt 8, 3) := by decide +kernel
theorem dX5_edge_29 : decode cX5_edge 29 = .ok (.iload_n 3, 1) := by decide +kernel
theorem dX5_edge_30 : decode cX5_edge 30 = .ok (.iconst 2, 1) := by decide +kernel
theorem dX5_edge_31 : decode cX5_edge 31 = .ok (.if_icmp .le 13, 3) := by decide +kernel
theorem dX5_edge_34 : decode cX5_edge 34 = .ok (.new 52, 3) := by decide +kernel
theorem dX5_edge_37 : decode cX5_edge 37 = .ok (.dup, 1) := by decide +kernel
theorem dX5_edge_38 : decode cX5_edge 38 = .ok (.ldc 111, 2) := by decide +kernel
theorem dX5_edge_40 : decode cX5_edge 40 = .ok (.invokespecial 56, 3) := by decide +kernel
theorem dX5_edge_43 : decode cX5_edge 43 = .ok (.athrow, 1) := by decide +kernel
theorem dX5_edge_44 : decode cX5_edge 44 = .ok (.aload_n 0, 1) := by decide +kernel
theorem dX5_edge_45 : decode cX5_edge 45 = .ok (.getfield 31, 3) := by decide +kernel
theorem dX5_edge_48 : decode cX5_edge 48 = .ok (.getfield 84, 3) := by decide +kernel
theorem dX5_edge_51 : decode cX5_edge 51 = .ok (.iload_n 1, 1) := by decide +kernel
theorem dX5_edge_52 : decode cX5_edge 52 = .ok (.iload_n 2, 1) := by decide +kernel
theorem dX5_edge_53 : decode cX5_edge 53 = .ok (.iload_n 3, 1) := by decide +kernel
theorem dX5_edge_54 : decode cX5_edge 54 = .ok (.invokevirtual 113, 3) := by decide +kernel
theorem dX5_edge_57 : decode cX5_edge 57 = .ok (.lreturn, 1) := by decide +kernel
theorem dX5_distance_0 : decode cX5_distance 0 = .ok (.aload_n 0, 1) := by decide +kernel
theorem dX5_distance_1 : decode cX5_distance 1 = .ok (.getfield 31, 3) := by decide +kernel
theorem dX5_distance_4 : decode cX5_distance 4 = .ok (.getfield 84, 3) := by decide +kernel
theorem dX5_distance_7 : decode cX5_distance 7 = .ok (.iload_n 1, 1) := by decide +kernel
theorem dX5_distance_8 : decode cX5_distance 8 = .ok (.invokevirtual 88, 3) := by decide +kernel
theorem dX5_distance_11 : decode cX5_distance 11 = .ok (.ifCond .eq 26, 3) := by decide +kernel
theorem dX5_distance_14 : decode cX5_distance 14 = .ok (.aload_n 0, 1) := by decide +kernel
theorem dX5_distance_15 : decode cX5_distance 15 = .ok (.getfield 31, 3) := by decide +kernel
theorem dX5_distance_18 : decode cX5_distance 18 = .ok (.getfield 84, 3) := by decide +kernel
theorem dX5_distance_21 : decode cX5_distance 21 = .ok (.iload_n 2, 1) := by decide +kernel
theorem dX5_distance_22 : decode cX5_distance 22 = .ok (.invokevirtual 88, 3) := by decide +kernel
theorem dX5_distance_25 : decode cX5_distance 25 = .ok (.ifCond .eq 12, 3) := by decide +kernel
theorem dX5_distance_28 : decode cX5_distance 28 = .ok (.iload_n 3, 1) := by decide +kernel
theorem dX5_distance_29 : decode cX5_distance 29 = .ok (.ifCond .lt 8, 3) := by decide +kernel
theorem dX5_distance_32 : decode cX5_distance 32 = .ok (.iload_n 3, 1) := by decide +kernel
theorem dX5_distance_33 : decode cX5_distance 33 = .ok (.iconst 1, 1) := by decide +kernel
theorem dX5_distance_34 : decode cX5_distance 34 = .ok (.if_icmp .le 13, 3) := by decide +kernel
theorem dX5_distance_37 : decode cX5_distance 37 = .ok (.new 52, 3) := by decide +kernel
theorem dX5_distance_40 : decode cX5_distance 40 = .ok (.dup, 1) := by decide +kernel
theorem dX5_distance_41 : decode cX5_distance 41 = .ok (.ldc 117, 2) := by decide +kernel
theorem dX5_distance_43 : decode cX5_distance 43 = .ok (.invokespecial 56, 3) := by decide +kernel
theorem dX5_distance_46 : decode cX5_distance 46 = .ok (.athrow, 1) := by decide +kernel
theorem dX5_distance_47 : decode cX5_distance 47 = .ok (.aload_n 0, 1) := by decide +kernel
theorem dX5_distance_48 : decode cX5_distance 48 = .ok (.getfield 31, 3) := by decide +kernel
theorem dX5_distance_51 : decode cX5_distance 51 = .ok (.iload_n 1, 1) := by decide +kernel
theorem dX5_distance_52 : decode cX5_distance 52 = .ok (.iload_n 2, 1) := by decide +kernel
theorem dX5_distance_53 : decode cX5_distance 53 = .ok (.invokevirtual 119, 3) := by decide +kernel
theorem dX5_distance_56 : decode cX5_distance 56 = .ok (.ifCond .eq 6, 3) := by decide +kernel
theorem dX5_distance_59 : decode cX5_distance 59 = .ok (.iload_n 3, 1) := by decide +kernel
theorem dX5_distance_60 : decode cX5_distance 60 = .ok (.i2l, 1) := by decide +kernel
theorem dX5_distance_61 : decode cX5_distance 61 = .ok (.lreturn, 1) := by decide +kernel
theorem dX5_distance_62 : decode cX5_distance 62 = .ok (.aload_n 0, 1) := by decide +kernel
theorem dX5_distance_63 : decode cX5_distance 63 = .ok (.getfield 31, 3) := by decide +kernel
theorem dX5_distance_66 : decode cX5_distance 66 = .ok (.getfield 84, 3) := by decide +kernel
theorem dX5_distance_69 : decode cX5_distance 69 = .ok (.iload_n 1, 1) := by decide +kernel
theorem dX5_distance_70 : decode cX5_distance 70 = .ok (.iload_n 2, 1) := by decide +kernel
theorem dX5_distance_71 : decode cX5_distance 71 = .ok (.iload_n 3, 1) := by decide +kernel
theorem dX5_distance_72 : decode cX5_distance 72 = .ok (.invokevirtual 122, 3) := by decide +kernel
theorem dX5_distance_75 : decode cX5_distance 75 = .ok (.lreturn, 1) := by decide +kernel
theorem dX5_exception_0 : decode cX5_exception 0 = .ok (.iload_n 1, 1) := by decide +kernel
theorem dX5_exception_1 : decode cX5_exception 1 = .ok (.invokestatic 125, 3) := by decide +kernel
theorem dX5_exception_4 : decode cX5_exception 4 = .ok (.ifCond .eq 17, 3) := by decide +kernel
theorem dX5_exception_7 : decode cX5_exception 7 = .ok (.iload_n 2, 1) := by decide +kernel
theorem dX5_exception_8 : decode cX5_exception 8 = .ok (.invokestatic 125, 3) := by decide +kernel
theorem dX5_exception_11 : decode cX5_exception 11 = .ok (.ifCond .eq 10, 3) := by decide +kernel
theorem dX5_exception_14 : decode cX5_exception 14 = .ok (.iload_n 3, 1) := by decide +kernel
theorem dX5_exception_15 : decode cX5_exception 15 = .ok (.invokestatic 125, 3) := by decide +kernel
theorem dX5_exception_18 : decode cX5_exception 18 = .ok (.ifCond .ne 13, 3) := by decide +kernel
theorem dX5_exception_21 : decode cX5_exception 21 = .ok (.new 52, 3) := by decide +kernel
theorem dX5_exception_24 : decode cX5_exception 24 = .ok (.dup, 1) := by decide +kernel
theorem dX5_exception_25 : decode cX5_exception 25 = .ok (.ldc 54, 2) := by decide +kernel
theorem dX5_exception_27 : decode cX5_exception 27 = .ok (.invokespecial 56, 3) := by decide +kernel
theorem dX5_exception_30 : decode cX5_exception 30 = .ok (.athrow, 1) := by decide +kernel
theorem dX5_exception_31 : decode cX5_exception 31 = .ok (.aload_n 0, 1) := by decide +kernel
theorem dX5_exception_32 : decode cX5_exception 32 = .ok (.getfield 31, 3) := by decide +kernel
theorem dX5_exception_35 : decode cX5_exception 35 = .ok (.iload_n 1, 1) := by decide +kernel
theorem dX5_exception_36 : decode cX5_exception 36 = .ok (.iload_n 2, 1) := by decide +kernel
theorem dX5_exception_37 : decode cX5_exception 37 = .ok (.iload_n 3, 1) := by decide +kernel
theorem dX5_exception_38 : decode cX5_exception 38 = .ok (.invokevirtual 128, 3) := by decide +kernel
theorem dX5_exception_41 : decode cX5_exception 41 = .ok (.ireturn, 1) := by decide +kernel
theorem dX5_row_0 : decode cX5_row 0 = .ok (.iload_n 1, 1) := by decide +kernel
theorem dX5_row_1 : decode cX5_row 1 = .ok (.iconst 1, 1) := by decide +kernel
theorem dX5_row_2 : decode cX5_row 2 = .ok (.if_icmp .lt 23, 3) := by decide +kernel
theorem dX5_row_5 : decode cX5_row 5 = .ok (.iload_n 1, 1) := by decide +kernel
theorem dX5_row_6 : decode cX5_row 6 = .ok (.aload_n 0, 1) := by decide +kernel
theorem dX5_row_7 : decode cX5_row 7 = .ok (.getfield 31, 3) := by decide +kernel
theorem dX5_row_10 : decode cX5_row 10 = .ok (.getfield 80, 3) := by decide +kernel
theorem dX5_row_13 : decode cX5_row 13 = .ok (.if_icmp .gt 12, 3) := by decide +kernel
theorem dX5_row_16 : decode cX5_row 16 = .ok (.iload_n 2, 1) := by decide +kernel
theorem dX5_row_17 : decode cX5_row 17 = .ok (.ifCond .lt 8, 3) := by decide +kernel
theorem dX5_row_20 : decode cX5_row 20 = .ok (.iload_n 2, 1) := by decide +kernel
theorem dX5_row_21 : decode cX5_row 21 = .ok (.iconst 1, 1) := by decide +kernel
theorem dX5_row_22 : decode cX5_row 22 = .ok (.if_icmp .le 13, 3) := by decide +kernel
theorem dX5_row_25 : decode cX5_row 25 = .ok (.new 52, 3) := by decide +kernel
theorem dX5_row_28 : decode cX5_row 28 = .ok (.dup, 1) := by decide +kernel
theorem dX5_row_29 : decode cX5_row 29 = .ok (.ldc 132, 2) := by decide +kernel
theorem dX5_row_31 : decode cX5_row 31 = .ok (.invokespecial 56, 3) := by decide +kernel
theorem dX5_row_34 : decode cX5_row 34 = .ok (.athrow, 1) := by decide +kernel
theorem dX5_row_35 : decode cX5_row 35 = .ok (.iload_n 2, 1) := by decide +kernel
theorem dX5_row_36 : decode cX5_row 36 = .ok (.ifCond .ne 17, 3) := by decide +kernel
theorem dX5_row_39 : decode cX5_row 39 = .ok (.aload_n 0, 1) := by decide +kernel
theorem dX5_row_40 : decode cX5_row 40 = .ok (.getfield 31, 3) := by decide +kernel
theorem dX5_row_43 : decode cX5_row 43 = .ok (.getfield 134, 3) := by decide +kernel
theorem dX5_row_46 : decode cX5_row 46 = .ok (.iload_n 1, 1) := by decide +kernel
theorem dX5_row_47 : decode cX5_row 47 = .ok (.iconst 1, 1) := by decide +kernel
theorem dX5_row_48 : decode cX5_row 48 = .ok (.isub, 1) := by decide +kernel
theorem dX5_row_49 : decode cX5_row 49 = .ok (.iaload, 1) := by decide +kernel
theorem dX5_row_50 : decode cX5_row 50 = .ok (.goto 14, 3) := by decide +kernel
theorem dX5_row_53 : decode cX5_row 53 = .ok (.aload_n 0, 1) := by decide +kernel
theorem dX5_row_54 : decode cX5_row 54 = .ok (.getfield 31, 3) := by decide +kernel
theorem dX5_row_57 : decode cX5_row 57 = .ok (.getfield 137, 3) := by decide +kernel
theorem dX5_row_60 : decode cX5_row 60 = .ok (.iload_n 1, 1) := by decide +kernel
theorem dX5_row_61 : decode cX5_row 61 = .ok (.iconst 1, 1) := by decide +kernel
theorem dX5_row_62 : decode cX5_row 62 = .ok (.isub, 1) := by decide +kernel
theorem dX5_row_63 : decode cX5_row 63 = .ok (.iaload, 1) := by decide +kernel
theorem dX5_row_64 : decode cX5_row 64 = .ok (.ireturn, 1) := by decide +kernel
theorem dX5_load_0 : decode cX5_load 0 = .ok (.iload_n 1, 1) := by decide +kernel
theorem dX5_load_1 : decode cX5_load 1 = .ok (.invokestatic 49, 3) := by decide +kernel
theorem dX5_load_4 : decode cX5_load 4 = .ok (.ifCond .eq 12, 3) := by decide +kernel
theorem dX5_load_7 : decode cX5_load 7 = .ok (.iload_n 2, 1) := by decide +kernel
theorem dX5_load_8 : decode cX5_load 8 = .ok (.ifCond .lt 8, 3) := by decide +kernel
theorem dX5_load_11 : decode cX5_load 11 = .ok (.iload_n 2, 1) := by decide +kernel
theorem dX5_load_12 : decode cX5_load 12 = .ok (.iconst 1, 1) := by decide +kernel
theorem dX5_load_13 : decode cX5_load 13 = .ok (.if_icmp .le 13, 3) := by decide +kernel
theorem dX5_load_16 : decode cX5_load 16 = .ok (.new 52, 3) := by decide +kernel
theorem dX5_load_19 : decode cX5_load 19 = .ok (.dup, 1) := by decide +kernel
theorem dX5_load_20 : decode cX5_load 20 = .ok (.ldc 140, 2) := by decide +kernel
theorem dX5_load_22 : decode cX5_load 22 = .ok (.invokespecial 56, 3) := by decide +kernel
theorem dX5_load_25 : decode cX5_load 25 = .ok (.athrow, 1) := by decide +kernel
theorem dX5_load_26 : decode cX5_load 26 = .ok (.aload_n 0, 1) := by decide +kernel
theorem dX5_load_27 : decode cX5_load 27 = .ok (.getfield 31, 3) := by decide +kernel
theorem dX5_load_30 : decode cX5_load 30 = .ok (.iload_n 2, 1) := by decide +kernel
theorem dX5_load_31 : decode cX5_load 31 = .ok (.ifCond .ne 8, 3) := by decide +kernel
theorem dX5_load_34 : decode cX5_load 34 = .ok (.bipush 8, 2) := by decide +kernel
theorem dX5_load_36 : decode cX5_load 36 = .ok (.goto 5, 3) := by decide +kernel
theorem dX5_load_39 : decode cX5_load 39 = .ok (.bipush 9, 2) := by decide +kernel
theorem dX5_load_41 : decode cX5_load 41 = .ok (.iload_n 1, 1) := by decide +kernel
theorem dX5_load_42 : decode cX5_load 42 = .ok (.invokevirtual 142, 3) := by decide +kernel
theorem dX5_load_45 : decode cX5_load 45 = .ok (.ireturn, 1) := by decide +kernel
theorem dX5_unmatched_0 : decode cX5_unmatched 0 = .ok (.iload_n 1, 1) := by decide +kernel
theorem dX5_unmatched_1 : decode cX5_unmatched 1 = .ok (.ifCond .ge 13, 3) := by decide +kernel
theorem dX5_unmatched_4 : decode cX5_unmatched 4 = .ok (.new 52, 3) := by decide +kernel
theorem dX5_unmatched_7 : decode cX5_unmatched 7 = .ok (.dup, 1) := by decide +kernel
theorem dX5_unmatched_8 : decode cX5_unmatched 8 = .ok (.ldc 145, 2) := by decide +kernel
theorem dX5_unmatched_10 : decode cX5_unmatched 10 = .ok (.invokespecial 56, 3) := by decide +kernel
theorem dX5_unmatched_13 : decode cX5_unmatched 13 = .ok (.athrow, 1) := by decide +kernel
theorem dX5_unmatched_14 : decode cX5_unmatched 14 = .ok (.aload_n 0, 1) := by decide +kernel
theorem dX5_unmatched_15 : decode cX5_unmatched 15 = .ok (.getfield 31, 3) := by decide +kernel
theorem dX5_unmatched_18 : decode cX5_unmatched 18 = .ok (.iload_n 1, 1) := by decide +kernel
theorem dX5_unmatched_19 : decode cX5_unmatched 19 = .ok (.invokevirtual 147, 3) := by decide +kernel
theorem dX5_unmatched_22 : decode cX5_unmatched 22 = .ok (.ireturn, 1) := by decide +kernel
theorem dX5_clash_0 : decode cX5_clash 0 = .ok (.iload_n 1, 1) := by decide +kernel
theorem dX5_clash_1 : decode cX5_clash 1 = .ok (.ifCond .lt 12, 3) := by decide +kernel
theorem dX5_clash_4 : decode cX5_clash 4 = .ok (.iload_n 2, 1) := by decide +kernel
theorem dX5_clash_5 : decode cX5_clash 5 = .ok (.ifCond .lt 8, 3) := by decide +kernel
theorem dX5_clash_8 : decode cX5_clash 8 = .ok (.iload_n 2, 1) := by decide +kernel
theorem dX5_clash_9 : decode cX5_clash 9 = .ok (.iconst 1, 1) := by decide +kernel
theorem dX5_clash_10 : decode cX5_clash 10 = .ok (.if_icmp .le 13, 3) := by decide +kernel
theorem dX5_clash_13 : decode cX5_clash 13 = .ok (.new 52, 3) := by decide +kernel
theorem dX5_clash_16 : decode cX5_clash 16 = .ok (.dup, 1) := by decide +kernel
theorem dX5_clash_17 : decode cX5_clash 17 = .ok (.ldc 151, 2) := by decide +kernel
theorem dX5_clash_19 : decode cX5_clash 19 = .ok (.invokespecial 56, 3) := by decide +kernel
theorem dX5_clash_22 : decode cX5_clash 22 = .ok (.athrow, 1) := by decide +kernel
theorem dX5_clash_23 : decode cX5_clash 23 = .ok (.aload_n 0, 1) := by decide +kernel
theorem dX5_clash_24 : decode cX5_clash 24 = .ok (.getfield 31, 3) := by decide +kernel
theorem dX5_clash_27 : decode cX5_clash 27 = .ok (.iload_n 1, 1) := by decide +kernel
theorem dX5_clash_28 : decode cX5_clash 28 = .ok (.iload_n 2, 1) := by decide +kernel
theorem dX5_clash_29 : decode cX5_clash 29 = .ok (.invokevirtual 153, 3) := by decide +kernel
theorem dX5_clash_32 : decode cX5_clash 32 = .ok (.ireturn, 1) := by decide +kernel
theorem dX5_write_0 : decode cX5_write 0 = .ok (.iload_n 1, 1) := by decide +kernel
theorem dX5_write_1 : decode cX5_write 1 = .ok (.ifCond .ge 13, 3) := by decide +kernel
theorem dX5_write_4 : decode cX5_write 4 = .ok (.new 52, 3) := by decide +kernel
theorem dX5_write_7 : decode cX5_write 7 = .ok (.dup, 1) := by decide +kernel
theorem dX5_write_8 : decode cX5_write 8 = .ok (.ldc 145, 2) := by decide +kernel
theorem dX5_write_10 : decode cX5_write 10 = .ok (.invokespecial 56, 3) := by decide +kernel
theorem dX5_write_13 : decode cX5_write 13 = .ok (.athrow, 1) := by decide +kernel
theorem dX5_write_14 : decode cX5_write 14 = .ok (.iload_n 1, 1) := by decide +kernel
theorem dX5_write_15 : decode cX5_write 15 = .ok (.aload_n 0, 1) := by decide +kernel
theorem dX5_write_16 : decode cX5_write 16 = .ok (.getfield 31, 3) := by decide +kernel
theorem dX5_write_19 : decode cX5_write 19 = .ok (.getfield 156, 3) := by decide +kernel
theorem dX5_write_22 : decode cX5_write 22 = .ok (.if_icmp .ge 14, 3) := by decide +kernel
theorem dX5_write_25 : decode cX5_write 25 = .ok (.aload_n 0, 1) := by decide +kernel
theorem dX5_write_26 : decode cX5_write 26 = .ok (.getfield 31, 3) := by decide +kernel
theorem dX5_write_29 : decode cX5_write 29 = .ok (.iload_n 1, 1) := by decide +kernel
theorem dX5_write_30 : decode cX5_write 30 = .ok (.invokevirtual 159, 3) := by decide +kernel
theorem dX5_write_33 : decode cX5_write 33 = .ok (.goto 4, 3) := by decide +kernel
theorem dX5_write_36 : decode cX5_write 36 = .ok (.iconst (-1), 1) := by decide +kernel
theorem dX5_write_37 : decode cX5_write 37 = .ok (.ireturn, 1) := by decide +kernel
theorem dX5_count_0 : decode cX5_count 0 = .ok (.iload_n 1, 1) := by decide +kernel
theorem dX5_count_1 : decode cX5_count 1 = .ok (.tableswitch 66 0 3 #[31, 39, 50, 58], 31) := by decide +kernel
theorem dX5_count_32 : decode cX5_count 32 = .ok (.aload_n 0, 1) := by decide +kernel
theorem dX5_count_33 : decode cX5_count 33 = .ok (.getfield 31, 3) := by decide +kernel
theorem dX5_count_36 : decode cX5_count 36 = .ok (.getfield 80, 3) := by decide +kernel
theorem dX5_count_39 : decode cX5_count 39 = .ok (.ireturn, 1) := by decide +kernel
theorem dX5_count_40 : decode cX5_count 40 = .ok (.aload_n 0, 1) := by decide +kernel
theorem dX5_count_41 : decode cX5_count 41 = .ok (.getfield 31, 3) := by decide +kernel
theorem dX5_count_44 : decode cX5_count 44 = .ok (.getfield 84, 3) := by decide +kernel
theorem dX5_count_47 : decode cX5_count 47 = .ok (.getfield 162, 3) := by decide +kernel
theorem dX5_count_50 : decode cX5_count 50 = .ok (.ireturn, 1) := by decide +kernel
theorem dX5_count_51 : decode cX5_count 51 = .ok (.aload_n 0, 1) := by decide +kernel
theorem dX5_count_52 : decode cX5_count 52 = .ok (.getfield 20, 3) := by decide +kernel
theorem dX5_count_55 : decode cX5_count 55 = .ok (.getfield 165, 3) := by decide +kernel
theorem dX5_count_58 : decode cX5_count 58 = .ok (.ireturn, 1) := by decide +kernel
theorem dX5_count_59 : decode cX5_count 59 = .ok (.aload_n 0, 1) := by decide +kernel
theorem dX5_count_60 : decode cX5_count 60 = .ok (.getfield 31, 3) := by decide +kernel
theorem dX5_count_63 : decode cX5_count 63 = .ok (.getfield 156, 3) := by decide +kernel
theorem dX5_count_66 : decode cX5_count 66 = .ok (.ireturn, 1) := by decide +kernel
theorem dX5_count_67 : decode cX5_count 67 = .ok (.new 52, 3) := by decide +kernel
theorem dX5_count_70 : decode cX5_count 70 = .ok (.dup, 1) := by decide +kernel
theorem dX5_count_71 : decode cX5_count 71 = .ok (.ldc 168, 2) := by decide +kernel
theorem dX5_count_73 : decode cX5_count 73 = .ok (.invokespecial 56, 3) := by decide +kernel
theorem dX5_count_76 : decode cX5_count 76 = .ok (.athrow, 1) := by decide +kernel
theorem dX5_isPinOrNone_0 : decode cX5_isPinOrNone 0 = .ok (.iload_n 0, 1) := by decide +kernel
theorem dX5_isPinOrNone_1 : decode cX5_isPinOrNone 1 = .ok (.iconst (-1), 1) := by decide +kernel
theorem dX5_isPinOrNone_2 : decode cX5_isPinOrNone 2 = .ok (.if_icmp .eq 10, 3) := by decide +kernel
theorem dX5_isPinOrNone_5 : decode cX5_isPinOrNone 5 = .ok (.iload_n 0, 1) := by decide +kernel
theorem dX5_isPinOrNone_6 : decode cX5_isPinOrNone 6 = .ok (.invokestatic 49, 3) := by decide +kernel
theorem dX5_isPinOrNone_9 : decode cX5_isPinOrNone 9 = .ok (.ifCond .eq 7, 3) := by decide +kernel
theorem dX5_isPinOrNone_12 : decode cX5_isPinOrNone 12 = .ok (.iconst 1, 1) := by decide +kernel
theorem dX5_isPinOrNone_13 : decode cX5_isPinOrNone 13 = .ok (.goto 4, 3) := by decide +kernel
theorem dX5_isPinOrNone_16 : decode cX5_isPinOrNone 16 = .ok (.iconst 0, 1) := by decide +kernel
theorem dX5_isPinOrNone_17 : decode cX5_isPinOrNone 17 = .ok (.ireturn, 1) := by decide +kernel
theorem dX5_isSmallLetter_0 : decode cX5_isSmallLetter 0 = .ok (.iload_n 0, 1) := by decide +kernel
theorem dX5_isSmallLetter_1 : decode cX5_isSmallLetter 1 = .ok (.bipush 97, 2) := by decide +kernel
theorem dX5_isSmallLetter_3 : decode cX5_isSmallLetter 3 = .ok (.if_icmp .lt 13, 3) := by decide +kernel
theorem dX5_isSmallLetter_6 : decode cX5_isSmallLetter 6 = .ok (.iload_n 0, 1) := by decide +kernel
theorem dX5_isSmallLetter_7 : decode cX5_isSmallLetter 7 = .ok (.bipush 122, 2) := by decide +kernel
theorem dX5_isSmallLetter_9 : decode cX5_isSmallLetter 9 = .ok (.if_icmp .gt 7, 3) := by decide +kernel
theorem dX5_isSmallLetter_12 : decode cX5_isSmallLetter 12 = .ok (.iconst 1, 1) := by decide +kernel
theorem dX5_isSmallLetter_13 : decode cX5_isSmallLetter 13 = .ok (.goto 4, 3) := by decide +kernel
theorem dX5_isSmallLetter_16 : decode cX5_isSmallLetter 16 = .ok (.iconst 0, 1) := by decide +kernel
theorem dX5_isSmallLetter_17 : decode cX5_isSmallLetter 17 = .ok (.ireturn, 1) := by decide +kernel
theorem dX5_isDigit_0 : decode cX5_isDigit 0 = .ok (.iload_n 0, 1) := by decide +kernel
theorem dX5_isDigit_1 : decode cX5_isDigit 1 = .ok (.bipush 48, 2) := by decide +kernel
theorem dX5_isDigit_3 : decode cX5_isDigit 3 = .ok (.if_icmp .lt 13, 3) := by decide +kernel
theorem dX5_isDigit_6 : decode cX5_isDigit 6 = .ok (.iload_n 0, 1) := by decide +kernel
theorem dX5_isDigit_7 : decode cX5_isDigit 7 = .ok (.bipush 57, 2) := by decide +kernel
theorem dX5_isDigit_9 : decode cX5_isDigit 9 = .ok (.if_icmp .gt 7, 3) := by decide +kernel
theorem dX5_isDigit_12 : decode cX5_isDigit 12 = .ok (.iconst 1, 1) := by decide +kernel
theorem dX5_isDigit_13 : decode cX5_isDigit 13 = .ok (.goto 4, 3) := by decide +kernel
theorem dX5_isDigit_16 : decode cX5_isDigit 16 = .ok (.iconst 0, 1) := by decide +kernel
theorem dX5_isDigit_17 : decode cX5_isDigit 17 = .ok (.ireturn, 1) := by decide +kernel
theorem dX5_isNameUnit_0 : decode cX5_isNameUnit 0 = .ok (.iload_n 0, 1) := by decide +kernel
theorem dX5_isNameUnit_1 : decode cX5_isNameUnit 1 = .ok (.invokestatic 170, 3) := by decide +kernel
theorem dX5_isNameUnit_4 : decode cX5_isNameUnit 4 = .ok (.ifCond .ne 22, 3) := by decide +kernel
theorem dX5_isNameUnit_7 : decode cX5_isNameUnit 7 = .ok (.iload_n 0, 1) := by decide +kernel
theorem dX5_isNameUnit_8 : decode cX5_isNameUnit 8 = .ok (.invokestatic 173, 3) := by decide +kernel
theorem dX5_isNameUnit_11 : decode cX5_isNameUnit 11 = .ok (.ifCond .ne 15, 3) := by decide +kernel
theorem dX5_isNameUnit_14 : decode cX5_isNameUnit 14 = .ok (.iload_n 0, 1) := by decide +kernel
theorem dX5_isNameUnit_15 : decode cX5_isNameUnit 15 = .ok (.bipush 95, 2) := by decide +kernel
theorem dX5_isNameUnit_17 : decode cX5_isNameUnit 17 = .ok (.if_icmp .eq 9, 3) := by decide +kernel
theorem dX5_isNameUnit_20 : decode cX5_isNameUnit 20 = .ok (.iload_n 0, 1) := by decide +kernel
theorem dX5_isNameUnit_21 : decode cX5_isNameUnit 21 = .ok (.bipush 47, 2) := by decide +kernel
theorem dX5_isNameUnit_23 : decode cX5_isNameUnit 23 = .ok (.if_icmp .ne 7, 3) := by decide +kernel
theorem dX5_isNameUnit_26 : decode cX5_isNameUnit 26 = .ok (.iconst 1, 1) := by decide +kernel
theorem dX5_isNameUnit_27 : decode cX5_isNameUnit 27 = .ok (.goto 4, 3) := by decide +kernel
theorem dX5_isNameUnit_30 : decode cX5_isNameUnit 30 = .ok (.iconst 0, 1) := by decide +kernel
theorem dX5_isNameUnit_31 : decode cX5_isNameUnit 31 = .ok (.ireturn, 1) := by decide +kernel
theorem dX5_isBlank_0 : decode cX5_isBlank 0 = .ok (.iload_n 0, 1) := by decide +kernel
theorem dX5_isBlank_1 : decode cX5_isBlank 1 = .ok (.bipush 32, 2) := by decide +kernel
theorem dX5_isBlank_3 : decode cX5_isBlank 3 = .ok (.if_icmp .eq 9, 3) := by decide +kernel
theorem dX5_isBlank_6 : decode cX5_isBlank 6 = .ok (.iload_n 0, 1) := by decide +kernel
theorem dX5_isBlank_7 : decode cX5_isBlank 7 = .ok (.bipush 10, 2) := by decide +kernel
theorem dX5_isBlank_9 : decode cX5_isBlank 9 = .ok (.if_icmp .ne 7, 3) := by decide +kernel
theorem dX5_isBlank_12 : decode cX5_isBlank 12 = .ok (.iconst 1, 1) := by decide +kernel
theorem dX5_isBlank_13 : decode cX5_isBlank 13 = .ok (.goto 4, 3) := by decide +kernel
theorem dX5_isBlank_16 : decode cX5_isBlank 16 = .ok (.iconst 0, 1) := by decide +kernel
theorem dX5_isBlank_17 : decode cX5_isBlank 17 = .ok (.ireturn, 1) := by decide +kernel
theorem dX5_makesClock_0 : decode cX5_makesClock 0 = .ok (.iload_n 0, 1) := by decide +kernel
theorem dX5_makesClock_1 : decode cX5_makesClock 1 = .ok (.ifCond .eq 13, 3) := by decide +kernel
theorem dX5_makesClock_4 : decode cX5_makesClock 4 = .ok (.iload_n 0, 1) := by decide +kernel
theorem dX5_makesClock_5 : decode cX5_makesClock 5 = .ok (.iconst 1, 1) := by decide +kernel
theorem dX5_makesClock_6 : decode cX5_makesClock 6 = .ok (.if_icmp .eq 8, 3) := by decide +kernel
theorem dX5_makesClock_9 : decode cX5_makesClock 9 = .ok (.iload_n 0, 1) := by decide +kernel
theorem dX5_makesClock_10 : decode cX5_makesClock 10 = .ok (.iconst 2, 1) := by decide +kernel
theorem dX5_makesClock_11 : decode cX5_makesClock 11 = .ok (.if_icmp .ne 7, 3) := by decide +kernel
theorem dX5_makesClock_14 : decode cX5_makesClock 14 = .ok (.iconst 1, 1) := by decide +kernel
theorem dX5_makesClock_15 : decode cX5_makesClock 15 = .ok (.goto 4, 3) := by decide +kernel
theorem dX5_makesClock_18 : decode cX5_makesClock 18 = .ok (.iconst 0, 1) := by decide +kernel
theorem dX5_makesClock_19 : decode cX5_makesClock 19 = .ok (.ireturn, 1) := by decide +kernel
theorem dX5_keyword_0 : decode cX5_keyword 0 = .ok (.iload_n 0, 1) := by decide +kernel
theorem dX5_keyword_1 : decode cX5_keyword 1 = .ok (.tableswitch 78 0 8 #[51, 54, 57, 60, 63, 66, 69, 72, 75], 51) := by decide +kernel
theorem dX5_keyword_52 : decode cX5_keyword 52 = .ok (.ldc 176, 2) := by decide +kernel
theorem dX5_keyword_54 : decode cX5_keyword 54 = .ok (.areturn, 1) := by decide +kernel
theorem dX5_keyword_55 : decode cX5_keyword 55 = .ok (.ldc 178, 2) := by decide +kernel
theorem dX5_keyword_57 : decode cX5_keyword 57 = .ok (.areturn, 1) := by decide +kernel
theorem dX5_keyword_58 : decode cX5_keyword 58 = .ok (.ldc 180, 2) := by decide +kernel
theorem dX5_keyword_60 : decode cX5_keyword 60 = .ok (.areturn, 1) := by decide +kernel
theorem dX5_keyword_61 : decode cX5_keyword 61 = .ok (.ldc 182, 2) := by decide +kernel
theorem dX5_keyword_63 : decode cX5_keyword 63 = .ok (.areturn, 1) := by decide +kernel
theorem dX5_keyword_64 : decode cX5_keyword 64 = .ok (.ldc 184, 2) := by decide +kernel
theorem dX5_keyword_66 : decode cX5_keyword 66 = .ok (.areturn, 1) := by decide +kernel
theorem dX5_keyword_67 : decode cX5_keyword 67 = .ok (.ldc 186, 2) := by decide +kernel
theorem dX5_keyword_69 : decode cX5_keyword 69 = .ok (.areturn, 1) := by decide +kernel
theorem dX5_keyword_70 : decode cX5_keyword 70 = .ok (.ldc 188, 2) := by decide +kernel
theorem dX5_keyword_72 : decode cX5_keyword 72 = .ok (.areturn, 1) := by decide +kernel
theorem dX5_keyword_73 : decode cX5_keyword 73 = .ok (.ldc 190, 2) := by decide +kernel
theorem dX5_keyword_75 : decode cX5_keyword 75 = .ok (.areturn, 1) := by decide +kernel
theorem dX5_keyword_76 : decode cX5_keyword 76 = .ok (.ldc 192, 2) := by decide +kernel
theorem dX5_keyword_78 : decode cX5_keyword 78 = .ok (.areturn, 1) := by decide +kernel
theorem dX5_keyword_79 : decode cX5_keyword 79 = .ok (.ldc 194, 2) := by decide +kernel
theorem dX5_keyword_81 : decode cX5_keyword 81 = .ok (.areturn, 1) := by decide +kernel
theorem dX5_commonDivisor_0 : decode cX5_commonDivisor 0 = .ok (.lload_n 0, 1) := by decide +kernel
theorem dX5_commonDivisor_1 : decode cX5_commonDivisor 1 = .ok (.lstore 4, 2) := by decide +kernel
theorem dX5_commonDivisor_3 : decode cX5_commonDivisor 3 = .ok (.lload_n 2, 1) := by decide +kernel
theorem dX5_commonDivisor_4 : decode cX5_commonDivisor 4 = .ok (.lstore 6, 2) := by decide +kernel
theorem dX5_commonDivisor_6 : decode cX5_commonDivisor 6 = .ok (.iconst 0, 1) := by decide +kernel
theorem dX5_commonDivisor_7 : decode cX5_commonDivisor 7 = .ok (.istore 8, 2) := by decide +kernel
theorem dX5_commonDivisor_9 : decode cX5_commonDivisor 9 = .ok (.lload 6, 2) := by decide +kernel
theorem dX5_commonDivisor_11 : decode cX5_commonDivisor 11 = .ok (.lconst 0, 1) := by decide +kernel
theorem dX5_commonDivisor_12 : decode cX5_commonDivisor 12 = .ok (.lcmp, 1) := by decide +kernel
theorem dX5_commonDivisor_13 : decode cX5_commonDivisor 13 = .ok (.ifCond .le 32, 3) := by decide +kernel
theorem dX5_commonDivisor_16 : decode cX5_commonDivisor 16 = .ok (.iload 8, 2) := by decide +kernel
theorem dX5_commonDivisor_18 : decode cX5_commonDivisor 18 = .ok (.sipush 200, 3) := by decide +kernel
theorem dX5_commonDivisor_21 : decode cX5_commonDivisor 21 = .ok (.if_icmp .ge 24, 3) := by decide +kernel
theorem dX5_commonDivisor_24 : decode cX5_commonDivisor 24 = .ok (.lload 4, 2) := by decide +kernel
theorem dX5_commonDivisor_26 : decode cX5_commonDivisor 26 = .ok (.lload 6, 2) := by decide +kernel
theorem dX5_commonDivisor_28 : decode cX5_commonDivisor 28 = .ok (.lrem, 1) := by decide +kernel
theorem dX5_commonDivisor_29 : decode cX5_commonDivisor 29 = .ok (.lstore 9, 2) := by decide +kernel
theorem dX5_commonDivisor_31 : decode cX5_commonDivisor 31 = .ok (.lload 6, 2) := by decide +kernel
theorem dX5_commonDivisor_33 : decode cX5_commonDivisor 33 = .ok (.lstore 4, 2) := by decide +kernel
theorem dX5_commonDivisor_35 : decode cX5_commonDivisor 35 = .ok (.lload 9, 2) := by decide +kernel
theorem dX5_commonDivisor_37 : decode cX5_commonDivisor 37 = .ok (.lstore 6, 2) := by decide +kernel
theorem dX5_commonDivisor_39 : decode cX5_commonDivisor 39 = .ok (.iinc 8 1, 3) := by decide +kernel
theorem dX5_commonDivisor_42 : decode cX5_commonDivisor 42 = .ok (.goto (-33), 3) := by decide +kernel
theorem dX5_commonDivisor_45 : decode cX5_commonDivisor 45 = .ok (.lload 4, 2) := by decide +kernel
theorem dX5_commonDivisor_47 : decode cX5_commonDivisor 47 = .ok (.lconst 0, 1) := by decide +kernel
theorem dX5_commonDivisor_48 : decode cX5_commonDivisor 48 = .ok (.lcmp, 1) := by decide +kernel
theorem dX5_commonDivisor_49 : decode cX5_commonDivisor 49 = .ok (.ifCond .le 8, 3) := by decide +kernel
theorem dX5_commonDivisor_52 : decode cX5_commonDivisor 52 = .ok (.lload 4, 2) := by decide +kernel
theorem dX5_commonDivisor_54 : decode cX5_commonDivisor 54 = .ok (.goto 4, 3) := by decide +kernel
theorem dX5_commonDivisor_57 : decode cX5_commonDivisor 57 = .ok (.lconst 1, 1) := by decide +kernel
theorem dX5_commonDivisor_58 : decode cX5_commonDivisor 58 = .ok (.lreturn, 1) := by decide +kernel
theorem dX5_lowestPart_0 : decode cX5_lowestPart 0 = .ok (.lload_n 0, 1) := by decide +kernel
theorem dX5_lowestPart_1 : decode cX5_lowestPart 1 = .ok (.lload_n 2, 1) := by decide +kernel
theorem dX5_lowestPart_2 : decode cX5_lowestPart 2 = .ok (.invokestatic 196, 3) := by decide +kernel
theorem dX5_lowestPart_5 : decode cX5_lowestPart 5 = .ok (.lstore 5, 2) := by decide +kernel
theorem dX5_lowestPart_7 : decode cX5_lowestPart 7 = .ok (.iload 4, 2) := by decide +kernel
theorem dX5_lowestPart_9 : decode cX5_lowestPart 9 = .ok (.ifCond .ne 7, 3) := by decide +kernel
theorem dX5_lowestPart_12 : decode cX5_lowestPart 12 = .ok (.lload_n 0, 1) := by decide +kernel
theorem dX5_lowestPart_13 : decode cX5_lowestPart 13 = .ok (.goto 4, 3) := by decide +kernel
theorem dX5_lowestPart_16 : decode cX5_lowestPart 16 = .ok (.lload_n 2, 1) := by decide +kernel
theorem dX5_lowestPart_17 : decode cX5_lowestPart 17 = .ok (.lload 5, 2) := by decide +kernel
theorem dX5_lowestPart_19 : decode cX5_lowestPart 19 = .ok (.ldiv, 1) := by decide +kernel
theorem dX5_lowestPart_20 : decode cX5_lowestPart 20 = .ok (.lreturn, 1) := by decide +kernel
theorem dX6_init_0 : decode cX6_init 0 = .ok (.aload_n 0, 1) := by decide +kernel
theorem dX6_init_1 : decode cX6_init 1 = .ok (.invokespecial 1, 3) := by decide +kernel
theorem dX6_init_4 : decode cX6_init 4 = .ok (.aload_n 0, 1) := by decide +kernel
theorem dX6_init_5 : decode cX6_init 5 = .ok (.sipush 640, 3) := by decide +kernel
theorem dX6_init_8 : decode cX6_init 8 = .ok (.newarray .int, 2) := by decide +kernel
theorem dX6_init_10 : decode cX6_init 10 = .ok (.putfield 7, 3) := by decide +kernel
theorem dX6_init_13 : decode cX6_init 13 = .ok (.aload_n 0, 1) := by decide +kernel
theorem dX6_init_14 : decode cX6_init 14 = .ok (.bipush 40, 2) := by decide +kernel
theorem dX6_init_16 : decode cX6_init 16 = .ok (.newarray .int, 2) := by decide +kernel
theorem dX6_init_18 : decode cX6_init 18 = .ok (.putfield 13, 3) := by decide +kernel
theorem dX6_init_21 : decode cX6_init 21 = .ok (.aload_n 0, 1) := by decide +kernel
theorem dX6_init_22 : decode cX6_init 22 = .ok (.sipush 1200, 3) := by decide +kernel
theorem dX6_init_25 : decode cX6_init 25 = .ok (.newarray .int, 2) := by decide +kernel
theorem dX6_init_27 : decode cX6_init 27 = .ok (.putfield 16, 3) := by decide +kernel
theorem dX6_init_30 : decode cX6_init 30 = .ok (.aload_n 0, 1) := by decide +kernel
theorem dX6_init_31 : decode cX6_init 31 = .ok (.bipush 80, 2) := by decide +kernel
theorem dX6_init_33 : decode cX6_init 33 = .ok (.newarray .int, 2) := by decide +kernel
theorem dX6_init_35 : decode cX6_init 35 = .ok (.putfield 19, 3) := by decide +kernel
theorem dX6_init_38 : decode cX6_init 38 = .ok (.aload_n 0, 1) := by decide +kernel
theorem dX6_init_39 : decode cX6_init 39 = .ok (.bipush 80, 2) := by decide +kernel
theorem dX6_init_41 : decode cX6_init 41 = .ok (.newarray .long, 2) := by decide +kernel
theorem dX6_init_43 : decode cX6_init 43 = .ok (.putfield 22, 3) := by decide +kernel
theorem dX6_init_46 : decode cX6_init 46 = .ok (.aload_n 0, 1) := by decide +kernel
theorem dX6_init_47 : decode cX6_init 47 = .ok (.bipush 80, 2) := by decide +kernel
theorem dX6_init_49 : decode cX6_init 49 = .ok (.newarray .long, 2) := by decide +kernel
theorem dX6_init_51 : decode cX6_init 51 = .ok (.putfield 26, 3) := by decide +kernel
theorem dX6_init_54 : decode cX6_init 54 = .ok (.aload_n 0, 1) := by decide +kernel
theorem dX6_init_55 : decode cX6_init 55 = .ok (.bipush 80, 2) := by decide +kernel
theorem dX6_init_57 : decode cX6_init 57 = .ok (.newarray .int, 2) := by decide +kernel
theorem dX6_init_59 : decode cX6_init 59 = .ok (.putfield 29, 3) := by decide +kernel
theorem dX6_init_62 : decode cX6_init 62 = .ok (.aload_n 0, 1) := by decide +kernel
theorem dX6_init_63 : decode cX6_init 63 = .ok (.bipush 80, 2) := by decide +kernel
theorem dX6_init_65 : decode cX6_init 65 = .ok (.newarray .int, 2) := by decide +kernel
theorem dX6_init_67 : decode cX6_init 67 = .ok (.putfield 32, 3) := by decide +kernel
theorem dX6_init_70 : decode cX6_init 70 = .ok (.aload_n 0, 1) := by decide +kernel
theorem dX6_init_71 : decode cX6_init 71 = .ok (.bipush 80, 2) := by decide +kernel
theorem dX6_init_73 : decode cX6_init 73 = .ok (.newarray .int, 2) := by decide +kernel
theorem dX6_init_75 : decode cX6_init 75 = .ok (.putfield 35, 3) := by decide +kernel
theorem dX6_init_78 : decode cX6_init 78 = .ok (.aload_n 0, 1) := by decide +kernel
theorem dX6_init_79 : decode cX6_init 79 = .ok (.sipush 3840, 3) := by decide +kernel
theorem dX6_init_82 : decode cX6_init 82 = .ok (.newarray .int, 2) := by decide +kernel
theorem dX6_init_84 : decode cX6_init 84 = .ok (.putfield 38, 3) := by decide +kernel
theorem dX6_init_87 : decode cX6_init 87 = .ok (.aload_n 0, 1) := by decide +kernel
theorem dX6_init_88 : decode cX6_init 88 = .ok (.sipush 240, 3) := by decide +kernel
theorem dX6_init_91 : decode cX6_init 91 = .ok (.newarray .int, 2) := by decide +kernel
theorem dX6_init_93 : decode cX6_init 93 = .ok (.putfield 41, 3) := by decide +kernel
theorem dX6_init_96 : decode cX6_init 96 = .ok (.aload_n 0, 1) := by decide +kernel
theorem dX6_init_97 : decode cX6_init 97 = .ok (.bipush 24, 2) := by decide +kernel
theorem dX6_init_99 : decode cX6_init 99 = .ok (.newarray .int, 2) := by decide +kernel
theorem dX6_init_101 : decode cX6_init 101 = .ok (.putfield 44, 3) := by decide +kernel
theorem dX6_init_104 : decode cX6_init 104 = .ok (.aload_n 0, 1) := by decide +kernel
theorem dX6_init_105 : decode cX6_init 105 = .ok (.bipush 24, 2) := by decide +kernel
theorem dX6_init_107 : decode cX6_init 107 = .ok (.newarray .int, 2) := by decide +kernel
theorem dX6_init_109 : decode cX6_init 109 = .ok (.putfield 47, 3) := by decide +kernel
theorem dX6_init_112 : decode cX6_init 112 = .ok (.aload_n 0, 1) := by decide +kernel
theorem dX6_init_113 : decode cX6_init 113 = .ok (.bipush 24, 2) := by decide +kernel
theorem dX6_init_115 : decode cX6_init 115 = .ok (.newarray .long, 2) := by decide +kernel
theorem dX6_init_117 : decode cX6_init 117 = .ok (.putfield 50, 3) := by decide +kernel
theorem dX6_init_120 : decode cX6_init 120 = .ok (.aload_n 0, 1) := by decide +kernel
theorem dX6_init_121 : decode cX6_init 121 = .ok (.bipush 24, 2) := by decide +kernel
theorem dX6_init_123 : decode cX6_init 123 = .ok (.newarray .long, 2) := by decide +kernel
theorem dX6_init_125 : decode cX6_init 125 = .ok (.putfield 53, 3) := by decide +kernel
theorem dX6_init_128 : decode cX6_init 128 = .ok (.aload_n 0, 1) := by decide +kernel
theorem dX6_init_129 : decode cX6_init 129 = .ok (.bipush 24, 2) := by decide +kernel
theorem dX6_init_131 : decode cX6_init 131 = .ok (.newarray .long, 2) := by decide +kernel
theorem dX6_init_133 : decode cX6_init 133 = .ok (.putfield 56, 3) := by decide +kernel
theorem dX6_init_136 : decode cX6_init 136 = .ok (.aload_n 0, 1) := by decide +kernel
theorem dX6_init_137 : decode cX6_init 137 = .ok (.bipush 24, 2) := by decide +kernel
theorem dX6_init_139 : decode cX6_init 139 = .ok (.newarray .long, 2) := by decide +kernel
theorem dX6_init_141 : decode cX6_init 141 = .ok (.putfield 59, 3) := by decide +kernel
theorem dX6_init_144 : decode cX6_init 144 = .ok (.aload_n 0, 1) := by decide +kernel
theorem dX6_init_145 : decode cX6_init 145 = .ok (.bipush 24, 2) := by decide +kernel
theorem dX6_init_147 : decode cX6_init 147 = .ok (.newarray .boolean, 2) := by decide +kernel
theorem dX6_init_149 : decode cX6_init 149 = .ok (.putfield 62, 3) := by decide +kernel
theorem dX6_init_152 : decode cX6_init 152 = .ok (.aload_n 0, 1) := by decide +kernel
theorem dX6_init_153 : decode cX6_init 153 = .ok (.bipush 40, 2) := by decide +kernel
theorem dX6_init_155 : decode cX6_init 155 = .ok (.newarray .int, 2) := by decide +kernel
theorem dX6_init_157 : decode cX6_init 157 = .ok (.putfield 66, 3) := by decide +kernel
theorem dX6_init_160 : decode cX6_init 160 = .ok (.aload_n 0, 1) := by decide +kernel
theorem dX6_init_161 : decode cX6_init 161 = .ok (.bipush 40, 2) := by decide +kernel
theorem dX6_init_163 : decode cX6_init 163 = .ok (.newarray .int, 2) := by decide +kernel
theorem dX6_init_165 : decode cX6_init 165 = .ok (.putfield 69, 3) := by decide +kernel
theorem dX6_init_168 : decode cX6_init 168 = .ok (.aload_n 0, 1) := by decide +kernel
theorem dX6_init_169 : decode cX6_init 169 = .ok (.bipush 17, 2) := by decide +kernel
theorem dX6_init_171 : decode cX6_init 171 = .ok (.newarray .boolean, 2) := by decide +kernel
theorem dX6_init_173 : decode cX6_init 173 = .ok (.putfield 72, 3) := by decide +kernel
theorem dX6_init_176 : decode cX6_init 176 = .ok (.return_, 1) := by decide +kernel
theorem dX6_thrown_0 : decode cX6_thrown 0 = .ok (.aload_n 0, 1) := by decide +kernel
theorem dX6_thrown_1 : decode cX6_thrown 1 = .ok (.getfield 75, 3) := by decide +kernel
theorem dX6_thrown_4 : decode cX6_thrown 4 = .ok (.ireturn, 1) := by decide +kernel
theorem dX6_isName_0 : decode cX6_isName 0 = .ok (.iload_n 0, 1) := by decide +kernel
theorem dX6_isName_1 : decode cX6_isName 1 = .ok (.bipush 97, 2) := by decide +kernel
theorem dX6_isName_3 : decode cX6_isName 3 = .ok (.if_icmp .lt 9, 3) := by decide +kernel
theorem dX6_isName_6 : decode cX6_isName 6 = .ok (.iload_n 0, 1) := by decide +kernel
theorem dX6_isName_7 : decode cX6_isName 7 = .ok (.bipush 122, 2) := by decide +kernel
theorem dX6_isName_9 : decode cX6_isName 9 = .ok (.if_icmp .le 27, 3) := by decide +kernel
theorem dX6_isName_12 : decode cX6_isName 12 = .ok (.iload_n 0, 1) := by decide +kernel
theorem dX6_isName_13 : decode cX6_isName 13 = .ok (.bipush 48, 2) := by decide +kernel
theorem dX6_isName_15 : decode cX6_isName 15 = .ok (.if_icmp .lt 9, 3) := by decide +kernel
theorem dX6_isName_18 : decode cX6_isName 18 = .ok (.iload_n 0, 1) := by decide +kernel
theorem dX6_isName_19 : decode cX6_isName 19 = .ok (.bipush 57, 2) := by decide +kernel
theorem dX6_isName_21 : decode cX6_isName 21 = .ok (.if_icmp .le 15, 3) := by decide +kernel
theorem dX6_isName_24 : decode cX6_isName 24 = .ok (.iload_n 0, 1) := by decide +kernel
theorem dX6_isName_25 : decode cX6_isName 25 = .ok (.bipush 95, 2) := by decide +kernel
theorem dX6_isName_27 : decode cX6_isName 27 = .ok (.if_icmp .eq 9, 3) := by decide +kernel
theorem dX6_isName_30 : decode cX6_isName 30 = .ok (.iload_n 0, 1) := by decide +kernel
theorem dX6_isName_31 : decode cX6_isName 31 = .ok (.bipush 47, 2) := by decide +kernel
theorem dX6_isName_33 : decode cX6_isName 33 = .ok (.if_icmp .ne 7, 3) := by decide +kernel
theorem dX6_isName_36 : decode cX6_isName 36 = .ok (.iconst 1, 1) := by decide +kernel
theorem dX6_isName_37 : decode cX6_isName 37 = .ok (.goto 4, 3) := by decide +kernel
theorem dX6_isName_40 : decode cX6_isName 40 = .ok (.iconst 0, 1) := by decide +kernel
theorem dX6_isName_41 : decode cX6_isName 41 = .ok (.ireturn, 1) := by decide +kernel
theorem dX6_name_0 : decode cX6_name 0 = .ok (.aload_n 0, 1) := by decide +kernel
theorem dX6_name_1 : decode cX6_name 1 = .ok (.iload_n 1, 1) := by decide +kernel
theorem dX6_name_2 : decode cX6_name 2 = .ok (.ifCond .lt 9, 3) := by decide +kernel
theorem dX6_name_5 : decode cX6_name 5 = .ok (.iload_n 1, 1) := by decide +kernel
theorem dX6_name_6 : decode cX6_name 6 = .ok (.bipush 40, 2) := by decide +kernel
theorem dX6_name_8 : decode cX6_name 8 = .ok (.if_icmp .lt 7, 3) := by decide +kernel
theorem dX6_name_11 : decode cX6_name 11 = .ok (.iconst 1, 1) := by decide +kernel
theorem dX6_name_12 : decode cX6_name 12 = .ok (.goto 4, 3) := by decide +kernel
theorem dX6_name_15 : decode cX6_name 15 = .ok (.iconst 0, 1) := by decide +kernel
theorem dX6_name_16 : decode cX6_name 16 = .ok (.putfield 75, 3) := by decide +kernel
theorem dX6_name_19 : decode cX6_name 19 = .ok (.aload_n 0, 1) := by decide +kernel
theorem dX6_name_20 : decode cX6_name 20 = .ok (.getfield 75, 3) := by decide +kernel
theorem dX6_name_23 : decode cX6_name 23 = .ok (.ifCond .gt 21, 3) := by decide +kernel
theorem dX6_name_26 : decode cX6_name 26 = .ok (.iload_n 2, 1) := by decide +kernel
theorem dX6_name_27 : decode cX6_name 27 = .ok (.invokestatic 79, 3) := by decide +kernel
theorem dX6_name_30 : decode cX6_name 30 = .ok (.ifCond .eq 14, 3) := by decide +kernel
theorem dX6_name_33 : decode cX6_name 33 = .ok (.aload_n 0, 1) := by decide +kernel
theorem dX6_name_34 : decode cX6_name 34 = .ok (.getfield 13, 3) := by decide +kernel
theorem dX6_name_37 : decode cX6_name 37 = .ok (.iload_n 1, 1) := by decide +kernel
theorem dX6_name_38 : decode cX6_name 38 = .ok (.iaload, 1) := by decide +kernel
theorem dX6_name_39 : decode cX6_name 39 = .ok (.bipush 16, 2) := by decide +kernel
theorem dX6_name_41 : decode cX6_name 41 = .ok (.if_icmp .ne 5, 3) := by decide +kernel
theorem dX6_name_44 : decode cX6_name 44 = .ok (.iconst 0, 1) := by decide +kernel
theorem dX6_name_45 : decode cX6_name 45 = .ok (.ireturn, 1) := by decide +kernel
theorem dX6_name_46 : decode cX6_name 46 = .ok (.aload_n 0, 1) := by decide +kernel
theorem dX6_name_47 : decode cX6_name 47 = .ok (.getfield 7, 3) := by decide +kernel
theorem dX6_name_50 : decode cX6_name 50 = .ok (.bipush 16, 2) := by decide +kernel
theorem dX6_name_52 : decode cX6_name 52 = .ok (.iload_n 1, 1) := by decide +kernel
theorem dX6_name_53 : decode cX6_name 53 = .ok (.imul, 1) := by decide +kernel
theorem dX6_name_54 : decode cX6_name 54 = .ok (.aload_n 0, 1) := by decide +kernel
theorem dX6_name_55 : decode cX6_name 55 = .ok (.getfield 13, 3) := by decide +kernel
theorem dX6_name_58 : decode cX6_name 58 = .ok (.iload_n 1, 1) := by decide +kernel
theorem dX6_name_59 : decode cX6_name 59 = .ok (.iaload, 1) := by decide +kernel
theorem dX6_name_60 : decode cX6_name 60 = .ok (.iadd, 1) := by decide +kernel
theorem dX6_name_61 : decode cX6_name 61 = .ok (.iload_n 2, 1) := by decide +kernel
theorem dX6_name_62 : decode cX6_name 62 = .ok (.iastore, 1) := by decide +kernel
theorem dX6_name_63 : decode cX6_name 63 = .ok (.aload_n 0, 1) := by decide +kernel
theorem dX6_name_64 : decode cX6_name 64 = .ok (.getfield 13, 3) := by decide +kernel
theorem dX6_name_67 : decode cX6_name 67 = .ok (.iload_n 1, 1) := by decide +kernel
theorem dX6_name_68 : decode cX6_name 68 = .ok (.dup2, 1) := by decide +kernel
theorem dX6_name_69 : decode cX6_name 69 = .ok (.iaload, 1) := by decide +kernel
theorem dX6_name_70 : decode cX6_name 70 = .ok (.iconst 1, 1) := by decide +kernel
theorem dX6_name_71 : decode cX6_name 71 = .ok (.iadd, 1) := by decide +kernel
theorem dX6_name_72 : decode cX6_name 72 = .ok (.iastore, 1) := by decide +kernel
theorem dX6_name_73 : decode cX6_name 73 = .ok (.iconst 1, 1) := by decide +kernel
theorem dX6_name_74 : decode cX6_name 74 = .ok (.ireturn, 1) := by decide +kernel
theorem dX6_isCharacter_0 : decode cX6_isCharacter 0 = .ok (.iload_n 0, 1) := by decide +kernel
theorem dX6_isCharacter_1 : decode cX6_isCharacter 1 = .ok (.bipush 32, 2) := by decide +kernel
theorem dX6_isCharacter_3 : decode cX6_isCharacter 3 = .ok (.if_icmp .lt 9, 3) := by decide +kernel
theorem dX6_isCharacter_6 : decode cX6_isCharacter 6 = .ok (.iload_n 0, 1) := by decide +kernel
theorem dX6_isCharacter_7 : decode cX6_isCharacter 7 = .ok (.bipush 126, 2) := by decide +kernel
theorem dX6_isCharacter_9 : decode cX6_isCharacter 9 = .ok (.if_icmp .le 9, 3) := by decide +kernel
theorem dX6_isCharacter_12 : decode cX6_isCharacter 12 = .ok (.iload_n 0, 1) := by decide +kernel
theorem dX6_isCharacter_13 : decode cX6_isCharacter 13 = .ok (.bipush 10, 2) := by decide +kernel
theorem dX6_isCharacter_15 : decode cX6_isCharacter 15 = .ok (.if_icmp .ne 7, 3) := by decide +kernel
theorem dX6_isCharacter_18 : decode cX6_isCharacter 18 = .ok (.iconst 1, 1) := by decide +kernel
theorem dX6_isCharacter_19 : decode cX6_isCharacter 19 = .ok (.goto 4, 3) := by decide +kernel
theorem dX6_isCharacter_22 : decode cX6_isCharacter 22 = .ok (.iconst 0, 1) := by decide +kernel
theorem dX6_isCharacter_23 : decode cX6_isCharacter 23 = .ok (.ireturn, 1) := by decide +kernel
theorem dX6_unit_0 : decode cX6_unit 0 = .ok (.aload_n 0, 1) := by decide +kernel
theorem dX6_unit_1 : decode cX6_unit 1 = .ok (.iconst 0, 1) := by decide +kernel
theorem dX6_unit_2 : decode cX6_unit 2 = .ok (.putfield 75, 3) := by decide +kernel
theorem dX6_unit_5 : decode cX6_unit 5 = .ok (.iload_n 1, 1) := by decide +kernel
theorem dX6_unit_6 : decode cX6_unit 6 = .ok (.invokestatic 83, 3) := by decide +kernel
theorem dX6_unit_9 : decode cX6_unit 9 = .ok (.ifCond .eq 13, 3) := by decide +kernel
theorem dX6_unit_12 : decode cX6_unit 12 = .ok (.aload_n 0, 1) := by decide +kernel
theorem dX6_unit_13 : decode cX6_unit 13 = .ok (.getfield 86, 3) := by decide +kernel
theorem dX6_unit_16 : decode cX6_unit 16 = .ok (.sipush 1200, 3) := by decide +kernel
theorem dX6_unit_19 : decode cX6_unit 19 = .ok (.if_icmp .ne 5, 3) := by decide +kernel
theorem dX6_unit_22 : decode cX6_unit 22 = .ok (.iconst 0, 1) := by decide +kernel
theorem dX6_unit_23 : decode cX6_unit 23 = .ok (.ireturn, 1) := by decide +kernel
theorem dX6_unit_24 : decode cX6_unit 24 = .ok (.aload_n 0, 1) := by decide +kernel
theorem dX6_unit_25 : decode cX6_unit 25 = .ok (.getfield 16, 3) := by decide +kernel
theorem dX6_unit_28 : decode cX6_unit 28 = .ok (.aload_n 0, 1) := by decide +kernel
theorem dX6_unit_29 : decode cX6_unit 29 = .ok (.getfield 86, 3) := by decide +kernel
theorem dX6_unit_32 : decode cX6_unit 32 = .ok (.iload_n 1, 1) := by decide +kernel
theorem dX6_unit_33 : decode cX6_unit 33 = .ok (.iastore, 1) := by decide +kernel
theorem dX6_unit_34 : decode cX6_unit 34 = .ok (.aload_n 0, 1) := by decide +kernel
theorem dX6_unit_35 : decode cX6_unit 35 = .ok (.dup, 1) := by decide +kernel
theorem dX6_unit_36 : decode cX6_unit 36 = .ok (.getfield 86, 3) := by decide +kernel
theorem dX6_unit_39 : decode cX6_unit 39 = .ok (.iconst 1, 1) := by decide +kernel
theorem dX6_unit_40 : decode cX6_unit 40 = .ok (.iadd, 1) := by decide +kernel
theorem dX6_unit_41 : decode cX6_unit 41 = .ok (.putfield 86, 3) := by decide +kernel
theorem dX6_unit_44 : decode cX6_unit 44 = .ok (.iconst 1, 1) := by decide +kernel
theorem dX6_unit_45 : decode cX6_unit 45 = .ok (.ireturn, 1) := by decide +kernel
theorem dX6_units_0 : decode cX6_units 0 = .ok (.aload_n 0, 1) := by decide +kernel
theorem dX6_units_1 : decode cX6_units 1 = .ok (.iconst 0, 1) := by decide +kernel
theorem dX6_units_2 : decode cX6_units 2 = .ok (.putfield 75, 3) := by decide +kernel
theorem dX6_units_5 : decode cX6_units 5 = .ok (.iconst 0, 1) := by decide +kernel
theorem dX6_units_6 : decode cX6_units 6 = .ok (.istore_n 2, 1) := by decide +kernel
theorem dX6_units_7 : decode cX6_units 7 = .ok (.bipush 24, 2) := by decide +kernel
theorem dX6_units_9 : decode cX6_units 9 = .ok (.istore_n 3, 1) := by decide +kernel
theorem dX6_units_10 : decode cX6_units 10 = .ok (.iload_n 3, 1) := by decide +kernel
theorem dX6_units_11 : decode cX6_units 11 = .ok (.ifCond .lt 46, 3) := by decide +kernel
theorem dX6_units_14 : decode cX6_units 14 = .ok (.iload_n 1, 1) := by decide +kernel
theorem dX6_units_15 : decode cX6_units 15 = .ok (.iload_n 3, 1) := by decide +kernel
theorem dX6_units_16 : decode cX6_units 16 = .ok (.iushr, 1) := by decide +kernel
theorem dX6_units_17 : decode cX6_units 17 = .ok (.sipush 255, 3) := by decide +kernel
theorem dX6_units_20 : decode cX6_units 20 = .ok (.iand, 1) := by decide +kernel
theorem dX6_units_21 : decode cX6_units 21 = .ok (.istore 4, 2) := by decide +kernel
theorem dX6_units_23 : decode cX6_units 23 = .ok (.iload 4, 2) := by decide +kernel
theorem dX6_units_25 : decode cX6_units 25 = .ok (.ifCond .eq 13, 3) := by decide +kernel
theorem dX6_units_28 : decode cX6_units 28 = .ok (.iload 4, 2) := by decide +kernel
theorem dX6_units_30 : decode cX6_units 30 = .ok (.invokestatic 83, 3) := by decide +kernel
theorem dX6_units_33 : decode cX6_units 33 = .ok (.ifCond .ne 5, 3) := by decide +kernel
theorem dX6_units_36 : decode cX6_units 36 = .ok (.iconst 0, 1) := by decide +kernel
theorem dX6_units_37 : decode cX6_units 37 = .ok (.ireturn, 1) := by decide +kernel
theorem dX6_units_38 : decode cX6_units 38 = .ok (.iload_n 2, 1) := by decide +kernel
theorem dX6_units_39 : decode cX6_units 39 = .ok (.iload 4, 2) := by decide +kernel
theorem dX6_units_41 : decode cX6_units 41 = .ok (.ifCond .eq 7, 3) := by decide +kernel
theorem dX6_units_44 : decode cX6_units 44 = .ok (.iconst 1, 1) := by decide +kernel
theorem dX6_units_45 : decode cX6_units 45 = .ok (.goto 4, 3) := by decide +kernel
theorem dX6_units_48 : decode cX6_units 48 = .ok (.iconst 0, 1) := by decide +kernel
theorem dX6_units_49 : decode cX6_units 49 = .ok (.iadd, 1) := by decide +kernel
theorem dX6_units_50 : decode cX6_units 50 = .ok (.istore_n 2, 1) := by decide +kernel
theorem dX6_units_51 : decode cX6_units 51 = .ok (.iinc 3 (-8), 3) := by decide +kernel
theorem dX6_units_54 : decode cX6_units 54 = .ok (.goto (-44), 3) := by decide +kernel
theorem dX6_units_57 : decode cX6_units 57 = .ok (.aload_n 0, 1) := by decide +kernel
theorem dX6_units_58 : decode cX6_units 58 = .ok (.getfield 86, 3) := by decide +kernel
theorem dX6_units_61 : decode cX6_units 61 = .ok (.iload_n 2, 1) := by decide +kernel
theorem dX6_units_62 : decode cX6_units 62 = .ok (.iadd, 1) := by decide +kernel
theorem dX6_units_63 : decode cX6_units 63 = .ok (.sipush 1200, 3) := by decide +kernel
theorem dX6_units_66 : decode cX6_units 66 = .ok (.if_icmp .le 5, 3) := by decide +kernel
theorem dX6_units_69 : decode cX6_units 69 = .ok (.iconst 0, 1) := by decide +kernel
theorem dX6_units_70 : decode cX6_units 70 = .ok (.ireturn, 1) := by decide +kernel
theorem dX6_units_71 : decode cX6_units 71 = .ok (.bipush 24, 2) := by decide +kernel
theorem dX6_units_73 : decode cX6_units 73 = .ok (.istore_n 3, 1) := by decide +kernel
theorem dX6_units_74 : decode cX6_units 74 = .ok (.iload_n 3, 1) := by decide +kernel
theorem dX6_units_75 : decode cX6_units 75 = .ok (.ifCond .lt 45, 3) := by decide +kernel
theorem dX6_units_78 : decode cX6_units 78 = .ok (.iload_n 1, 1) := by decide +kernel
theorem dX6_units_79 : decode cX6_units 79 = .ok (.iload_n 3, 1) := by decide +kernel
theorem dX6_units_80 : decode cX6_units 80 = .ok (.iushr, 1) := by decide +kernel
theorem dX6_units_81 : decode cX6_units 81 = .ok (.sipush 255, 3) := by decide +kernel
theorem dX6_units_84 : decode cX6_units 84 = .ok (.iand, 1) := by decide +kernel
theorem dX6_units_85 : decode cX6_units 85 = .ok (.ifCond .eq 29, 3) := by decide +kernel
theorem dX6_units_88 : decode cX6_units 88 = .ok (.aload_n 0, 1) := by decide +kernel
theorem dX6_units_89 : decode cX6_units 89 = .ok (.getfield 16, 3) := by decide +kernel
theorem dX6_units_92 : decode cX6_units 92 = .ok (.aload_n 0, 1) := by decide +kernel
theorem dX6_units_93 : decode cX6_units 93 = .ok (.getfield 86, 3) := by decide +kernel
theorem dX6_units_96 : decode cX6_units 96 = .ok (.iload_n 1, 1) := by decide +kernel
theorem dX6_units_97 : decode cX6_units 97 = .ok (.iload_n 3, 1) := by decide +kernel
theorem dX6_units_98 : decode cX6_units 98 = .ok (.iushr, 1) := by decide +kernel
theorem dX6_units_99 : decode cX6_units 99 = .ok (.sipush 255, 3) := by decide +kernel
theorem dX6_units_102 : decode cX6_units 102 = .ok (.iand, 1) := by decide +kernel
theorem dX6_units_103 : decode cX6_units 103 = .ok (.iastore, 1) := by decide +kernel
theorem dX6_units_104 : decode cX6_units 104 = .ok (.aload_n 0, 1) := by decide +kernel
theorem dX6_units_105 : decode cX6_units 105 = .ok (.dup, 1) := by decide +kernel
theorem dX6_units_106 : decode cX6_units 106 = .ok (.getfield 86, 3) := by decide +kernel
theorem dX6_units_109 : decode cX6_units 109 = .ok (.iconst 1, 1) := by decide +kernel
theorem dX6_units_110 : decode cX6_units 110 = .ok (.iadd, 1) := by decide +kernel
theorem dX6_units_111 : decode cX6_units 111 = .ok (.putfield 86, 3) := by decide +kernel
theorem dX6_units_114 : decode cX6_units 114 = .ok (.iinc 3 (-8), 3) := by decide +kernel
theorem dX6_units_117 : decode cX6_units 117 = .ok (.goto (-43), 3) := by decide +kernel
theorem dX6_units_120 : decode cX6_units 120 = .ok (.iconst 1, 1) := by decide +kernel
theorem dX6_units_121 : decode cX6_units 121 = .ok (.ireturn, 1) := by decide +kernel
theorem dX6_next_0 : decode cX6_next 0 = .ok (.aload_n 0, 1) := by decide +kernel
theorem dX6_next_1 : decode cX6_next 1 = .ok (.aload_n 0, 1) := by decide +kernel
theorem dX6_next_2 : decode cX6_next 2 = .ok (.getfield 89, 3) := by decide +kernel
theorem dX6_next_5 : decode cX6_next 5 = .ok (.putfield 92, 3) := by decide +kernel
theorem dX6_next_8 : decode cX6_next 8 = .ok (.aload_n 0, 1) := by decide +kernel
theorem dX6_next_9 : decode cX6_next 9 = .ok (.getfield 92, 3) := by decide +kernel
theorem dX6_next_12 : decode cX6_next 12 = .ok (.aload_n 0, 1) := by decide +kernel
theorem dX6_next_13 : decode cX6_next 13 = .ok (.getfield 86, 3) := by decide +kernel
theorem dX6_next_16 : decode cX6_next 16 = .ok (.if_icmp .ge 44, 3) := by decide +kernel
theorem dX6_next_19 : decode cX6_next 19 = .ok (.aload_n 0, 1) := by decide +kernel
theorem dX6_next_20 : decode cX6_next 20 = .ok (.getfield 16, 3) := by decide +kernel
theorem dX6_next_23 : decode cX6_next 23 = .ok (.aload_n 0, 1) := by decide +kernel
theorem dX6_next_24 : decode cX6_next 24 = .ok (.getfield 92, 3) := by decide +kernel
theorem dX6_next_27 : decode cX6_next 27 = .ok (.iaload, 1) := by decide +kernel
theorem dX6_next_28 : decode cX6_next 28 = .ok (.bipush 32, 2) := by decide +kernel
theorem dX6_next_30 : decode cX6_next 30 = .ok (.if_icmp .eq 17, 3) := by decide +kernel
theorem dX6_next_33 : decode cX6_next 33 = .ok (.aload_n 0, 1) := by decide +kernel
theorem dX6_next_34 : decode cX6_next 34 = .ok (.getfield 16, 3) := by decide +kernel
theorem dX6_next_37 : decode cX6_next 37 = .ok (.aload_n 0, 1) := by decide +kernel
theorem dX6_next_38 : decode cX6_next 38 = .ok (.getfield 92, 3) := by decide +kernel
theorem dX6_next_41 : decode cX6_next 41 = .ok (.iaload, 1) := by decide +kernel
theorem dX6_next_42 : decode cX6_next 42 = .ok (.bipush 10, 2) := by decide +kernel
theorem dX6_next_44 : decode cX6_next 44 = .ok (.if_icmp .ne 16, 3) := by decide +kernel
theorem dX6_next_47 : decode cX6_next 47 = .ok (.aload_n 0, 1) := by decide +kernel
theorem dX6_next_48 : decode cX6_next 48 = .ok (.dup, 1) := by decide +kernel
theorem dX6_next_49 : decode cX6_next 49 = .ok (.getfield 92, 3) := by decide +kernel
theorem dX6_next_52 : decode cX6_next 52 = .ok (.iconst 1, 1) := by decide +kernel
theorem dX6_next_53 : decode cX6_next 53 = .ok (.iadd, 1) := by decide +kernel
theorem dX6_next_54 : decode cX6_next 54 = .ok (.putfield 92, 3) := by decide +kernel
theorem dX6_next_57 : decode cX6_next 57 = .ok (.goto (-49), 3) := by decide +kernel
theorem dX6_next_60 : decode cX6_next 60 = .ok (.aload_n 0, 1) := by decide +kernel
theorem dX6_next_61 : decode cX6_next 61 = .ok (.aload_n 0, 1) := by decide +kernel
theorem dX6_next_62 : decode cX6_next 62 = .ok (.getfield 92, 3) := by decide +kernel
theorem dX6_next_65 : decode cX6_next 65 = .ok (.putfield 89, 3) := by decide +kernel
theorem dX6_next_68 : decode cX6_next 68 = .ok (.aload_n 0, 1) := by decide +kernel
theorem dX6_next_69 : decode cX6_next 69 = .ok (.getfield 92, 3) := by decide +kernel
theorem dX6_next_72 : decode cX6_next 72 = .ok (.aload_n 0, 1) := by decide +kernel
theorem dX6_next_73 : decode cX6_next 73 = .ok (.getfield 86, 3) := by decide +kernel
theorem dX6_next_76 : decode cX6_next 76 = .ok (.if_icmp .ge 28, 3) := by decide +kernel
theorem dX6_next_79 : decode cX6_next 79 = .ok (.aload_n 0, 1) := by decide +kernel
theorem dX6_next_80 : decode cX6_next 80 = .ok (.getfield 16, 3) := by decide +kernel
theorem dX6_next_83 : decode cX6_next 83 = .ok (.aload_n 0, 1) := by decide +kernel
theorem dX6_next_84 : decode cX6_next 84 = .ok (.getfield 92, 3) := by decide +kernel
theorem dX6_next_87 : decode cX6_next 87 = .ok (.iaload, 1) := by decide +kernel
theorem dX6_next_88 : decode cX6_next 88 = .ok (.bipush 59, 2) := by decide +kernel
theorem dX6_next_90 : decode cX6_next 90 = .ok (.if_icmp .ne 14, 3) := by decide +kernel
theorem dX6_next_93 : decode cX6_next 93 = .ok (.aload_n 0, 1) := by decide +kernel
theorem dX6_next_94 : decode cX6_next 94 = .ok (.dup, 1) := by decide +kernel
theorem dX6_next_95 : decode cX6_next 95 = .ok (.getfield 89, 3) := by decide +kernel
theorem dX6_next_98 : decode cX6_next 98 = .ok (.iconst 1, 1) := by decide +kernel
theorem dX6_next_99 : decode cX6_next 99 = .ok (.iadd, 1) := by decide +kernel
theorem dX6_next_100 : decode cX6_next 100 = .ok (.putfield 89, 3) := by decide +kernel
theorem dX6_next_103 : decode cX6_next 103 = .ok (.return_, 1) := by decide +kernel
theorem dX6_next_104 : decode cX6_next 104 = .ok (.aload_n 0, 1) := by decide +kernel
theorem dX6_next_105 : decode cX6_next 105 = .ok (.getfield 89, 3) := by decide +kernel
theorem dX6_next_108 : decode cX6_next 108 = .ok (.aload_n 0, 1) := by decide +kernel
theorem dX6_next_109 : decode cX6_next 109 = .ok (.getfield 86, 3) := by decide +kernel
theorem dX6_next_112 : decode cX6_next 112 = .ok (.if_icmp .ge 58, 3) := by decide +kernel
theorem dX6_next_115 : decode cX6_next 115 = .ok (.aload_n 0, 1) := by decide +kernel
theorem dX6_next_116 : decode cX6_next 116 = .ok (.getfield 16, 3) := by decide +kernel
theorem dX6_next_119 : decode cX6_next 119 = .ok (.aload_n 0, 1) := by decide +kernel
theorem dX6_next_120 : decode cX6_next 120 = .ok (.getfield 89, 3) := by decide +kernel
theorem dX6_next_123 : decode cX6_next 123 = .ok (.iaload, 1) := by decide +kernel
theorem dX6_next_124 : decode cX6_next 124 = .ok (.bipush 32, 2) := by decide +kernel
theorem dX6_next_126 : decode cX6_next 126 = .ok (.if_icmp .eq 44, 3) := by decide +kernel
theorem dX6_next_129 : decode cX6_next 129 = .ok (.aload_n 0, 1) := by decide +kernel
theorem dX6_next_130 : decode cX6_next 130 = .ok (.getfield 16, 3) := by decide +kernel
theorem dX6_next_133 : decode cX6_next 133 = .ok (.aload_n 0, 1) := by decide +kernel
theorem dX6_next_134 : decode cX6_next 134 = .ok (.getfield 89, 3) := by decide +kernel
theorem dX6_next_137 : decode cX6_next 137 = .ok (.iaload, 1) := by decide +kernel
theorem dX6_next_138 : decode cX6_next 138 = .ok (.bipush 10, 2) := by decide +kernel
theorem dX6_next_140 : decode cX6_next 140 = .ok (.if_icmp .eq 30, 3) := by decide +kernel
theorem dX6_next_143 : decode cX6_next 143 = .ok (.aload_n 0, 1) := by decide +kernel
theorem dX6_next_144 : decode cX6_next 144 = .ok (.getfield 16, 3) := by decide +kernel
theorem dX6_next_147 : decode cX6_next 147 = .ok (.aload_n 0, 1) := by decide +kernel
theorem dX6_next_148 : decode cX6_next 148 = .ok (.getfield 89, 3) := by decide +kernel
theorem dX6_next_151 : decode cX6_next 151 = .ok (.iaload, 1) := by decide +kernel
theorem dX6_next_152 : decode cX6_next 152 = .ok (.bipush 59, 2) := by decide +kernel
theorem dX6_next_154 : decode cX6_next 154 = .ok (.if_icmp .eq 16, 3) := by decide +kernel
theorem dX6_next_157 : decode cX6_next 157 = .ok (.aload_n 0, 1) := by decide +kernel
theorem dX6_next_158 : decode cX6_next 158 = .ok (.dup, 1) := by decide +kernel
theorem dX6_next_159 : decode cX6_next 159 = .ok (.getfield 89, 3) := by decide +kernel
theorem dX6_next_162 : decode cX6_next 162 = .ok (.iconst 1, 1) := by decide +kernel
theorem dX6_next_163 : decode cX6_next 163 = .ok (.iadd, 1) := by decide +kernel
theorem dX6_next_164 : decode cX6_next 164 = .ok (.putfield 89, 3) := by decide +kernel
theorem dX6_next_167 : decode cX6_next 167 = .ok (.goto (-63), 3) := by decide +kernel
theorem dX6_next_170 : decode cX6_next 170 = .ok (.return_, 1) := by decide +kernel
theorem dX6_take_0 : decode cX6_take 0 = .ok (.aload_n 0, 1) := by decide +kernel
theorem dX6_take_1 : decode cX6_take 1 = .ok (.aload_n 0, 1) := by decide +kernel
theorem dX6_take_2 : decode cX6_take 2 = .ok (.getfield 95, 3) := by decide +kernel
theorem dX6_take_5 : decode cX6_take 5 = .ok (.ifCond .eq 11, 3) := by decide +kernel
theorem dX6_take_8 : decode cX6_take 8 = .ok (.iload_n 1, 1) := by decide +kernel
theorem dX6_take_9 : decode cX6_take 9 = .ok (.ifCond .eq 7, 3) := by decide +kernel
theorem dX6_take_12 : decode cX6_take 12 = .ok (.iconst 1, 1) := by decide +kernel
theorem dX6_take_13 : decode cX6_take 13 = .ok (.goto 4, 3) := by decide +kernel
theorem dX6_take_16 : decode cX6_take 16 = .ok (.iconst 0, 1) := by decide +kernel
theorem dX6_take_17 : decode cX6_take 17 = .ok (.putfield 95, 3) := by decide +kernel
theorem dX6_take_20 : decode cX6_take 20 = .ok (.aload_n 0, 1) := by decide +kernel
theorem dX6_take_21 : decode cX6_take 21 = .ok (.getfield 95, 3) := by decide +kernel
theorem dX6_take_24 : decode cX6_take 24 = .ok (.ifCond .eq 7, 3) := by decide +kernel
theorem dX6_take_27 : decode cX6_take 27 = .ok (.aload_n 0, 1) := by decide +kernel
theorem dX6_take_28 : decode cX6_take 28 = .ok (.invokevirtual 99, 3) := by decide +kernel
theorem dX6_take_31 : decode cX6_take 31 = .ok (.return_, 1) := by decide +kernel
theorem dX6_takeEnd_0 : decode cX6_takeEnd 0 = .ok (.aload_n 0, 1) := by decide +kernel
theorem dX6_takeEnd_1 : decode cX6_takeEnd 1 = .ok (.aload_n 0, 1) := by decide +kernel
theorem dX6_takeEnd_2 : decode cX6_takeEnd 2 = .ok (.getfield 89, 3) := by decide +kernel
theorem dX6_takeEnd_5 : decode cX6_takeEnd 5 = .ok (.aload_n 0, 1) := by decide +kernel
theorem dX6_takeEnd_6 : decode cX6_takeEnd 6 = .ok (.getfield 92, 3) := by decide +kernel
theorem dX6_takeEnd_9 : decode cX6_takeEnd 9 = .ok (.iconst 1, 1) := by decide +kernel
theorem dX6_takeEnd_10 : decode cX6_takeEnd 10 = .ok (.iadd, 1) := by decide +kernel
theorem dX6_takeEnd_11 : decode cX6_takeEnd 11 = .ok (.if_icmp .ne 21, 3) := by decide +kernel
theorem dX6_takeEnd_14 : decode cX6_takeEnd 14 = .ok (.aload_n 0, 1) := by decide +kernel
theorem dX6_takeEnd_15 : decode cX6_takeEnd 15 = .ok (.getfield 16, 3) := by decide +kernel
theorem dX6_takeEnd_18 : decode cX6_takeEnd 18 = .ok (.aload_n 0, 1) := by decide +kernel
theorem dX6_takeEnd_19 : decode cX6_takeEnd 19 = .ok (.getfield 92, 3) := by decide +kernel
theorem dX6_takeEnd_22 : decode cX6_takeEnd 22 = .ok (.iaload, 1) := by decide +kernel
theorem dX6_takeEnd_23 : decode cX6_takeEnd 23 = .ok (.bipush 59, 2) := by decide +kernel
theorem dX6_takeEnd_25 : decode cX6_takeEnd 25 = .ok (.if_icmp .ne 7, 3) := by decide +kernel
theorem dX6_takeEnd_28 : decode cX6_takeEnd 28 = .ok (.iconst 1, 1) := by decide +kernel
theorem dX6_takeEnd_29 : decode cX6_takeEnd 29 = .ok (.goto 4, 3) := by decide +kernel
theorem dX6_takeEnd_32 : decode cX6_takeEnd 32 = .ok (.iconst 0, 1) := by decide +kernel
theorem dX6_takeEnd_33 : decode cX6_takeEnd 33 = .ok (.invokevirtual 102, 3) := by decide +kernel
theorem dX6_takeEnd_36 : decode cX6_takeEnd 36 = .ok (.return_, 1) := by decide +kernel
theorem dX6_wordName_0 : decode cX6_wordName 0 = .ok (.lconst 0, 1) := by decide +kernel
theorem dX6_wordName_1 : decode cX6_wordName 1 = .ok (.lstore_n 1, 1) := by decide +kernel
theorem dX6_wordName_2 : decode cX6_wordName 2 = .ok (.aload_n 0, 1) := by decide +kernel
theorem dX6_wordName_3 : decode cX6_wordName 3 = .ok (.getfield 89, 3) := by decide +kernel
theorem dX6_wordName_6 : decode cX6_wordName 6 = .ok (.aload_n 0, 1) := by decide +kernel
theorem dX6_wordName_7 : decode cX6_wordName 7 = .ok (.getfield 92, 3) := by decide +kernel
theorem dX6_wordName_10 : decode cX6_wordName 10 = .ok (.if_icmp .le 21, 3) := by decide +kernel
theorem dX6_wordName_13 : decode cX6_wordName 13 = .ok (.aload_n 0, 1) := by decide +kernel
theorem dX6_wordName_14 : decode cX6_wordName 14 = .ok (.getfield 89, 3) := by decide +kernel
theorem dX6_wordName_17 : decode cX6_wordName 17 = .ok (.aload_n 0, 1) := by decide +kernel
theorem dX6_wordName_18 : decode cX6_wordName 18 = .ok (.getfield 92, 3) := by decide +kernel
theorem dX6_wordName_21 : decode cX6_wordName 21 = .ok (.isub, 1) := by decide +kernel
theorem dX6_wordName_22 : decode cX6_wordName 22 = .ok (.bipush 8, 2) := by decide +kernel
theorem dX6_wordName_24 : decode cX6_wordName 24 = .ok (.if_icmp .gt 7, 3) := by decide +kernel
theorem dX6_wordName_27 : decode cX6_wordName 27 = .ok (.iconst 1, 1) := by decide +kernel
theorem dX6_wordName_28 : decode cX6_wordName 28 = .ok (.goto 4, 3) := by decide +kernel
theorem dX6_wordName_31 : decode cX6_wordName 31 = .ok (.iconst 0, 1) := by decide +kernel
theorem dX6_wordName_32 : decode cX6_wordName 32 = .ok (.istore_n 3, 1) := by decide +kernel
theorem dX6_wordName_33 : decode cX6_wordName 33 = .ok (.aload_n 0, 1) := by decide +kernel
theorem dX6_wordName_34 : decode cX6_wordName 34 = .ok (.getfield 92, 3) := by decide +kernel
theorem dX6_wordName_37 : decode cX6_wordName 37 = .ok (.istore 4, 2) := by decide +kernel
theorem dX6_wordName_39 : decode cX6_wordName 39 = .ok (.iload 4, 2) := by decide +kernel
theorem dX6_wordName_41 : decode cX6_wordName 41 = .ok (.aload_n 0, 1) := by decide +kernel
theorem dX6_wordName_42 : decode cX6_wordName 42 = .ok (.getfield 89, 3) := by decide +kernel
theorem dX6_wordName_45 : decode cX6_wordName 45 = .ok (.if_icmp .ge 62, 3) := by decide +kernel
theorem dX6_wordName_48 : decode cX6_wordName 48 = .ok (.iload_n 3, 1) := by decide +kernel
theorem dX6_wordName_49 : decode cX6_wordName 49 = .ok (.ifCond .eq 58, 3) := by decide +kernel
theorem dX6_wordName_52 : decode cX6_wordName 52 = .ok (.aload_n 0, 1) := by decide +kernel
theorem dX6_wordName_53 : decode cX6_wordName 53 = .ok (.getfield 16, 3) := by decide +kernel
theorem dX6_wordName_56 : decode cX6_wordName 56 = .ok (.iload 4, 2) := by decide +kernel
theorem dX6_wordName_58 : decode cX6_wordName 58 = .ok (.iaload, 1) := by decide +kernel
theorem dX6_wordName_59 : decode cX6_wordName 59 = .ok (.bipush 97, 2) := by decide +kernel
theorem dX6_wordName_61 : decode cX6_wordName 61 = .ok (.if_icmp .lt 19, 3) := by decide +kernel
theorem dX6_wordName_64 : decode cX6_wordName 64 = .ok (.aload_n 0, 1) := by decide +kernel
theorem dX6_wordName_65 : decode cX6_wordName 65 = .ok (.getfield 16, 3) := by decide +kernel
theorem dX6_wordName_68 : decode cX6_wordName 68 = .ok (.iload 4, 2) := by decide +kernel
theorem dX6_wordName_70 : decode cX6_wordName 70 = .ok (.iaload, 1) := by decide +kernel
theorem dX6_wordName_71 : decode cX6_wordName 71 = .ok (.bipush 122, 2) := by decide +kernel
theorem dX6_wordName_73 : decode cX6_wordName 73 = .ok (.if_icmp .gt 7, 3) := by decide +kernel
theorem dX6_wordName_76 : decode cX6_wordName 76 = .ok (.iconst 1, 1) := by decide +kernel
theorem dX6_wordName_77 : decode cX6_wordName 77 = .ok (.goto 4, 3) := by decide +kernel
theorem dX6_wordName_80 : decode cX6_wordName 80 = .ok (.iconst 0, 1) := by decide +kernel
theorem dX6_wordName_81 : decode cX6_wordName 81 = .ok (.istore_n 3, 1) := by decide +kernel
theorem dX6_wordName_82 : decode cX6_wordName 82 = .ok (.ldc2_w 106, 3) := by decide +kernel
theorem dX6_wordName_85 : decode cX6_wordName 85 = .ok (.lload_n 1, 1) := by decide +kernel
theorem dX6_wordName_86 : decode cX6_wordName 86 = .ok (.lmul, 1) := by decide +kernel
theorem dX6_wordName_87 : decode cX6_wordName 87 = .ok (.aload_n 0, 1) := by decide +kernel
theorem dX6_wordName_88 : decode cX6_wordName 88 = .ok (.getfield 16, 3) := by decide +kernel
theorem dX6_wordName_91 : decode cX6_wordName 91 = .ok (.iload 4, 2) := by decide +kernel
theorem dX6_wordName_93 : decode cX6_wordName 93 = .ok (.iaload, 1) := by decide +kernel
theorem dX6_wordName_94 : decode cX6_wordName 94 = .ok (.i2l, 1) := by decide +kernel
theorem dX6_wordName_95 : decode cX6_wordName 95 = .ok (.ladd, 1) := by decide +kernel
theorem dX6_wordName_96 : decode cX6_wordName 96 = .ok (.ldc2_w 108, 3) := by decide +kernel
theorem dX6_wordName_99 : decode cX6_wordName 99 = .ok (.lsub, 1) := by decide +kernel
theorem dX6_wordName_100 : decode cX6_wordName 100 = .ok (.lstore_n 1, 1) := by decide +kernel
theorem dX6_wordName_101 : decode cX6_wordName 101 = .ok (.iinc 4 1, 3) := by decide +kernel
theorem dX6_wordName_104 : decode cX6_wordName 104 = .ok (.goto (-65), 3) := by decide +kernel
theorem dX6_wordName_107 : decode cX6_wordName 107 = .ok (.iload_n 3, 1) := by decide +kernel
theorem dX6_wordName_108 : decode cX6_wordName 108 = .ok (.ifCond .eq 7, 3) := by decide +kernel
theorem dX6_wordName_111 : decode cX6_wordName 111 = .ok (.lload_n 1, 1) := by decide +kernel
theorem dX6_wordName_112 : decode cX6_wordName 112 = .ok (.goto 4, 3) := by decide +kernel
theorem dX6_wordName_115 : decode cX6_wordName 115 = .ok (.lconst 0, 1) := by decide +kernel
theorem dX6_wordName_116 : decode cX6_wordName 116 = .ok (.lreturn, 1) := by decide +kernel
theorem dX6_whole_0 : decode cX6_whole 0 = .ok (.iconst 0, 1) := by decide +kernel
theorem dX6_whole_1 : decode cX6_whole 1 = .ok (.istore_n 1, 1) := by decide +kernel
theorem dX6_whole_2 : decode cX6_whole 2 = .ok (.aload_n 0, 1) := by decide +kernel
theorem dX6_whole_3 : decode cX6_whole 3 = .ok (.getfield 89, 3) := by decide +kernel
theorem dX6_whole_6 : decode cX6_whole 6 = .ok (.aload_n 0, 1) := by decide +kernel
theorem dX6_whole_7 : decode cX6_whole 7 = .ok (.getfield 92, 3) := by decide +kernel
theorem dX6_whole_10 : decode cX6_whole 10 = .ok (.if_icmp .le 21, 3) := by decide +kernel
theorem dX6_whole_13 : decode cX6_whole 13 = .ok (.aload_n 0, 1) := by decide +kernel
theorem dX6_whole_14 : decode cX6_whole 14 = .ok (.getfield 89, 3) := by decide +kernel
theorem dX6_whole_17 : decode cX6_whole 17 = .ok (.aload_n 0, 1) := by decide +kernel
theorem dX6_whole_18 : decode cX6_whole 18 = .ok (.getfield 92, 3) := by decide +kernel
theorem dX6_whole_21 : decode cX6_whole 21 = .ok (.isub, 1) := by decide +kernel
theorem dX6_whole_22 : decode cX6_whole 22 = .ok (.bipush 6, 2) := by decide +kernel
theorem dX6_whole_24 : decode cX6_whole 24 = .ok (.if_icmp .gt 7, 3) := by decide +kernel
theorem dX6_whole_27 : decode cX6_whole 27 = .ok (.iconst 1, 1) := by decide +kernel
theorem dX6_whole_28 : decode cX6_whole 28 = .ok (.goto 4, 3) := by decide +kernel
theorem dX6_whole_31 : decode cX6_whole 31 = .ok (.iconst 0, 1) := by decide +kernel
theorem dX6_whole_32 : decode cX6_whole 32 = .ok (.istore_n 2, 1) := by decide +kernel
theorem dX6_whole_33 : decode cX6_whole 33 = .ok (.aload_n 0, 1) := by decide +kernel
theorem dX6_whole_34 : decode cX6_whole 34 = .ok (.getfield 92, 3) := by decide +kernel
theorem dX6_whole_37 : decode cX6_whole 37 = .ok (.istore_n 3, 1) := by decide +kernel
theorem dX6_whole_38 : decode cX6_whole 38 = .ok (.iload_n 3, 1) := by decide +kernel
theorem dX6_whole_39 : decode cX6_whole 39 = .ok (.aload_n 0, 1) := by decide +kernel
theorem dX6_whole_40 : decode cX6_whole 40 = .ok (.getfield 89, 3) := by decide +kernel
theorem dX6_whole_43 : decode cX6_whole 43 = .ok (.if_icmp .ge 56, 3) := by decide +kernel
theorem dX6_whole_46 : decode cX6_whole 46 = .ok (.iload_n 2, 1) := by decide +kernel
theorem dX6_whole_47 : decode cX6_whole 47 = .ok (.ifCond .eq 52, 3) := by decide +kernel
theorem dX6_whole_50 : decode cX6_whole 50 = .ok (.aload_n 0, 1) := by decide +kernel
theorem dX6_whole_51 : decode cX6_whole 51 = .ok (.getfield 16, 3) := by decide +kernel
theorem dX6_whole_54 : decode cX6_whole 54 = .ok (.iload_n 3, 1) := by decide +kernel
theorem dX6_whole_55 : decode cX6_whole 55 = .ok (.iaload, 1) := by decide +kernel
theorem dX6_whole_56 : decode cX6_whole 56 = .ok (.bipush 48, 2) := by decide +kernel
theorem dX6_whole_58 : decode cX6_whole 58 = .ok (.if_icmp .lt 18, 3) := by decide +kernel
theorem dX6_whole_61 : decode cX6_whole 61 = .ok (.aload_n 0, 1) := by decide +kernel
theorem dX6_whole_62 : decode cX6_whole 62 = .ok (.getfield 16, 3) := by decide +kernel
theorem dX6_whole_65 : decode cX6_whole 65 = .ok (.iload_n 3, 1) := by decide +kernel
theorem dX6_whole_66 : decode cX6_whole 66 = .ok (.iaload, 1) := by decide +kernel
theorem dX6_whole_67 : decode cX6_whole 67 = .ok (.bipush 57, 2) := by decide +kernel
theorem dX6_whole_69 : decode cX6_whole 69 = .ok (.if_icmp .gt 7, 3) := by decide +kernel
theorem dX6_whole_72 : decode cX6_whole 72 = .ok (.iconst 1, 1) := by decide +kernel
theorem dX6_whole_73 : decode cX6_whole 73 = .ok (.goto 4, 3) := by decide +kernel
theorem dX6_whole_76 : decode cX6_whole 76 = .ok (.iconst 0, 1) := by decide +kernel
theorem dX6_whole_77 : decode cX6_whole 77 = .ok (.istore_n 2, 1) := by decide +kernel
theorem dX6_whole_78 : decode cX6_whole 78 = .ok (.bipush 10, 2) := by decide +kernel
theorem dX6_whole_80 : decode cX6_whole 80 = .ok (.iload_n 1, 1) := by decide +kernel
theorem dX6_whole_81 : decode cX6_whole 81 = .ok (.imul, 1) := by decide +kernel
theorem dX6_whole_82 : decode cX6_whole 82 = .ok (.aload_n 0, 1) := by decide +kernel
theorem dX6_whole_83 : decode cX6_whole 83 = .ok (.getfield 16, 3) := by decide +kernel
theorem dX6_whole_86 : decode cX6_whole 86 = .ok (.iload_n 3, 1) := by decide +kernel
theorem dX6_whole_87 : decode cX6_whole 87 = .ok (.iaload, 1) := by decide +kernel
theorem dX6_whole_88 : decode cX6_whole 88 = .ok (.iadd, 1) := by decide +kernel
theorem dX6_whole_89 : decode cX6_whole 89 = .ok (.bipush 48, 2) := by decide +kernel
theorem dX6_whole_91 : decode cX6_whole 91 = .ok (.isub, 1) := by decide +kernel
theorem dX6_whole_92 : decode cX6_whole 92 = .ok (.istore_n 1, 1) := by decide +kernel
theorem dX6_whole_93 : decode cX6_whole 93 = .ok (.iinc 3 1, 3) := by decide +kernel
theorem dX6_whole_96 : decode cX6_whole 96 = .ok (.goto (-58), 3) := by decide +kernel
theorem dX6_whole_99 : decode cX6_whole 99 = .ok (.iload_n 2, 1) := by decide +kernel
theorem dX6_whole_100 : decode cX6_whole 100 = .ok (.ifCond .eq 7, 3) := by decide +kernel
theorem dX6_whole_103 : decode cX6_whole 103 = .ok (.iload_n 1, 1) := by decide +kernel
theorem dX6_whole_104 : decode cX6_whole 104 = .ok (.goto 4, 3) := by decide +kernel
theorem dX6_whole_107 : decode cX6_whole 107 = .ok (.iconst (-1), 1) := by decide +kernel
theorem dX6_whole_108 : decode cX6_whole 108 = .ok (.ireturn, 1) := by decide +kernel
theorem dX6_isPattern_0 : decode cX6_isPattern 0 = .ok (.aload_n 0, 1) := by decide +kernel
theorem dX6_isPattern_1 : decode cX6_isPattern 1 = .ok (.getfield 89, 3) := by decide +kernel
theorem dX6_isPattern_4 : decode cX6_isPattern 4 = .ok (.aload_n 0, 1) := by decide +kernel
theorem dX6_isPattern_5 : decode cX6_isPattern 5 = .ok (.getfield 92, 3) := by decide +kernel
theorem dX6_isPattern_8 : decode cX6_isPattern 8 = .ok (.if_icmp .le 21, 3) := by decide +kernel
theorem dX6_isPattern_11 : decode cX6_isPattern 11 = .ok (.aload_n 0, 1) := by decide +kernel
theorem dX6_isPattern_12 : decode cX6_isPattern 12 = .ok (.getfield 89, 3) := by decide +kernel
theorem dX6_isPattern_15 : decode cX6_isPattern 15 = .ok (.aload_n 0, 1) := by decide +kernel
theorem dX6_isPattern_16 : decode cX6_isPattern 16 = .ok (.getfield 92, 3) := by decide +kernel
theorem dX6_isPattern_19 : decode cX6_isPattern 19 = .ok (.isub, 1) := by decide +kernel
theorem dX6_isPattern_20 : decode cX6_isPattern 20 = .ok (.bipush 16, 2) := by decide +kernel
theorem dX6_isPattern_22 : decode cX6_isPattern 22 = .ok (.if_icmp .gt 7, 3) := by decide +kernel
theorem dX6_isPattern_25 : decode cX6_isPattern 25 = .ok (.iconst 1, 1) := by decide +kernel
theorem dX6_isPattern_26 : decode cX6_isPattern 26 = .ok (.goto 4, 3) := by decide +kernel
theorem dX6_isPattern_29 : decode cX6_isPattern 29 = .ok (.iconst 0, 1) := by decide +kernel
theorem dX6_isPattern_30 : decode cX6_isPattern 30 = .ok (.istore_n 1, 1) := by decide +kernel
theorem dX6_isPattern_31 : decode cX6_isPattern 31 = .ok (.aload_n 0, 1) := by decide +kernel
theorem dX6_isPattern_32 : decode cX6_isPattern 32 = .ok (.getfield 92, 3) := by decide +kernel
theorem dX6_isPattern_35 : decode cX6_isPattern 35 = .ok (.istore_n 2, 1) := by decide +kernel
theorem dX6_isPattern_36 : decode cX6_isPattern 36 = .ok (.iload_n 2, 1) := by decide +kernel
theorem dX6_isPattern_37 : decode cX6_isPattern 37 = .ok (.aload_n 0, 1) := by decide +kernel
theorem dX6_isPattern_38 : decode cX6_isPattern 38 = .ok (.getfield 89, 3) := by decide +kernel
theorem dX6_isPattern_41 : decode cX6_isPattern 41 = .ok (.if_icmp .ge 53, 3) := by decide +kernel
theorem dX6_isPattern_44 : decode cX6_isPattern 44 = .ok (.iload_n 1, 1) := by decide +kernel
theorem dX6_isPattern_45 : decode cX6_isPattern 45 = .ok (.ifCond .eq 49, 3) := by decide +kernel
theorem dX6_isPattern_48 : decode cX6_isPattern 48 = .ok (.aload_n 0, 1) := by decide +kernel
theorem dX6_isPattern_49 : decode cX6_isPattern 49 = .ok (.getfield 16, 3) := by decide +kernel
theorem dX6_isPattern_52 : decode cX6_isPattern 52 = .ok (.iload_n 2, 1) := by decide +kernel
theorem dX6_isPattern_53 : decode cX6_isPattern 53 = .ok (.iaload, 1) := by decide +kernel
theorem dX6_isPattern_54 : decode cX6_isPattern 54 = .ok (.invokestatic 79, 3) := by decide +kernel
theorem dX6_isPattern_57 : decode cX6_isPattern 57 = .ok (.ifCond .ne 25, 3) := by decide +kernel
theorem dX6_isPattern_60 : decode cX6_isPattern 60 = .ok (.aload_n 0, 1) := by decide +kernel
theorem dX6_isPattern_61 : decode cX6_isPattern 61 = .ok (.getfield 16, 3) := by decide +kernel
theorem dX6_isPattern_64 : decode cX6_isPattern 64 = .ok (.iload_n 2, 1) := by decide +kernel
theorem dX6_isPattern_65 : decode cX6_isPattern 65 = .ok (.iaload, 1) := by decide +kernel
theorem dX6_isPattern_66 : decode cX6_isPattern 66 = .ok (.bipush 42, 2) := by decide +kernel
theorem dX6_isPattern_68 : decode cX6_isPattern 68 = .ok (.if_icmp .eq 14, 3) := by decide +kernel
theorem dX6_isPattern_71 : decode cX6_isPattern 71 = .ok (.aload_n 0, 1) := by decide +kernel
theorem dX6_isPattern_72 : decode cX6_isPattern 72 = .ok (.getfield 16, 3) := by decide +kernel
theorem dX6_isPattern_75 : decode cX6_isPattern 75 = .ok (.iload_n 2, 1) := by decide +kernel
theorem dX6_isPattern_76 : decode cX6_isPattern 76 = .ok (.iaload, 1) := by decide +kernel
theorem dX6_isPattern_77 : decode cX6_isPattern 77 = .ok (.bipush 63, 2) := by decide +kernel
theorem dX6_isPattern_79 : decode cX6_isPattern 79 = .ok (.if_icmp .ne 7, 3) := by decide +kernel
theorem dX6_isPattern_82 : decode cX6_isPattern 82 = .ok (.iconst 1, 1) := by decide +kernel
theorem dX6_isPattern_83 : decode cX6_isPattern 83 = .ok (.goto 4, 3) := by decide +kernel
theorem dX6_isPattern_86 : decode cX6_isPattern 86 = .ok (.iconst 0, 1) := by decide +kernel
theorem dX6_isPattern_87 : decode cX6_isPattern 87 = .ok (.istore_n 1, 1) := by decide +kernel
theorem dX6_isPattern_88 : decode cX6_isPattern 88 = .ok (.iinc 2 1, 3) := by decide +kernel
theorem dX6_isPattern_91 : decode cX6_isPattern 91 = .ok (.goto (-55), 3) := by decide +kernel
theorem dX6_isPattern_94 : decode cX6_isPattern 94 = .ok (.iload_n 1, 1) := by decide +kernel
theorem dX6_isPattern_95 : decode cX6_isPattern 95 = .ok (.ireturn, 1) := by decide +kernel
theorem dX6_takeWhole_0 : decode cX6_takeWhole 0 = .ok (.aload_n 0, 1) := by decide +kernel
theorem dX6_takeWhole_1 : decode cX6_takeWhole 1 = .ok (.invokevirtual 110, 3) := by decide +kernel
theorem dX6_takeWhole_4 : decode cX6_takeWhole 4 = .ok (.istore_n 3, 1) := by decide +kernel
theorem dX6_takeWhole_5 : decode cX6_takeWhole 5 = .ok (.aload_n 0, 1) := by decide +kernel
theorem dX6_takeWhole_6 : decode cX6_takeWhole 6 = .ok (.iload_n 3, 1) := by decide +kernel
theorem dX6_takeWhole_7 : decode cX6_takeWhole 7 = .ok (.iload_n 1, 1) := by decide +kernel
theorem dX6_takeWhole_8 : decode cX6_takeWhole 8 = .ok (.if_icmp .lt 12, 3) := by decide +kernel
theorem dX6_takeWhole_11 : decode cX6_takeWhole 11 = .ok (.iload_n 3, 1) := by decide +kernel
theorem dX6_takeWhole_12 : decode cX6_takeWhole 12 = .ok (.iload_n 2, 1) := by decide +kernel
theorem dX6_takeWhole_13 : decode cX6_takeWhole 13 = .ok (.if_icmp .gt 7, 3) := by decide +kernel
theorem dX6_takeWhole_16 : decode cX6_takeWhole 16 = .ok (.iconst 1, 1) := by decide +kernel
theorem dX6_takeWhole_17 : decode cX6_takeWhole 17 = .ok (.goto 4, 3) := by decide +kernel
theorem dX6_takeWhole_20 : decode cX6_takeWhole 20 = .ok (.iconst 0, 1) := by decide +kernel
theorem dX6_takeWhole_21 : decode cX6_takeWhole 21 = .ok (.invokevirtual 102, 3) := by decide +kernel
theorem dX6_takeWhole_24 : decode cX6_takeWhole 24 = .ok (.iload_n 3, 1) := by decide +kernel
theorem dX6_takeWhole_25 : decode cX6_takeWhole 25 = .ok (.ireturn, 1) := by decide +kernel
theorem dX6_takePattern_0 : decode cX6_takePattern 0 = .ok (.iload_n 3, 1) := by decide +kernel
theorem dX6_takePattern_1 : decode cX6_takePattern 1 = .ok (.ifCond .eq 34, 3) := by decide +kernel
theorem dX6_takePattern_4 : decode cX6_takePattern 4 = .ok (.aload_n 0, 1) := by decide +kernel
theorem dX6_takePattern_5 : decode cX6_takePattern 5 = .ok (.getfield 89, 3) := by decide +kernel
theorem dX6_takePattern_8 : decode cX6_takePattern 8 = .ok (.aload_n 0, 1) := by decide +kernel
theorem dX6_takePattern_9 : decode cX6_takePattern 9 = .ok (.getfield 92, 3) := by decide +kernel
theorem dX6_takePattern_12 : decode cX6_takePattern 12 = .ok (.iconst 1, 1) := by decide +kernel
theorem dX6_takePattern_13 : decode cX6_takePattern 13 = .ok (.iadd, 1) := by decide +kernel
theorem dX6_takePattern_14 : decode cX6_takePattern 14 = .ok (.if_icmp .ne 21, 3) := by decide +kernel
theorem dX6_takePattern_17 : decode cX6_takePattern 17 = .ok (.aload_n 0, 1) := by decide +kernel
theorem dX6_takePattern_18 : decode cX6_takePattern 18 = .ok (.getfield 16, 3) := by decide +kernel
theorem dX6_takePattern_21 : decode cX6_takePattern 21 = .ok (.aload_n 0, 1) := by decide +kernel
theorem dX6_takePattern_22 : decode cX6_takePattern 22 = .ok (.getfield 92, 3) := by decide +kernel
theorem dX6_takePattern_25 : decode cX6_takePattern 25 = .ok (.iaload, 1) := by decide +kernel
theorem dX6_takePattern_26 : decode cX6_takePattern 26 = .ok (.bipush 45, 2) := by decide +kernel
theorem dX6_takePattern_28 : decode cX6_takePattern 28 = .ok (.if_icmp .ne 7, 3) := by decide +kernel
theorem dX6_takePattern_31 : decode cX6_takePattern 31 = .ok (.iconst 1, 1) := by decide +kernel
theorem dX6_takePattern_32 : decode cX6_takePattern 32 = .ok (.goto 4, 3) := by decide +kernel
theorem dX6_takePattern_35 : decode cX6_takePattern 35 = .ok (.iconst 0, 1) := by decide +kernel
theorem dX6_takePattern_36 : decode cX6_takePattern 36 = .ok (.istore 4, 2) := by decide +kernel
theorem dX6_takePattern_38 : decode cX6_takePattern 38 = .ok (.iconst 3, 1) := by decide +kernel
theorem dX6_takePattern_39 : decode cX6_takePattern 39 = .ok (.iload_n 1, 1) := by decide +kernel
theorem dX6_takePattern_40 : decode cX6_takePattern 40 = .ok (.imul, 1) := by decide +kernel
theorem dX6_takePattern_41 : decode cX6_takePattern 41 = .ok (.iload_n 2, 1) := by decide +kernel
theorem dX6_takePattern_42 : decode cX6_takePattern 42 = .ok (.iadd, 1) := by decide +kernel
theorem dX6_takePattern_43 : decode cX6_takePattern 43 = .ok (.istore 5, 2) := by decide +kernel
theorem dX6_takePattern_45 : decode cX6_takePattern 45 = .ok (.aload_n 0, 1) := by decide +kernel
theorem dX6_takePattern_46 : decode cX6_takePattern 46 = .ok (.getfield 41, 3) := by decide +kernel
theorem dX6_takePattern_49 : decode cX6_takePattern 49 = .ok (.iload 5, 2) := by decide +kernel
theorem dX6_takePattern_51 : decode cX6_takePattern 51 = .ok (.iconst 0, 1) := by decide +kernel
theorem dX6_takePattern_52 : decode cX6_takePattern 52 = .ok (.iastore, 1) := by decide +kernel
theorem dX6_takePattern_53 : decode cX6_takePattern 53 = .ok (.aload_n 0, 1) := by decide +kernel
theorem dX6_takePattern_54 : decode cX6_takePattern 54 = .ok (.getfield 92, 3) := by decide +kernel
theorem dX6_takePattern_57 : decode cX6_takePattern 57 = .ok (.istore 6, 2) := by decide +kernel
theorem dX6_takePattern_59 : decode cX6_takePattern 59 = .ok (.iload 6, 2) := by decide +kernel
theorem dX6_takePattern_61 : decode cX6_takePattern 61 = .ok (.aload_n 0, 1) := by decide +kernel
theorem dX6_takePattern_62 : decode cX6_takePattern 62 = .ok (.getfield 89, 3) := by decide +kernel
theorem dX6_takePattern_65 : decode cX6_takePattern 65 = .ok (.if_icmp .ge 57, 3) := by decide +kernel
theorem dX6_takePattern_68 : decode cX6_takePattern 68 = .ok (.iload 4, 2) := by decide +kernel
theorem dX6_takePattern_70 : decode cX6_takePattern 70 = .ok (.ifCond .ne 52, 3) := by decide +kernel
theorem dX6_takePattern_73 : decode cX6_takePattern 73 = .ok (.aload_n 0, 1) := by decide +kernel
theorem dX6_takePattern_74 : decode cX6_takePattern 74 = .ok (.invokevirtual 114, 3) := by decide +kernel
theorem dX6_takePattern_77 : decode cX6_takePattern 77 = .ok (.ifCond .eq 45, 3) := by decide +kernel
theorem dX6_takePattern_80 : decode cX6_takePattern 80 = .ok (.aload_n 0, 1) := by decide +kernel
theorem dX6_takePattern_81 : decode cX6_takePattern 81 = .ok (.getfield 38, 3) := by decide +kernel
theorem dX6_takePattern_84 : decode cX6_takePattern 84 = .ok (.bipush 16, 2) := by decide +kernel
theorem dX6_takePattern_86 : decode cX6_takePattern 86 = .ok (.iload 5, 2) := by decide +kernel
theorem dX6_takePattern_88 : decode cX6_takePattern 88 = .ok (.imul, 1) := by decide +kernel
theorem dX6_takePattern_89 : decode cX6_takePattern 89 = .ok (.aload_n 0, 1) := by decide +kernel
theorem dX6_takePattern_90 : decode cX6_takePattern 90 = .ok (.getfield 41, 3) := by decide +kernel
theorem dX6_takePattern_93 : decode cX6_takePattern 93 = .ok (.iload 5, 2) := by decide +kernel
theorem dX6_takePattern_95 : decode cX6_takePattern 95 = .ok (.iaload, 1) := by decide +kernel
theorem dX6_takePattern_96 : decode cX6_takePattern 96 = .ok (.iadd, 1) := by decide +kernel
theorem dX6_takePattern_97 : decode cX6_takePattern 97 = .ok (.aload_n 0, 1) := by decide +kernel
theorem dX6_takePattern_98 : decode cX6_takePattern 98 = .ok (.getfield 16, 3) := by decide +kernel
theorem dX6_takePattern_101 : decode cX6_takePattern 101 = .ok (.iload 6, 2) := by decide +kernel
theorem dX6_takePattern_103 : decode cX6_takePattern 103 = .ok (.iaload, 1) := by decide +kernel
theorem dX6_takePattern_104 : decode cX6_takePattern 104 = .ok (.iastore, 1) := by decide +kernel
theorem dX6_takePattern_105 : decode cX6_takePattern 105 = .ok (.aload_n 0, 1) := by decide +kernel
theorem dX6_takePattern_106 : decode cX6_takePattern 106 = .ok (.getfield 41, 3) := by decide +kernel
theorem dX6_takePattern_109 : decode cX6_takePattern 109 = .ok (.iload 5, 2) := by decide +kernel
theorem dX6_takePattern_111 : decode cX6_takePattern 111 = .ok (.dup2, 1) := by decide +kernel
theorem dX6_takePattern_112 : decode cX6_takePattern 112 = .ok (.iaload, 1) := by decide +kernel
theorem dX6_takePattern_113 : decode cX6_takePattern 113 = .ok (.iconst 1, 1) := by decide +kernel
theorem dX6_takePattern_114 : decode cX6_takePattern 114 = .ok (.iadd, 1) := by decide +kernel
theorem dX6_takePattern_115 : decode cX6_takePattern 115 = .ok (.iastore, 1) := by decide +kernel
theorem dX6_takePattern_116 : decode cX6_takePattern 116 = .ok (.iinc 6 1, 3) := by decide +kernel
theorem dX6_takePattern_119 : decode cX6_takePattern 119 = .ok (.goto (-60), 3) := by decide +kernel
theorem dX6_takePattern_122 : decode cX6_takePattern 122 = .ok (.aload_n 0, 1) := by decide +kernel
theorem dX6_takePattern_123 : decode cX6_takePattern 123 = .ok (.iload 4, 2) := by decide +kernel
theorem dX6_takePattern_125 : decode cX6_takePattern 125 = .ok (.ifCond .ne 10, 3) := by decide +kernel
theorem dX6_takePattern_128 : decode cX6_takePattern 128 = .ok (.aload_n 0, 1) := by decide +kernel
theorem dX6_takePattern_129 : decode cX6_takePattern 129 = .ok (.invokevirtual 114, 3) := by decide +kernel
theorem dX6_takePattern_132 : decode cX6_takePattern 132 = .ok (.ifCond .eq 7, 3) := by decide +kernel
theorem dX6_takePattern_135 : decode cX6_takePattern 135 = .ok (.iconst 1, 1) := by decide +kernel
theorem dX6_takePattern_136 : decode cX6_takePattern 136 = .ok (.goto 4, 3) := by decide +kernel
theorem dX6_takePattern_139 : decode cX6_takePattern 139 = .ok (.iconst 0, 1) := by decide +kernel
theorem dX6_takePattern_140 : decode cX6_takePattern 140 = .ok (.invokevirtual 102, 3) := by decide +kernel
theorem dX6_takePattern_143 : decode cX6_takePattern 143 = .ok (.return_, 1) := by decide +kernel
theorem dX6_word_0 : decode cX6_word 0 = .ok (.iload_n 0, 1) := by decide +kernel
theorem dX6_word_1 : decode cX6_word 1 = .ok (.i2l, 1) := by decide +kernel
theorem dX6_word_2 : decode cX6_word 2 = .ok (.ldc2_w 108, 3) := by decide +kernel
theorem dX6_word_5 : decode cX6_word 5 = .ok (.lsub, 1) := by decide +kernel
theorem dX6_word_6 : decode cX6_word 6 = .ok (.lstore 6, 2) := by decide +kernel
theorem dX6_word_8 : decode cX6_word 8 = .ok (.ldc2_w 106, 3) := by decide +kernel
theorem dX6_word_11 : decode cX6_word 11 = .ok (.lload 6, 2) := by decide +kernel
theorem dX6_word_13 : decode cX6_word 13 = .ok (.lmul, 1) := by decide +kernel
theorem dX6_word_14 : decode cX6_word 14 = .ok (.iload_n 1, 1) := by decide +kernel
theorem dX6_word_15 : decode cX6_word 15 = .ok (.i2l, 1) := by decide +kernel
theorem dX6_word_16 : decode cX6_word 16 = .ok (.ladd, 1) := by decide +kernel
theorem dX6_word_17 : decode cX6_word 17 = .ok (.ldc2_w 108, 3) := by decide +kernel
theorem dX6_word_20 : decode cX6_word 20 = .ok (.lsub, 1) := by decide +kernel
theorem dX6_word_21 : decode cX6_word 21 = .ok (.lstore 6, 2) := by decide +kernel
theorem dX6_word_23 : decode cX6_word 23 = .ok (.ldc2_w 106, 3) := by decide +kernel
theorem dX6_word_26 : decode cX6_word 26 = .ok (.lload 6, 2) := by decide +kernel
theorem dX6_word_28 : decode cX6_word 28 = .ok (.lmul, 1) := by decide +kernel
theorem dX6_word_29 : decode cX6_word 29 = .ok (.iload_n 2, 1) := by decide +kernel
theorem dX6_word_30 : decode cX6_word 30 = .ok (.i2l, 1) := by decide +kernel
theorem dX6_word_31 : decode cX6_word 31 = .ok (.ladd, 1) := by decide +kernel
theorem dX6_word_32 : decode cX6_word 32 = .ok (.ldc2_w 108, 3) := by decide +kernel
theorem dX6_word_35 : decode cX6_word 35 = .ok (.lsub, 1) := by decide +kernel
theorem dX6_word_36 : decode cX6_word 36 = .ok (.lstore 6, 2) := by decide +kernel
theorem dX6_word_38 : decode cX6_word 38 = .ok (.ldc2_w 106, 3) := by decide +kernel
theorem dX6_word_41 : decode cX6_word 41 = .ok (.lload 6, 2) := by decide +kernel
theorem dX6_word_43 : decode cX6_word 43 = .ok (.lmul, 1) := by decide +kernel
theorem dX6_word_44 : decode cX6_word 44 = .ok (.iload_n 3, 1) := by decide +kernel
theorem dX6_word_45 : decode cX6_word 45 = .ok (.i2l, 1) := by decide +kernel
theorem dX6_word_46 : decode cX6_word 46 = .ok (.ladd, 1) := by decide +kernel
theorem dX6_word_47 : decode cX6_word 47 = .ok (.ldc2_w 108, 3) := by decide +kernel
theorem dX6_word_50 : decode cX6_word 50 = .ok (.lsub, 1) := by decide +kernel
theorem dX6_word_51 : decode cX6_word 51 = .ok (.lstore 6, 2) := by decide +kernel
theorem dX6_word_53 : decode cX6_word 53 = .ok (.iload 4, 2) := by decide +kernel
theorem dX6_word_55 : decode cX6_word 55 = .ok (.ifCond .le 20, 3) := by decide +kernel
theorem dX6_word_58 : decode cX6_word 58 = .ok (.ldc2_w 106, 3) := by decide +kernel
theorem dX6_word_61 : decode cX6_word 61 = .ok (.lload 6, 2) := by decide +kernel
theorem dX6_word_63 : decode cX6_word 63 = .ok (.lmul, 1) := by decide +kernel
theorem dX6_word_64 : decode cX6_word 64 = .ok (.iload 4, 2) := by decide +kernel
theorem dX6_word_66 : decode cX6_word 66 = .ok (.i2l, 1) := by decide +kernel
theorem dX6_word_67 : decode cX6_word 67 = .ok (.ladd, 1) := by decide +kernel
theorem dX6_word_68 : decode cX6_word 68 = .ok (.ldc2_w 108, 3) := by decide +kernel
theorem dX6_word_71 : decode cX6_word 71 = .ok (.lsub, 1) := by decide +kernel
theorem dX6_word_72 : decode cX6_word 72 = .ok (.goto 5, 3) := by decide +kernel
theorem dX6_word_75 : decode cX6_word 75 = .ok (.lload 6, 2) := by decide +kernel
theorem dX6_word_77 : decode cX6_word 77 = .ok (.lstore 6, 2) := by decide +kernel
theorem dX6_word_79 : decode cX6_word 79 = .ok (.iload 5, 2) := by decide +kernel
theorem dX6_word_81 : decode cX6_word 81 = .ok (.ifCond .le 20, 3) := by decide +kernel
theorem dX6_word_84 : decode cX6_word 84 = .ok (.ldc2_w 106, 3) := by decide +kernel
theorem dX6_word_87 : decode cX6_word 87 = .ok (.lload 6, 2) := by decide +kernel
theorem dX6_word_89 : decode cX6_word 89 = .ok (.lmul, 1) := by decide +kernel
theorem dX6_word_90 : decode cX6_word 90 = .ok (.iload 5, 2) := by decide +kernel
theorem dX6_word_92 : decode cX6_word 92 = .ok (.i2l, 1) := by decide +kernel
theorem dX6_word_93 : decode cX6_word 93 = .ok (.ladd, 1) := by decide +kernel
theorem dX6_word_94 : decode cX6_word 94 = .ok (.ldc2_w 108, 3) := by decide +kernel
theorem dX6_word_97 : decode cX6_word 97 = .ok (.lsub, 1) := by decide +kernel
theorem dX6_word_98 : decode cX6_word 98 = .ok (.goto 5, 3) := by decide +kernel
theorem dX6_word_101 : decode cX6_word 101 = .ok (.lload 6, 2) := by decide +kernel
theorem dX6_word_103 : decode cX6_word 103 = .ok (.lreturn, 1) := by decide +kernel
theorem dX6_wordOf_0 : decode cX6_wordOf 0 = .ok (.iload_n 0, 1) := by decide +kernel
theorem dX6_wordOf_1 : decode cX6_wordOf 1 = .ok (.tableswitch 187 0 8 #[51, 66, 82, 98, 113, 128, 144, 158, 173], 51) := by decide +kernel
theorem dX6_wordOf_52 : decode cX6_wordOf 52 = .ok (.bipush 99, 2) := by decide +kernel
theorem dX6_wordOf_54 : decode cX6_wordOf 54 = .ok (.bipush 108, 2) := by decide +kernel
theorem dX6_wordOf_56 : decode cX6_wordOf 56 = .ok (.bipush 111, 2) := by decide +kernel
theorem dX6_wordOf_58 : decode cX6_wordOf 58 = .ok (.bipush 99, 2) := by decide +kernel
theorem dX6_wordOf_60 : decode cX6_wordOf 60 = .ok (.bipush 107, 2) := by decide +kernel
theorem dX6_wordOf_62 : decode cX6_wordOf 62 = .ok (.iconst 0, 1) := by decide +kernel
theorem dX6_wordOf_63 : decode cX6_wordOf 63 = .ok (.invokestatic 118, 3) := by decide +kernel
theorem dX6_wordOf_66 : decode cX6_wordOf 66 = .ok (.lreturn, 1) := by decide +kernel
theorem dX6_wordOf_67 : decode cX6_wordOf 67 = .ok (.bipush 100, 2) := by decide +kernel
theorem dX6_wordOf_69 : decode cX6_wordOf 69 = .ok (.bipush 101, 2) := by decide +kernel
theorem dX6_wordOf_71 : decode cX6_wordOf 71 = .ok (.bipush 114, 2) := by decide +kernel
theorem dX6_wordOf_73 : decode cX6_wordOf 73 = .ok (.bipush 105, 2) := by decide +kernel
theorem dX6_wordOf_75 : decode cX6_wordOf 75 = .ok (.bipush 118, 2) := by decide +kernel
theorem dX6_wordOf_77 : decode cX6_wordOf 77 = .ok (.bipush 101, 2) := by decide +kernel
theorem dX6_wordOf_79 : decode cX6_wordOf 79 = .ok (.invokestatic 118, 3) := by decide +kernel
theorem dX6_wordOf_82 : decode cX6_wordOf 82 = .ok (.lreturn, 1) := by decide +kernel
theorem dX6_wordOf_83 : decode cX6_wordOf 83 = .ok (.bipush 116, 2) := by decide +kernel
theorem dX6_wordOf_85 : decode cX6_wordOf 85 = .ok (.bipush 117, 2) := by decide +kernel
theorem dX6_wordOf_87 : decode cX6_wordOf 87 = .ok (.bipush 114, 2) := by decide +kernel
theorem dX6_wordOf_89 : decode cX6_wordOf 89 = .ok (.bipush 110, 2) := by decide +kernel
theorem dX6_wordOf_91 : decode cX6_wordOf 91 = .ok (.bipush 101, 2) := by decide +kernel
theorem dX6_wordOf_93 : decode cX6_wordOf 93 = .ok (.bipush 100, 2) := by decide +kernel
theorem dX6_wordOf_95 : decode cX6_wordOf 95 = .ok (.invokestatic 118, 3) := by decide +kernel
theorem dX6_wordOf_98 : decode cX6_wordOf 98 = .ok (.lreturn, 1) := by decide +kernel
theorem dX6_wordOf_99 : decode cX6_wordOf 99 = .ok (.bipush 97, 2) := by decide +kernel
theorem dX6_wordOf_101 : decode cX6_wordOf 101 = .ok (.bipush 112, 2) := by decide +kernel
theorem dX6_wordOf_103 : decode cX6_wordOf 103 = .ok (.bipush 97, 2) := by decide +kernel
theorem dX6_wordOf_105 : decode cX6_wordOf 105 = .ok (.bipush 114, 2) := by decide +kernel
theorem dX6_wordOf_107 : decode cX6_wordOf 107 = .ok (.bipush 116, 2) := by decide +kernel
theorem dX6_wordOf_109 : decode cX6_wordOf 109 = .ok (.iconst 0, 1) := by decide +kernel
theorem dX6_wordOf_110 : decode cX6_wordOf 110 = .ok (.invokestatic 118, 3) := by decide +kernel
theorem dX6_wordOf_113 : decode cX6_wordOf 113 = .ok (.lreturn, 1) := by decide +kernel
theorem dX6_wordOf_114 : decode cX6_wordOf 114 = .ok (.bipush 102, 2) := by decide +kernel
theorem dX6_wordOf_116 : decode cX6_wordOf 116 = .ok (.bipush 97, 2) := by decide +kernel
theorem dX6_wordOf_118 : decode cX6_wordOf 118 = .ok (.bipush 108, 2) := by decide +kernel
theorem dX6_wordOf_120 : decode cX6_wordOf 120 = .ok (.bipush 115, 2) := by decide +kernel
theorem dX6_wordOf_122 : decode cX6_wordOf 122 = .ok (.bipush 101, 2) := by decide +kernel
theorem dX6_wordOf_124 : decode cX6_wordOf 124 = .ok (.iconst 0, 1) := by decide +kernel
theorem dX6_wordOf_125 : decode cX6_wordOf 125 = .ok (.invokestatic 118, 3) := by decide +kernel
theorem dX6_wordOf_128 : decode cX6_wordOf 128 = .ok (.lreturn, 1) := by decide +kernel
theorem dX6_wordOf_129 : decode cX6_wordOf 129 = .ok (.bipush 99, 2) := by decide +kernel
theorem dX6_wordOf_131 : decode cX6_wordOf 131 = .ok (.bipush 121, 2) := by decide +kernel
theorem dX6_wordOf_133 : decode cX6_wordOf 133 = .ok (.bipush 99, 2) := by decide +kernel
theorem dX6_wordOf_135 : decode cX6_wordOf 135 = .ok (.bipush 108, 2) := by decide +kernel
theorem dX6_wordOf_137 : decode cX6_wordOf 137 = .ok (.bipush 101, 2) := by decide +kernel
theorem dX6_wordOf_139 : decode cX6_wordOf 139 = .ok (.bipush 115, 2) := by decide +kernel
theorem dX6_wordOf_141 : decode cX6_wordOf 141 = .ok (.invokestatic 118, 3) := by decide +kernel
theorem dX6_wordOf_144 : decode cX6_wordOf 144 = .ok (.lreturn, 1) := by decide +kernel
theorem dX6_wordOf_145 : decode cX6_wordOf 145 = .ok (.bipush 109, 2) := by decide +kernel
theorem dX6_wordOf_147 : decode cX6_wordOf 147 = .ok (.bipush 111, 2) := by decide +kernel
theorem dX6_wordOf_149 : decode cX6_wordOf 149 = .ok (.bipush 115, 2) := by decide +kernel
theorem dX6_wordOf_151 : decode cX6_wordOf 151 = .ok (.bipush 116, 2) := by decide +kernel
theorem dX6_wordOf_153 : decode cX6_wordOf 153 = .ok (.iconst 0, 1) := by decide +kernel
theorem dX6_wordOf_154 : decode cX6_wordOf 154 = .ok (.iconst 0, 1) := by decide +kernel
theorem dX6_wordOf_155 : decode cX6_wordOf 155 = .ok (.invokestatic 118, 3) := by decide +kernel
theorem dX6_wordOf_158 : decode cX6_wordOf 158 = .ok (.lreturn, 1) := by decide +kernel
theorem dX6_wordOf_159 : decode cX6_wordOf 159 = .ok (.bipush 108, 2) := by decide +kernel
theorem dX6_wordOf_161 : decode cX6_wordOf 161 = .ok (.bipush 101, 2) := by decide +kernel
theorem dX6_wordOf_163 : decode cX6_wordOf 163 = .ok (.bipush 97, 2) := by decide +kernel
theorem dX6_wordOf_165 : decode cX6_wordOf 165 = .ok (.bipush 115, 2) := by decide +kernel
theorem dX6_wordOf_167 : decode cX6_wordOf 167 = .ok (.bipush 116, 2) := by decide +kernel
theorem dX6_wordOf_169 : decode cX6_wordOf 169 = .ok (.iconst 0, 1) := by decide +kernel
theorem dX6_wordOf_170 : decode cX6_wordOf 170 = .ok (.invokestatic 118, 3) := by decide +kernel
theorem dX6_wordOf_173 : decode cX6_wordOf 173 = .ok (.lreturn, 1) := by decide +kernel
theorem dX6_wordOf_174 : decode cX6_wordOf 174 = .ok (.bipush 108, 2) := by decide +kernel
theorem dX6_wordOf_176 : decode cX6_wordOf 176 = .ok (.bipush 111, 2) := by decide +kernel
theorem dX6_wordOf_178 : decode cX6_wordOf 178 = .ok (.bipush 97, 2) := by decide +kernel
theorem dX6_wordOf_180 : decode cX6_wordOf 180 = .ok (.bipush 100, 2) := by decide +kernel
theorem dX6_wordOf_182 : decode cX6_wordOf 182 = .ok (.iconst 0, 1) := by decide +kernel
theorem dX6_wordOf_183 : decode cX6_wordOf 183 = .ok (.iconst 0, 1) := by decide +kernel
theorem dX6_wordOf_184 : decode cX6_wordOf 184 = .ok (.invokestatic 118, 3) := by decide +kernel
theorem dX6_wordOf_187 : decode cX6_wordOf 187 = .ok (.lreturn, 1) := by decide +kernel
theorem dX6_wordOf_188 : decode cX6_wordOf 188 = .ok (.bipush 115, 2) := by decide +kernel
theorem dX6_wordOf_190 : decode cX6_wordOf 190 = .ok (.bipush 108, 2) := by decide +kernel
theorem dX6_wordOf_192 : decode cX6_wordOf 192 = .ok (.bipush 111, 2) := by decide +kernel
theorem dX6_wordOf_194 : decode cX6_wordOf 194 = .ok (.bipush 112, 2) := by decide +kernel
theorem dX6_wordOf_196 : decode cX6_wordOf 196 = .ok (.bipush 101, 2) := by decide +kernel
theorem dX6_wordOf_198 : decode cX6_wordOf 198 = .ok (.iconst 0, 1) := by decide +kernel
theorem dX6_wordOf_199 : decode cX6_wordOf 199 = .ok (.invokestatic 118, 3) := by decide +kernel
theorem dX6_wordOf_202 : decode cX6_wordOf 202 = .ok (.lreturn, 1) := by decide +kernel
theorem dX6_sortOf_0 : decode cX6_sortOf 0 = .ok (.iconst (-1), 1) := by decide +kernel
theorem dX6_sortOf_1 : decode cX6_sortOf 1 = .ok (.istore_n 3, 1) := by decide +kernel
theorem dX6_sortOf_2 : decode cX6_sortOf 2 = .ok (.iconst 0, 1) := by decide +kernel
theorem dX6_sortOf_3 : decode cX6_sortOf 3 = .ok (.istore 4, 2) := by decide +kernel
theorem dX6_sortOf_5 : decode cX6_sortOf 5 = .ok (.iload 4, 2) := by decide +kernel
theorem dX6_sortOf_7 : decode cX6_sortOf 7 = .ok (.bipush 9, 2) := by decide +kernel
theorem dX6_sortOf_9 : decode cX6_sortOf 9 = .ok (.if_icmp .gt 32, 3) := by decide +kernel
theorem dX6_sortOf_12 : decode cX6_sortOf 12 = .ok (.lload_n 1, 1) := by decide +kernel
theorem dX6_sortOf_13 : decode cX6_sortOf 13 = .ok (.lconst 0, 1) := by decide +kernel
theorem dX6_sortOf_14 : decode cX6_sortOf 14 = .ok (.lcmp, 1) := by decide +kernel
theorem dX6_sortOf_15 : decode cX6_sortOf 15 = .ok (.ifCond .le 18, 3) := by decide +kernel
theorem dX6_sortOf_18 : decode cX6_sortOf 18 = .ok (.iload 4, 2) := by decide +kernel
theorem dX6_sortOf_20 : decode cX6_sortOf 20 = .ok (.invokestatic 122, 3) := by decide +kernel
theorem dX6_sortOf_23 : decode cX6_sortOf 23 = .ok (.lload_n 1, 1) := by decide +kernel
theorem dX6_sortOf_24 : decode cX6_sortOf 24 = .ok (.lcmp, 1) := by decide +kernel
theorem dX6_sortOf_25 : decode cX6_sortOf 25 = .ok (.ifCond .ne 8, 3) := by decide +kernel
theorem dX6_sortOf_28 : decode cX6_sortOf 28 = .ok (.iload 4, 2) := by decide +kernel
theorem dX6_sortOf_30 : decode cX6_sortOf 30 = .ok (.goto 4, 3) := by decide +kernel
theorem dX6_sortOf_33 : decode cX6_sortOf 33 = .ok (.iload_n 3, 1) := by decide +kernel
theorem dX6_sortOf_34 : decode cX6_sortOf 34 = .ok (.istore_n 3, 1) := by decide +kernel
theorem dX6_sortOf_35 : decode cX6_sortOf 35 = .ok (.iinc 4 1, 3) := by decide +kernel
theorem dX6_sortOf_38 : decode cX6_sortOf 38 = .ok (.goto (-33), 3) := by decide +kernel
theorem dX6_sortOf_41 : decode cX6_sortOf 41 = .ok (.iload_n 3, 1) := by decide +kernel
theorem dX6_sortOf_42 : decode cX6_sortOf 42 = .ok (.ireturn, 1) := by decide +kernel
theorem dX6_clockOf_0 : decode cX6_clockOf 0 = .ok (.iconst (-1), 1) := by decide +kernel
theorem dX6_clockOf_1 : decode cX6_clockOf 1 = .ok (.istore_n 3, 1) := by decide +kernel
theorem dX6_clockOf_2 : decode cX6_clockOf 2 = .ok (.iconst 0, 1) := by decide +kernel
theorem dX6_clockOf_3 : decode cX6_clockOf 3 = .ok (.istore 4, 2) := by decide +kernel
theorem dX6_clockOf_5 : decode cX6_clockOf 5 = .ok (.iload 4, 2) := by decide +kernel
theorem dX6_clockOf_7 : decode cX6_clockOf 7 = .ok (.aload_n 0, 1) := by decide +kernel
theorem dX6_clockOf_8 : decode cX6_clockOf 8 = .ok (.getfield 126, 3) := by decide +kernel
theorem dX6_clockOf_11 : decode cX6_clockOf 11 = .ok (.if_icmp .ge 39, 3) := by decide +kernel
theorem dX6_clockOf_14 : decode cX6_clockOf 14 = .ok (.aload_n 0, 1) := by decide +kernel
theorem dX6_clockOf_15 : decode cX6_clockOf 15 = .ok (.getfield 22, 3) := by decide +kernel
theorem dX6_clockOf_18 : decode cX6_clockOf 18 = .ok (.bipush 40, 2) := by decide +kernel
theorem dX6_clockOf_20 : decode cX6_clockOf 20 = .ok (.aload_n 0, 1) := by decide +kernel
theorem dX6_clockOf_21 : decode cX6_clockOf 21 = .ok (.getfield 44, 3) := by decide +kernel
theorem dX6_clockOf_24 : decode cX6_clockOf 24 = .ok (.bipush 12, 2) := by decide +kernel
theorem dX6_clockOf_26 : decode cX6_clockOf 26 = .ok (.iload 4, 2) := by decide +kernel
theorem dX6_clockOf_28 : decode cX6_clockOf 28 = .ok (.iadd, 1) := by decide +kernel
theorem dX6_clockOf_29 : decode cX6_clockOf 29 = .ok (.iaload, 1) := by decide +kernel
theorem dX6_clockOf_30 : decode cX6_clockOf 30 = .ok (.iadd, 1) := by decide +kernel
theorem dX6_clockOf_31 : decode cX6_clockOf 31 = .ok (.laload, 1) := by decide +kernel
theorem dX6_clockOf_32 : decode cX6_clockOf 32 = .ok (.lload_n 1, 1) := by decide +kernel
theorem dX6_clockOf_33 : decode cX6_clockOf 33 = .ok (.lcmp, 1) := by decide +kernel
theorem dX6_clockOf_34 : decode cX6_clockOf 34 = .ok (.ifCond .ne 8, 3) := by decide +kernel
theorem dX6_clockOf_37 : decode cX6_clockOf 37 = .ok (.iload 4, 2) := by decide +kernel
theorem dX6_clockOf_39 : decode cX6_clockOf 39 = .ok (.goto 4, 3) := by decide +kernel
theorem dX6_clockOf_42 : decode cX6_clockOf 42 = .ok (.iload_n 3, 1) := by decide +kernel
theorem dX6_clockOf_43 : decode cX6_clockOf 43 = .ok (.istore_n 3, 1) := by decide +kernel
theorem dX6_clockOf_44 : decode cX6_clockOf 44 = .ok (.iinc 4 1, 3) := by decide +kernel
theorem dX6_clockOf_47 : decode cX6_clockOf 47 = .ok (.goto (-42), 3) := by decide +kernel
theorem dX6_clockOf_50 : decode cX6_clockOf 50 = .ok (.iload_n 3, 1) := by decide +kernel
theorem dX6_clockOf_51 : decode cX6_clockOf 51 = .ok (.ireturn, 1) := by decide +kernel
theorem dX6_takeNew_0 : decode cX6_takeNew 0 = .ok (.aload_n 0, 1) := by decide +kernel
theorem dX6_takeNew_1 : decode cX6_takeNew 1 = .ok (.invokevirtual 129, 3) := by decide +kernel
theorem dX6_takeNew_4 : decode cX6_takeNew 4 = .ok (.lstore_n 2, 1) := by decide +kernel
theorem dX6_takeNew_5 : decode cX6_takeNew 5 = .ok (.aload_n 0, 1) := by decide +kernel
theorem dX6_takeNew_6 : decode cX6_takeNew 6 = .ok (.getfield 66, 3) := by decide +kernel
theorem dX6_takeNew_9 : decode cX6_takeNew 9 = .ok (.aload_n 0, 1) := by decide +kernel
theorem dX6_takeNew_10 : decode cX6_takeNew 10 = .ok (.getfield 133, 3) := by decide +kernel
theorem dX6_takeNew_13 : decode cX6_takeNew 13 = .ok (.aload_n 0, 1) := by decide +kernel
theorem dX6_takeNew_14 : decode cX6_takeNew 14 = .ok (.getfield 92, 3) := by decide +kernel
theorem dX6_takeNew_17 : decode cX6_takeNew 17 = .ok (.iastore, 1) := by decide +kernel
theorem dX6_takeNew_18 : decode cX6_takeNew 18 = .ok (.aload_n 0, 1) := by decide +kernel
theorem dX6_takeNew_19 : decode cX6_takeNew 19 = .ok (.lload_n 2, 1) := by decide +kernel
theorem dX6_takeNew_20 : decode cX6_takeNew 20 = .ok (.lconst 0, 1) := by decide +kernel
theorem dX6_takeNew_21 : decode cX6_takeNew 21 = .ok (.lcmp, 1) := by decide +kernel
theorem dX6_takeNew_22 : decode cX6_takeNew 22 = .ok (.ifCond .le 25, 3) := by decide +kernel
theorem dX6_takeNew_25 : decode cX6_takeNew 25 = .ok (.aload_n 0, 1) := by decide +kernel
theorem dX6_takeNew_26 : decode cX6_takeNew 26 = .ok (.getfield 126, 3) := by decide +kernel
theorem dX6_takeNew_29 : decode cX6_takeNew 29 = .ok (.bipush 12, 2) := by decide +kernel
theorem dX6_takeNew_31 : decode cX6_takeNew 31 = .ok (.if_icmp .ge 16, 3) := by decide +kernel
theorem dX6_takeNew_34 : decode cX6_takeNew 34 = .ok (.aload_n 0, 1) := by decide +kernel
theorem dX6_takeNew_35 : decode cX6_takeNew 35 = .ok (.lload_n 2, 1) := by decide +kernel
theorem dX6_takeNew_36 : decode cX6_takeNew 36 = .ok (.invokevirtual 136, 3) := by decide +kernel
theorem dX6_takeNew_39 : decode cX6_takeNew 39 = .ok (.iconst (-1), 1) := by decide +kernel
theorem dX6_takeNew_40 : decode cX6_takeNew 40 = .ok (.if_icmp .ne 7, 3) := by decide +kernel
theorem dX6_takeNew_43 : decode cX6_takeNew 43 = .ok (.iconst 1, 1) := by decide +kernel
theorem dX6_takeNew_44 : decode cX6_takeNew 44 = .ok (.goto 4, 3) := by decide +kernel
theorem dX6_takeNew_47 : decode cX6_takeNew 47 = .ok (.iconst 0, 1) := by decide +kernel
theorem dX6_takeNew_48 : decode cX6_takeNew 48 = .ok (.invokevirtual 102, 3) := by decide +kernel
theorem dX6_takeNew_51 : decode cX6_takeNew 51 = .ok (.aload_n 0, 1) := by decide +kernel
theorem dX6_takeNew_52 : decode cX6_takeNew 52 = .ok (.getfield 22, 3) := by decide +kernel
theorem dX6_takeNew_55 : decode cX6_takeNew 55 = .ok (.iload_n 1, 1) := by decide +kernel
theorem dX6_takeNew_56 : decode cX6_takeNew 56 = .ok (.lload_n 2, 1) := by decide +kernel
theorem dX6_takeNew_57 : decode cX6_takeNew 57 = .ok (.lastore, 1) := by decide +kernel
theorem dX6_takeNew_58 : decode cX6_takeNew 58 = .ok (.return_, 1) := by decide +kernel
theorem dX6_takeOld_0 : decode cX6_takeOld 0 = .ok (.aload_n 0, 1) := by decide +kernel
theorem dX6_takeOld_1 : decode cX6_takeOld 1 = .ok (.invokevirtual 129, 3) := by decide +kernel
theorem dX6_takeOld_4 : decode cX6_takeOld 4 = .ok (.lstore_n 3, 1) := by decide +kernel
theorem dX6_takeOld_5 : decode cX6_takeOld 5 = .ok (.iload_n 2, 1) := by decide +kernel
theorem dX6_takeOld_6 : decode cX6_takeOld 6 = .ok (.ifCond .eq 26, 3) := by decide +kernel
theorem dX6_takeOld_9 : decode cX6_takeOld 9 = .ok (.aload_n 0, 1) := by decide +kernel
theorem dX6_takeOld_10 : decode cX6_takeOld 10 = .ok (.getfield 66, 3) := by decide +kernel
theorem dX6_takeOld_13 : decode cX6_takeOld 13 = .ok (.aload_n 0, 1) := by decide +kernel
theorem dX6_takeOld_14 : decode cX6_takeOld 14 = .ok (.getfield 133, 3) := by decide +kernel
theorem dX6_takeOld_17 : decode cX6_takeOld 17 = .ok (.aload_n 0, 1) := by decide +kernel
theorem dX6_takeOld_18 : decode cX6_takeOld 18 = .ok (.getfield 92, 3) := by decide +kernel
theorem dX6_takeOld_21 : decode cX6_takeOld 21 = .ok (.iastore, 1) := by decide +kernel
theorem dX6_takeOld_22 : decode cX6_takeOld 22 = .ok (.aload_n 0, 1) := by decide +kernel
theorem dX6_takeOld_23 : decode cX6_takeOld 23 = .ok (.getfield 22, 3) := by decide +kernel
theorem dX6_takeOld_26 : decode cX6_takeOld 26 = .ok (.iload_n 1, 1) := by decide +kernel
theorem dX6_takeOld_27 : decode cX6_takeOld 27 = .ok (.lload_n 3, 1) := by decide +kernel
theorem dX6_takeOld_28 : decode cX6_takeOld 28 = .ok (.lastore, 1) := by decide +kernel
theorem dX6_takeOld_29 : decode cX6_takeOld 29 = .ok (.goto 23, 3) := by decide +kernel
theorem dX6_takeOld_32 : decode cX6_takeOld 32 = .ok (.aload_n 0, 1) := by decide +kernel
theorem dX6_takeOld_33 : decode cX6_takeOld 33 = .ok (.getfield 69, 3) := by decide +kernel
theorem dX6_takeOld_36 : decode cX6_takeOld 36 = .ok (.aload_n 0, 1) := by decide +kernel
theorem dX6_takeOld_37 : decode cX6_takeOld 37 = .ok (.getfield 133, 3) := by decide +kernel
theorem dX6_takeOld_40 : decode cX6_takeOld 40 = .ok (.aload_n 0, 1) := by decide +kernel
theorem dX6_takeOld_41 : decode cX6_takeOld 41 = .ok (.getfield 92, 3) := by decide +kernel
theorem dX6_takeOld_44 : decode cX6_takeOld 44 = .ok (.iastore, 1) := by decide +kernel
theorem dX6_takeOld_45 : decode cX6_takeOld 45 = .ok (.aload_n 0, 1) := by decide +kernel
theorem dX6_takeOld_46 : decode cX6_takeOld 46 = .ok (.getfield 26, 3) := by decide +kernel
theorem dX6_takeOld_49 : decode cX6_takeOld 49 = .ok (.iload_n 1, 1) := by decide +kernel
theorem dX6_takeOld_50 : decode cX6_takeOld 50 = .ok (.lload_n 3, 1) := by decide +kernel
theorem dX6_takeOld_51 : decode cX6_takeOld 51 = .ok (.lastore, 1) := by decide +kernel
theorem dX6_takeOld_52 : decode cX6_takeOld 52 = .ok (.aload_n 0, 1) := by decide +kernel
theorem dX6_takeOld_53 : decode cX6_takeOld 53 = .ok (.lload_n 3, 1) := by decide +kernel
theorem dX6_takeOld_54 : decode cX6_takeOld 54 = .ok (.lconst 0, 1) := by decide +kernel
theorem dX6_takeOld_55 : decode cX6_takeOld 55 = .ok (.lcmp, 1) := by decide +kernel
theorem dX6_takeOld_56 : decode cX6_takeOld 56 = .ok (.ifCond .le 7, 3) := by decide +kernel
theorem dX6_takeOld_59 : decode cX6_takeOld 59 = .ok (.iconst 1, 1) := by decide +kernel
theorem dX6_takeOld_60 : decode cX6_takeOld 60 = .ok (.goto 4, 3) := by decide +kernel
theorem dX6_takeOld_63 : decode cX6_takeOld 63 = .ok (.iconst 0, 1) := by decide +kernel
theorem dX6_takeOld_64 : decode cX6_takeOld 64 = .ok (.invokevirtual 102, 3) := by decide +kernel
theorem dX6_takeOld_67 : decode cX6_takeOld 67 = .ok (.return_, 1) := by decide +kernel
theorem dX6_readClock_0 : decode cX6_readClock 0 = .ok (.aload_n 0, 1) := by decide +kernel
theorem dX6_readClock_1 : decode cX6_readClock 1 = .ok (.iload_n 1, 1) := by decide +kernel
theorem dX6_readClock_2 : decode cX6_readClock 2 = .ok (.invokevirtual 140, 3) := by decide +kernel
theorem dX6_readClock_5 : decode cX6_readClock 5 = .ok (.aload_n 0, 1) := by decide +kernel
theorem dX6_readClock_6 : decode cX6_readClock 6 = .ok (.getfield 29, 3) := by decide +kernel
theorem dX6_readClock_9 : decode cX6_readClock 9 = .ok (.iload_n 1, 1) := by decide +kernel
theorem dX6_readClock_10 : decode cX6_readClock 10 = .ok (.aload_n 0, 1) := by decide +kernel
theorem dX6_readClock_11 : decode cX6_readClock 11 = .ok (.getfield 95, 3) := by decide +kernel
theorem dX6_readClock_14 : decode cX6_readClock 14 = .ok (.ifCond .eq 13, 3) := by decide +kernel
theorem dX6_readClock_17 : decode cX6_readClock 17 = .ok (.aload_n 0, 1) := by decide +kernel
theorem dX6_readClock_18 : decode cX6_readClock 18 = .ok (.iconst 1, 1) := by decide +kernel
theorem dX6_readClock_19 : decode cX6_readClock 19 = .ok (.ldc 144, 2) := by decide +kernel
theorem dX6_readClock_21 : decode cX6_readClock 21 = .ok (.invokevirtual 145, 3) := by decide +kernel
theorem dX6_readClock_24 : decode cX6_readClock 24 = .ok (.goto 4, 3) := by decide +kernel
theorem dX6_readClock_27 : decode cX6_readClock 27 = .ok (.iconst 0, 1) := by decide +kernel
theorem dX6_readClock_28 : decode cX6_readClock 28 = .ok (.iastore, 1) := by decide +kernel
theorem dX6_readClock_29 : decode cX6_readClock 29 = .ok (.aload_n 0, 1) := by decide +kernel
theorem dX6_readClock_30 : decode cX6_readClock 30 = .ok (.getfield 32, 3) := by decide +kernel
theorem dX6_readClock_33 : decode cX6_readClock 33 = .ok (.iload_n 1, 1) := by decide +kernel
theorem dX6_readClock_34 : decode cX6_readClock 34 = .ok (.aload_n 0, 1) := by decide +kernel
theorem dX6_readClock_35 : decode cX6_readClock 35 = .ok (.getfield 95, 3) := by decide +kernel
theorem dX6_readClock_38 : decode cX6_readClock 38 = .ok (.ifCond .eq 19, 3) := by decide +kernel
theorem dX6_readClock_41 : decode cX6_readClock 41 = .ok (.aload_n 0, 1) := by decide +kernel
theorem dX6_readClock_42 : decode cX6_readClock 42 = .ok (.iconst 0, 1) := by decide +kernel
theorem dX6_readClock_43 : decode cX6_readClock 43 = .ok (.aload_n 0, 1) := by decide +kernel
theorem dX6_readClock_44 : decode cX6_readClock 44 = .ok (.getfield 29, 3) := by decide +kernel
theorem dX6_readClock_47 : decode cX6_readClock 47 = .ok (.iload_n 1, 1) := by decide +kernel
theorem dX6_readClock_48 : decode cX6_readClock 48 = .ok (.iaload, 1) := by decide +kernel
theorem dX6_readClock_49 : decode cX6_readClock 49 = .ok (.iconst 1, 1) := by decide +kernel
theorem dX6_readClock_50 : decode cX6_readClock 50 = .ok (.isub, 1) := by decide +kernel
theorem dX6_readClock_51 : decode cX6_readClock 51 = .ok (.invokevirtual 145, 3) := by decide +kernel
theorem dX6_readClock_54 : decode cX6_readClock 54 = .ok (.goto 4, 3) := by decide +kernel
theorem dX6_readClock_57 : decode cX6_readClock 57 = .ok (.iconst 0, 1) := by decide +kernel
theorem dX6_readClock_58 : decode cX6_readClock 58 = .ok (.iastore, 1) := by decide +kernel
theorem dX6_readClock_59 : decode cX6_readClock 59 = .ok (.aload_n 0, 1) := by decide +kernel
theorem dX6_readClock_60 : decode cX6_readClock 60 = .ok (.getfield 95, 3) := by decide +kernel
theorem dX6_readClock_63 : decode cX6_readClock 63 = .ok (.ifCond .eq 10, 3) := by decide +kernel
theorem dX6_readClock_66 : decode cX6_readClock 66 = .ok (.aload_n 0, 1) := by decide +kernel
theorem dX6_readClock_67 : decode cX6_readClock 67 = .ok (.invokevirtual 110, 3) := by decide +kernel
theorem dX6_readClock_70 : decode cX6_readClock 70 = .ok (.goto 4, 3) := by decide +kernel
theorem dX6_readClock_73 : decode cX6_readClock 73 = .ok (.iconst (-1), 1) := by decide +kernel
theorem dX6_readClock_74 : decode cX6_readClock 74 = .ok (.istore_n 2, 1) := by decide +kernel
theorem dX6_readClock_75 : decode cX6_readClock 75 = .ok (.aload_n 0, 1) := by decide +kernel
theorem dX6_readClock_76 : decode cX6_readClock 76 = .ok (.iload_n 2, 1) := by decide +kernel
theorem dX6_readClock_77 : decode cX6_readClock 77 = .ok (.ifCond .lt 27, 3) := by decide +kernel
theorem dX6_readClock_80 : decode cX6_readClock 80 = .ok (.iload_n 2, 1) := by decide +kernel
theorem dX6_readClock_81 : decode cX6_readClock 81 = .ok (.aload_n 0, 1) := by decide +kernel
theorem dX6_readClock_82 : decode cX6_readClock 82 = .ok (.getfield 29, 3) := by decide +kernel
theorem dX6_readClock_85 : decode cX6_readClock 85 = .ok (.iload_n 1, 1) := by decide +kernel
theorem dX6_readClock_86 : decode cX6_readClock 86 = .ok (.iaload, 1) := by decide +kernel
theorem dX6_readClock_87 : decode cX6_readClock 87 = .ok (.if_icmp .ge 17, 3) := by decide +kernel
theorem dX6_readClock_90 : decode cX6_readClock 90 = .ok (.iload_n 2, 1) := by decide +kernel
theorem dX6_readClock_91 : decode cX6_readClock 91 = .ok (.aload_n 0, 1) := by decide +kernel
theorem dX6_readClock_92 : decode cX6_readClock 92 = .ok (.getfield 32, 3) := by decide +kernel
theorem dX6_readClock_95 : decode cX6_readClock 95 = .ok (.iload_n 1, 1) := by decide +kernel
theorem dX6_readClock_96 : decode cX6_readClock 96 = .ok (.iaload, 1) := by decide +kernel
theorem dX6_readClock_97 : decode cX6_readClock 97 = .ok (.if_icmp .eq 7, 3) := by decide +kernel
theorem dX6_readClock_100 : decode cX6_readClock 100 = .ok (.iconst 1, 1) := by decide +kernel
theorem dX6_readClock_101 : decode cX6_readClock 101 = .ok (.goto 4, 3) := by decide +kernel
theorem dX6_readClock_104 : decode cX6_readClock 104 = .ok (.iconst 0, 1) := by decide +kernel
theorem dX6_readClock_105 : decode cX6_readClock 105 = .ok (.invokevirtual 102, 3) := by decide +kernel
theorem dX6_readClock_108 : decode cX6_readClock 108 = .ok (.aload_n 0, 1) := by decide +kernel
theorem dX6_readClock_109 : decode cX6_readClock 109 = .ok (.getfield 35, 3) := by decide +kernel
theorem dX6_readClock_112 : decode cX6_readClock 112 = .ok (.iload_n 1, 1) := by decide +kernel
theorem dX6_readClock_113 : decode cX6_readClock 113 = .ok (.iload_n 2, 1) := by decide +kernel
theorem dX6_readClock_114 : decode cX6_readClock 114 = .ok (.iastore, 1) := by decide +kernel
theorem dX6_readClock_115 : decode cX6_readClock 115 = .ok (.aload_n 0, 1) := by decide +kernel
theorem dX6_readClock_116 : decode cX6_readClock 116 = .ok (.getfield 95, 3) := by decide +kernel
theorem dX6_readClock_119 : decode cX6_readClock 119 = .ok (.ifCond .eq 10, 3) := by decide +kernel
theorem dX6_readClock_122 : decode cX6_readClock 122 = .ok (.aload_n 0, 1) := by decide +kernel
theorem dX6_readClock_123 : decode cX6_readClock 123 = .ok (.iload_n 1, 1) := by decide +kernel
theorem dX6_readClock_124 : decode cX6_readClock 124 = .ok (.iconst 0, 1) := by decide +kernel
theorem dX6_readClock_125 : decode cX6_readClock 125 = .ok (.iconst 0, 1) := by decide +kernel
theorem dX6_readClock_126 : decode cX6_readClock 126 = .ok (.invokevirtual 149, 3) := by decide +kernel
theorem dX6_readClock_129 : decode cX6_readClock 129 = .ok (.return_, 1) := by decide +kernel
theorem dX6_readDerived_0 : decode cX6_readDerived 0 = .ok (.aload_n 0, 1) := by decide +kernel
theorem dX6_readDerived_1 : decode cX6_readDerived 1 = .ok (.iload_n 1, 1) := by decide +kernel
theorem dX6_readDerived_2 : decode cX6_readDerived 2 = .ok (.invokevirtual 140, 3) := by decide +kernel
theorem dX6_readDerived_5 : decode cX6_readDerived 5 = .ok (.aload_n 0, 1) := by decide +kernel
theorem dX6_readDerived_6 : decode cX6_readDerived 6 = .ok (.getfield 95, 3) := by decide +kernel
theorem dX6_readDerived_9 : decode cX6_readDerived 9 = .ok (.ifCond .eq 9, 3) := by decide +kernel
theorem dX6_readDerived_12 : decode cX6_readDerived 12 = .ok (.aload_n 0, 1) := by decide +kernel
theorem dX6_readDerived_13 : decode cX6_readDerived 13 = .ok (.iload_n 1, 1) := by decide +kernel
theorem dX6_readDerived_14 : decode cX6_readDerived 14 = .ok (.iconst 0, 1) := by decide +kernel
theorem dX6_readDerived_15 : decode cX6_readDerived 15 = .ok (.invokevirtual 153, 3) := by decide +kernel
theorem dX6_readDerived_18 : decode cX6_readDerived 18 = .ok (.aload_n 0, 1) := by decide +kernel
theorem dX6_readDerived_19 : decode cX6_readDerived 19 = .ok (.getfield 29, 3) := by decide +kernel
theorem dX6_readDerived_22 : decode cX6_readDerived 22 = .ok (.iload_n 1, 1) := by decide +kernel
theorem dX6_readDerived_23 : decode cX6_readDerived 23 = .ok (.aload_n 0, 1) := by decide +kernel
theorem dX6_readDerived_24 : decode cX6_readDerived 24 = .ok (.getfield 95, 3) := by decide +kernel
theorem dX6_readDerived_27 : decode cX6_readDerived 27 = .ok (.ifCond .eq 14, 3) := by decide +kernel
theorem dX6_readDerived_30 : decode cX6_readDerived 30 = .ok (.aload_n 0, 1) := by decide +kernel
theorem dX6_readDerived_31 : decode cX6_readDerived 31 = .ok (.iconst 1, 1) := by decide +kernel
theorem dX6_readDerived_32 : decode cX6_readDerived 32 = .ok (.sipush 1000, 3) := by decide +kernel
theorem dX6_readDerived_35 : decode cX6_readDerived 35 = .ok (.invokevirtual 145, 3) := by decide +kernel
theorem dX6_readDerived_38 : decode cX6_readDerived 38 = .ok (.goto 4, 3) := by decide +kernel
theorem dX6_readDerived_41 : decode cX6_readDerived 41 = .ok (.iconst 0, 1) := by decide +kernel
theorem dX6_readDerived_42 : decode cX6_readDerived 42 = .ok (.iastore, 1) := by decide +kernel
theorem dX6_readDerived_43 : decode cX6_readDerived 43 = .ok (.aload_n 0, 1) := by decide +kernel
theorem dX6_readDerived_44 : decode cX6_readDerived 44 = .ok (.getfield 32, 3) := by decide +kernel
theorem dX6_readDerived_47 : decode cX6_readDerived 47 = .ok (.iload_n 1, 1) := by decide +kernel
theorem dX6_readDerived_48 : decode cX6_readDerived 48 = .ok (.aload_n 0, 1) := by decide +kernel
theorem dX6_readDerived_49 : decode cX6_readDerived 49 = .ok (.getfield 95, 3) := by decide +kernel
theorem dX6_readDerived_52 : decode cX6_readDerived 52 = .ok (.ifCond .eq 14, 3) := by decide +kernel
theorem dX6_readDerived_55 : decode cX6_readDerived 55 = .ok (.aload_n 0, 1) := by decide +kernel
theorem dX6_readDerived_56 : decode cX6_readDerived 56 = .ok (.iconst 1, 1) := by decide +kernel
theorem dX6_readDerived_57 : decode cX6_readDerived 57 = .ok (.sipush 1000, 3) := by decide +kernel
theorem dX6_readDerived_60 : decode cX6_readDerived 60 = .ok (.invokevirtual 145, 3) := by decide +kernel
theorem dX6_readDerived_63 : decode cX6_readDerived 63 = .ok (.goto 4, 3) := by decide +kernel
theorem dX6_readDerived_66 : decode cX6_readDerived 66 = .ok (.iconst 0, 1) := by decide +kernel
theorem dX6_readDerived_67 : decode cX6_readDerived 67 = .ok (.iastore, 1) := by decide +kernel
theorem dX6_readDerived_68 : decode cX6_readDerived 68 = .ok (.aload_n 0, 1) := by decide +kernel
theorem dX6_readDerived_69 : decode cX6_readDerived 69 = .ok (.getfield 95, 3) := by decide +kernel
theorem dX6_readDerived_72 : decode cX6_readDerived 72 = .ok (.ifCond .eq 10, 3) := by decide +kernel
theorem dX6_readDerived_75 : decode cX6_readDerived 75 = .ok (.aload_n 0, 1) := by decide +kernel
theorem dX6_readDerived_76 : decode cX6_readDerived 76 = .ok (.iload_n 1, 1) := by decide +kernel
theorem dX6_readDerived_77 : decode cX6_readDerived 77 = .ok (.iconst 0, 1) := by decide +kernel
theorem dX6_readDerived_78 : decode cX6_readDerived 78 = .ok (.iconst 0, 1) := by decide +kernel
theorem dX6_readDerived_79 : decode cX6_readDerived 79 = .ok (.invokevirtual 149, 3) := by decide +kernel
theorem dX6_readDerived_82 : decode cX6_readDerived 82 = .ok (.return_, 1) := by decide +kernel
theorem dX6_readException_0 : decode cX6_readException 0 = .ok (.iconst 0, 1) := by decide +kernel
theorem dX6_readException_1 : decode cX6_readException 1 = .ok (.istore_n 2, 1) := by decide +kernel
theorem dX6_readException_2 : decode cX6_readException 2 = .ok (.iload_n 2, 1) := by decide +kernel
theorem dX6_readException_3 : decode cX6_readException 3 = .ok (.iconst 3, 1) := by decide +kernel
theorem dX6_readException_4 : decode cX6_readException 4 = .ok (.if_icmp .ge 56, 3) := by decide +kernel
theorem dX6_readException_7 : decode cX6_readException 7 = .ok (.aload_n 0, 1) := by decide +kernel
theorem dX6_readException_8 : decode cX6_readException 8 = .ok (.getfield 95, 3) := by decide +kernel
theorem dX6_readException_11 : decode cX6_readException 11 = .ok (.ifCond .eq 49, 3) := by decide +kernel
theorem dX6_readException_14 : decode cX6_readException 14 = .ok (.iload_n 2, 1) := by decide +kernel
theorem dX6_readException_15 : decode cX6_readException 15 = .ok (.iconst 2, 1) := by decide +kernel
theorem dX6_readException_16 : decode cX6_readException 16 = .ok (.if_icmp .lt 25, 3) := by decide +kernel
theorem dX6_readException_19 : decode cX6_readException 19 = .ok (.aload_n 0, 1) := by decide +kernel
theorem dX6_readException_20 : decode cX6_readException 20 = .ok (.getfield 41, 3) := by decide +kernel
theorem dX6_readException_23 : decode cX6_readException 23 = .ok (.iconst 3, 1) := by decide +kernel
theorem dX6_readException_24 : decode cX6_readException 24 = .ok (.iload_n 1, 1) := by decide +kernel
theorem dX6_readException_25 : decode cX6_readException 25 = .ok (.imul, 1) := by decide +kernel
theorem dX6_readException_26 : decode cX6_readException 26 = .ok (.iaload, 1) := by decide +kernel
theorem dX6_readException_27 : decode cX6_readException 27 = .ok (.aload_n 0, 1) := by decide +kernel
theorem dX6_readException_28 : decode cX6_readException 28 = .ok (.getfield 41, 3) := by decide +kernel
theorem dX6_readException_31 : decode cX6_readException 31 = .ok (.iconst 3, 1) := by decide +kernel
theorem dX6_readException_32 : decode cX6_readException 32 = .ok (.iload_n 1, 1) := by decide +kernel
theorem dX6_readException_33 : decode cX6_readException 33 = .ok (.imul, 1) := by decide +kernel
theorem dX6_readException_34 : decode cX6_readException 34 = .ok (.iconst 1, 1) := by decide +kernel
theorem dX6_readException_35 : decode cX6_readException 35 = .ok (.iadd, 1) := by decide +kernel
theorem dX6_readException_36 : decode cX6_readException 36 = .ok (.iaload, 1) := by decide +kernel
theorem dX6_readException_37 : decode cX6_readException 37 = .ok (.iadd, 1) := by decide +kernel
theorem dX6_readException_38 : decode cX6_readException 38 = .ok (.ifCond .le 7, 3) := by decide +kernel
theorem dX6_readException_41 : decode cX6_readException 41 = .ok (.iconst 1, 1) := by decide +kernel
theorem dX6_readException_42 : decode cX6_readException 42 = .ok (.goto 4, 3) := by decide +kernel
theorem dX6_readException_45 : decode cX6_readException 45 = .ok (.iconst 0, 1) := by decide +kernel
theorem dX6_readException_46 : decode cX6_readException 46 = .ok (.istore_n 3, 1) := by decide +kernel
theorem dX6_readException_47 : decode cX6_readException 47 = .ok (.aload_n 0, 1) := by decide +kernel
theorem dX6_readException_48 : decode cX6_readException 48 = .ok (.iload_n 1, 1) := by decide +kernel
theorem dX6_readException_49 : decode cX6_readException 49 = .ok (.iload_n 2, 1) := by decide +kernel
theorem dX6_readException_50 : decode cX6_readException 50 = .ok (.iload_n 3, 1) := by decide +kernel
theorem dX6_readException_51 : decode cX6_readException 51 = .ok (.invokevirtual 149, 3) := by decide +kernel
theorem dX6_readException_54 : decode cX6_readException 54 = .ok (.iinc 2 1, 3) := by decide +kernel
theorem dX6_readException_57 : decode cX6_readException 57 = .ok (.goto (-55), 3) := by decide +kernel
theorem dX6_readException_60 : decode cX6_readException 60 = .ok (.return_, 1) := by decide +kernel
theorem dX6_readRow_0 : decode cX6_readRow 0 = .ok (.bipush 40, 2) := by decide +kernel
theorem dX6_readRow_2 : decode cX6_readRow 2 = .ok (.aload_n 0, 1) := by decide +kernel
theorem dX6_readRow_3 : decode cX6_readRow 3 = .ok (.getfield 133, 3) := by decide +kernel
theorem dX6_readRow_6 : decode cX6_readRow 6 = .ok (.iadd, 1) := by decide +kernel
theorem dX6_readRow_7 : decode cX6_readRow 7 = .ok (.istore_n 1, 1) := by decide +kernel
theorem dX6_readRow_8 : decode cX6_readRow 8 = .ok (.aload_n 0, 1) := by decide +kernel
theorem dX6_readRow_9 : decode cX6_readRow 9 = .ok (.aload_n 0, 1) := by decide +kernel
theorem dX6_readRow_10 : decode cX6_readRow 10 = .ok (.invokevirtual 129, 3) := by decide +kernel
theorem dX6_readRow_13 : decode cX6_readRow 13 = .ok (.invokevirtual 157, 3) := by decide +kernel
theorem dX6_readRow_16 : decode cX6_readRow 16 = .ok (.istore_n 2, 1) := by decide +kernel
theorem dX6_readRow_17 : decode cX6_readRow 17 = .ok (.aload_n 0, 1) := by decide +kernel
theorem dX6_readRow_18 : decode cX6_readRow 18 = .ok (.iload_n 2, 1) := by decide +kernel
theorem dX6_readRow_19 : decode cX6_readRow 19 = .ok (.iconst (-1), 1) := by decide +kernel
theorem dX6_readRow_20 : decode cX6_readRow 20 = .ok (.if_icmp .eq 16, 3) := by decide +kernel
theorem dX6_readRow_23 : decode cX6_readRow 23 = .ok (.aload_n 0, 1) := by decide +kernel
theorem dX6_readRow_24 : decode cX6_readRow 24 = .ok (.getfield 133, 3) := by decide +kernel
theorem dX6_readRow_27 : decode cX6_readRow 27 = .ok (.bipush 40, 2) := by decide +kernel
theorem dX6_readRow_29 : decode cX6_readRow 29 = .ok (.if_icmp .ge 7, 3) := by decide +kernel
theorem dX6_readRow_32 : decode cX6_readRow 32 = .ok (.iconst 1, 1) := by decide +kernel
theorem dX6_readRow_33 : decode cX6_readRow 33 = .ok (.goto 4, 3) := by decide +kernel
theorem dX6_readRow_36 : decode cX6_readRow 36 = .ok (.iconst 0, 1) := by decide +kernel
theorem dX6_readRow_37 : decode cX6_readRow 37 = .ok (.invokevirtual 102, 3) := by decide +kernel
theorem dX6_readRow_40 : decode cX6_readRow 40 = .ok (.aload_n 0, 1) := by decide +kernel
theorem dX6_readRow_41 : decode cX6_readRow 41 = .ok (.getfield 95, 3) := by decide +kernel
theorem dX6_readRow_44 : decode cX6_readRow 44 = .ok (.ifCond .ne 4, 3) := by decide +kernel
theorem dX6_readRow_47 : decode cX6_readRow 47 = .ok (.return_, 1) := by decide +kernel
theorem dX6_readRow_48 : decode cX6_readRow 48 = .ok (.aload_n 0, 1) := by decide +kernel
theorem dX6_readRow_49 : decode cX6_readRow 49 = .ok (.getfield 19, 3) := by decide +kernel
theorem dX6_readRow_52 : decode cX6_readRow 52 = .ok (.iload_n 1, 1) := by decide +kernel
theorem dX6_readRow_53 : decode cX6_readRow 53 = .ok (.iload_n 2, 1) := by decide +kernel
theorem dX6_readRow_54 : decode cX6_readRow 54 = .ok (.iastore, 1) := by decide +kernel
theorem dX6_readRow_55 : decode cX6_readRow 55 = .ok (.aload_n 0, 1) := by decide +kernel
theorem dX6_readRow_56 : decode cX6_readRow 56 = .ok (.getfield 29, 3) := by decide +kernel
theorem dX6_readRow_59 : decode cX6_readRow 59 = .ok (.iload_n 1, 1) := by decide +kernel
theorem dX6_readRow_60 : decode cX6_readRow 60 = .ok (.iconst 0, 1) := by decide +kernel
theorem dX6_readRow_61 : decode cX6_readRow 61 = .ok (.iastore, 1) := by decide +kernel
theorem dX6_readRow_62 : decode cX6_readRow 62 = .ok (.iconst 0, 1) := by decide +kernel
theorem dX6_readRow_63 : decode cX6_readRow 63 = .ok (.istore_n 3, 1) := by decide +kernel
theorem dX6_readRow_64 : decode cX6_readRow 64 = .ok (.iload_n 3, 1) := by decide +kernel
theorem dX6_readRow_65 : decode cX6_readRow 65 = .ok (.iconst 3, 1) := by decide +kernel
theorem dX6_readRow_66 : decode cX6_readRow 66 = .ok (.if_icmp .ge 20, 3) := by decide +kernel
theorem dX6_readRow_69 : decode cX6_readRow 69 = .ok (.aload_n 0, 1) := by decide +kernel
theorem dX6_readRow_70 : decode cX6_readRow 70 = .ok (.getfield 41, 3) := by decide +kernel
theorem dX6_readRow_73 : decode cX6_readRow 73 = .ok (.iconst 3, 1) := by decide +kernel
theorem dX6_readRow_74 : decode cX6_readRow 74 = .ok (.iload_n 1, 1) := by decide +kernel
theorem dX6_readRow_75 : decode cX6_readRow 75 = .ok (.imul, 1) := by decide +kernel
theorem dX6_readRow_76 : decode cX6_readRow 76 = .ok (.iload_n 3, 1) := by decide +kernel
theorem dX6_readRow_77 : decode cX6_readRow 77 = .ok (.iadd, 1) := by decide +kernel
theorem dX6_readRow_78 : decode cX6_readRow 78 = .ok (.iconst 0, 1) := by decide +kernel
theorem dX6_readRow_79 : decode cX6_readRow 79 = .ok (.iastore, 1) := by decide +kernel
theorem dX6_readRow_80 : decode cX6_readRow 80 = .ok (.iinc 3 1, 3) := by decide +kernel
theorem dX6_readRow_83 : decode cX6_readRow 83 = .ok (.goto (-19), 3) := by decide +kernel
theorem dX6_readRow_86 : decode cX6_readRow 86 = .ok (.iload_n 2, 1) := by decide +kernel
theorem dX6_readRow_87 : decode cX6_readRow 87 = .ok (.ifCond .ne 11, 3) := by decide +kernel
theorem dX6_readRow_90 : decode cX6_readRow 90 = .ok (.aload_n 0, 1) := by decide +kernel
theorem dX6_readRow_91 : decode cX6_readRow 91 = .ok (.iload_n 1, 1) := by decide +kernel
theorem dX6_readRow_92 : decode cX6_readRow 92 = .ok (.invokevirtual 160, 3) := by decide +kernel
theorem dX6_readRow_95 : decode cX6_readRow 95 = .ok (.goto 136, 3) := by decide +kernel
theorem dX6_readRow_98 : decode cX6_readRow 98 = .ok (.iload_n 2, 1) := by decide +kernel
theorem dX6_readRow_99 : decode cX6_readRow 99 = .ok (.iconst 1, 1) := by decide +kernel
theorem dX6_readRow_100 : decode cX6_readRow 100 = .ok (.if_icmp .eq 8, 3) := by decide +kernel
theorem dX6_readRow_103 : decode cX6_readRow 103 = .ok (.iload_n 2, 1) := by decide +kernel
theorem dX6_readRow_104 : decode cX6_readRow 104 = .ok (.iconst 2, 1) := by decide +kernel
theorem dX6_readRow_105 : decode cX6_readRow 105 = .ok (.if_icmp .ne 11, 3) := by decide +kernel
theorem dX6_readRow_108 : decode cX6_readRow 108 = .ok (.aload_n 0, 1) := by decide +kernel
theorem dX6_readRow_109 : decode cX6_readRow 109 = .ok (.iload_n 1, 1) := by decide +kernel
theorem dX6_readRow_110 : decode cX6_readRow 110 = .ok (.invokevirtual 163, 3) := by decide +kernel
theorem dX6_readRow_113 : decode cX6_readRow 113 = .ok (.goto 118, 3) := by decide +kernel
theorem dX6_readRow_116 : decode cX6_readRow 116 = .ok (.iload_n 2, 1) := by decide +kernel
theorem dX6_readRow_117 : decode cX6_readRow 117 = .ok (.iconst 3, 1) := by decide +kernel
theorem dX6_readRow_118 : decode cX6_readRow 118 = .ok (.if_icmp .ne 25, 3) := by decide +kernel
theorem dX6_readRow_121 : decode cX6_readRow 121 = .ok (.aload_n 0, 1) := by decide +kernel
theorem dX6_readRow_122 : decode cX6_readRow 122 = .ok (.iload_n 1, 1) := by decide +kernel
theorem dX6_readRow_123 : decode cX6_readRow 123 = .ok (.iconst 1, 1) := by decide +kernel
theorem dX6_readRow_124 : decode cX6_readRow 124 = .ok (.invokevirtual 153, 3) := by decide +kernel
theorem dX6_readRow_127 : decode cX6_readRow 127 = .ok (.aload_n 0, 1) := by decide +kernel
theorem dX6_readRow_128 : decode cX6_readRow 128 = .ok (.getfield 95, 3) := by decide +kernel
theorem dX6_readRow_131 : decode cX6_readRow 131 = .ok (.ifCond .eq 100, 3) := by decide +kernel
theorem dX6_readRow_134 : decode cX6_readRow 134 = .ok (.aload_n 0, 1) := by decide +kernel
theorem dX6_readRow_135 : decode cX6_readRow 135 = .ok (.iload_n 1, 1) := by decide +kernel
theorem dX6_readRow_136 : decode cX6_readRow 136 = .ok (.iconst 0, 1) := by decide +kernel
theorem dX6_readRow_137 : decode cX6_readRow 137 = .ok (.invokevirtual 153, 3) := by decide +kernel
theorem dX6_readRow_140 : decode cX6_readRow 140 = .ok (.goto 91, 3) := by decide +kernel
theorem dX6_readRow_143 : decode cX6_readRow 143 = .ok (.iload_n 2, 1) := by decide +kernel
theorem dX6_readRow_144 : decode cX6_readRow 144 = .ok (.iconst 4, 1) := by decide +kernel
theorem dX6_readRow_145 : decode cX6_readRow 145 = .ok (.if_icmp .ne 11, 3) := by decide +kernel
theorem dX6_readRow_148 : decode cX6_readRow 148 = .ok (.aload_n 0, 1) := by decide +kernel
theorem dX6_readRow_149 : decode cX6_readRow 149 = .ok (.iload_n 1, 1) := by decide +kernel
theorem dX6_readRow_150 : decode cX6_readRow 150 = .ok (.invokevirtual 166, 3) := by decide +kernel
theorem dX6_readRow_153 : decode cX6_readRow 153 = .ok (.goto 78, 3) := by decide +kernel
theorem dX6_readRow_156 : decode cX6_readRow 156 = .ok (.iload_n 2, 1) := by decide +kernel
theorem dX6_readRow_157 : decode cX6_readRow 157 = .ok (.bipush 8, 2) := by decide +kernel
theorem dX6_readRow_159 : decode cX6_readRow 159 = .ok (.if_icmp .eq 9, 3) := by decide +kernel
theorem dX6_readRow_162 : decode cX6_readRow 162 = .ok (.iload_n 2, 1) := by decide +kernel
theorem dX6_readRow_163 : decode cX6_readRow 163 = .ok (.bipush 9, 2) := by decide +kernel
theorem dX6_readRow_165 : decode cX6_readRow 165 = .ok (.if_icmp .ne 33, 3) := by decide +kernel
theorem dX6_readRow_168 : decode cX6_readRow 168 = .ok (.aload_n 0, 1) := by decide +kernel
theorem dX6_readRow_169 : decode cX6_readRow 169 = .ok (.getfield 29, 3) := by decide +kernel
theorem dX6_readRow_172 : decode cX6_readRow 172 = .ok (.iload_n 1, 1) := by decide +kernel
theorem dX6_readRow_173 : decode cX6_readRow 173 = .ok (.aload_n 0, 1) := by decide +kernel
theorem dX6_readRow_174 : decode cX6_readRow 174 = .ok (.iconst 0, 1) := by decide +kernel
theorem dX6_readRow_175 : decode cX6_readRow 175 = .ok (.ldc 144, 2) := by decide +kernel
theorem dX6_readRow_177 : decode cX6_readRow 177 = .ok (.invokevirtual 145, 3) := by decide +kernel
theorem dX6_readRow_180 : decode cX6_readRow 180 = .ok (.iastore, 1) := by decide +kernel
theorem dX6_readRow_181 : decode cX6_readRow 181 = .ok (.aload_n 0, 1) := by decide +kernel
theorem dX6_readRow_182 : decode cX6_readRow 182 = .ok (.getfield 95, 3) := by decide +kernel
theorem dX6_readRow_185 : decode cX6_readRow 185 = .ok (.ifCond .eq 46, 3) := by decide +kernel
theorem dX6_readRow_188 : decode cX6_readRow 188 = .ok (.aload_n 0, 1) := by decide +kernel
theorem dX6_readRow_189 : decode cX6_readRow 189 = .ok (.iload_n 1, 1) := by decide +kernel
theorem dX6_readRow_190 : decode cX6_readRow 190 = .ok (.iconst 0, 1) := by decide +kernel
theorem dX6_readRow_191 : decode cX6_readRow 191 = .ok (.iconst 0, 1) := by decide +kernel
theorem dX6_readRow_192 : decode cX6_readRow 192 = .ok (.invokevirtual 149, 3) := by decide +kernel
theorem dX6_readRow_195 : decode cX6_readRow 195 = .ok (.goto 36, 3) := by decide +kernel
theorem dX6_readRow_198 : decode cX6_readRow 198 = .ok (.aload_n 0, 1) := by decide +kernel
theorem dX6_readRow_199 : decode cX6_readRow 199 = .ok (.getfield 29, 3) := by decide +kernel
theorem dX6_readRow_202 : decode cX6_readRow 202 = .ok (.iload_n 1, 1) := by decide +kernel
theorem dX6_readRow_203 : decode cX6_readRow 203 = .ok (.iload_n 2, 1) := by decide +kernel
theorem dX6_readRow_204 : decode cX6_readRow 204 = .ok (.iconst 5, 1) := by decide +kernel
theorem dX6_readRow_205 : decode cX6_readRow 205 = .ok (.if_icmp .ne 13, 3) := by decide +kernel
theorem dX6_readRow_208 : decode cX6_readRow 208 = .ok (.aload_n 0, 1) := by decide +kernel
theorem dX6_readRow_209 : decode cX6_readRow 209 = .ok (.iconst 2, 1) := by decide +kernel
theorem dX6_readRow_210 : decode cX6_readRow 210 = .ok (.bipush 100, 2) := by decide +kernel
theorem dX6_readRow_212 : decode cX6_readRow 212 = .ok (.invokevirtual 145, 3) := by decide +kernel
theorem dX6_readRow_215 : decode cX6_readRow 215 = .ok (.goto 10, 3) := by decide +kernel
theorem dX6_readRow_218 : decode cX6_readRow 218 = .ok (.aload_n 0, 1) := by decide +kernel
theorem dX6_readRow_219 : decode cX6_readRow 219 = .ok (.iconst 0, 1) := by decide +kernel
theorem dX6_readRow_220 : decode cX6_readRow 220 = .ok (.ldc 144, 2) := by decide +kernel
theorem dX6_readRow_222 : decode cX6_readRow 222 = .ok (.invokevirtual 145, 3) := by decide +kernel
theorem dX6_readRow_225 : decode cX6_readRow 225 = .ok (.iastore, 1) := by decide +kernel
theorem dX6_readRow_226 : decode cX6_readRow 226 = .ok (.aload_n 0, 1) := by decide +kernel
theorem dX6_readRow_227 : decode cX6_readRow 227 = .ok (.iload_n 1, 1) := by decide +kernel
theorem dX6_readRow_228 : decode cX6_readRow 228 = .ok (.invokevirtual 166, 3) := by decide +kernel
theorem dX6_readRow_231 : decode cX6_readRow 231 = .ok (.aload_n 0, 1) := by decide +kernel
theorem dX6_readRow_232 : decode cX6_readRow 232 = .ok (.getfield 95, 3) := by decide +kernel
theorem dX6_readRow_235 : decode cX6_readRow 235 = .ok (.ifCond .eq 7, 3) := by decide +kernel
theorem dX6_readRow_238 : decode cX6_readRow 238 = .ok (.aload_n 0, 1) := by decide +kernel
theorem dX6_readRow_239 : decode cX6_readRow 239 = .ok (.invokevirtual 169, 3) := by decide +kernel
theorem dX6_readRow_242 : decode cX6_readRow 242 = .ok (.aload_n 0, 1) := by decide +kernel
theorem dX6_readRow_243 : decode cX6_readRow 243 = .ok (.getfield 95, 3) := by decide +kernel
theorem dX6_readRow_246 : decode cX6_readRow 246 = .ok (.ifCond .eq 44, 3) := by decide +kernel
theorem dX6_readRow_249 : decode cX6_readRow 249 = .ok (.iload_n 2, 1) := by decide +kernel
theorem dX6_readRow_250 : decode cX6_readRow 250 = .ok (.iconst 2, 1) := by decide +kernel
theorem dX6_readRow_251 : decode cX6_readRow 251 = .ok (.if_icmp .gt 29, 3) := by decide +kernel
theorem dX6_readRow_254 : decode cX6_readRow 254 = .ok (.aload_n 0, 1) := by decide +kernel
theorem dX6_readRow_255 : decode cX6_readRow 255 = .ok (.getfield 44, 3) := by decide +kernel
theorem dX6_readRow_258 : decode cX6_readRow 258 = .ok (.bipush 12, 2) := by decide +kernel
theorem dX6_readRow_260 : decode cX6_readRow 260 = .ok (.aload_n 0, 1) := by decide +kernel
theorem dX6_readRow_261 : decode cX6_readRow 261 = .ok (.getfield 126, 3) := by decide +kernel
theorem dX6_readRow_264 : decode cX6_readRow 264 = .ok (.iadd, 1) := by decide +kernel
theorem dX6_readRow_265 : decode cX6_readRow 265 = .ok (.aload_n 0, 1) := by decide +kernel
theorem dX6_readRow_266 : decode cX6_readRow 266 = .ok (.getfield 133, 3) := by decide +kernel
theorem dX6_readRow_269 : decode cX6_readRow 269 = .ok (.iastore, 1) := by decide +kernel
theorem dX6_readRow_270 : decode cX6_readRow 270 = .ok (.aload_n 0, 1) := by decide +kernel
theorem dX6_readRow_271 : decode cX6_readRow 271 = .ok (.dup, 1) := by decide +kernel
theorem dX6_readRow_272 : decode cX6_readRow 272 = .ok (.getfield 126, 3) := by decide +kernel
theorem dX6_readRow_275 : decode cX6_readRow 275 = .ok (.iconst 1, 1) := by decide +kernel
theorem dX6_readRow_276 : decode cX6_readRow 276 = .ok (.iadd, 1) := by decide +kernel
theorem dX6_readRow_277 : decode cX6_readRow 277 = .ok (.putfield 126, 3) := by decide +kernel
theorem dX6_readRow_280 : decode cX6_readRow 280 = .ok (.aload_n 0, 1) := by decide +kernel
theorem dX6_readRow_281 : decode cX6_readRow 281 = .ok (.dup, 1) := by decide +kernel
theorem dX6_readRow_282 : decode cX6_readRow 282 = .ok (.getfield 133, 3) := by decide +kernel
theorem dX6_readRow_285 : decode cX6_readRow 285 = .ok (.iconst 1, 1) := by decide +kernel
theorem dX6_readRow_286 : decode cX6_readRow 286 = .ok (.iadd, 1) := by decide +kernel
theorem dX6_readRow_287 : decode cX6_readRow 287 = .ok (.putfield 133, 3) := by decide +kernel
theorem dX6_readRow_290 : decode cX6_readRow 290 = .ok (.return_, 1) := by decide +kernel
theorem dX6_unknown_0 : decode cX6_unknown 0 = .ok (.iconst 0, 1) := by decide +kernel
theorem dX6_unknown_1 : decode cX6_unknown 1 = .ok (.istore_n 1, 1) := by decide +kernel
theorem dX6_unknown_2 : decode cX6_unknown 2 = .ok (.iload_n 1, 1) := by decide +kernel
theorem dX6_unknown_3 : decode cX6_unknown 3 = .ok (.aload_n 0, 1) := by decide +kernel
theorem dX6_unknown_4 : decode cX6_unknown 4 = .ok (.getfield 133, 3) := by decide +kernel
theorem dX6_unknown_7 : decode cX6_unknown 7 = .ok (.if_icmp .ge 82, 3) := by decide +kernel
theorem dX6_unknown_10 : decode cX6_unknown 10 = .ok (.aload_n 0, 1) := by decide +kernel
theorem dX6_unknown_11 : decode cX6_unknown 11 = .ok (.getfield 19, 3) := by decide +kernel
theorem dX6_unknown_14 : decode cX6_unknown 14 = .ok (.bipush 40, 2) := by decide +kernel
theorem dX6_unknown_16 : decode cX6_unknown 16 = .ok (.iload_n 1, 1) := by decide +kernel
theorem dX6_unknown_17 : decode cX6_unknown 17 = .ok (.iadd, 1) := by decide +kernel
theorem dX6_unknown_18 : decode cX6_unknown 18 = .ok (.iaload, 1) := by decide +kernel
theorem dX6_unknown_19 : decode cX6_unknown 19 = .ok (.istore_n 2, 1) := by decide +kernel
theorem dX6_unknown_20 : decode cX6_unknown 20 = .ok (.iload_n 2, 1) := by decide +kernel
theorem dX6_unknown_21 : decode cX6_unknown 21 = .ok (.iconst 3, 1) := by decide +kernel
theorem dX6_unknown_22 : decode cX6_unknown 22 = .ok (.if_icmp .ne 27, 3) := by decide +kernel
theorem dX6_unknown_25 : decode cX6_unknown 25 = .ok (.aload_n 0, 1) := by decide +kernel
theorem dX6_unknown_26 : decode cX6_unknown 26 = .ok (.aload_n 0, 1) := by decide +kernel
theorem dX6_unknown_27 : decode cX6_unknown 27 = .ok (.getfield 22, 3) := by decide +kernel
theorem dX6_unknown_30 : decode cX6_unknown 30 = .ok (.bipush 40, 2) := by decide +kernel
theorem dX6_unknown_32 : decode cX6_unknown 32 = .ok (.iload_n 1, 1) := by decide +kernel
theorem dX6_unknown_33 : decode cX6_unknown 33 = .ok (.iadd, 1) := by decide +kernel
theorem dX6_unknown_34 : decode cX6_unknown 34 = .ok (.laload, 1) := by decide +kernel
theorem dX6_unknown_35 : decode cX6_unknown 35 = .ok (.invokevirtual 136, 3) := by decide +kernel
theorem dX6_unknown_38 : decode cX6_unknown 38 = .ok (.iconst (-1), 1) := by decide +kernel
theorem dX6_unknown_39 : decode cX6_unknown 39 = .ok (.if_icmp .ne 10, 3) := by decide +kernel
theorem dX6_unknown_42 : decode cX6_unknown 42 = .ok (.aload_n 0, 1) := by decide +kernel
theorem dX6_unknown_43 : decode cX6_unknown 43 = .ok (.getfield 66, 3) := by decide +kernel
theorem dX6_unknown_46 : decode cX6_unknown 46 = .ok (.iload_n 1, 1) := by decide +kernel
theorem dX6_unknown_47 : decode cX6_unknown 47 = .ok (.iaload, 1) := by decide +kernel
theorem dX6_unknown_48 : decode cX6_unknown 48 = .ok (.ireturn, 1) := by decide +kernel
theorem dX6_unknown_49 : decode cX6_unknown 49 = .ok (.iload_n 2, 1) := by decide +kernel
theorem dX6_unknown_50 : decode cX6_unknown 50 = .ok (.iconst 1, 1) := by decide +kernel
theorem dX6_unknown_51 : decode cX6_unknown 51 = .ok (.if_icmp .lt 32, 3) := by decide +kernel
theorem dX6_unknown_54 : decode cX6_unknown 54 = .ok (.iload_n 2, 1) := by decide +kernel
theorem dX6_unknown_55 : decode cX6_unknown 55 = .ok (.iconst 3, 1) := by decide +kernel
theorem dX6_unknown_56 : decode cX6_unknown 56 = .ok (.if_icmp .gt 27, 3) := by decide +kernel
theorem dX6_unknown_59 : decode cX6_unknown 59 = .ok (.aload_n 0, 1) := by decide +kernel
theorem dX6_unknown_60 : decode cX6_unknown 60 = .ok (.aload_n 0, 1) := by decide +kernel
theorem dX6_unknown_61 : decode cX6_unknown 61 = .ok (.getfield 26, 3) := by decide +kernel
theorem dX6_unknown_64 : decode cX6_unknown 64 = .ok (.bipush 40, 2) := by decide +kernel
theorem dX6_unknown_66 : decode cX6_unknown 66 = .ok (.iload_n 1, 1) := by decide +kernel
theorem dX6_unknown_67 : decode cX6_unknown 67 = .ok (.iadd, 1) := by decide +kernel
theorem dX6_unknown_68 : decode cX6_unknown 68 = .ok (.laload, 1) := by decide +kernel
theorem dX6_unknown_69 : decode cX6_unknown 69 = .ok (.invokevirtual 136, 3) := by decide +kernel
theorem dX6_unknown_72 : decode cX6_unknown 72 = .ok (.iconst (-1), 1) := by decide +kernel
theorem dX6_unknown_73 : decode cX6_unknown 73 = .ok (.if_icmp .ne 10, 3) := by decide +kernel
theorem dX6_unknown_76 : decode cX6_unknown 76 = .ok (.aload_n 0, 1) := by decide +kernel
theorem dX6_unknown_77 : decode cX6_unknown 77 = .ok (.getfield 69, 3) := by decide +kernel
theorem dX6_unknown_80 : decode cX6_unknown 80 = .ok (.iload_n 1, 1) := by decide +kernel
theorem dX6_unknown_81 : decode cX6_unknown 81 = .ok (.iaload, 1) := by decide +kernel
theorem dX6_unknown_82 : decode cX6_unknown 82 = .ok (.ireturn, 1) := by decide +kernel
theorem dX6_unknown_83 : decode cX6_unknown 83 = .ok (.iinc 1 1, 3) := by decide +kernel
theorem dX6_unknown_86 : decode cX6_unknown 86 = .ok (.goto (-84), 3) := by decide +kernel
theorem dX6_unknown_89 : decode cX6_unknown 89 = .ok (.iconst (-1), 1) := by decide +kernel
theorem dX6_unknown_90 : decode cX6_unknown 90 = .ok (.ireturn, 1) := by decide +kernel
theorem dX6_findFrom_0 : decode cX6_findFrom 0 = .ok (.iconst 0, 1) := by decide +kernel
theorem dX6_findFrom_1 : decode cX6_findFrom 1 = .ok (.istore_n 1, 1) := by decide +kernel
theorem dX6_findFrom_2 : decode cX6_findFrom 2 = .ok (.iload_n 1, 1) := by decide +kernel
theorem dX6_findFrom_3 : decode cX6_findFrom 3 = .ok (.aload_n 0, 1) := by decide +kernel
theorem dX6_findFrom_4 : decode cX6_findFrom 4 = .ok (.getfield 126, 3) := by decide +kernel
theorem dX6_findFrom_7 : decode cX6_findFrom 7 = .ok (.if_icmp .ge 54, 3) := by decide +kernel
theorem dX6_findFrom_10 : decode cX6_findFrom 10 = .ok (.bipush 40, 2) := by decide +kernel
theorem dX6_findFrom_12 : decode cX6_findFrom 12 = .ok (.aload_n 0, 1) := by decide +kernel
theorem dX6_findFrom_13 : decode cX6_findFrom 13 = .ok (.getfield 44, 3) := by decide +kernel
theorem dX6_findFrom_16 : decode cX6_findFrom 16 = .ok (.bipush 12, 2) := by decide +kernel
theorem dX6_findFrom_18 : decode cX6_findFrom 18 = .ok (.iload_n 1, 1) := by decide +kernel
theorem dX6_findFrom_19 : decode cX6_findFrom 19 = .ok (.iadd, 1) := by decide +kernel
theorem dX6_findFrom_20 : decode cX6_findFrom 20 = .ok (.iaload, 1) := by decide +kernel
theorem dX6_findFrom_21 : decode cX6_findFrom 21 = .ok (.iadd, 1) := by decide +kernel
theorem dX6_findFrom_22 : decode cX6_findFrom 22 = .ok (.istore_n 2, 1) := by decide +kernel
theorem dX6_findFrom_23 : decode cX6_findFrom 23 = .ok (.aload_n 0, 1) := by decide +kernel
theorem dX6_findFrom_24 : decode cX6_findFrom 24 = .ok (.getfield 47, 3) := by decide +kernel
theorem dX6_findFrom_27 : decode cX6_findFrom 27 = .ok (.bipush 12, 2) := by decide +kernel
theorem dX6_findFrom_29 : decode cX6_findFrom 29 = .ok (.iload_n 1, 1) := by decide +kernel
theorem dX6_findFrom_30 : decode cX6_findFrom 30 = .ok (.iadd, 1) := by decide +kernel
theorem dX6_findFrom_31 : decode cX6_findFrom 31 = .ok (.aload_n 0, 1) := by decide +kernel
theorem dX6_findFrom_32 : decode cX6_findFrom 32 = .ok (.getfield 19, 3) := by decide +kernel
theorem dX6_findFrom_35 : decode cX6_findFrom 35 = .ok (.iload_n 2, 1) := by decide +kernel
theorem dX6_findFrom_36 : decode cX6_findFrom 36 = .ok (.iaload, 1) := by decide +kernel
theorem dX6_findFrom_37 : decode cX6_findFrom 37 = .ok (.ifCond .ne 7, 3) := by decide +kernel
theorem dX6_findFrom_40 : decode cX6_findFrom 40 = .ok (.iconst (-1), 1) := by decide +kernel
theorem dX6_findFrom_41 : decode cX6_findFrom 41 = .ok (.goto 13, 3) := by decide +kernel
theorem dX6_findFrom_44 : decode cX6_findFrom 44 = .ok (.aload_n 0, 1) := by decide +kernel
theorem dX6_findFrom_45 : decode cX6_findFrom 45 = .ok (.aload_n 0, 1) := by decide +kernel
theorem dX6_findFrom_46 : decode cX6_findFrom 46 = .ok (.getfield 26, 3) := by decide +kernel
theorem dX6_findFrom_49 : decode cX6_findFrom 49 = .ok (.iload_n 2, 1) := by decide +kernel
theorem dX6_findFrom_50 : decode cX6_findFrom 50 = .ok (.laload, 1) := by decide +kernel
theorem dX6_findFrom_51 : decode cX6_findFrom 51 = .ok (.invokevirtual 136, 3) := by decide +kernel
theorem dX6_findFrom_54 : decode cX6_findFrom 54 = .ok (.iastore, 1) := by decide +kernel
theorem dX6_findFrom_55 : decode cX6_findFrom 55 = .ok (.iinc 1 1, 3) := by decide +kernel
theorem dX6_findFrom_58 : decode cX6_findFrom 58 = .ok (.goto (-56), 3) := by decide +kernel
theorem dX6_findFrom_61 : decode cX6_findFrom 61 = .ok (.return_, 1) := by decide +kernel
theorem dX6_ring_0 : decode cX6_ring 0 = .ok (.iconst 0, 1) := by decide +kernel
theorem dX6_ring_1 : decode cX6_ring 1 = .ok (.istore_n 1, 1) := by decide +kernel
theorem dX6_ring_2 : decode cX6_ring 2 = .ok (.iload_n 1, 1) := by decide +kernel
theorem dX6_ring_3 : decode cX6_ring 3 = .ok (.aload_n 0, 1) := by decide +kernel
theorem dX6_ring_4 : decode cX6_ring 4 = .ok (.getfield 126, 3) := by decide +kernel
theorem dX6_ring_7 : decode cX6_ring 7 = .ok (.if_icmp .ge 73, 3) := by decide +kernel
theorem dX6_ring_10 : decode cX6_ring 10 = .ok (.aload_n 0, 1) := by decide +kernel
theorem dX6_ring_11 : decode cX6_ring 11 = .ok (.getfield 47, 3) := by decide +kernel
theorem dX6_ring_14 : decode cX6_ring 14 = .ok (.bipush 12, 2) := by decide +kernel
theorem dX6_ring_16 : decode cX6_ring 16 = .ok (.iload_n 1, 1) := by decide +kernel
theorem dX6_ring_17 : decode cX6_ring 17 = .ok (.iadd, 1) := by decide +kernel
theorem dX6_ring_18 : decode cX6_ring 18 = .ok (.iaload, 1) := by decide +kernel
theorem dX6_ring_19 : decode cX6_ring 19 = .ok (.istore_n 2, 1) := by decide +kernel
theorem dX6_ring_20 : decode cX6_ring 20 = .ok (.iconst 0, 1) := by decide +kernel
theorem dX6_ring_21 : decode cX6_ring 21 = .ok (.istore_n 3, 1) := by decide +kernel
theorem dX6_ring_22 : decode cX6_ring 22 = .ok (.iload_n 3, 1) := by decide +kernel
theorem dX6_ring_23 : decode cX6_ring 23 = .ok (.bipush 12, 2) := by decide +kernel
theorem dX6_ring_25 : decode cX6_ring 25 = .ok (.if_icmp .ge 29, 3) := by decide +kernel
theorem dX6_ring_28 : decode cX6_ring 28 = .ok (.iload_n 2, 1) := by decide +kernel
theorem dX6_ring_29 : decode cX6_ring 29 = .ok (.iconst (-1), 1) := by decide +kernel
theorem dX6_ring_30 : decode cX6_ring 30 = .ok (.if_icmp .eq 24, 3) := by decide +kernel
theorem dX6_ring_33 : decode cX6_ring 33 = .ok (.iload_n 2, 1) := by decide +kernel
theorem dX6_ring_34 : decode cX6_ring 34 = .ok (.iload_n 1, 1) := by decide +kernel
theorem dX6_ring_35 : decode cX6_ring 35 = .ok (.if_icmp .eq 19, 3) := by decide +kernel
theorem dX6_ring_38 : decode cX6_ring 38 = .ok (.aload_n 0, 1) := by decide +kernel
theorem dX6_ring_39 : decode cX6_ring 39 = .ok (.getfield 47, 3) := by decide +kernel
theorem dX6_ring_42 : decode cX6_ring 42 = .ok (.bipush 12, 2) := by decide +kernel
theorem dX6_ring_44 : decode cX6_ring 44 = .ok (.iload_n 2, 1) := by decide +kernel
theorem dX6_ring_45 : decode cX6_ring 45 = .ok (.iadd, 1) := by decide +kernel
theorem dX6_ring_46 : decode cX6_ring 46 = .ok (.iaload, 1) := by decide +kernel
theorem dX6_ring_47 : decode cX6_ring 47 = .ok (.istore_n 2, 1) := by decide +kernel
theorem dX6_ring_48 : decode cX6_ring 48 = .ok (.iinc 3 1, 3) := by decide +kernel
theorem dX6_ring_51 : decode cX6_ring 51 = .ok (.goto (-29), 3) := by decide +kernel
theorem dX6_ring_54 : decode cX6_ring 54 = .ok (.iload_n 2, 1) := by decide +kernel
theorem dX6_ring_55 : decode cX6_ring 55 = .ok (.iload_n 1, 1) := by decide +kernel
theorem dX6_ring_56 : decode cX6_ring 56 = .ok (.if_icmp .ne 18, 3) := by decide +kernel
theorem dX6_ring_59 : decode cX6_ring 59 = .ok (.aload_n 0, 1) := by decide +kernel
theorem dX6_ring_60 : decode cX6_ring 60 = .ok (.getfield 66, 3) := by decide +kernel
theorem dX6_ring_63 : decode cX6_ring 63 = .ok (.aload_n 0, 1) := by decide +kernel
theorem dX6_ring_64 : decode cX6_ring 64 = .ok (.getfield 44, 3) := by decide +kernel
theorem dX6_ring_67 : decode cX6_ring 67 = .ok (.bipush 12, 2) := by decide +kernel
theorem dX6_ring_69 : decode cX6_ring 69 = .ok (.iload_n 1, 1) := by decide +kernel
theorem dX6_ring_70 : decode cX6_ring 70 = .ok (.iadd, 1) := by decide +kernel
theorem dX6_ring_71 : decode cX6_ring 71 = .ok (.iaload, 1) := by decide +kernel
theorem dX6_ring_72 : decode cX6_ring 72 = .ok (.iaload, 1) := by decide +kernel
theorem dX6_ring_73 : decode cX6_ring 73 = .ok (.ireturn, 1) := by decide +kernel
theorem dX6_ring_74 : decode cX6_ring 74 = .ok (.iinc 1 1, 3) := by decide +kernel
theorem dX6_ring_77 : decode cX6_ring 77 = .ok (.goto (-75), 3) := by decide +kernel
theorem dX6_ring_80 : decode cX6_ring 80 = .ok (.iconst (-1), 1) := by decide +kernel
theorem dX6_ring_81 : decode cX6_ring 81 = .ok (.ireturn, 1) := by decide +kernel
theorem dX6_common_0 : decode cX6_common 0 = .ok (.lload_n 0, 1) := by decide +kernel
theorem dX6_common_1 : decode cX6_common 1 = .ok (.lstore 4, 2) := by decide +kernel
theorem dX6_common_3 : decode cX6_common 3 = .ok (.lload_n 2, 1) := by decide +kernel
theorem dX6_common_4 : decode cX6_common 4 = .ok (.lstore 6, 2) := by decide +kernel
theorem dX6_common_6 : decode cX6_common 6 = .ok (.lload 6, 2) := by decide +kernel
theorem dX6_common_8 : decode cX6_common 8 = .ok (.lconst 0, 1) := by decide +kernel
theorem dX6_common_9 : decode cX6_common 9 = .ok (.lcmp, 1) := by decide +kernel
theorem dX6_common_10 : decode cX6_common 10 = .ok (.ifCond .eq 21, 3) := by decide +kernel
theorem dX6_common_13 : decode cX6_common 13 = .ok (.lload 4, 2) := by decide +kernel
theorem dX6_common_15 : decode cX6_common 15 = .ok (.lload 6, 2) := by decide +kernel
theorem dX6_common_17 : decode cX6_common 17 = .ok (.lrem, 1) := by decide +kernel
theorem dX6_common_18 : decode cX6_common 18 = .ok (.lstore 8, 2) := by decide +kernel
theorem dX6_common_20 : decode cX6_common 20 = .ok (.lload 6, 2) := by decide +kernel
theorem dX6_common_22 : decode cX6_common 22 = .ok (.lstore 4, 2) := by decide +kernel
theorem dX6_common_24 : decode cX6_common 24 = .ok (.lload 8, 2) := by decide +kernel
theorem dX6_common_26 : decode cX6_common 26 = .ok (.lstore 6, 2) := by decide +kernel
theorem dX6_common_28 : decode cX6_common 28 = .ok (.goto (-22), 3) := by decide +kernel
theorem dX6_common_31 : decode cX6_common 31 = .ok (.lload 4, 2) := by decide +kernel
theorem dX6_common_33 : decode cX6_common 33 = .ok (.lreturn, 1) := by decide +kernel
theorem dX6_reckon_0 : decode cX6_reckon 0 = .ok (.bipush 12, 2) := by decide +kernel
theorem dX6_reckon_2 : decode cX6_reckon 2 = .ok (.iload_n 1, 1) := by decide +kernel
theorem dX6_reckon_3 : decode cX6_reckon 3 = .ok (.iadd, 1) := by decide +kernel
theorem dX6_reckon_4 : decode cX6_reckon 4 = .ok (.istore_n 2, 1) := by decide +kernel
theorem dX6_reckon_5 : decode cX6_reckon 5 = .ok (.bipush 40, 2) := by decide +kernel
theorem dX6_reckon_7 : decode cX6_reckon 7 = .ok (.aload_n 0, 1) := by decide +kernel
theorem dX6_reckon_8 : decode cX6_reckon 8 = .ok (.getfield 44, 3) := by decide +kernel
theorem dX6_reckon_11 : decode cX6_reckon 11 = .ok (.iload_n 2, 1) := by decide +kernel
theorem dX6_reckon_12 : decode cX6_reckon 12 = .ok (.iaload, 1) := by decide +kernel
theorem dX6_reckon_13 : decode cX6_reckon 13 = .ok (.iadd, 1) := by decide +kernel
theorem dX6_reckon_14 : decode cX6_reckon 14 = .ok (.istore_n 3, 1) := by decide +kernel
theorem dX6_reckon_15 : decode cX6_reckon 15 = .ok (.aload_n 0, 1) := by decide +kernel
theorem dX6_reckon_16 : decode cX6_reckon 16 = .ok (.getfield 47, 3) := by decide +kernel
theorem dX6_reckon_19 : decode cX6_reckon 19 = .ok (.iload_n 2, 1) := by decide +kernel
theorem dX6_reckon_20 : decode cX6_reckon 20 = .ok (.iaload, 1) := by decide +kernel
theorem dX6_reckon_21 : decode cX6_reckon 21 = .ok (.iconst (-1), 1) := by decide +kernel
theorem dX6_reckon_22 : decode cX6_reckon 22 = .ok (.if_icmp .ne 57, 3) := by decide +kernel
theorem dX6_reckon_25 : decode cX6_reckon 25 = .ok (.aload_n 0, 1) := by decide +kernel
theorem dX6_reckon_26 : decode cX6_reckon 26 = .ok (.getfield 50, 3) := by decide +kernel
theorem dX6_reckon_29 : decode cX6_reckon 29 = .ok (.iload_n 2, 1) := by decide +kernel
theorem dX6_reckon_30 : decode cX6_reckon 30 = .ok (.aload_n 0, 1) := by decide +kernel
theorem dX6_reckon_31 : decode cX6_reckon 31 = .ok (.getfield 29, 3) := by decide +kernel
theorem dX6_reckon_34 : decode cX6_reckon 34 = .ok (.iload_n 3, 1) := by decide +kernel
theorem dX6_reckon_35 : decode cX6_reckon 35 = .ok (.iaload, 1) := by decide +kernel
theorem dX6_reckon_36 : decode cX6_reckon 36 = .ok (.i2l, 1) := by decide +kernel
theorem dX6_reckon_37 : decode cX6_reckon 37 = .ok (.lastore, 1) := by decide +kernel
theorem dX6_reckon_38 : decode cX6_reckon 38 = .ok (.aload_n 0, 1) := by decide +kernel
theorem dX6_reckon_39 : decode cX6_reckon 39 = .ok (.getfield 53, 3) := by decide +kernel
theorem dX6_reckon_42 : decode cX6_reckon 42 = .ok (.iload_n 2, 1) := by decide +kernel
theorem dX6_reckon_43 : decode cX6_reckon 43 = .ok (.aload_n 0, 1) := by decide +kernel
theorem dX6_reckon_44 : decode cX6_reckon 44 = .ok (.getfield 32, 3) := by decide +kernel
theorem dX6_reckon_47 : decode cX6_reckon 47 = .ok (.iload_n 3, 1) := by decide +kernel
theorem dX6_reckon_48 : decode cX6_reckon 48 = .ok (.iaload, 1) := by decide +kernel
theorem dX6_reckon_49 : decode cX6_reckon 49 = .ok (.i2l, 1) := by decide +kernel
theorem dX6_reckon_50 : decode cX6_reckon 50 = .ok (.lastore, 1) := by decide +kernel
theorem dX6_reckon_51 : decode cX6_reckon 51 = .ok (.aload_n 0, 1) := by decide +kernel
theorem dX6_reckon_52 : decode cX6_reckon 52 = .ok (.getfield 56, 3) := by decide +kernel
theorem dX6_reckon_55 : decode cX6_reckon 55 = .ok (.iload_n 2, 1) := by decide +kernel
theorem dX6_reckon_56 : decode cX6_reckon 56 = .ok (.aload_n 0, 1) := by decide +kernel
theorem dX6_reckon_57 : decode cX6_reckon 57 = .ok (.getfield 35, 3) := by decide +kernel
theorem dX6_reckon_60 : decode cX6_reckon 60 = .ok (.iload_n 3, 1) := by decide +kernel
theorem dX6_reckon_61 : decode cX6_reckon 61 = .ok (.iaload, 1) := by decide +kernel
theorem dX6_reckon_62 : decode cX6_reckon 62 = .ok (.i2l, 1) := by decide +kernel
theorem dX6_reckon_63 : decode cX6_reckon 63 = .ok (.lastore, 1) := by decide +kernel
theorem dX6_reckon_64 : decode cX6_reckon 64 = .ok (.aload_n 0, 1) := by decide +kernel
theorem dX6_reckon_65 : decode cX6_reckon 65 = .ok (.getfield 59, 3) := by decide +kernel
theorem dX6_reckon_68 : decode cX6_reckon 68 = .ok (.iload_n 2, 1) := by decide +kernel
theorem dX6_reckon_69 : decode cX6_reckon 69 = .ok (.lconst 1, 1) := by decide +kernel
theorem dX6_reckon_70 : decode cX6_reckon 70 = .ok (.lastore, 1) := by decide +kernel
theorem dX6_reckon_71 : decode cX6_reckon 71 = .ok (.aload_n 0, 1) := by decide +kernel
theorem dX6_reckon_72 : decode cX6_reckon 72 = .ok (.getfield 62, 3) := by decide +kernel
theorem dX6_reckon_75 : decode cX6_reckon 75 = .ok (.iload_n 2, 1) := by decide +kernel
theorem dX6_reckon_76 : decode cX6_reckon 76 = .ok (.iconst 0, 1) := by decide +kernel
theorem dX6_reckon_77 : decode cX6_reckon 77 = .ok (.bastore, 1) := by decide +kernel
theorem dX6_reckon_78 : decode cX6_reckon 78 = .ok (.return_, 1) := by decide +kernel
theorem dX6_reckon_79 : decode cX6_reckon 79 = .ok (.bipush 12, 2) := by decide +kernel
theorem dX6_reckon_81 : decode cX6_reckon 81 = .ok (.aload_n 0, 1) := by decide +kernel
theorem dX6_reckon_82 : decode cX6_reckon 82 = .ok (.getfield 47, 3) := by decide +kernel
theorem dX6_reckon_85 : decode cX6_reckon 85 = .ok (.iload_n 2, 1) := by decide +kernel
theorem dX6_reckon_86 : decode cX6_reckon 86 = .ok (.iaload, 1) := by decide +kernel
theorem dX6_reckon_87 : decode cX6_reckon 87 = .ok (.iadd, 1) := by decide +kernel
theorem dX6_reckon_88 : decode cX6_reckon 88 = .ok (.istore 4, 2) := by decide +kernel
theorem dX6_reckon_90 : decode cX6_reckon 90 = .ok (.aload_n 0, 1) := by decide +kernel
theorem dX6_reckon_91 : decode cX6_reckon 91 = .ok (.getfield 50, 3) := by decide +kernel
theorem dX6_reckon_94 : decode cX6_reckon 94 = .ok (.iload 4, 2) := by decide +kernel
theorem dX6_reckon_96 : decode cX6_reckon 96 = .ok (.laload, 1) := by decide +kernel
theorem dX6_reckon_97 : decode cX6_reckon 97 = .ok (.aload_n 0, 1) := by decide +kernel
theorem dX6_reckon_98 : decode cX6_reckon 98 = .ok (.getfield 29, 3) := by decide +kernel
theorem dX6_reckon_101 : decode cX6_reckon 101 = .ok (.iload_n 3, 1) := by decide +kernel
theorem dX6_reckon_102 : decode cX6_reckon 102 = .ok (.iaload, 1) := by decide +kernel
theorem dX6_reckon_103 : decode cX6_reckon 103 = .ok (.i2l, 1) := by decide +kernel
theorem dX6_reckon_104 : decode cX6_reckon 104 = .ok (.lmul, 1) := by decide +kernel
theorem dX6_reckon_105 : decode cX6_reckon 105 = .ok (.lstore 5, 2) := by decide +kernel
theorem dX6_reckon_107 : decode cX6_reckon 107 = .ok (.aload_n 0, 1) := by decide +kernel
theorem dX6_reckon_108 : decode cX6_reckon 108 = .ok (.getfield 19, 3) := by decide +kernel
theorem dX6_reckon_111 : decode cX6_reckon 111 = .ok (.iload_n 3, 1) := by decide +kernel
theorem dX6_reckon_112 : decode cX6_reckon 112 = .ok (.iaload, 1) := by decide +kernel
theorem dX6_reckon_113 : decode cX6_reckon 113 = .ok (.iconst 2, 1) := by decide +kernel
theorem dX6_reckon_114 : decode cX6_reckon 114 = .ok (.if_icmp .ne 13, 3) := by decide +kernel
theorem dX6_reckon_117 : decode cX6_reckon 117 = .ok (.aload_n 0, 1) := by decide +kernel
theorem dX6_reckon_118 : decode cX6_reckon 118 = .ok (.getfield 56, 3) := by decide +kernel
theorem dX6_reckon_121 : decode cX6_reckon 121 = .ok (.iload 4, 2) := by decide +kernel
theorem dX6_reckon_123 : decode cX6_reckon 123 = .ok (.laload, 1) := by decide +kernel
theorem dX6_reckon_124 : decode cX6_reckon 124 = .ok (.goto 10, 3) := by decide +kernel
theorem dX6_reckon_127 : decode cX6_reckon 127 = .ok (.aload_n 0, 1) := by decide +kernel
theorem dX6_reckon_128 : decode cX6_reckon 128 = .ok (.getfield 53, 3) := by decide +kernel
theorem dX6_reckon_131 : decode cX6_reckon 131 = .ok (.iload 4, 2) := by decide +kernel
theorem dX6_reckon_133 : decode cX6_reckon 133 = .ok (.laload, 1) := by decide +kernel
theorem dX6_reckon_134 : decode cX6_reckon 134 = .ok (.aload_n 0, 1) := by decide +kernel
theorem dX6_reckon_135 : decode cX6_reckon 135 = .ok (.getfield 29, 3) := by decide +kernel
theorem dX6_reckon_138 : decode cX6_reckon 138 = .ok (.iload_n 3, 1) := by decide +kernel
theorem dX6_reckon_139 : decode cX6_reckon 139 = .ok (.iaload, 1) := by decide +kernel
theorem dX6_reckon_140 : decode cX6_reckon 140 = .ok (.i2l, 1) := by decide +kernel
theorem dX6_reckon_141 : decode cX6_reckon 141 = .ok (.lmul, 1) := by decide +kernel
theorem dX6_reckon_142 : decode cX6_reckon 142 = .ok (.lstore 7, 2) := by decide +kernel
theorem dX6_reckon_144 : decode cX6_reckon 144 = .ok (.aload_n 0, 1) := by decide +kernel
theorem dX6_reckon_145 : decode cX6_reckon 145 = .ok (.getfield 19, 3) := by decide +kernel
theorem dX6_reckon_148 : decode cX6_reckon 148 = .ok (.iload_n 3, 1) := by decide +kernel
theorem dX6_reckon_149 : decode cX6_reckon 149 = .ok (.iaload, 1) := by decide +kernel
theorem dX6_reckon_150 : decode cX6_reckon 150 = .ok (.iconst 2, 1) := by decide +kernel
theorem dX6_reckon_151 : decode cX6_reckon 151 = .ok (.if_icmp .ne 13, 3) := by decide +kernel
theorem dX6_reckon_154 : decode cX6_reckon 154 = .ok (.aload_n 0, 1) := by decide +kernel
theorem dX6_reckon_155 : decode cX6_reckon 155 = .ok (.getfield 53, 3) := by decide +kernel
theorem dX6_reckon_158 : decode cX6_reckon 158 = .ok (.iload 4, 2) := by decide +kernel
theorem dX6_reckon_160 : decode cX6_reckon 160 = .ok (.laload, 1) := by decide +kernel
theorem dX6_reckon_161 : decode cX6_reckon 161 = .ok (.goto 10, 3) := by decide +kernel
theorem dX6_reckon_164 : decode cX6_reckon 164 = .ok (.aload_n 0, 1) := by decide +kernel
theorem dX6_reckon_165 : decode cX6_reckon 165 = .ok (.getfield 56, 3) := by decide +kernel
theorem dX6_reckon_168 : decode cX6_reckon 168 = .ok (.iload 4, 2) := by decide +kernel
theorem dX6_reckon_170 : decode cX6_reckon 170 = .ok (.laload, 1) := by decide +kernel
theorem dX6_reckon_171 : decode cX6_reckon 171 = .ok (.aload_n 0, 1) := by decide +kernel
theorem dX6_reckon_172 : decode cX6_reckon 172 = .ok (.getfield 29, 3) := by decide +kernel
theorem dX6_reckon_175 : decode cX6_reckon 175 = .ok (.iload_n 3, 1) := by decide +kernel
theorem dX6_reckon_176 : decode cX6_reckon 176 = .ok (.iaload, 1) := by decide +kernel
theorem dX6_reckon_177 : decode cX6_reckon 177 = .ok (.i2l, 1) := by decide +kernel
theorem dX6_reckon_178 : decode cX6_reckon 178 = .ok (.lmul, 1) := by decide +kernel
theorem dX6_reckon_179 : decode cX6_reckon 179 = .ok (.lstore 9, 2) := by decide +kernel
theorem dX6_reckon_181 : decode cX6_reckon 181 = .ok (.aload_n 0, 1) := by decide +kernel
theorem dX6_reckon_182 : decode cX6_reckon 182 = .ok (.getfield 59, 3) := by decide +kernel
theorem dX6_reckon_185 : decode cX6_reckon 185 = .ok (.iload 4, 2) := by decide +kernel
theorem dX6_reckon_187 : decode cX6_reckon 187 = .ok (.laload, 1) := by decide +kernel
theorem dX6_reckon_188 : decode cX6_reckon 188 = .ok (.aload_n 0, 1) := by decide +kernel
theorem dX6_reckon_189 : decode cX6_reckon 189 = .ok (.getfield 32, 3) := by decide +kernel
theorem dX6_reckon_192 : decode cX6_reckon 192 = .ok (.iload_n 3, 1) := by decide +kernel
theorem dX6_reckon_193 : decode cX6_reckon 193 = .ok (.iaload, 1) := by decide +kernel
theorem dX6_reckon_194 : decode cX6_reckon 194 = .ok (.i2l, 1) := by decide +kernel
theorem dX6_reckon_195 : decode cX6_reckon 195 = .ok (.lmul, 1) := by decide +kernel
theorem dX6_reckon_196 : decode cX6_reckon 196 = .ok (.lstore 11, 2) := by decide +kernel
theorem dX6_reckon_198 : decode cX6_reckon 198 = .ok (.lload 5, 2) := by decide +kernel
theorem dX6_reckon_200 : decode cX6_reckon 200 = .ok (.lload 7, 2) := by decide +kernel
theorem dX6_reckon_202 : decode cX6_reckon 202 = .ok (.invokestatic 172, 3) := by decide +kernel
theorem dX6_reckon_205 : decode cX6_reckon 205 = .ok (.lload 9, 2) := by decide +kernel
theorem dX6_reckon_207 : decode cX6_reckon 207 = .ok (.lload 11, 2) := by decide +kernel
theorem dX6_reckon_209 : decode cX6_reckon 209 = .ok (.invokestatic 172, 3) := by decide +kernel
theorem dX6_reckon_212 : decode cX6_reckon 212 = .ok (.invokestatic 172, 3) := by decide +kernel
theorem dX6_reckon_215 : decode cX6_reckon 215 = .ok (.lstore 13, 2) := by decide +kernel
theorem dX6_reckon_217 : decode cX6_reckon 217 = .ok (.aload_n 0, 1) := by decide +kernel
theorem dX6_reckon_218 : decode cX6_reckon 218 = .ok (.getfield 50, 3) := by decide +kernel
theorem dX6_reckon_221 : decode cX6_reckon 221 = .ok (.iload_n 2, 1) := by decide +kernel
theorem dX6_reckon_222 : decode cX6_reckon 222 = .ok (.lload 5, 2) := by decide +kernel
theorem dX6_reckon_224 : decode cX6_reckon 224 = .ok (.lload 13, 2) := by decide +kernel
theorem dX6_reckon_226 : decode cX6_reckon 226 = .ok (.ldiv, 1) := by decide +kernel
theorem dX6_reckon_227 : decode cX6_reckon 227 = .ok (.lastore, 1) := by decide +kernel
theorem dX6_reckon_228 : decode cX6_reckon 228 = .ok (.aload_n 0, 1) := by decide +kernel
theorem dX6_reckon_229 : decode cX6_reckon 229 = .ok (.getfield 53, 3) := by decide +kernel
theorem dX6_reckon_232 : decode cX6_reckon 232 = .ok (.iload_n 2, 1) := by decide +kernel
theorem dX6_reckon_233 : decode cX6_reckon 233 = .ok (.lload 7, 2) := by decide +kernel
theorem dX6_reckon_235 : decode cX6_reckon 235 = .ok (.lload 13, 2) := by decide +kernel
theorem dX6_reckon_237 : decode cX6_reckon 237 = .ok (.ldiv, 1) := by decide +kernel
theorem dX6_reckon_238 : decode cX6_reckon 238 = .ok (.lastore, 1) := by decide +kernel
theorem dX6_reckon_239 : decode cX6_reckon 239 = .ok (.aload_n 0, 1) := by decide +kernel
theorem dX6_reckon_240 : decode cX6_reckon 240 = .ok (.getfield 56, 3) := by decide +kernel
theorem dX6_reckon_243 : decode cX6_reckon 243 = .ok (.iload_n 2, 1) := by decide +kernel
theorem dX6_reckon_244 : decode cX6_reckon 244 = .ok (.lload 9, 2) := by decide +kernel
theorem dX6_reckon_246 : decode cX6_reckon 246 = .ok (.lload 13, 2) := by decide +kernel
theorem dX6_reckon_248 : decode cX6_reckon 248 = .ok (.ldiv, 1) := by decide +kernel
theorem dX6_reckon_249 : decode cX6_reckon 249 = .ok (.lastore, 1) := by decide +kernel
theorem dX6_reckon_250 : decode cX6_reckon 250 = .ok (.aload_n 0, 1) := by decide +kernel
theorem dX6_reckon_251 : decode cX6_reckon 251 = .ok (.getfield 59, 3) := by decide +kernel
theorem dX6_reckon_254 : decode cX6_reckon 254 = .ok (.iload_n 2, 1) := by decide +kernel
theorem dX6_reckon_255 : decode cX6_reckon 255 = .ok (.lload 11, 2) := by decide +kernel
theorem dX6_reckon_257 : decode cX6_reckon 257 = .ok (.lload 13, 2) := by decide +kernel
theorem dX6_reckon_259 : decode cX6_reckon 259 = .ok (.ldiv, 1) := by decide +kernel
theorem dX6_reckon_260 : decode cX6_reckon 260 = .ok (.lastore, 1) := by decide +kernel
theorem dX6_reckon_261 : decode cX6_reckon 261 = .ok (.aload_n 0, 1) := by decide +kernel
theorem dX6_reckon_262 : decode cX6_reckon 262 = .ok (.getfield 62, 3) := by decide +kernel
theorem dX6_reckon_265 : decode cX6_reckon 265 = .ok (.iload_n 2, 1) := by decide +kernel
theorem dX6_reckon_266 : decode cX6_reckon 266 = .ok (.aload_n 0, 1) := by decide +kernel
theorem dX6_reckon_267 : decode cX6_reckon 267 = .ok (.getfield 62, 3) := by decide +kernel
theorem dX6_reckon_270 : decode cX6_reckon 270 = .ok (.iload 4, 2) := by decide +kernel
theorem dX6_reckon_272 : decode cX6_reckon 272 = .ok (.baload, 1) := by decide +kernel
theorem dX6_reckon_273 : decode cX6_reckon 273 = .ok (.ifCond .ne 29, 3) := by decide +kernel
theorem dX6_reckon_276 : decode cX6_reckon 276 = .ok (.aload_n 0, 1) := by decide +kernel
theorem dX6_reckon_277 : decode cX6_reckon 277 = .ok (.getfield 50, 3) := by decide +kernel
theorem dX6_reckon_280 : decode cX6_reckon 280 = .ok (.iload_n 2, 1) := by decide +kernel
theorem dX6_reckon_281 : decode cX6_reckon 281 = .ok (.laload, 1) := by decide +kernel
theorem dX6_reckon_282 : decode cX6_reckon 282 = .ok (.ldc2_w 176, 3) := by decide +kernel
theorem dX6_reckon_285 : decode cX6_reckon 285 = .ok (.lcmp, 1) := by decide +kernel
theorem dX6_reckon_286 : decode cX6_reckon 286 = .ok (.ifCond .gt 16, 3) := by decide +kernel
theorem dX6_reckon_289 : decode cX6_reckon 289 = .ok (.aload_n 0, 1) := by decide +kernel
theorem dX6_reckon_290 : decode cX6_reckon 290 = .ok (.getfield 59, 3) := by decide +kernel
theorem dX6_reckon_293 : decode cX6_reckon 293 = .ok (.iload_n 2, 1) := by decide +kernel
theorem dX6_reckon_294 : decode cX6_reckon 294 = .ok (.laload, 1) := by decide +kernel
theorem dX6_reckon_295 : decode cX6_reckon 295 = .ok (.ldc2_w 176, 3) := by decide +kernel
theorem dX6_reckon_298 : decode cX6_reckon 298 = .ok (.lcmp, 1) := by decide +kernel
theorem dX6_reckon_299 : decode cX6_reckon 299 = .ok (.ifCond .le 7, 3) := by decide +kernel
theorem dX6_reckon_302 : decode cX6_reckon 302 = .ok (.iconst 1, 1) := by decide +kernel
theorem dX6_reckon_303 : decode cX6_reckon 303 = .ok (.goto 4, 3) := by decide +kernel
theorem dX6_reckon_306 : decode cX6_reckon 306 = .ok (.iconst 0, 1) := by decide +kernel
theorem dX6_reckon_307 : decode cX6_reckon 307 = .ok (.bastore, 1) := by decide +kernel
theorem dX6_reckon_308 : decode cX6_reckon 308 = .ok (.aload_n 0, 1) := by decide +kernel
theorem dX6_reckon_309 : decode cX6_reckon 309 = .ok (.getfield 62, 3) := by decide +kernel
theorem dX6_reckon_312 : decode cX6_reckon 312 = .ok (.iload_n 2, 1) := by decide +kernel
theorem dX6_reckon_313 : decode cX6_reckon 313 = .ok (.baload, 1) := by decide +kernel
theorem dX6_reckon_314 : decode cX6_reckon 314 = .ok (.ifCond .eq 33, 3) := by decide +kernel
theorem dX6_reckon_317 : decode cX6_reckon 317 = .ok (.aload_n 0, 1) := by decide +kernel
theorem dX6_reckon_318 : decode cX6_reckon 318 = .ok (.getfield 50, 3) := by decide +kernel
theorem dX6_reckon_321 : decode cX6_reckon 321 = .ok (.iload_n 2, 1) := by decide +kernel
theorem dX6_reckon_322 : decode cX6_reckon 322 = .ok (.ldc2_w 178, 3) := by decide +kernel
theorem dX6_reckon_325 : decode cX6_reckon 325 = .ok (.lastore, 1) := by decide +kernel
theorem dX6_reckon_326 : decode cX6_reckon 326 = .ok (.aload_n 0, 1) := by decide +kernel
theorem dX6_reckon_327 : decode cX6_reckon 327 = .ok (.getfield 53, 3) := by decide +kernel
theorem dX6_reckon_330 : decode cX6_reckon 330 = .ok (.iload_n 2, 1) := by decide +kernel
theorem dX6_reckon_331 : decode cX6_reckon 331 = .ok (.lconst 0, 1) := by decide +kernel
theorem dX6_reckon_332 : decode cX6_reckon 332 = .ok (.lastore, 1) := by decide +kernel
theorem dX6_reckon_333 : decode cX6_reckon 333 = .ok (.aload_n 0, 1) := by decide +kernel
theorem dX6_reckon_334 : decode cX6_reckon 334 = .ok (.getfield 56, 3) := by decide +kernel
theorem dX6_reckon_337 : decode cX6_reckon 337 = .ok (.iload_n 2, 1) := by decide +kernel
theorem dX6_reckon_338 : decode cX6_reckon 338 = .ok (.lconst 1, 1) := by decide +kernel
theorem dX6_reckon_339 : decode cX6_reckon 339 = .ok (.lastore, 1) := by decide +kernel
theorem dX6_reckon_340 : decode cX6_reckon 340 = .ok (.aload_n 0, 1) := by decide +kernel
theorem dX6_reckon_341 : decode cX6_reckon 341 = .ok (.getfield 59, 3) := by decide +kernel
theorem dX6_reckon_344 : decode cX6_reckon 344 = .ok (.iload_n 2, 1) := by decide +kernel
theorem dX6_reckon_345 : decode cX6_reckon 345 = .ok (.lconst 1, 1) := by decide +kernel
theorem dX6_reckon_346 : decode cX6_reckon 346 = .ok (.lastore, 1) := by decide +kernel
theorem dX6_reckon_347 : decode cX6_reckon 347 = .ok (.return_, 1) := by decide +kernel
theorem dX6_depth_0 : decode cX6_depth 0 = .ok (.iconst 0, 1) := by decide +kernel
theorem dX6_depth_1 : decode cX6_depth 1 = .ok (.istore_n 2, 1) := by decide +kernel
theorem dX6_depth_2 : decode cX6_depth 2 = .ok (.aload_n 0, 1) := by decide +kernel
theorem dX6_depth_3 : decode cX6_depth 3 = .ok (.getfield 47, 3) := by decide +kernel
theorem dX6_depth_6 : decode cX6_depth 6 = .ok (.bipush 12, 2) := by decide +kernel
theorem dX6_depth_8 : decode cX6_depth 8 = .ok (.iload_n 1, 1) := by decide +kernel
theorem dX6_depth_9 : decode cX6_depth 9 = .ok (.iadd, 1) := by decide +kernel
theorem dX6_depth_10 : decode cX6_depth 10 = .ok (.iaload, 1) := by decide +kernel
theorem dX6_depth_11 : decode cX6_depth 11 = .ok (.istore_n 3, 1) := by decide +kernel
theorem dX6_depth_12 : decode cX6_depth 12 = .ok (.iload_n 3, 1) := by decide +kernel
theorem dX6_depth_13 : decode cX6_depth 13 = .ok (.iconst (-1), 1) := by decide +kernel
theorem dX6_depth_14 : decode cX6_depth 14 = .ok (.if_icmp .eq 19, 3) := by decide +kernel
theorem dX6_depth_17 : decode cX6_depth 17 = .ok (.iinc 2 1, 3) := by decide +kernel
theorem dX6_depth_20 : decode cX6_depth 20 = .ok (.aload_n 0, 1) := by decide +kernel
theorem dX6_depth_21 : decode cX6_depth 21 = .ok (.getfield 47, 3) := by decide +kernel
theorem dX6_depth_24 : decode cX6_depth 24 = .ok (.bipush 12, 2) := by decide +kernel
theorem dX6_depth_26 : decode cX6_depth 26 = .ok (.iload_n 3, 1) := by decide +kernel
theorem dX6_depth_27 : decode cX6_depth 27 = .ok (.iadd, 1) := by decide +kernel
theorem dX6_depth_28 : decode cX6_depth 28 = .ok (.iaload, 1) := by decide +kernel
theorem dX6_depth_29 : decode cX6_depth 29 = .ok (.istore_n 3, 1) := by decide +kernel
theorem dX6_depth_30 : decode cX6_depth 30 = .ok (.goto (-18), 3) := by decide +kernel
theorem dX6_depth_33 : decode cX6_depth 33 = .ok (.iload_n 2, 1) := by decide +kernel
theorem dX6_depth_34 : decode cX6_depth 34 = .ok (.ireturn, 1) := by decide +kernel
theorem dX6_greatOne_0 : decode cX6_greatOne 0 = .ok (.iconst 0, 1) := by decide +kernel
theorem dX6_greatOne_1 : decode cX6_greatOne 1 = .ok (.istore_n 1, 1) := by decide +kernel
theorem dX6_greatOne_2 : decode cX6_greatOne 2 = .ok (.iload_n 1, 1) := by decide +kernel
theorem dX6_greatOne_3 : decode cX6_greatOne 3 = .ok (.bipush 12, 2) := by decide +kernel
theorem dX6_greatOne_5 : decode cX6_greatOne 5 = .ok (.if_icmp .ge 39, 3) := by decide +kernel
theorem dX6_greatOne_8 : decode cX6_greatOne 8 = .ok (.iconst 0, 1) := by decide +kernel
theorem dX6_greatOne_9 : decode cX6_greatOne 9 = .ok (.istore_n 2, 1) := by decide +kernel
theorem dX6_greatOne_10 : decode cX6_greatOne 10 = .ok (.iload_n 2, 1) := by decide +kernel
theorem dX6_greatOne_11 : decode cX6_greatOne 11 = .ok (.aload_n 0, 1) := by decide +kernel
theorem dX6_greatOne_12 : decode cX6_greatOne 12 = .ok (.getfield 126, 3) := by decide +kernel
theorem dX6_greatOne_15 : decode cX6_greatOne 15 = .ok (.if_icmp .ge 23, 3) := by decide +kernel
theorem dX6_greatOne_18 : decode cX6_greatOne 18 = .ok (.aload_n 0, 1) := by decide +kernel
theorem dX6_greatOne_19 : decode cX6_greatOne 19 = .ok (.iload_n 2, 1) := by decide +kernel
theorem dX6_greatOne_20 : decode cX6_greatOne 20 = .ok (.invokevirtual 180, 3) := by decide +kernel
theorem dX6_greatOne_23 : decode cX6_greatOne 23 = .ok (.iload_n 1, 1) := by decide +kernel
theorem dX6_greatOne_24 : decode cX6_greatOne 24 = .ok (.if_icmp .ne 8, 3) := by decide +kernel
theorem dX6_greatOne_27 : decode cX6_greatOne 27 = .ok (.aload_n 0, 1) := by decide +kernel
theorem dX6_greatOne_28 : decode cX6_greatOne 28 = .ok (.iload_n 2, 1) := by decide +kernel
theorem dX6_greatOne_29 : decode cX6_greatOne 29 = .ok (.invokevirtual 184, 3) := by decide +kernel
theorem dX6_greatOne_32 : decode cX6_greatOne 32 = .ok (.iinc 2 1, 3) := by decide +kernel
theorem dX6_greatOne_35 : decode cX6_greatOne 35 = .ok (.goto (-25), 3) := by decide +kernel
theorem dX6_greatOne_38 : decode cX6_greatOne 38 = .ok (.iinc 1 1, 3) := by decide +kernel
theorem dX6_greatOne_41 : decode cX6_greatOne 41 = .ok (.goto (-39), 3) := by decide +kernel
theorem dX6_greatOne_44 : decode cX6_greatOne 44 = .ok (.iconst 0, 1) := by decide +kernel
theorem dX6_greatOne_45 : decode cX6_greatOne 45 = .ok (.istore_n 1, 1) := by decide +kernel
theorem dX6_greatOne_46 : decode cX6_greatOne 46 = .ok (.iload_n 1, 1) := by decide +kernel
theorem dX6_greatOne_47 : decode cX6_greatOne 47 = .ok (.aload_n 0, 1) := by decide +kernel
theorem dX6_greatOne_48 : decode cX6_greatOne 48 = .ok (.getfield 126, 3) := by decide +kernel
theorem dX6_greatOne_51 : decode cX6_greatOne 51 = .ok (.if_icmp .ge 36, 3) := by decide +kernel
theorem dX6_greatOne_54 : decode cX6_greatOne 54 = .ok (.aload_n 0, 1) := by decide +kernel
theorem dX6_greatOne_55 : decode cX6_greatOne 55 = .ok (.getfield 62, 3) := by decide +kernel
theorem dX6_greatOne_58 : decode cX6_greatOne 58 = .ok (.bipush 12, 2) := by decide +kernel
theorem dX6_greatOne_60 : decode cX6_greatOne 60 = .ok (.iload_n 1, 1) := by decide +kernel
theorem dX6_greatOne_61 : decode cX6_greatOne 61 = .ok (.iadd, 1) := by decide +kernel
theorem dX6_greatOne_62 : decode cX6_greatOne 62 = .ok (.baload, 1) := by decide +kernel
theorem dX6_greatOne_63 : decode cX6_greatOne 63 = .ok (.ifCond .eq 18, 3) := by decide +kernel
theorem dX6_greatOne_66 : decode cX6_greatOne 66 = .ok (.aload_n 0, 1) := by decide +kernel
theorem dX6_greatOne_67 : decode cX6_greatOne 67 = .ok (.getfield 66, 3) := by decide +kernel
theorem dX6_greatOne_70 : decode cX6_greatOne 70 = .ok (.aload_n 0, 1) := by decide +kernel
theorem dX6_greatOne_71 : decode cX6_greatOne 71 = .ok (.getfield 44, 3) := by decide +kernel
theorem dX6_greatOne_74 : decode cX6_greatOne 74 = .ok (.bipush 12, 2) := by decide +kernel
theorem dX6_greatOne_76 : decode cX6_greatOne 76 = .ok (.iload_n 1, 1) := by decide +kernel
theorem dX6_greatOne_77 : decode cX6_greatOne 77 = .ok (.iadd, 1) := by decide +kernel
theorem dX6_greatOne_78 : decode cX6_greatOne 78 = .ok (.iaload, 1) := by decide +kernel
theorem dX6_greatOne_79 : decode cX6_greatOne 79 = .ok (.iaload, 1) := by decide +kernel
theorem dX6_greatOne_80 : decode cX6_greatOne 80 = .ok (.ireturn, 1) := by decide +kernel
theorem dX6_greatOne_81 : decode cX6_greatOne 81 = .ok (.iinc 1 1, 3) := by decide +kernel
theorem dX6_greatOne_84 : decode cX6_greatOne 84 = .ok (.goto (-38), 3) := by decide +kernel
theorem dX6_greatOne_87 : decode cX6_greatOne 87 = .ok (.iconst (-1), 1) := by decide +kernel
theorem dX6_greatOne_88 : decode cX6_greatOne 88 = .ok (.ireturn, 1) := by decide +kernel
theorem dX6_read_0 : decode cX6_read 0 = .ok (.aload_n 0, 1) := by decide +kernel
theorem dX6_read_1 : decode cX6_read 1 = .ok (.iconst 0, 1) := by decide +kernel
theorem dX6_read_2 : decode cX6_read 2 = .ok (.putfield 75, 3) := by decide +kernel
theorem dX6_read_5 : decode cX6_read 5 = .ok (.aload_n 0, 1) := by decide +kernel
theorem dX6_read_6 : decode cX6_read 6 = .ok (.iconst 0, 1) := by decide +kernel
theorem dX6_read_7 : decode cX6_read 7 = .ok (.putfield 89, 3) := by decide +kernel
theorem dX6_read_10 : decode cX6_read 10 = .ok (.aload_n 0, 1) := by decide +kernel
theorem dX6_read_11 : decode cX6_read 11 = .ok (.iconst 1, 1) := by decide +kernel
theorem dX6_read_12 : decode cX6_read 12 = .ok (.putfield 95, 3) := by decide +kernel
theorem dX6_read_15 : decode cX6_read 15 = .ok (.aload_n 0, 1) := by decide +kernel
theorem dX6_read_16 : decode cX6_read 16 = .ok (.iconst 0, 1) := by decide +kernel
theorem dX6_read_17 : decode cX6_read 17 = .ok (.putfield 133, 3) := by decide +kernel
theorem dX6_read_20 : decode cX6_read 20 = .ok (.aload_n 0, 1) := by decide +kernel
theorem dX6_read_21 : decode cX6_read 21 = .ok (.iconst 0, 1) := by decide +kernel
theorem dX6_read_22 : decode cX6_read 22 = .ok (.putfield 126, 3) := by decide +kernel
theorem dX6_read_25 : decode cX6_read 25 = .ok (.aload_n 0, 1) := by decide +kernel
theorem dX6_read_26 : decode cX6_read 26 = .ok (.invokevirtual 99, 3) := by decide +kernel
theorem dX6_read_29 : decode cX6_read 29 = .ok (.aload_n 0, 1) := by decide +kernel
theorem dX6_read_30 : decode cX6_read 30 = .ok (.getfield 95, 3) := by decide +kernel
theorem dX6_read_33 : decode cX6_read 33 = .ok (.ifCond .eq 21, 3) := by decide +kernel
theorem dX6_read_36 : decode cX6_read 36 = .ok (.aload_n 0, 1) := by decide +kernel
theorem dX6_read_37 : decode cX6_read 37 = .ok (.getfield 92, 3) := by decide +kernel
theorem dX6_read_40 : decode cX6_read 40 = .ok (.aload_n 0, 1) := by decide +kernel
theorem dX6_read_41 : decode cX6_read 41 = .ok (.getfield 86, 3) := by decide +kernel
theorem dX6_read_44 : decode cX6_read 44 = .ok (.if_icmp .ge 10, 3) := by decide +kernel
theorem dX6_read_47 : decode cX6_read 47 = .ok (.aload_n 0, 1) := by decide +kernel
theorem dX6_read_48 : decode cX6_read 48 = .ok (.invokevirtual 187, 3) := by decide +kernel
theorem dX6_read_51 : decode cX6_read 51 = .ok (.goto (-22), 3) := by decide +kernel
theorem dX6_read_54 : decode cX6_read 54 = .ok (.aload_n 0, 1) := by decide +kernel
theorem dX6_read_55 : decode cX6_read 55 = .ok (.iconst 0, 1) := by decide +kernel
theorem dX6_read_56 : decode cX6_read 56 = .ok (.putfield 86, 3) := by decide +kernel
theorem dX6_read_59 : decode cX6_read 59 = .ok (.aload_n 0, 1) := by decide +kernel
theorem dX6_read_60 : decode cX6_read 60 = .ok (.getfield 95, 3) := by decide +kernel
theorem dX6_read_63 : decode cX6_read 63 = .ok (.ifCond .ne 10, 3) := by decide +kernel
