theorem dX4_init_0 : decode cX4_init 0 = .ok (.aload_n 0, 1) := by decide +kernel
theorem dX4_init_1 : decode cX4_init 1 = .ok (.invokespecial 1, 3) := by decide +kernel
theorem dX4_init_4 : decode cX4_init 4 = .ok (.aload_n 0, 1) := by decide +kernel
theorem dX4_init_5 : decode cX4_init 5 = .ok (.bipush 14, 2) := by decide +kernel
theorem dX4_init_7 : decode cX4_init 7 = .ok (.newarray .int, 2) := by decide +kernel
theorem dX4_init_9 : decode cX4_init 9 = .ok (.putfield 7, 3) := by decide +kernel
theorem dX4_init_12 : decode cX4_init 12 = .ok (.aload_n 0, 1) := by decide +kernel
theorem dX4_init_13 : decode cX4_init 13 = .ok (.bipush 14, 2) := by decide +kernel
theorem dX4_init_15 : decode cX4_init 15 = .ok (.newarray .int, 2) := by decide +kernel
theorem dX4_init_17 : decode cX4_init 17 = .ok (.putfield 13, 3) := by decide +kernel
theorem dX4_init_20 : decode cX4_init 20 = .ok (.aload_n 0, 1) := by decide +kernel
theorem dX4_init_21 : decode cX4_init 21 = .ok (.bipush 14, 2) := by decide +kernel
theorem dX4_init_23 : decode cX4_init 23 = .ok (.newarray .int, 2) := by decide +kernel
theorem dX4_init_25 : decode cX4_init 25 = .ok (.putfield 16, 3) := by decide +kernel
theorem dX4_init_28 : decode cX4_init 28 = .ok (.aload_n 0, 1) := by decide +kernel
theorem dX4_init_29 : decode cX4_init 29 = .ok (.bipush 14, 2) := by decide +kernel
theorem dX4_init_31 : decode cX4_init 31 = .ok (.newarray .boolean, 2) := by decide +kernel
theorem dX4_init_33 : decode cX4_init 33 = .ok (.putfield 19, 3) := by decide +kernel
theorem dX4_init_36 : decode cX4_init 36 = .ok (.aload_n 0, 1) := by decide +kernel
theorem dX4_init_37 : decode cX4_init 37 = .ok (.iconst 5, 1) := by decide +kernel
theorem dX4_init_38 : decode cX4_init 38 = .ok (.newarray .int, 2) := by decide +kernel
theorem dX4_init_40 : decode cX4_init 40 = .ok (.putfield 23, 3) := by decide +kernel
theorem dX4_init_43 : decode cX4_init 43 = .ok (.aload_n 0, 1) := by decide +kernel
theorem dX4_init_44 : decode cX4_init 44 = .ok (.bipush 50, 2) := by decide +kernel
theorem dX4_init_46 : decode cX4_init 46 = .ok (.newarray .int, 2) := by decide +kernel
theorem dX4_init_48 : decode cX4_init 48 = .ok (.putfield 26, 3) := by decide +kernel
theorem dX4_init_51 : decode cX4_init 51 = .ok (.aload_n 0, 1) := by decide +kernel
theorem dX4_init_52 : decode cX4_init 52 = .ok (.bipush 10, 2) := by decide +kernel
theorem dX4_init_54 : decode cX4_init 54 = .ok (.newarray .int, 2) := by decide +kernel
theorem dX4_init_56 : decode cX4_init 56 = .ok (.putfield 29, 3) := by decide +kernel
theorem dX4_init_59 : decode cX4_init 59 = .ok (.aload_n 0, 1) := by decide +kernel
theorem dX4_init_60 : decode cX4_init 60 = .ok (.bipush 10, 2) := by decide +kernel
theorem dX4_init_62 : decode cX4_init 62 = .ok (.newarray .int, 2) := by decide +kernel
theorem dX4_init_64 : decode cX4_init 64 = .ok (.putfield 32, 3) := by decide +kernel
theorem dX4_init_67 : decode cX4_init 67 = .ok (.aload_n 0, 1) := by decide +kernel
theorem dX4_init_68 : decode cX4_init 68 = .ok (.sipush 140, 3) := by decide +kernel
theorem dX4_init_71 : decode cX4_init 71 = .ok (.newarray .boolean, 2) := by decide +kernel
theorem dX4_init_73 : decode cX4_init 73 = .ok (.putfield 35, 3) := by decide +kernel
theorem dX4_init_76 : decode cX4_init 76 = .ok (.aload_n 0, 1) := by decide +kernel
theorem dX4_init_77 : decode cX4_init 77 = .ok (.bipush 41, 2) := by decide +kernel
theorem dX4_init_79 : decode cX4_init 79 = .ok (.newarray .int, 2) := by decide +kernel
theorem dX4_init_81 : decode cX4_init 81 = .ok (.putfield 38, 3) := by decide +kernel
theorem dX4_init_84 : decode cX4_init 84 = .ok (.aload_n 0, 1) := by decide +kernel
theorem dX4_init_85 : decode cX4_init 85 = .ok (.bipush 41, 2) := by decide +kernel
theorem dX4_init_87 : decode cX4_init 87 = .ok (.newarray .int, 2) := by decide +kernel
theorem dX4_init_89 : decode cX4_init 89 = .ok (.putfield 41, 3) := by decide +kernel
theorem dX4_init_92 : decode cX4_init 92 = .ok (.aload_n 0, 1) := by decide +kernel
theorem dX4_init_93 : decode cX4_init 93 = .ok (.sipush 1024, 3) := by decide +kernel
theorem dX4_init_96 : decode cX4_init 96 = .ok (.newarray .boolean, 2) := by decide +kernel
theorem dX4_init_98 : decode cX4_init 98 = .ok (.putfield 44, 3) := by decide +kernel
theorem dX4_init_101 : decode cX4_init 101 = .ok (.iconst 0, 1) := by decide +kernel
theorem dX4_init_102 : decode cX4_init 102 = .ok (.istore_n 1, 1) := by decide +kernel
theorem dX4_init_103 : decode cX4_init 103 = .ok (.iload_n 1, 1) := by decide +kernel
theorem dX4_init_104 : decode cX4_init 104 = .ok (.bipush 50, 2) := by decide +kernel
theorem dX4_init_106 : decode cX4_init 106 = .ok (.if_icmp .ge 17, 3) := by decide +kernel
theorem dX4_init_109 : decode cX4_init 109 = .ok (.aload_n 0, 1) := by decide +kernel
theorem dX4_init_110 : decode cX4_init 110 = .ok (.getfield 26, 3) := by decide +kernel
theorem dX4_init_113 : decode cX4_init 113 = .ok (.iload_n 1, 1) := by decide +kernel
theorem dX4_init_114 : decode cX4_init 114 = .ok (.bipush (-9), 2) := by decide +kernel
theorem dX4_init_116 : decode cX4_init 116 = .ok (.iastore, 1) := by decide +kernel
theorem dX4_init_117 : decode cX4_init 117 = .ok (.iinc 1 1, 3) := by decide +kernel
theorem dX4_init_120 : decode cX4_init 120 = .ok (.goto (-17), 3) := by decide +kernel
theorem dX4_init_123 : decode cX4_init 123 = .ok (.return_, 1) := by decide +kernel
theorem dX4_within_0 : decode cX4_within 0 = .ok (.iload_n 0, 1) := by decide +kernel
theorem dX4_within_1 : decode cX4_within 1 = .ok (.iload_n 1, 1) := by decide +kernel
theorem dX4_within_2 : decode cX4_within 2 = .ok (.if_icmp .lt 12, 3) := by decide +kernel
theorem dX4_within_5 : decode cX4_within 5 = .ok (.iload_n 0, 1) := by decide +kernel
theorem dX4_within_6 : decode cX4_within 6 = .ok (.iload_n 2, 1) := by decide +kernel
theorem dX4_within_7 : decode cX4_within 7 = .ok (.if_icmp .gt 7, 3) := by decide +kernel
theorem dX4_within_10 : decode cX4_within 10 = .ok (.iconst 1, 1) := by decide +kernel
theorem dX4_within_11 : decode cX4_within 11 = .ok (.goto 4, 3) := by decide +kernel
theorem dX4_within_14 : decode cX4_within 14 = .ok (.iconst 0, 1) := by decide +kernel
theorem dX4_within_15 : decode cX4_within 15 = .ok (.ireturn, 1) := by decide +kernel
theorem dX4_isPlace_0 : decode cX4_isPlace 0 = .ok (.iload_n 0, 1) := by decide +kernel
theorem dX4_isPlace_1 : decode cX4_isPlace 1 = .ok (.iconst 0, 1) := by decide +kernel
theorem dX4_isPlace_2 : decode cX4_isPlace 2 = .ok (.bipush 9, 2) := by decide +kernel
theorem dX4_isPlace_4 : decode cX4_isPlace 4 = .ok (.invokestatic 47, 3) := by decide +kernel
theorem dX4_isPlace_7 : decode cX4_isPlace 7 = .ok (.ireturn, 1) := by decide +kernel
theorem dX4_isWalk_0 : decode cX4_isWalk 0 = .ok (.iload_n 1, 1) := by decide +kernel
theorem dX4_isWalk_1 : decode cX4_isWalk 1 = .ok (.iconst 0, 1) := by decide +kernel
theorem dX4_isWalk_2 : decode cX4_isWalk 2 = .ok (.aload_n 0, 1) := by decide +kernel
theorem dX4_isWalk_3 : decode cX4_isWalk 3 = .ok (.getfield 51, 3) := by decide +kernel
theorem dX4_isWalk_6 : decode cX4_isWalk 6 = .ok (.iconst 1, 1) := by decide +kernel
theorem dX4_isWalk_7 : decode cX4_isWalk 7 = .ok (.isub, 1) := by decide +kernel
theorem dX4_isWalk_8 : decode cX4_isWalk 8 = .ok (.invokestatic 47, 3) := by decide +kernel
theorem dX4_isWalk_11 : decode cX4_isWalk 11 = .ok (.ireturn, 1) := by decide +kernel
theorem dX4_isName_0 : decode cX4_isName 0 = .ok (.iload_n 1, 1) := by decide +kernel
theorem dX4_isName_1 : decode cX4_isName 1 = .ok (.iconst 0, 1) := by decide +kernel
theorem dX4_isName_2 : decode cX4_isName 2 = .ok (.aload_n 0, 1) := by decide +kernel
theorem dX4_isName_3 : decode cX4_isName 3 = .ok (.getfield 55, 3) := by decide +kernel
theorem dX4_isName_6 : decode cX4_isName 6 = .ok (.iconst 1, 1) := by decide +kernel
theorem dX4_isName_7 : decode cX4_isName 7 = .ok (.isub, 1) := by decide +kernel
theorem dX4_isName_8 : decode cX4_isName 8 = .ok (.invokestatic 47, 3) := by decide +kernel
theorem dX4_isName_11 : decode cX4_isName 11 = .ok (.ireturn, 1) := by decide +kernel
theorem dX4_walkBetween_0 : decode cX4_walkBetween 0 = .ok (.iconst 0, 1) := by decide +kernel
theorem dX4_walkBetween_1 : decode cX4_walkBetween 1 = .ok (.istore_n 3, 1) := by decide +kernel
theorem dX4_walkBetween_2 : decode cX4_walkBetween 2 = .ok (.iload_n 3, 1) := by decide +kernel
theorem dX4_walkBetween_3 : decode cX4_walkBetween 3 = .ok (.aload_n 0, 1) := by decide +kernel
theorem dX4_walkBetween_4 : decode cX4_walkBetween 4 = .ok (.getfield 51, 3) := by decide +kernel
theorem dX4_walkBetween_7 : decode cX4_walkBetween 7 = .ok (.if_icmp .ge 51, 3) := by decide +kernel
theorem dX4_walkBetween_10 : decode cX4_walkBetween 10 = .ok (.aload_n 0, 1) := by decide +kernel
theorem dX4_walkBetween_11 : decode cX4_walkBetween 11 = .ok (.getfield 7, 3) := by decide +kernel
theorem dX4_walkBetween_14 : decode cX4_walkBetween 14 = .ok (.iload_n 3, 1) := by decide +kernel
theorem dX4_walkBetween_15 : decode cX4_walkBetween 15 = .ok (.iaload, 1) := by decide +kernel
theorem dX4_walkBetween_16 : decode cX4_walkBetween 16 = .ok (.iload_n 1, 1) := by decide +kernel
theorem dX4_walkBetween_17 : decode cX4_walkBetween 17 = .ok (.if_icmp .ne 13, 3) := by decide +kernel
theorem dX4_walkBetween_20 : decode cX4_walkBetween 20 = .ok (.aload_n 0, 1) := by decide +kernel
theorem dX4_walkBetween_21 : decode cX4_walkBetween 21 = .ok (.getfield 13, 3) := by decide +kernel
theorem dX4_walkBetween_24 : decode cX4_walkBetween 24 = .ok (.iload_n 3, 1) := by decide +kernel
theorem dX4_walkBetween_25 : decode cX4_walkBetween 25 = .ok (.iaload, 1) := by decide +kernel
theorem dX4_walkBetween_26 : decode cX4_walkBetween 26 = .ok (.iload_n 2, 1) := by decide +kernel
theorem dX4_walkBetween_27 : decode cX4_walkBetween 27 = .ok (.if_icmp .eq 23, 3) := by decide +kernel
theorem dX4_walkBetween_30 : decode cX4_walkBetween 30 = .ok (.aload_n 0, 1) := by decide +kernel
theorem dX4_walkBetween_31 : decode cX4_walkBetween 31 = .ok (.getfield 7, 3) := by decide +kernel
theorem dX4_walkBetween_34 : decode cX4_walkBetween 34 = .ok (.iload_n 3, 1) := by decide +kernel
theorem dX4_walkBetween_35 : decode cX4_walkBetween 35 = .ok (.iaload, 1) := by decide +kernel
theorem dX4_walkBetween_36 : decode cX4_walkBetween 36 = .ok (.iload_n 2, 1) := by decide +kernel
theorem dX4_walkBetween_37 : decode cX4_walkBetween 37 = .ok (.if_icmp .ne 15, 3) := by decide +kernel
theorem dX4_walkBetween_40 : decode cX4_walkBetween 40 = .ok (.aload_n 0, 1) := by decide +kernel
theorem dX4_walkBetween_41 : decode cX4_walkBetween 41 = .ok (.getfield 13, 3) := by decide +kernel
theorem dX4_walkBetween_44 : decode cX4_walkBetween 44 = .ok (.iload_n 3, 1) := by decide +kernel
theorem dX4_walkBetween_45 : decode cX4_walkBetween 45 = .ok (.iaload, 1) := by decide +kernel
theorem dX4_walkBetween_46 : decode cX4_walkBetween 46 = .ok (.iload_n 1, 1) := by decide +kernel
theorem dX4_walkBetween_47 : decode cX4_walkBetween 47 = .ok (.if_icmp .ne 5, 3) := by decide +kernel
theorem dX4_walkBetween_50 : decode cX4_walkBetween 50 = .ok (.iload_n 3, 1) := by decide +kernel
theorem dX4_walkBetween_51 : decode cX4_walkBetween 51 = .ok (.ireturn, 1) := by decide +kernel
theorem dX4_walkBetween_52 : decode cX4_walkBetween 52 = .ok (.iinc 3 1, 3) := by decide +kernel
theorem dX4_walkBetween_55 : decode cX4_walkBetween 55 = .ok (.goto (-53), 3) := by decide +kernel
theorem dX4_walkBetween_58 : decode cX4_walkBetween 58 = .ok (.bipush (-9), 2) := by decide +kernel
theorem dX4_walkBetween_60 : decode cX4_walkBetween 60 = .ok (.ireturn, 1) := by decide +kernel
theorem dX4_openBetween_0 : decode cX4_openBetween 0 = .ok (.aload_n 0, 1) := by decide +kernel
theorem dX4_openBetween_1 : decode cX4_openBetween 1 = .ok (.iload_n 1, 1) := by decide +kernel
theorem dX4_openBetween_2 : decode cX4_openBetween 2 = .ok (.iload_n 2, 1) := by decide +kernel
theorem dX4_openBetween_3 : decode cX4_openBetween 3 = .ok (.invokevirtual 58, 3) := by decide +kernel
theorem dX4_openBetween_6 : decode cX4_openBetween 6 = .ok (.istore_n 3, 1) := by decide +kernel
theorem dX4_openBetween_7 : decode cX4_openBetween 7 = .ok (.iload_n 3, 1) := by decide +kernel
theorem dX4_openBetween_8 : decode cX4_openBetween 8 = .ok (.bipush (-9), 2) := by decide +kernel
theorem dX4_openBetween_10 : decode cX4_openBetween 10 = .ok (.if_icmp .eq 16, 3) := by decide +kernel
theorem dX4_openBetween_13 : decode cX4_openBetween 13 = .ok (.aload_n 0, 1) := by decide +kernel
theorem dX4_openBetween_14 : decode cX4_openBetween 14 = .ok (.getfield 19, 3) := by decide +kernel
theorem dX4_openBetween_17 : decode cX4_openBetween 17 = .ok (.iload_n 3, 1) := by decide +kernel
theorem dX4_openBetween_18 : decode cX4_openBetween 18 = .ok (.baload, 1) := by decide +kernel
theorem dX4_openBetween_19 : decode cX4_openBetween 19 = .ok (.ifCond .eq 7, 3) := by decide +kernel
theorem dX4_openBetween_22 : decode cX4_openBetween 22 = .ok (.iload_n 3, 1) := by decide +kernel
theorem dX4_openBetween_23 : decode cX4_openBetween 23 = .ok (.goto 5, 3) := by decide +kernel
theorem dX4_openBetween_26 : decode cX4_openBetween 26 = .ok (.bipush (-9), 2) := by decide +kernel
theorem dX4_openBetween_28 : decode cX4_openBetween 28 = .ok (.ireturn, 1) := by decide +kernel
theorem dX4_walk_0 : decode cX4_walk 0 = .ok (.iload_n 1, 1) := by decide +kernel
theorem dX4_walk_1 : decode cX4_walk 1 = .ok (.invokestatic 62, 3) := by decide +kernel
theorem dX4_walk_4 : decode cX4_walk 4 = .ok (.ifCond .eq 15, 3) := by decide +kernel
theorem dX4_walk_7 : decode cX4_walk 7 = .ok (.iload_n 2, 1) := by decide +kernel
theorem dX4_walk_8 : decode cX4_walk 8 = .ok (.invokestatic 62, 3) := by decide +kernel
theorem dX4_walk_11 : decode cX4_walk 11 = .ok (.ifCond .eq 8, 3) := by decide +kernel
theorem dX4_walk_14 : decode cX4_walk 14 = .ok (.iload_n 1, 1) := by decide +kernel
theorem dX4_walk_15 : decode cX4_walk 15 = .ok (.iload_n 2, 1) := by decide +kernel
theorem dX4_walk_16 : decode cX4_walk 16 = .ok (.if_icmp .ne 5, 3) := by decide +kernel
theorem dX4_walk_19 : decode cX4_walk 19 = .ok (.iconst (-1), 1) := by decide +kernel
theorem dX4_walk_20 : decode cX4_walk 20 = .ok (.ireturn, 1) := by decide +kernel
theorem dX4_walk_21 : decode cX4_walk 21 = .ok (.iload_n 3, 1) := by decide +kernel
theorem dX4_walk_22 : decode cX4_walk 22 = .ok (.iconst 1, 1) := by decide +kernel
theorem dX4_walk_23 : decode cX4_walk 23 = .ok (.bipush 99, 2) := by decide +kernel
theorem dX4_walk_25 : decode cX4_walk 25 = .ok (.invokestatic 47, 3) := by decide +kernel
theorem dX4_walk_28 : decode cX4_walk 28 = .ok (.ifCond .ne 6, 3) := by decide +kernel
theorem dX4_walk_31 : decode cX4_walk 31 = .ok (.bipush (-2), 2) := by decide +kernel
theorem dX4_walk_33 : decode cX4_walk 33 = .ok (.ireturn, 1) := by decide +kernel
theorem dX4_walk_34 : decode cX4_walk 34 = .ok (.aload_n 0, 1) := by decide +kernel
theorem dX4_walk_35 : decode cX4_walk 35 = .ok (.iload_n 1, 1) := by decide +kernel
theorem dX4_walk_36 : decode cX4_walk 36 = .ok (.iload_n 2, 1) := by decide +kernel
theorem dX4_walk_37 : decode cX4_walk 37 = .ok (.invokevirtual 58, 3) := by decide +kernel
theorem dX4_walk_40 : decode cX4_walk 40 = .ok (.bipush (-9), 2) := by decide +kernel
theorem dX4_walk_42 : decode cX4_walk 42 = .ok (.if_icmp .eq 6, 3) := by decide +kernel
theorem dX4_walk_45 : decode cX4_walk 45 = .ok (.bipush (-3), 2) := by decide +kernel
theorem dX4_walk_47 : decode cX4_walk 47 = .ok (.ireturn, 1) := by decide +kernel
theorem dX4_walk_48 : decode cX4_walk 48 = .ok (.aload_n 0, 1) := by decide +kernel
theorem dX4_walk_49 : decode cX4_walk 49 = .ok (.getfield 51, 3) := by decide +kernel
theorem dX4_walk_52 : decode cX4_walk 52 = .ok (.bipush 14, 2) := by decide +kernel
theorem dX4_walk_54 : decode cX4_walk 54 = .ok (.if_icmp .ne 6, 3) := by decide +kernel
theorem dX4_walk_57 : decode cX4_walk 57 = .ok (.bipush (-4), 2) := by decide +kernel
theorem dX4_walk_59 : decode cX4_walk 59 = .ok (.ireturn, 1) := by decide +kernel
theorem dX4_walk_60 : decode cX4_walk 60 = .ok (.aload_n 0, 1) := by decide +kernel
theorem dX4_walk_61 : decode cX4_walk 61 = .ok (.getfield 7, 3) := by decide +kernel
theorem dX4_walk_64 : decode cX4_walk 64 = .ok (.aload_n 0, 1) := by decide +kernel
theorem dX4_walk_65 : decode cX4_walk 65 = .ok (.getfield 51, 3) := by decide +kernel
theorem dX4_walk_68 : decode cX4_walk 68 = .ok (.iload_n 1, 1) := by decide +kernel
theorem dX4_walk_69 : decode cX4_walk 69 = .ok (.iload_n 2, 1) := by decide +kernel
theorem dX4_walk_70 : decode cX4_walk 70 = .ok (.if_icmp .ge 7, 3) := by decide +kernel
theorem dX4_walk_73 : decode cX4_walk 73 = .ok (.iload_n 1, 1) := by decide +kernel
theorem dX4_walk_74 : decode cX4_walk 74 = .ok (.goto 4, 3) := by decide +kernel
theorem dX4_walk_77 : decode cX4_walk 77 = .ok (.iload_n 2, 1) := by decide +kernel
theorem dX4_walk_78 : decode cX4_walk 78 = .ok (.iastore, 1) := by decide +kernel
theorem dX4_walk_79 : decode cX4_walk 79 = .ok (.aload_n 0, 1) := by decide +kernel
theorem dX4_walk_80 : decode cX4_walk 80 = .ok (.getfield 13, 3) := by decide +kernel
theorem dX4_walk_83 : decode cX4_walk 83 = .ok (.aload_n 0, 1) := by decide +kernel
theorem dX4_walk_84 : decode cX4_walk 84 = .ok (.getfield 51, 3) := by decide +kernel
theorem dX4_walk_87 : decode cX4_walk 87 = .ok (.iload_n 1, 1) := by decide +kernel
theorem dX4_walk_88 : decode cX4_walk 88 = .ok (.iload_n 2, 1) := by decide +kernel
theorem dX4_walk_89 : decode cX4_walk 89 = .ok (.if_icmp .ge 7, 3) := by decide +kernel
theorem dX4_walk_92 : decode cX4_walk 92 = .ok (.iload_n 2, 1) := by decide +kernel
theorem dX4_walk_93 : decode cX4_walk 93 = .ok (.goto 4, 3) := by decide +kernel
theorem dX4_walk_96 : decode cX4_walk 96 = .ok (.iload_n 1, 1) := by decide +kernel
theorem dX4_walk_97 : decode cX4_walk 97 = .ok (.iastore, 1) := by decide +kernel
theorem dX4_walk_98 : decode cX4_walk 98 = .ok (.aload_n 0, 1) := by decide +kernel
theorem dX4_walk_99 : decode cX4_walk 99 = .ok (.getfield 16, 3) := by decide +kernel
theorem dX4_walk_102 : decode cX4_walk 102 = .ok (.aload_n 0, 1) := by decide +kernel
theorem dX4_walk_103 : decode cX4_walk 103 = .ok (.getfield 51, 3) := by decide +kernel
theorem dX4_walk_106 : decode cX4_walk 106 = .ok (.iload_n 3, 1) := by decide +kernel
theorem dX4_walk_107 : decode cX4_walk 107 = .ok (.iastore, 1) := by decide +kernel
theorem dX4_walk_108 : decode cX4_walk 108 = .ok (.aload_n 0, 1) := by decide +kernel
theorem dX4_walk_109 : decode cX4_walk 109 = .ok (.getfield 19, 3) := by decide +kernel
theorem dX4_walk_112 : decode cX4_walk 112 = .ok (.aload_n 0, 1) := by decide +kernel
theorem dX4_walk_113 : decode cX4_walk 113 = .ok (.getfield 51, 3) := by decide +kernel
theorem dX4_walk_116 : decode cX4_walk 116 = .ok (.iconst 1, 1) := by decide +kernel
theorem dX4_walk_117 : decode cX4_walk 117 = .ok (.bastore, 1) := by decide +kernel
theorem dX4_walk_118 : decode cX4_walk 118 = .ok (.aload_n 0, 1) := by decide +kernel
theorem dX4_walk_119 : decode cX4_walk 119 = .ok (.dup, 1) := by decide +kernel
theorem dX4_walk_120 : decode cX4_walk 120 = .ok (.getfield 51, 3) := by decide +kernel
theorem dX4_walk_123 : decode cX4_walk 123 = .ok (.iconst 1, 1) := by decide +kernel
theorem dX4_walk_124 : decode cX4_walk 124 = .ok (.iadd, 1) := by decide +kernel
theorem dX4_walk_125 : decode cX4_walk 125 = .ok (.putfield 51, 3) := by decide +kernel
theorem dX4_walk_128 : decode cX4_walk 128 = .ok (.aload_n 0, 1) := by decide +kernel
theorem dX4_walk_129 : decode cX4_walk 129 = .ok (.getfield 51, 3) := by decide +kernel
theorem dX4_walk_132 : decode cX4_walk 132 = .ok (.iconst 1, 1) := by decide +kernel
theorem dX4_walk_133 : decode cX4_walk 133 = .ok (.isub, 1) := by decide +kernel
theorem dX4_walk_134 : decode cX4_walk 134 = .ok (.ireturn, 1) := by decide +kernel
theorem dX4_unwalk_0 : decode cX4_unwalk 0 = .ok (.aload_n 0, 1) := by decide +kernel
theorem dX4_unwalk_1 : decode cX4_unwalk 1 = .ok (.getfield 51, 3) := by decide +kernel
theorem dX4_unwalk_4 : decode cX4_unwalk 4 = .ok (.ifCond .ne 6, 3) := by decide +kernel
theorem dX4_unwalk_7 : decode cX4_unwalk 7 = .ok (.bipush (-3), 2) := by decide +kernel
theorem dX4_unwalk_9 : decode cX4_unwalk 9 = .ok (.ireturn, 1) := by decide +kernel
theorem dX4_unwalk_10 : decode cX4_unwalk 10 = .ok (.aload_n 0, 1) := by decide +kernel
theorem dX4_unwalk_11 : decode cX4_unwalk 11 = .ok (.dup, 1) := by decide +kernel
theorem dX4_unwalk_12 : decode cX4_unwalk 12 = .ok (.getfield 51, 3) := by decide +kernel
theorem dX4_unwalk_15 : decode cX4_unwalk 15 = .ok (.iconst 1, 1) := by decide +kernel
theorem dX4_unwalk_16 : decode cX4_unwalk 16 = .ok (.isub, 1) := by decide +kernel
theorem dX4_unwalk_17 : decode cX4_unwalk 17 = .ok (.putfield 51, 3) := by decide +kernel
theorem dX4_unwalk_20 : decode cX4_unwalk 20 = .ok (.aload_n 0, 1) := by decide +kernel
theorem dX4_unwalk_21 : decode cX4_unwalk 21 = .ok (.getfield 51, 3) := by decide +kernel
theorem dX4_unwalk_24 : decode cX4_unwalk 24 = .ok (.ireturn, 1) := by decide +kernel
theorem dX4_open_0 : decode cX4_open 0 = .ok (.aload_n 0, 1) := by decide +kernel
theorem dX4_open_1 : decode cX4_open 1 = .ok (.iload_n 1, 1) := by decide +kernel
theorem dX4_open_2 : decode cX4_open 2 = .ok (.invokevirtual 66, 3) := by decide +kernel
theorem dX4_open_5 : decode cX4_open 5 = .ok (.ifCond .ne 5, 3) := by decide +kernel
theorem dX4_open_8 : decode cX4_open 8 = .ok (.iconst (-1), 1) := by decide +kernel
theorem dX4_open_9 : decode cX4_open 9 = .ok (.ireturn, 1) := by decide +kernel
theorem dX4_open_10 : decode cX4_open 10 = .ok (.aload_n 0, 1) := by decide +kernel
theorem dX4_open_11 : decode cX4_open 11 = .ok (.getfield 19, 3) := by decide +kernel
theorem dX4_open_14 : decode cX4_open 14 = .ok (.iload_n 1, 1) := by decide +kernel
theorem dX4_open_15 : decode cX4_open 15 = .ok (.baload, 1) := by decide +kernel
theorem dX4_open_16 : decode cX4_open 16 = .ok (.iload_n 2, 1) := by decide +kernel
theorem dX4_open_17 : decode cX4_open 17 = .ok (.if_icmp .ne 5, 3) := by decide +kernel
theorem dX4_open_20 : decode cX4_open 20 = .ok (.iconst 0, 1) := by decide +kernel
theorem dX4_open_21 : decode cX4_open 21 = .ok (.ireturn, 1) := by decide +kernel
theorem dX4_open_22 : decode cX4_open 22 = .ok (.aload_n 0, 1) := by decide +kernel
theorem dX4_open_23 : decode cX4_open 23 = .ok (.getfield 19, 3) := by decide +kernel
theorem dX4_open_26 : decode cX4_open 26 = .ok (.iload_n 1, 1) := by decide +kernel
theorem dX4_open_27 : decode cX4_open 27 = .ok (.iload_n 2, 1) := by decide +kernel
theorem dX4_open_28 : decode cX4_open 28 = .ok (.bastore, 1) := by decide +kernel
theorem dX4_open_29 : decode cX4_open 29 = .ok (.iconst 1, 1) := by decide +kernel
theorem dX4_open_30 : decode cX4_open 30 = .ok (.ireturn, 1) := by decide +kernel
theorem dX4_ofWalk_0 : decode cX4_ofWalk 0 = .ok (.aload_n 0, 1) := by decide +kernel
theorem dX4_ofWalk_1 : decode cX4_ofWalk 1 = .ok (.iload_n 1, 1) := by decide +kernel
theorem dX4_ofWalk_2 : decode cX4_ofWalk 2 = .ok (.invokevirtual 66, 3) := by decide +kernel
theorem dX4_ofWalk_5 : decode cX4_ofWalk 5 = .ok (.ifCond .ne 5, 3) := by decide +kernel
theorem dX4_ofWalk_8 : decode cX4_ofWalk 8 = .ok (.iconst (-1), 1) := by decide +kernel
theorem dX4_ofWalk_9 : decode cX4_ofWalk 9 = .ok (.ireturn, 1) := by decide +kernel
theorem dX4_ofWalk_10 : decode cX4_ofWalk 10 = .ok (.iload_n 2, 1) := by decide +kernel
theorem dX4_ofWalk_11 : decode cX4_ofWalk 11 = .ok (.tableswitch 65 0 3 #[29, 36, 43, 50], 29) := by decide +kernel
theorem dX4_ofWalk_40 : decode cX4_ofWalk 40 = .ok (.aload_n 0, 1) := by decide +kernel
theorem dX4_ofWalk_41 : decode cX4_ofWalk 41 = .ok (.getfield 7, 3) := by decide +kernel
theorem dX4_ofWalk_44 : decode cX4_ofWalk 44 = .ok (.iload_n 1, 1) := by decide +kernel
theorem dX4_ofWalk_45 : decode cX4_ofWalk 45 = .ok (.iaload, 1) := by decide +kernel
theorem dX4_ofWalk_46 : decode cX4_ofWalk 46 = .ok (.ireturn, 1) := by decide +kernel
theorem dX4_ofWalk_47 : decode cX4_ofWalk 47 = .ok (.aload_n 0, 1) := by decide +kernel
theorem dX4_ofWalk_48 : decode cX4_ofWalk 48 = .ok (.getfield 13, 3) := by decide +kernel
theorem dX4_ofWalk_51 : decode cX4_ofWalk 51 = .ok (.iload_n 1, 1) := by decide +kernel
theorem dX4_ofWalk_52 : decode cX4_ofWalk 52 = .ok (.iaload, 1) := by decide +kernel
theorem dX4_ofWalk_53 : decode cX4_ofWalk 53 = .ok (.ireturn, 1) := by decide +kernel
theorem dX4_ofWalk_54 : decode cX4_ofWalk 54 = .ok (.aload_n 0, 1) := by decide +kernel
theorem dX4_ofWalk_55 : decode cX4_ofWalk 55 = .ok (.getfield 16, 3) := by decide +kernel
theorem dX4_ofWalk_58 : decode cX4_ofWalk 58 = .ok (.iload_n 1, 1) := by decide +kernel
theorem dX4_ofWalk_59 : decode cX4_ofWalk 59 = .ok (.iaload, 1) := by decide +kernel
theorem dX4_ofWalk_60 : decode cX4_ofWalk 60 = .ok (.ireturn, 1) := by decide +kernel
theorem dX4_ofWalk_61 : decode cX4_ofWalk 61 = .ok (.aload_n 0, 1) := by decide +kernel
theorem dX4_ofWalk_62 : decode cX4_ofWalk 62 = .ok (.getfield 19, 3) := by decide +kernel
theorem dX4_ofWalk_65 : decode cX4_ofWalk 65 = .ok (.iload_n 1, 1) := by decide +kernel
theorem dX4_ofWalk_66 : decode cX4_ofWalk 66 = .ok (.baload, 1) := by decide +kernel
theorem dX4_ofWalk_67 : decode cX4_ofWalk 67 = .ok (.ifCond .eq 7, 3) := by decide +kernel
theorem dX4_ofWalk_70 : decode cX4_ofWalk 70 = .ok (.iconst 1, 1) := by decide +kernel
theorem dX4_ofWalk_71 : decode cX4_ofWalk 71 = .ok (.goto 4, 3) := by decide +kernel
theorem dX4_ofWalk_74 : decode cX4_ofWalk 74 = .ok (.iconst 0, 1) := by decide +kernel
theorem dX4_ofWalk_75 : decode cX4_ofWalk 75 = .ok (.ireturn, 1) := by decide +kernel
theorem dX4_ofWalk_76 : decode cX4_ofWalk 76 = .ok (.bipush (-2), 2) := by decide +kernel
theorem dX4_ofWalk_78 : decode cX4_ofWalk 78 = .ok (.ireturn, 1) := by decide +kernel
theorem dX4_name_0 : decode cX4_name 0 = .ok (.iload_n 1, 1) := by decide +kernel
theorem dX4_name_1 : decode cX4_name 1 = .ok (.invokestatic 62, 3) := by decide +kernel
theorem dX4_name_4 : decode cX4_name 4 = .ok (.ifCond .ne 5, 3) := by decide +kernel
theorem dX4_name_7 : decode cX4_name 7 = .ok (.iconst (-1), 1) := by decide +kernel
theorem dX4_name_8 : decode cX4_name 8 = .ok (.ireturn, 1) := by decide +kernel
theorem dX4_name_9 : decode cX4_name 9 = .ok (.aload_n 0, 1) := by decide +kernel
theorem dX4_name_10 : decode cX4_name 10 = .ok (.getfield 55, 3) := by decide +kernel
theorem dX4_name_13 : decode cX4_name 13 = .ok (.iconst 5, 1) := by decide +kernel
theorem dX4_name_14 : decode cX4_name 14 = .ok (.if_icmp .ne 6, 3) := by decide +kernel
theorem dX4_name_17 : decode cX4_name 17 = .ok (.bipush (-4), 2) := by decide +kernel
theorem dX4_name_19 : decode cX4_name 19 = .ok (.ireturn, 1) := by decide +kernel
theorem dX4_name_20 : decode cX4_name 20 = .ok (.aload_n 0, 1) := by decide +kernel
theorem dX4_name_21 : decode cX4_name 21 = .ok (.getfield 23, 3) := by decide +kernel
theorem dX4_name_24 : decode cX4_name 24 = .ok (.aload_n 0, 1) := by decide +kernel
theorem dX4_name_25 : decode cX4_name 25 = .ok (.getfield 55, 3) := by decide +kernel
theorem dX4_name_28 : decode cX4_name 28 = .ok (.iload_n 1, 1) := by decide +kernel
theorem dX4_name_29 : decode cX4_name 29 = .ok (.iastore, 1) := by decide +kernel
theorem dX4_name_30 : decode cX4_name 30 = .ok (.aload_n 0, 1) := by decide +kernel
theorem dX4_name_31 : decode cX4_name 31 = .ok (.dup, 1) := by decide +kernel
theorem dX4_name_32 : decode cX4_name 32 = .ok (.getfield 55, 3) := by decide +kernel
theorem dX4_name_35 : decode cX4_name 35 = .ok (.iconst 1, 1) := by decide +kernel
theorem dX4_name_36 : decode cX4_name 36 = .ok (.iadd, 1) := by decide +kernel
theorem dX4_name_37 : decode cX4_name 37 = .ok (.putfield 55, 3) := by decide +kernel
theorem dX4_name_40 : decode cX4_name 40 = .ok (.aload_n 0, 1) := by decide +kernel
theorem dX4_name_41 : decode cX4_name 41 = .ok (.getfield 55, 3) := by decide +kernel
theorem dX4_name_44 : decode cX4_name 44 = .ok (.iconst 1, 1) := by decide +kernel
theorem dX4_name_45 : decode cX4_name 45 = .ok (.isub, 1) := by decide +kernel
theorem dX4_name_46 : decode cX4_name 46 = .ok (.ireturn, 1) := by decide +kernel
theorem dX4_moves_0 : decode cX4_moves 0 = .ok (.aload_n 0, 1) := by decide +kernel
theorem dX4_moves_1 : decode cX4_moves 1 = .ok (.iload_n 1, 1) := by decide +kernel
theorem dX4_moves_2 : decode cX4_moves 2 = .ok (.invokevirtual 69, 3) := by decide +kernel
theorem dX4_moves_5 : decode cX4_moves 5 = .ok (.ifCond .eq 10, 3) := by decide +kernel
theorem dX4_moves_8 : decode cX4_moves 8 = .ok (.iload_n 2, 1) := by decide +kernel
theorem dX4_moves_9 : decode cX4_moves 9 = .ok (.invokestatic 62, 3) := by decide +kernel
theorem dX4_moves_12 : decode cX4_moves 12 = .ok (.ifCond .ne 5, 3) := by decide +kernel
theorem dX4_moves_15 : decode cX4_moves 15 = .ok (.iconst (-1), 1) := by decide +kernel
theorem dX4_moves_16 : decode cX4_moves 16 = .ok (.ireturn, 1) := by decide +kernel
theorem dX4_moves_17 : decode cX4_moves 17 = .ok (.aload_n 0, 1) := by decide +kernel
theorem dX4_moves_18 : decode cX4_moves 18 = .ok (.getfield 23, 3) := by decide +kernel
theorem dX4_moves_21 : decode cX4_moves 21 = .ok (.iload_n 1, 1) := by decide +kernel
theorem dX4_moves_22 : decode cX4_moves 22 = .ok (.iaload, 1) := by decide +kernel
theorem dX4_moves_23 : decode cX4_moves 23 = .ok (.istore_n 3, 1) := by decide +kernel
theorem dX4_moves_24 : decode cX4_moves 24 = .ok (.aload_n 0, 1) := by decide +kernel
theorem dX4_moves_25 : decode cX4_moves 25 = .ok (.getfield 23, 3) := by decide +kernel
theorem dX4_moves_28 : decode cX4_moves 28 = .ok (.iload_n 1, 1) := by decide +kernel
theorem dX4_moves_29 : decode cX4_moves 29 = .ok (.iload_n 2, 1) := by decide +kernel
theorem dX4_moves_30 : decode cX4_moves 30 = .ok (.iastore, 1) := by decide +kernel
theorem dX4_moves_31 : decode cX4_moves 31 = .ok (.iload_n 3, 1) := by decide +kernel
theorem dX4_moves_32 : decode cX4_moves 32 = .ok (.ireturn, 1) := by decide +kernel
theorem dX4_isIn_0 : decode cX4_isIn 0 = .ok (.iload_n 0, 1) := by decide +kernel
theorem dX4_isIn_1 : decode cX4_isIn 1 = .ok (.iload_n 1, 1) := by decide +kernel
theorem dX4_isIn_2 : decode cX4_isIn 2 = .ok (.ishr, 1) := by decide +kernel
theorem dX4_isIn_3 : decode cX4_isIn 3 = .ok (.iconst 1, 1) := by decide +kernel
theorem dX4_isIn_4 : decode cX4_isIn 4 = .ok (.iand, 1) := by decide +kernel
theorem dX4_isIn_5 : decode cX4_isIn 5 = .ok (.iconst 1, 1) := by decide +kernel
theorem dX4_isIn_6 : decode cX4_isIn 6 = .ok (.if_icmp .ne 7, 3) := by decide +kernel
theorem dX4_isIn_9 : decode cX4_isIn 9 = .ok (.iconst 1, 1) := by decide +kernel
theorem dX4_isIn_10 : decode cX4_isIn 10 = .ok (.goto 4, 3) := by decide +kernel
theorem dX4_isIn_13 : decode cX4_isIn 13 = .ok (.iconst 0, 1) := by decide +kernel
theorem dX4_isIn_14 : decode cX4_isIn 14 = .ok (.ireturn, 1) := by decide +kernel
theorem dX4_entrance_0 : decode cX4_entrance 0 = .ok (.iload_n 1, 1) := by decide +kernel
theorem dX4_entrance_1 : decode cX4_entrance 1 = .ok (.invokestatic 62, 3) := by decide +kernel
theorem dX4_entrance_4 : decode cX4_entrance 4 = .ok (.ifCond .ne 5, 3) := by decide +kernel
theorem dX4_entrance_7 : decode cX4_entrance 7 = .ok (.iconst (-1), 1) := by decide +kernel
theorem dX4_entrance_8 : decode cX4_entrance 8 = .ok (.ireturn, 1) := by decide +kernel
theorem dX4_entrance_9 : decode cX4_entrance 9 = .ok (.aload_n 0, 1) := by decide +kernel
theorem dX4_entrance_10 : decode cX4_entrance 10 = .ok (.getfield 72, 3) := by decide +kernel
theorem dX4_entrance_13 : decode cX4_entrance 13 = .ok (.iload_n 1, 1) := by decide +kernel
theorem dX4_entrance_14 : decode cX4_entrance 14 = .ok (.invokestatic 75, 3) := by decide +kernel
theorem dX4_entrance_17 : decode cX4_entrance 17 = .ok (.iload_n 2, 1) := by decide +kernel
theorem dX4_entrance_18 : decode cX4_entrance 18 = .ok (.if_icmp .ne 5, 3) := by decide +kernel
theorem dX4_entrance_21 : decode cX4_entrance 21 = .ok (.iconst 0, 1) := by decide +kernel
theorem dX4_entrance_22 : decode cX4_entrance 22 = .ok (.ireturn, 1) := by decide +kernel
theorem dX4_entrance_23 : decode cX4_entrance 23 = .ok (.aload_n 0, 1) := by decide +kernel
theorem dX4_entrance_24 : decode cX4_entrance 24 = .ok (.dup, 1) := by decide +kernel
theorem dX4_entrance_25 : decode cX4_entrance 25 = .ok (.getfield 72, 3) := by decide +kernel
theorem dX4_entrance_28 : decode cX4_entrance 28 = .ok (.iconst 1, 1) := by decide +kernel
theorem dX4_entrance_29 : decode cX4_entrance 29 = .ok (.iload_n 1, 1) := by decide +kernel
theorem dX4_entrance_30 : decode cX4_entrance 30 = .ok (.ishl, 1) := by decide +kernel
theorem dX4_entrance_31 : decode cX4_entrance 31 = .ok (.ixor, 1) := by decide +kernel
theorem dX4_entrance_32 : decode cX4_entrance 32 = .ok (.putfield 72, 3) := by decide +kernel
theorem dX4_entrance_35 : decode cX4_entrance 35 = .ok (.iconst 1, 1) := by decide +kernel
theorem dX4_entrance_36 : decode cX4_entrance 36 = .ok (.ireturn, 1) := by decide +kernel
theorem dX4_detour_0 : decode cX4_detour 0 = .ok (.iload_n 1, 1) := by decide +kernel
theorem dX4_detour_1 : decode cX4_detour 1 = .ok (.iconst 0, 1) := by decide +kernel
theorem dX4_detour_2 : decode cX4_detour 2 = .ok (.sipush 999, 3) := by decide +kernel
theorem dX4_detour_5 : decode cX4_detour 5 = .ok (.invokestatic 47, 3) := by decide +kernel
theorem dX4_detour_8 : decode cX4_detour 8 = .ok (.ifCond .ne 6, 3) := by decide +kernel
theorem dX4_detour_11 : decode cX4_detour 11 = .ok (.bipush (-2), 2) := by decide +kernel
theorem dX4_detour_13 : decode cX4_detour 13 = .ok (.ireturn, 1) := by decide +kernel
theorem dX4_detour_14 : decode cX4_detour 14 = .ok (.aload_n 0, 1) := by decide +kernel
theorem dX4_detour_15 : decode cX4_detour 15 = .ok (.getfield 79, 3) := by decide +kernel
theorem dX4_detour_18 : decode cX4_detour 18 = .ok (.istore_n 2, 1) := by decide +kernel
theorem dX4_detour_19 : decode cX4_detour 19 = .ok (.aload_n 0, 1) := by decide +kernel
theorem dX4_detour_20 : decode cX4_detour 20 = .ok (.iload_n 1, 1) := by decide +kernel
theorem dX4_detour_21 : decode cX4_detour 21 = .ok (.putfield 79, 3) := by decide +kernel
theorem dX4_detour_24 : decode cX4_detour 24 = .ok (.iload_n 2, 1) := by decide +kernel
theorem dX4_detour_25 : decode cX4_detour 25 = .ok (.ireturn, 1) := by decide +kernel
theorem dX4_board_0 : decode cX4_board 0 = .ok (.iload_n 1, 1) := by decide +kernel
theorem dX4_board_1 : decode cX4_board 1 = .ok (.invokestatic 62, 3) := by decide +kernel
theorem dX4_board_4 : decode cX4_board 4 = .ok (.ifCond .eq 18, 3) := by decide +kernel
theorem dX4_board_7 : decode cX4_board 7 = .ok (.aload_n 0, 1) := by decide +kernel
theorem dX4_board_8 : decode cX4_board 8 = .ok (.iload_n 2, 1) := by decide +kernel
theorem dX4_board_9 : decode cX4_board 9 = .ok (.invokevirtual 69, 3) := by decide +kernel
theorem dX4_board_12 : decode cX4_board 12 = .ok (.ifCond .eq 10, 3) := by decide +kernel
theorem dX4_board_15 : decode cX4_board 15 = .ok (.iload_n 3, 1) := by decide +kernel
theorem dX4_board_16 : decode cX4_board 16 = .ok (.invokestatic 62, 3) := by decide +kernel
theorem dX4_board_19 : decode cX4_board 19 = .ok (.ifCond .ne 5, 3) := by decide +kernel
theorem dX4_board_22 : decode cX4_board 22 = .ok (.iconst (-1), 1) := by decide +kernel
theorem dX4_board_23 : decode cX4_board 23 = .ok (.ireturn, 1) := by decide +kernel
theorem dX4_board_24 : decode cX4_board 24 = .ok (.aload_n 0, 1) := by decide +kernel
theorem dX4_board_25 : decode cX4_board 25 = .ok (.iload_n 1, 1) := by decide +kernel
theorem dX4_board_26 : decode cX4_board 26 = .ok (.iload_n 3, 1) := by decide +kernel
theorem dX4_board_27 : decode cX4_board 27 = .ok (.invokevirtual 58, 3) := by decide +kernel
theorem dX4_board_30 : decode cX4_board 30 = .ok (.bipush (-9), 2) := by decide +kernel
theorem dX4_board_32 : decode cX4_board 32 = .ok (.if_icmp .ne 6, 3) := by decide +kernel
theorem dX4_board_35 : decode cX4_board 35 = .ok (.bipush (-3), 2) := by decide +kernel
theorem dX4_board_37 : decode cX4_board 37 = .ok (.ireturn, 1) := by decide +kernel
theorem dX4_board_38 : decode cX4_board 38 = .ok (.aload_n 0, 1) := by decide +kernel
theorem dX4_board_39 : decode cX4_board 39 = .ok (.getfield 26, 3) := by decide +kernel
theorem dX4_board_42 : decode cX4_board 42 = .ok (.iconst 5, 1) := by decide +kernel
theorem dX4_board_43 : decode cX4_board 43 = .ok (.iload_n 1, 1) := by decide +kernel
theorem dX4_board_44 : decode cX4_board 44 = .ok (.imul, 1) := by decide +kernel
theorem dX4_board_45 : decode cX4_board 45 = .ok (.iload_n 2, 1) := by decide +kernel
theorem dX4_board_46 : decode cX4_board 46 = .ok (.iadd, 1) := by decide +kernel
theorem dX4_board_47 : decode cX4_board 47 = .ok (.iaload, 1) := by decide +kernel
theorem dX4_board_48 : decode cX4_board 48 = .ok (.istore 4, 2) := by decide +kernel
theorem dX4_board_50 : decode cX4_board 50 = .ok (.aload_n 0, 1) := by decide +kernel
theorem dX4_board_51 : decode cX4_board 51 = .ok (.getfield 26, 3) := by decide +kernel
theorem dX4_board_54 : decode cX4_board 54 = .ok (.iconst 5, 1) := by decide +kernel
theorem dX4_board_55 : decode cX4_board 55 = .ok (.iload_n 1, 1) := by decide +kernel
theorem dX4_board_56 : decode cX4_board 56 = .ok (.imul, 1) := by decide +kernel
theorem dX4_board_57 : decode cX4_board 57 = .ok (.iload_n 2, 1) := by decide +kernel
theorem dX4_board_58 : decode cX4_board 58 = .ok (.iadd, 1) := by decide +kernel
theorem dX4_board_59 : decode cX4_board 59 = .ok (.iload_n 3, 1) := by decide +kernel
theorem dX4_board_60 : decode cX4_board 60 = .ok (.iastore, 1) := by decide +kernel
theorem dX4_board_61 : decode cX4_board 61 = .ok (.iload 4, 2) := by decide +kernel
theorem dX4_board_63 : decode cX4_board 63 = .ok (.ireturn, 1) := by decide +kernel
theorem dX4_unboard_0 : decode cX4_unboard 0 = .ok (.iload_n 1, 1) := by decide +kernel
theorem dX4_unboard_1 : decode cX4_unboard 1 = .ok (.invokestatic 62, 3) := by decide +kernel
theorem dX4_unboard_4 : decode cX4_unboard 4 = .ok (.ifCond .eq 11, 3) := by decide +kernel
theorem dX4_unboard_7 : decode cX4_unboard 7 = .ok (.aload_n 0, 1) := by decide +kernel
theorem dX4_unboard_8 : decode cX4_unboard 8 = .ok (.iload_n 2, 1) := by decide +kernel
theorem dX4_unboard_9 : decode cX4_unboard 9 = .ok (.invokevirtual 69, 3) := by decide +kernel
theorem dX4_unboard_12 : decode cX4_unboard 12 = .ok (.ifCond .ne 5, 3) := by decide +kernel
theorem dX4_unboard_15 : decode cX4_unboard 15 = .ok (.iconst (-1), 1) := by decide +kernel
theorem dX4_unboard_16 : decode cX4_unboard 16 = .ok (.ireturn, 1) := by decide +kernel
theorem dX4_unboard_17 : decode cX4_unboard 17 = .ok (.aload_n 0, 1) := by decide +kernel
theorem dX4_unboard_18 : decode cX4_unboard 18 = .ok (.getfield 26, 3) := by decide +kernel
theorem dX4_unboard_21 : decode cX4_unboard 21 = .ok (.iconst 5, 1) := by decide +kernel
theorem dX4_unboard_22 : decode cX4_unboard 22 = .ok (.iload_n 1, 1) := by decide +kernel
theorem dX4_unboard_23 : decode cX4_unboard 23 = .ok (.imul, 1) := by decide +kernel
theorem dX4_unboard_24 : decode cX4_unboard 24 = .ok (.iload_n 2, 1) := by decide +kernel
theorem dX4_unboard_25 : decode cX4_unboard 25 = .ok (.iadd, 1) := by decide +kernel
theorem dX4_unboard_26 : decode cX4_unboard 26 = .ok (.iaload, 1) := by decide +kernel
theorem dX4_unboard_27 : decode cX4_unboard 27 = .ok (.istore_n 3, 1) := by decide +kernel
theorem dX4_unboard_28 : decode cX4_unboard 28 = .ok (.iload_n 3, 1) := by decide +kernel
theorem dX4_unboard_29 : decode cX4_unboard 29 = .ok (.bipush (-9), 2) := by decide +kernel
theorem dX4_unboard_31 : decode cX4_unboard 31 = .ok (.if_icmp .ne 6, 3) := by decide +kernel
theorem dX4_unboard_34 : decode cX4_unboard 34 = .ok (.bipush (-3), 2) := by decide +kernel
theorem dX4_unboard_36 : decode cX4_unboard 36 = .ok (.ireturn, 1) := by decide +kernel
theorem dX4_unboard_37 : decode cX4_unboard 37 = .ok (.aload_n 0, 1) := by decide +kernel
theorem dX4_unboard_38 : decode cX4_unboard 38 = .ok (.getfield 26, 3) := by decide +kernel
theorem dX4_unboard_41 : decode cX4_unboard 41 = .ok (.iconst 5, 1) := by decide +kernel
theorem dX4_unboard_42 : decode cX4_unboard 42 = .ok (.iload_n 1, 1) := by decide +kernel
theorem dX4_unboard_43 : decode cX4_unboard 43 = .ok (.imul, 1) := by decide +kernel
theorem dX4_unboard_44 : decode cX4_unboard 44 = .ok (.iload_n 2, 1) := by decide +kernel
theorem dX4_unboard_45 : decode cX4_unboard 45 = .ok (.iadd, 1) := by decide +kernel
theorem dX4_unboard_46 : decode cX4_unboard 46 = .ok (.bipush (-9), 2) := by decide +kernel
theorem dX4_unboard_48 : decode cX4_unboard 48 = .ok (.iastore, 1) := by decide +kernel
theorem dX4_unboard_49 : decode cX4_unboard 49 = .ok (.iload_n 3, 1) := by decide +kernel
theorem dX4_unboard_50 : decode cX4_unboard 50 = .ok (.ireturn, 1) := by decide +kernel
theorem dX4_arrow_0 : decode cX4_arrow 0 = .ok (.iload_n 1, 1) := by decide +kernel
theorem dX4_arrow_1 : decode cX4_arrow 1 = .ok (.invokestatic 62, 3) := by decide +kernel
theorem dX4_arrow_4 : decode cX4_arrow 4 = .ok (.ifCond .eq 24, 3) := by decide +kernel
theorem dX4_arrow_7 : decode cX4_arrow 7 = .ok (.aload_n 0, 1) := by decide +kernel
theorem dX4_arrow_8 : decode cX4_arrow 8 = .ok (.iload_n 2, 1) := by decide +kernel
theorem dX4_arrow_9 : decode cX4_arrow 9 = .ok (.invokevirtual 69, 3) := by decide +kernel
theorem dX4_arrow_12 : decode cX4_arrow 12 = .ok (.ifCond .eq 16, 3) := by decide +kernel
theorem dX4_arrow_15 : decode cX4_arrow 15 = .ok (.aload_n 0, 1) := by decide +kernel
theorem dX4_arrow_16 : decode cX4_arrow 16 = .ok (.getfield 26, 3) := by decide +kernel
theorem dX4_arrow_19 : decode cX4_arrow 19 = .ok (.iconst 5, 1) := by decide +kernel
theorem dX4_arrow_20 : decode cX4_arrow 20 = .ok (.iload_n 1, 1) := by decide +kernel
theorem dX4_arrow_21 : decode cX4_arrow 21 = .ok (.imul, 1) := by decide +kernel
theorem dX4_arrow_22 : decode cX4_arrow 22 = .ok (.iload_n 2, 1) := by decide +kernel
theorem dX4_arrow_23 : decode cX4_arrow 23 = .ok (.iadd, 1) := by decide +kernel
theorem dX4_arrow_24 : decode cX4_arrow 24 = .ok (.iaload, 1) := by decide +kernel
theorem dX4_arrow_25 : decode cX4_arrow 25 = .ok (.goto 4, 3) := by decide +kernel
theorem dX4_arrow_28 : decode cX4_arrow 28 = .ok (.iconst (-1), 1) := by decide +kernel
theorem dX4_arrow_29 : decode cX4_arrow 29 = .ok (.ireturn, 1) := by decide +kernel
theorem dX4_draws_0 : decode cX4_draws 0 = .ok (.aload_n 0, 1) := by decide +kernel
theorem dX4_draws_1 : decode cX4_draws 1 = .ok (.getfield 29, 3) := by decide +kernel
theorem dX4_draws_4 : decode cX4_draws 4 = .ok (.iload_n 2, 1) := by decide +kernel
theorem dX4_draws_5 : decode cX4_draws 5 = .ok (.iaload, 1) := by decide +kernel
theorem dX4_draws_6 : decode cX4_draws 6 = .ok (.iload_n 3, 1) := by decide +kernel
theorem dX4_draws_7 : decode cX4_draws 7 = .ok (.iadd, 1) := by decide +kernel
theorem dX4_draws_8 : decode cX4_draws 8 = .ok (.istore 4, 2) := by decide +kernel
theorem dX4_draws_10 : decode cX4_draws 10 = .ok (.aload_n 0, 1) := by decide +kernel
theorem dX4_draws_11 : decode cX4_draws 11 = .ok (.getfield 29, 3) := by decide +kernel
theorem dX4_draws_14 : decode cX4_draws 14 = .ok (.iload_n 1, 1) := by decide +kernel
theorem dX4_draws_15 : decode cX4_draws 15 = .ok (.iload 4, 2) := by decide +kernel
theorem dX4_draws_17 : decode cX4_draws 17 = .ok (.aload_n 0, 1) := by decide +kernel
theorem dX4_draws_18 : decode cX4_draws 18 = .ok (.getfield 29, 3) := by decide +kernel
theorem dX4_draws_21 : decode cX4_draws 21 = .ok (.iload_n 1, 1) := by decide +kernel
theorem dX4_draws_22 : decode cX4_draws 22 = .ok (.iaload, 1) := by decide +kernel
theorem dX4_draws_23 : decode cX4_draws 23 = .ok (.if_icmp .ge 8, 3) := by decide +kernel
theorem dX4_draws_26 : decode cX4_draws 26 = .ok (.iload 4, 2) := by decide +kernel
theorem dX4_draws_28 : decode cX4_draws 28 = .ok (.goto 9, 3) := by decide +kernel
theorem dX4_draws_31 : decode cX4_draws 31 = .ok (.aload_n 0, 1) := by decide +kernel
theorem dX4_draws_32 : decode cX4_draws 32 = .ok (.getfield 29, 3) := by decide +kernel
theorem dX4_draws_35 : decode cX4_draws 35 = .ok (.iload_n 1, 1) := by decide +kernel
theorem dX4_draws_36 : decode cX4_draws 36 = .ok (.iaload, 1) := by decide +kernel
theorem dX4_draws_37 : decode cX4_draws 37 = .ok (.iastore, 1) := by decide +kernel
theorem dX4_draws_38 : decode cX4_draws 38 = .ok (.return_, 1) := by decide +kernel
theorem dX4_findFar_0 : decode cX4_findFar 0 = .ok (.iconst 0, 1) := by decide +kernel
theorem dX4_findFar_1 : decode cX4_findFar 1 = .ok (.istore_n 2, 1) := by decide +kernel
theorem dX4_findFar_2 : decode cX4_findFar 2 = .ok (.iload_n 2, 1) := by decide +kernel
theorem dX4_findFar_3 : decode cX4_findFar 3 = .ok (.bipush 10, 2) := by decide +kernel
theorem dX4_findFar_5 : decode cX4_findFar 5 = .ok (.if_icmp .ge 31, 3) := by decide +kernel
theorem dX4_findFar_8 : decode cX4_findFar 8 = .ok (.aload_n 0, 1) := by decide +kernel
theorem dX4_findFar_9 : decode cX4_findFar 9 = .ok (.getfield 29, 3) := by decide +kernel
theorem dX4_findFar_12 : decode cX4_findFar 12 = .ok (.iload_n 2, 1) := by decide +kernel
theorem dX4_findFar_13 : decode cX4_findFar 13 = .ok (.iload_n 2, 1) := by decide +kernel
theorem dX4_findFar_14 : decode cX4_findFar 14 = .ok (.aload_n 0, 1) := by decide +kernel
theorem dX4_findFar_15 : decode cX4_findFar 15 = .ok (.getfield 23, 3) := by decide +kernel
theorem dX4_findFar_18 : decode cX4_findFar 18 = .ok (.iload_n 1, 1) := by decide +kernel
theorem dX4_findFar_19 : decode cX4_findFar 19 = .ok (.iaload, 1) := by decide +kernel
theorem dX4_findFar_20 : decode cX4_findFar 20 = .ok (.if_icmp .ne 7, 3) := by decide +kernel
theorem dX4_findFar_23 : decode cX4_findFar 23 = .ok (.iconst 0, 1) := by decide +kernel
theorem dX4_findFar_24 : decode cX4_findFar 24 = .ok (.goto 5, 3) := by decide +kernel
theorem dX4_findFar_27 : decode cX4_findFar 27 = .ok (.ldc 82, 2) := by decide +kernel
theorem dX4_findFar_29 : decode cX4_findFar 29 = .ok (.iastore, 1) := by decide +kernel
theorem dX4_findFar_30 : decode cX4_findFar 30 = .ok (.iinc 2 1, 3) := by decide +kernel
theorem dX4_findFar_33 : decode cX4_findFar 33 = .ok (.goto (-31), 3) := by decide +kernel
theorem dX4_findFar_36 : decode cX4_findFar 36 = .ok (.iconst 1, 1) := by decide +kernel
theorem dX4_findFar_37 : decode cX4_findFar 37 = .ok (.istore_n 2, 1) := by decide +kernel
theorem dX4_findFar_38 : decode cX4_findFar 38 = .ok (.iload_n 2, 1) := by decide +kernel
theorem dX4_findFar_39 : decode cX4_findFar 39 = .ok (.bipush 10, 2) := by decide +kernel
theorem dX4_findFar_41 : decode cX4_findFar 41 = .ok (.if_icmp .ge 78, 3) := by decide +kernel
theorem dX4_findFar_44 : decode cX4_findFar 44 = .ok (.iconst 0, 1) := by decide +kernel
theorem dX4_findFar_45 : decode cX4_findFar 45 = .ok (.istore_n 3, 1) := by decide +kernel
theorem dX4_findFar_46 : decode cX4_findFar 46 = .ok (.iload_n 3, 1) := by decide +kernel
theorem dX4_findFar_47 : decode cX4_findFar 47 = .ok (.aload_n 0, 1) := by decide +kernel
theorem dX4_findFar_48 : decode cX4_findFar 48 = .ok (.getfield 51, 3) := by decide +kernel
theorem dX4_findFar_51 : decode cX4_findFar 51 = .ok (.if_icmp .ge 62, 3) := by decide +kernel
theorem dX4_findFar_54 : decode cX4_findFar 54 = .ok (.aload_n 0, 1) := by decide +kernel
theorem dX4_findFar_55 : decode cX4_findFar 55 = .ok (.getfield 19, 3) := by decide +kernel
theorem dX4_findFar_58 : decode cX4_findFar 58 = .ok (.iload_n 3, 1) := by decide +kernel
theorem dX4_findFar_59 : decode cX4_findFar 59 = .ok (.baload, 1) := by decide +kernel
theorem dX4_findFar_60 : decode cX4_findFar 60 = .ok (.ifCond .eq 47, 3) := by decide +kernel
theorem dX4_findFar_63 : decode cX4_findFar 63 = .ok (.aload_n 0, 1) := by decide +kernel
theorem dX4_findFar_64 : decode cX4_findFar 64 = .ok (.aload_n 0, 1) := by decide +kernel
theorem dX4_findFar_65 : decode cX4_findFar 65 = .ok (.getfield 13, 3) := by decide +kernel
theorem dX4_findFar_68 : decode cX4_findFar 68 = .ok (.iload_n 3, 1) := by decide +kernel
theorem dX4_findFar_69 : decode cX4_findFar 69 = .ok (.iaload, 1) := by decide +kernel
theorem dX4_findFar_70 : decode cX4_findFar 70 = .ok (.aload_n 0, 1) := by decide +kernel
theorem dX4_findFar_71 : decode cX4_findFar 71 = .ok (.getfield 7, 3) := by decide +kernel
theorem dX4_findFar_74 : decode cX4_findFar 74 = .ok (.iload_n 3, 1) := by decide +kernel
theorem dX4_findFar_75 : decode cX4_findFar 75 = .ok (.iaload, 1) := by decide +kernel
theorem dX4_findFar_76 : decode cX4_findFar 76 = .ok (.aload_n 0, 1) := by decide +kernel
theorem dX4_findFar_77 : decode cX4_findFar 77 = .ok (.getfield 16, 3) := by decide +kernel
theorem dX4_findFar_80 : decode cX4_findFar 80 = .ok (.iload_n 3, 1) := by decide +kernel
theorem dX4_findFar_81 : decode cX4_findFar 81 = .ok (.iaload, 1) := by decide +kernel
theorem dX4_findFar_82 : decode cX4_findFar 82 = .ok (.invokevirtual 83, 3) := by decide +kernel
theorem dX4_findFar_85 : decode cX4_findFar 85 = .ok (.aload_n 0, 1) := by decide +kernel
theorem dX4_findFar_86 : decode cX4_findFar 86 = .ok (.aload_n 0, 1) := by decide +kernel
theorem dX4_findFar_87 : decode cX4_findFar 87 = .ok (.getfield 7, 3) := by decide +kernel
theorem dX4_findFar_90 : decode cX4_findFar 90 = .ok (.iload_n 3, 1) := by decide +kernel
theorem dX4_findFar_91 : decode cX4_findFar 91 = .ok (.iaload, 1) := by decide +kernel
theorem dX4_findFar_92 : decode cX4_findFar 92 = .ok (.aload_n 0, 1) := by decide +kernel
theorem dX4_findFar_93 : decode cX4_findFar 93 = .ok (.getfield 13, 3) := by decide +kernel
theorem dX4_findFar_96 : decode cX4_findFar 96 = .ok (.iload_n 3, 1) := by decide +kernel
theorem dX4_findFar_97 : decode cX4_findFar 97 = .ok (.iaload, 1) := by decide +kernel
theorem dX4_findFar_98 : decode cX4_findFar 98 = .ok (.aload_n 0, 1) := by decide +kernel
theorem dX4_findFar_99 : decode cX4_findFar 99 = .ok (.getfield 16, 3) := by decide +kernel
theorem dX4_findFar_102 : decode cX4_findFar 102 = .ok (.iload_n 3, 1) := by decide +kernel
theorem dX4_findFar_103 : decode cX4_findFar 103 = .ok (.iaload, 1) := by decide +kernel
theorem dX4_findFar_104 : decode cX4_findFar 104 = .ok (.invokevirtual 83, 3) := by decide +kernel
theorem dX4_findFar_107 : decode cX4_findFar 107 = .ok (.iinc 3 1, 3) := by decide +kernel
theorem dX4_findFar_110 : decode cX4_findFar 110 = .ok (.goto (-64), 3) := by decide +kernel
theorem dX4_findFar_113 : decode cX4_findFar 113 = .ok (.iinc 2 1, 3) := by decide +kernel
theorem dX4_findFar_116 : decode cX4_findFar 116 = .ok (.goto (-78), 3) := by decide +kernel
theorem dX4_findFar_119 : decode cX4_findFar 119 = .ok (.return_, 1) := by decide +kernel
theorem dX4_bestAt_0 : decode cX4_bestAt 0 = .ok (.aload_n 0, 1) := by decide +kernel
theorem dX4_bestAt_1 : decode cX4_bestAt 1 = .ok (.getfield 29, 3) := by decide +kernel
theorem dX4_bestAt_4 : decode cX4_bestAt 4 = .ok (.iload_n 1, 1) := by decide +kernel
theorem dX4_bestAt_5 : decode cX4_bestAt 5 = .ok (.iaload, 1) := by decide +kernel
theorem dX4_bestAt_6 : decode cX4_bestAt 6 = .ok (.ifCond .eq 14, 3) := by decide +kernel
theorem dX4_bestAt_9 : decode cX4_bestAt 9 = .ok (.aload_n 0, 1) := by decide +kernel
theorem dX4_bestAt_10 : decode cX4_bestAt 10 = .ok (.getfield 29, 3) := by decide +kernel
theorem dX4_bestAt_13 : decode cX4_bestAt 13 = .ok (.iload_n 1, 1) := by decide +kernel
theorem dX4_bestAt_14 : decode cX4_bestAt 14 = .ok (.iaload, 1) := by decide +kernel
theorem dX4_bestAt_15 : decode cX4_bestAt 15 = .ok (.ldc 82, 2) := by decide +kernel
theorem dX4_bestAt_17 : decode cX4_bestAt 17 = .ok (.if_icmp .lt 6, 3) := by decide +kernel
theorem dX4_bestAt_20 : decode cX4_bestAt 20 = .ok (.bipush (-9), 2) := by decide +kernel
theorem dX4_bestAt_22 : decode cX4_bestAt 22 = .ok (.ireturn, 1) := by decide +kernel
theorem dX4_bestAt_23 : decode cX4_bestAt 23 = .ok (.iconst 0, 1) := by decide +kernel
theorem dX4_bestAt_24 : decode cX4_bestAt 24 = .ok (.istore_n 2, 1) := by decide +kernel
theorem dX4_bestAt_25 : decode cX4_bestAt 25 = .ok (.iload_n 2, 1) := by decide +kernel
theorem dX4_bestAt_26 : decode cX4_bestAt 26 = .ok (.bipush 10, 2) := by decide +kernel
theorem dX4_bestAt_28 : decode cX4_bestAt 28 = .ok (.if_icmp .ge 56, 3) := by decide +kernel
theorem dX4_bestAt_31 : decode cX4_bestAt 31 = .ok (.iload_n 2, 1) := by decide +kernel
theorem dX4_bestAt_32 : decode cX4_bestAt 32 = .ok (.iload_n 1, 1) := by decide +kernel
theorem dX4_bestAt_33 : decode cX4_bestAt 33 = .ok (.if_icmp .ne 8, 3) := by decide +kernel
theorem dX4_bestAt_36 : decode cX4_bestAt 36 = .ok (.bipush (-9), 2) := by decide +kernel
theorem dX4_bestAt_38 : decode cX4_bestAt 38 = .ok (.goto 9, 3) := by decide +kernel
theorem dX4_bestAt_41 : decode cX4_bestAt 41 = .ok (.aload_n 0, 1) := by decide +kernel
theorem dX4_bestAt_42 : decode cX4_bestAt 42 = .ok (.iload_n 1, 1) := by decide +kernel
theorem dX4_bestAt_43 : decode cX4_bestAt 43 = .ok (.iload_n 2, 1) := by decide +kernel
theorem dX4_bestAt_44 : decode cX4_bestAt 44 = .ok (.invokevirtual 87, 3) := by decide +kernel
theorem dX4_bestAt_47 : decode cX4_bestAt 47 = .ok (.istore_n 3, 1) := by decide +kernel
theorem dX4_bestAt_48 : decode cX4_bestAt 48 = .ok (.iload_n 3, 1) := by decide +kernel
theorem dX4_bestAt_49 : decode cX4_bestAt 49 = .ok (.bipush (-9), 2) := by decide +kernel
theorem dX4_bestAt_51 : decode cX4_bestAt 51 = .ok (.if_icmp .eq 27, 3) := by decide +kernel
theorem dX4_bestAt_54 : decode cX4_bestAt 54 = .ok (.aload_n 0, 1) := by decide +kernel
theorem dX4_bestAt_55 : decode cX4_bestAt 55 = .ok (.getfield 29, 3) := by decide +kernel
theorem dX4_bestAt_58 : decode cX4_bestAt 58 = .ok (.iload_n 2, 1) := by decide +kernel
theorem dX4_bestAt_59 : decode cX4_bestAt 59 = .ok (.iaload, 1) := by decide +kernel
theorem dX4_bestAt_60 : decode cX4_bestAt 60 = .ok (.aload_n 0, 1) := by decide +kernel
theorem dX4_bestAt_61 : decode cX4_bestAt 61 = .ok (.getfield 16, 3) := by decide +kernel
theorem dX4_bestAt_64 : decode cX4_bestAt 64 = .ok (.iload_n 3, 1) := by decide +kernel
theorem dX4_bestAt_65 : decode cX4_bestAt 65 = .ok (.iaload, 1) := by decide +kernel
theorem dX4_bestAt_66 : decode cX4_bestAt 66 = .ok (.iadd, 1) := by decide +kernel
theorem dX4_bestAt_67 : decode cX4_bestAt 67 = .ok (.aload_n 0, 1) := by decide +kernel
theorem dX4_bestAt_68 : decode cX4_bestAt 68 = .ok (.getfield 29, 3) := by decide +kernel
theorem dX4_bestAt_71 : decode cX4_bestAt 71 = .ok (.iload_n 1, 1) := by decide +kernel
theorem dX4_bestAt_72 : decode cX4_bestAt 72 = .ok (.iaload, 1) := by decide +kernel
theorem dX4_bestAt_73 : decode cX4_bestAt 73 = .ok (.if_icmp .ne 5, 3) := by decide +kernel
theorem dX4_bestAt_76 : decode cX4_bestAt 76 = .ok (.iload_n 2, 1) := by decide +kernel
theorem dX4_bestAt_77 : decode cX4_bestAt 77 = .ok (.ireturn, 1) := by decide +kernel
theorem dX4_bestAt_78 : decode cX4_bestAt 78 = .ok (.iinc 2 1, 3) := by decide +kernel
theorem dX4_bestAt_81 : decode cX4_bestAt 81 = .ok (.goto (-56), 3) := by decide +kernel
theorem dX4_bestAt_84 : decode cX4_bestAt 84 = .ok (.bipush (-9), 2) := by decide +kernel
theorem dX4_bestAt_86 : decode cX4_bestAt 86 = .ok (.ireturn, 1) := by decide +kernel
theorem dX4_far_0 : decode cX4_far 0 = .ok (.iload_n 1, 1) := by decide +kernel
theorem dX4_far_1 : decode cX4_far 1 = .ok (.invokestatic 62, 3) := by decide +kernel
theorem dX4_far_4 : decode cX4_far 4 = .ok (.ifCond .eq 11, 3) := by decide +kernel
theorem dX4_far_7 : decode cX4_far 7 = .ok (.aload_n 0, 1) := by decide +kernel
theorem dX4_far_8 : decode cX4_far 8 = .ok (.iload_n 2, 1) := by decide +kernel
theorem dX4_far_9 : decode cX4_far 9 = .ok (.invokevirtual 69, 3) := by decide +kernel
theorem dX4_far_12 : decode cX4_far 12 = .ok (.ifCond .ne 5, 3) := by decide +kernel
theorem dX4_far_15 : decode cX4_far 15 = .ok (.iconst (-1), 1) := by decide +kernel
theorem dX4_far_16 : decode cX4_far 16 = .ok (.ireturn, 1) := by decide +kernel
theorem dX4_far_17 : decode cX4_far 17 = .ok (.iload_n 3, 1) := by decide +kernel
theorem dX4_far_18 : decode cX4_far 18 = .ok (.iconst 0, 1) := by decide +kernel
theorem dX4_far_19 : decode cX4_far 19 = .ok (.iconst 1, 1) := by decide +kernel
theorem dX4_far_20 : decode cX4_far 20 = .ok (.invokestatic 47, 3) := by decide +kernel
theorem dX4_far_23 : decode cX4_far 23 = .ok (.ifCond .ne 6, 3) := by decide +kernel
theorem dX4_far_26 : decode cX4_far 26 = .ok (.bipush (-2), 2) := by decide +kernel
theorem dX4_far_28 : decode cX4_far 28 = .ok (.ireturn, 1) := by decide +kernel
theorem dX4_far_29 : decode cX4_far 29 = .ok (.aload_n 0, 1) := by decide +kernel
theorem dX4_far_30 : decode cX4_far 30 = .ok (.iload_n 2, 1) := by decide +kernel
theorem dX4_far_31 : decode cX4_far 31 = .ok (.invokevirtual 90, 3) := by decide +kernel
theorem dX4_far_34 : decode cX4_far 34 = .ok (.iload_n 3, 1) := by decide +kernel
theorem dX4_far_35 : decode cX4_far 35 = .ok (.iconst 1, 1) := by decide +kernel
theorem dX4_far_36 : decode cX4_far 36 = .ok (.if_icmp .ne 9, 3) := by decide +kernel
theorem dX4_far_39 : decode cX4_far 39 = .ok (.aload_n 0, 1) := by decide +kernel
theorem dX4_far_40 : decode cX4_far 40 = .ok (.iload_n 1, 1) := by decide +kernel
theorem dX4_far_41 : decode cX4_far 41 = .ok (.invokevirtual 94, 3) := by decide +kernel
theorem dX4_far_44 : decode cX4_far 44 = .ok (.ireturn, 1) := by decide +kernel
theorem dX4_far_45 : decode cX4_far 45 = .ok (.aload_n 0, 1) := by decide +kernel
theorem dX4_far_46 : decode cX4_far 46 = .ok (.getfield 29, 3) := by decide +kernel
theorem dX4_far_49 : decode cX4_far 49 = .ok (.iload_n 1, 1) := by decide +kernel
theorem dX4_far_50 : decode cX4_far 50 = .ok (.iaload, 1) := by decide +kernel
theorem dX4_far_51 : decode cX4_far 51 = .ok (.ldc 82, 2) := by decide +kernel
theorem dX4_far_53 : decode cX4_far 53 = .ok (.if_icmp .ge 12, 3) := by decide +kernel
theorem dX4_far_56 : decode cX4_far 56 = .ok (.aload_n 0, 1) := by decide +kernel
theorem dX4_far_57 : decode cX4_far 57 = .ok (.getfield 29, 3) := by decide +kernel
theorem dX4_far_60 : decode cX4_far 60 = .ok (.iload_n 1, 1) := by decide +kernel
theorem dX4_far_61 : decode cX4_far 61 = .ok (.iaload, 1) := by decide +kernel
theorem dX4_far_62 : decode cX4_far 62 = .ok (.goto 5, 3) := by decide +kernel
theorem dX4_far_65 : decode cX4_far 65 = .ok (.bipush (-9), 2) := by decide +kernel
theorem dX4_far_67 : decode cX4_far 67 = .ok (.ireturn, 1) := by decide +kernel
theorem dX4_from_0 : decode cX4_from 0 = .ok (.iload_n 1, 1) := by decide +kernel
theorem dX4_from_1 : decode cX4_from 1 = .ok (.invokestatic 62, 3) := by decide +kernel
theorem dX4_from_4 : decode cX4_from 4 = .ok (.ifCond .ne 5, 3) := by decide +kernel
theorem dX4_from_7 : decode cX4_from 7 = .ok (.iconst (-1), 1) := by decide +kernel
theorem dX4_from_8 : decode cX4_from 8 = .ok (.ireturn, 1) := by decide +kernel
theorem dX4_from_9 : decode cX4_from 9 = .ok (.iconst 0, 1) := by decide +kernel
theorem dX4_from_10 : decode cX4_from 10 = .ok (.istore_n 2, 1) := by decide +kernel
theorem dX4_from_11 : decode cX4_from 11 = .ok (.iconst 0, 1) := by decide +kernel
theorem dX4_from_12 : decode cX4_from 12 = .ok (.istore_n 3, 1) := by decide +kernel
theorem dX4_from_13 : decode cX4_from 13 = .ok (.iload_n 3, 1) := by decide +kernel
theorem dX4_from_14 : decode cX4_from 14 = .ok (.aload_n 0, 1) := by decide +kernel
theorem dX4_from_15 : decode cX4_from 15 = .ok (.getfield 51, 3) := by decide +kernel
theorem dX4_from_18 : decode cX4_from 18 = .ok (.if_icmp .ge 77, 3) := by decide +kernel
theorem dX4_from_21 : decode cX4_from 21 = .ok (.iload_n 2, 1) := by decide +kernel
theorem dX4_from_22 : decode cX4_from 22 = .ok (.aload_n 0, 1) := by decide +kernel
theorem dX4_from_23 : decode cX4_from 23 = .ok (.getfield 19, 3) := by decide +kernel
theorem dX4_from_26 : decode cX4_from 26 = .ok (.iload_n 3, 1) := by decide +kernel
theorem dX4_from_27 : decode cX4_from 27 = .ok (.baload, 1) := by decide +kernel
theorem dX4_from_28 : decode cX4_from 28 = .ok (.ifCond .eq 24, 3) := by decide +kernel
theorem dX4_from_31 : decode cX4_from 31 = .ok (.aload_n 0, 1) := by decide +kernel
theorem dX4_from_32 : decode cX4_from 32 = .ok (.getfield 7, 3) := by decide +kernel
theorem dX4_from_35 : decode cX4_from 35 = .ok (.iload_n 3, 1) := by decide +kernel
theorem dX4_from_36 : decode cX4_from 36 = .ok (.iaload, 1) := by decide +kernel
theorem dX4_from_37 : decode cX4_from 37 = .ok (.iload_n 1, 1) := by decide +kernel
theorem dX4_from_38 : decode cX4_from 38 = .ok (.if_icmp .ne 14, 3) := by decide +kernel
theorem dX4_from_41 : decode cX4_from 41 = .ok (.iconst 1, 1) := by decide +kernel
theorem dX4_from_42 : decode cX4_from 42 = .ok (.aload_n 0, 1) := by decide +kernel
theorem dX4_from_43 : decode cX4_from 43 = .ok (.getfield 13, 3) := by decide +kernel
theorem dX4_from_46 : decode cX4_from 46 = .ok (.iload_n 3, 1) := by decide +kernel
theorem dX4_from_47 : decode cX4_from 47 = .ok (.iaload, 1) := by decide +kernel
theorem dX4_from_48 : decode cX4_from 48 = .ok (.ishl, 1) := by decide +kernel
theorem dX4_from_49 : decode cX4_from 49 = .ok (.goto 4, 3) := by decide +kernel
theorem dX4_from_52 : decode cX4_from 52 = .ok (.iconst 0, 1) := by decide +kernel
theorem dX4_from_53 : decode cX4_from 53 = .ok (.ior, 1) := by decide +kernel
theorem dX4_from_54 : decode cX4_from 54 = .ok (.istore_n 2, 1) := by decide +kernel
theorem dX4_from_55 : decode cX4_from 55 = .ok (.iload_n 2, 1) := by decide +kernel
theorem dX4_from_56 : decode cX4_from 56 = .ok (.aload_n 0, 1) := by decide +kernel
theorem dX4_from_57 : decode cX4_from 57 = .ok (.getfield 19, 3) := by decide +kernel
theorem dX4_from_60 : decode cX4_from 60 = .ok (.iload_n 3, 1) := by decide +kernel
theorem dX4_from_61 : decode cX4_from 61 = .ok (.baload, 1) := by decide +kernel
theorem dX4_from_62 : decode cX4_from 62 = .ok (.ifCond .eq 24, 3) := by decide +kernel
theorem dX4_from_65 : decode cX4_from 65 = .ok (.aload_n 0, 1) := by decide +kernel
theorem dX4_from_66 : decode cX4_from 66 = .ok (.getfield 13, 3) := by decide +kernel
theorem dX4_from_69 : decode cX4_from 69 = .ok (.iload_n 3, 1) := by decide +kernel
theorem dX4_from_70 : decode cX4_from 70 = .ok (.iaload, 1) := by decide +kernel
theorem dX4_from_71 : decode cX4_from 71 = .ok (.iload_n 1, 1) := by decide +kernel
theorem dX4_from_72 : decode cX4_from 72 = .ok (.if_icmp .ne 14, 3) := by decide +kernel
theorem dX4_from_75 : decode cX4_from 75 = .ok (.iconst 1, 1) := by decide +kernel
theorem dX4_from_76 : decode cX4_from 76 = .ok (.aload_n 0, 1) := by decide +kernel
theorem dX4_from_77 : decode cX4_from 77 = .ok (.getfield 7, 3) := by decide +kernel
theorem dX4_from_80 : decode cX4_from 80 = .ok (.iload_n 3, 1) := by decide +kernel
theorem dX4_from_81 : decode cX4_from 81 = .ok (.iaload, 1) := by decide +kernel
theorem dX4_from_82 : decode cX4_from 82 = .ok (.ishl, 1) := by decide +kernel
theorem dX4_from_83 : decode cX4_from 83 = .ok (.goto 4, 3) := by decide +kernel
theorem dX4_from_86 : decode cX4_from 86 = .ok (.iconst 0, 1) := by decide +kernel
theorem dX4_from_87 : decode cX4_from 87 = .ok (.ior, 1) := by decide +kernel
theorem dX4_from_88 : decode cX4_from 88 = .ok (.istore_n 2, 1) := by decide +kernel
theorem dX4_from_89 : decode cX4_from 89 = .ok (.iinc 3 1, 3) := by decide +kernel
theorem dX4_from_92 : decode cX4_from 92 = .ok (.goto (-79), 3) := by decide +kernel
theorem dX4_from_95 : decode cX4_from 95 = .ok (.iload_n 2, 1) := by decide +kernel
theorem dX4_from_96 : decode cX4_from 96 = .ok (.ireturn, 1) := by decide +kernel
theorem dX4_laysArrows_0 : decode cX4_laysArrows 0 = .ok (.iconst 0, 1) := by decide +kernel
theorem dX4_laysArrows_1 : decode cX4_laysArrows 1 = .ok (.istore_n 2, 1) := by decide +kernel
theorem dX4_laysArrows_2 : decode cX4_laysArrows 2 = .ok (.iload_n 2, 1) := by decide +kernel
theorem dX4_laysArrows_3 : decode cX4_laysArrows 3 = .ok (.bipush 10, 2) := by decide +kernel
theorem dX4_laysArrows_5 : decode cX4_laysArrows 5 = .ok (.if_icmp .ge 25, 3) := by decide +kernel
theorem dX4_laysArrows_8 : decode cX4_laysArrows 8 = .ok (.aload_n 0, 1) := by decide +kernel
theorem dX4_laysArrows_9 : decode cX4_laysArrows 9 = .ok (.getfield 32, 3) := by decide +kernel
theorem dX4_laysArrows_12 : decode cX4_laysArrows 12 = .ok (.iload_n 2, 1) := by decide +kernel
theorem dX4_laysArrows_13 : decode cX4_laysArrows 13 = .ok (.aload_n 0, 1) := by decide +kernel
theorem dX4_laysArrows_14 : decode cX4_laysArrows 14 = .ok (.getfield 26, 3) := by decide +kernel
theorem dX4_laysArrows_17 : decode cX4_laysArrows 17 = .ok (.iconst 5, 1) := by decide +kernel
theorem dX4_laysArrows_18 : decode cX4_laysArrows 18 = .ok (.iload_n 2, 1) := by decide +kernel
theorem dX4_laysArrows_19 : decode cX4_laysArrows 19 = .ok (.imul, 1) := by decide +kernel
theorem dX4_laysArrows_20 : decode cX4_laysArrows 20 = .ok (.iload_n 1, 1) := by decide +kernel
theorem dX4_laysArrows_21 : decode cX4_laysArrows 21 = .ok (.iadd, 1) := by decide +kernel
theorem dX4_laysArrows_22 : decode cX4_laysArrows 22 = .ok (.iaload, 1) := by decide +kernel
theorem dX4_laysArrows_23 : decode cX4_laysArrows 23 = .ok (.iastore, 1) := by decide +kernel
theorem dX4_laysArrows_24 : decode cX4_laysArrows 24 = .ok (.iinc 2 1, 3) := by decide +kernel
theorem dX4_laysArrows_27 : decode cX4_laysArrows 27 = .ok (.goto (-25), 3) := by decide +kernel
theorem dX4_laysArrows_30 : decode cX4_laysArrows 30 = .ok (.return_, 1) := by decide +kernel
theorem dX4_touches_0 : decode cX4_touches 0 = .ok (.aload_n 0, 1) := by decide +kernel
theorem dX4_touches_1 : decode cX4_touches 1 = .ok (.getfield 19, 3) := by decide +kernel
theorem dX4_touches_4 : decode cX4_touches 4 = .ok (.iload_n 1, 1) := by decide +kernel
theorem dX4_touches_5 : decode cX4_touches 5 = .ok (.baload, 1) := by decide +kernel
theorem dX4_touches_6 : decode cX4_touches 6 = .ok (.ifCond .eq 27, 3) := by decide +kernel
theorem dX4_touches_9 : decode cX4_touches 9 = .ok (.aload_n 0, 1) := by decide +kernel
theorem dX4_touches_10 : decode cX4_touches 10 = .ok (.getfield 7, 3) := by decide +kernel
theorem dX4_touches_13 : decode cX4_touches 13 = .ok (.iload_n 1, 1) := by decide +kernel
theorem dX4_touches_14 : decode cX4_touches 14 = .ok (.iaload, 1) := by decide +kernel
theorem dX4_touches_15 : decode cX4_touches 15 = .ok (.iload_n 2, 1) := by decide +kernel
theorem dX4_touches_16 : decode cX4_touches 16 = .ok (.if_icmp .eq 13, 3) := by decide +kernel
theorem dX4_touches_19 : decode cX4_touches 19 = .ok (.aload_n 0, 1) := by decide +kernel
theorem dX4_touches_20 : decode cX4_touches 20 = .ok (.getfield 13, 3) := by decide +kernel
theorem dX4_touches_23 : decode cX4_touches 23 = .ok (.iload_n 1, 1) := by decide +kernel
theorem dX4_touches_24 : decode cX4_touches 24 = .ok (.iaload, 1) := by decide +kernel
theorem dX4_touches_25 : decode cX4_touches 25 = .ok (.iload_n 2, 1) := by decide +kernel
theorem dX4_touches_26 : decode cX4_touches 26 = .ok (.if_icmp .ne 7, 3) := by decide +kernel
theorem dX4_touches_29 : decode cX4_touches 29 = .ok (.iconst 1, 1) := by decide +kernel
theorem dX4_touches_30 : decode cX4_touches 30 = .ok (.goto 4, 3) := by decide +kernel
theorem dX4_touches_33 : decode cX4_touches 33 = .ok (.iconst 0, 1) := by decide +kernel
theorem dX4_touches_34 : decode cX4_touches 34 = .ok (.ireturn, 1) := by decide +kernel
theorem dX4_onlyWalk_0 : decode cX4_onlyWalk 0 = .ok (.bipush (-9), 2) := by decide +kernel
theorem dX4_onlyWalk_2 : decode cX4_onlyWalk 2 = .ok (.istore_n 3, 1) := by decide +kernel
theorem dX4_onlyWalk_3 : decode cX4_onlyWalk 3 = .ok (.iconst 0, 1) := by decide +kernel
theorem dX4_onlyWalk_4 : decode cX4_onlyWalk 4 = .ok (.istore 4, 2) := by decide +kernel
theorem dX4_onlyWalk_6 : decode cX4_onlyWalk 6 = .ok (.iload 4, 2) := by decide +kernel
theorem dX4_onlyWalk_8 : decode cX4_onlyWalk 8 = .ok (.aload_n 0, 1) := by decide +kernel
theorem dX4_onlyWalk_9 : decode cX4_onlyWalk 9 = .ok (.getfield 51, 3) := by decide +kernel
theorem dX4_onlyWalk_12 : decode cX4_onlyWalk 12 = .ok (.if_icmp .ge 45, 3) := by decide +kernel
theorem dX4_onlyWalk_15 : decode cX4_onlyWalk 15 = .ok (.iload 4, 2) := by decide +kernel
theorem dX4_onlyWalk_17 : decode cX4_onlyWalk 17 = .ok (.iload_n 2, 1) := by decide +kernel
theorem dX4_onlyWalk_18 : decode cX4_onlyWalk 18 = .ok (.if_icmp .eq 33, 3) := by decide +kernel
theorem dX4_onlyWalk_21 : decode cX4_onlyWalk 21 = .ok (.aload_n 0, 1) := by decide +kernel
theorem dX4_onlyWalk_22 : decode cX4_onlyWalk 22 = .ok (.iload 4, 2) := by decide +kernel
theorem dX4_onlyWalk_24 : decode cX4_onlyWalk 24 = .ok (.iload_n 1, 1) := by decide +kernel
theorem dX4_onlyWalk_25 : decode cX4_onlyWalk 25 = .ok (.invokevirtual 98, 3) := by decide +kernel
theorem dX4_onlyWalk_28 : decode cX4_onlyWalk 28 = .ok (.ifCond .eq 23, 3) := by decide +kernel
theorem dX4_onlyWalk_31 : decode cX4_onlyWalk 31 = .ok (.iload_n 3, 1) := by decide +kernel
theorem dX4_onlyWalk_32 : decode cX4_onlyWalk 32 = .ok (.bipush (-9), 2) := by decide +kernel
theorem dX4_onlyWalk_34 : decode cX4_onlyWalk 34 = .ok (.if_icmp .ne 8, 3) := by decide +kernel
theorem dX4_onlyWalk_37 : decode cX4_onlyWalk 37 = .ok (.iload 4, 2) := by decide +kernel
theorem dX4_onlyWalk_39 : decode cX4_onlyWalk 39 = .ok (.goto 4, 3) := by decide +kernel
theorem dX4_onlyWalk_42 : decode cX4_onlyWalk 42 = .ok (.iconst (-1), 1) := by decide +kernel
theorem dX4_onlyWalk_43 : decode cX4_onlyWalk 43 = .ok (.istore_n 3, 1) := by decide +kernel
theorem dX4_onlyWalk_44 : decode cX4_onlyWalk 44 = .ok (.iload_n 3, 1) := by decide +kernel
theorem dX4_onlyWalk_45 : decode cX4_onlyWalk 45 = .ok (.iconst (-1), 1) := by decide +kernel
theorem dX4_onlyWalk_46 : decode cX4_onlyWalk 46 = .ok (.if_icmp .ne 5, 3) := by decide +kernel
theorem dX4_onlyWalk_49 : decode cX4_onlyWalk 49 = .ok (.iload_n 3, 1) := by decide +kernel
theorem dX4_onlyWalk_50 : decode cX4_onlyWalk 50 = .ok (.ireturn, 1) := by decide +kernel
theorem dX4_onlyWalk_51 : decode cX4_onlyWalk 51 = .ok (.iinc 4 1, 3) := by decide +kernel
theorem dX4_onlyWalk_54 : decode cX4_onlyWalk 54 = .ok (.goto (-48), 3) := by decide +kernel
theorem dX4_onlyWalk_57 : decode cX4_onlyWalk 57 = .ok (.iload_n 3, 1) := by decide +kernel
theorem dX4_onlyWalk_58 : decode cX4_onlyWalk 58 = .ok (.ireturn, 1) := by decide +kernel
theorem dX4_nextWalk_0 : decode cX4_nextWalk 0 = .ok (.aload_n 0, 1) := by decide +kernel
theorem dX4_nextWalk_1 : decode cX4_nextWalk 1 = .ok (.bipush (-9), 2) := by decide +kernel
theorem dX4_nextWalk_3 : decode cX4_nextWalk 3 = .ok (.putfield 101, 3) := by decide +kernel
theorem dX4_nextWalk_6 : decode cX4_nextWalk 6 = .ok (.aload_n 0, 1) := by decide +kernel
theorem dX4_nextWalk_7 : decode cX4_nextWalk 7 = .ok (.getfield 32, 3) := by decide +kernel
theorem dX4_nextWalk_10 : decode cX4_nextWalk 10 = .ok (.iload_n 1, 1) := by decide +kernel
theorem dX4_nextWalk_11 : decode cX4_nextWalk 11 = .ok (.iaload, 1) := by decide +kernel
theorem dX4_nextWalk_12 : decode cX4_nextWalk 12 = .ok (.bipush (-9), 2) := by decide +kernel
theorem dX4_nextWalk_14 : decode cX4_nextWalk 14 = .ok (.if_icmp .eq 33, 3) := by decide +kernel
theorem dX4_nextWalk_17 : decode cX4_nextWalk 17 = .ok (.aload_n 0, 1) := by decide +kernel
theorem dX4_nextWalk_18 : decode cX4_nextWalk 18 = .ok (.iload_n 1, 1) := by decide +kernel
theorem dX4_nextWalk_19 : decode cX4_nextWalk 19 = .ok (.aload_n 0, 1) := by decide +kernel
theorem dX4_nextWalk_20 : decode cX4_nextWalk 20 = .ok (.getfield 32, 3) := by decide +kernel
theorem dX4_nextWalk_23 : decode cX4_nextWalk 23 = .ok (.iload_n 1, 1) := by decide +kernel
theorem dX4_nextWalk_24 : decode cX4_nextWalk 24 = .ok (.iaload, 1) := by decide +kernel
theorem dX4_nextWalk_25 : decode cX4_nextWalk 25 = .ok (.invokevirtual 87, 3) := by decide +kernel
theorem dX4_nextWalk_28 : decode cX4_nextWalk 28 = .ok (.istore_n 3, 1) := by decide +kernel
theorem dX4_nextWalk_29 : decode cX4_nextWalk 29 = .ok (.aload_n 0, 1) := by decide +kernel
theorem dX4_nextWalk_30 : decode cX4_nextWalk 30 = .ok (.iload_n 3, 1) := by decide +kernel
theorem dX4_nextWalk_31 : decode cX4_nextWalk 31 = .ok (.bipush (-9), 2) := by decide +kernel
theorem dX4_nextWalk_33 : decode cX4_nextWalk 33 = .ok (.if_icmp .ne 7, 3) := by decide +kernel
theorem dX4_nextWalk_36 : decode cX4_nextWalk 36 = .ok (.iconst 3, 1) := by decide +kernel
theorem dX4_nextWalk_37 : decode cX4_nextWalk 37 = .ok (.goto 5, 3) := by decide +kernel
theorem dX4_nextWalk_40 : decode cX4_nextWalk 40 = .ok (.bipush (-9), 2) := by decide +kernel
theorem dX4_nextWalk_42 : decode cX4_nextWalk 42 = .ok (.putfield 101, 3) := by decide +kernel
theorem dX4_nextWalk_45 : decode cX4_nextWalk 45 = .ok (.iload_n 3, 1) := by decide +kernel
theorem dX4_nextWalk_46 : decode cX4_nextWalk 46 = .ok (.ireturn, 1) := by decide +kernel
theorem dX4_nextWalk_47 : decode cX4_nextWalk 47 = .ok (.aload_n 0, 1) := by decide +kernel
theorem dX4_nextWalk_48 : decode cX4_nextWalk 48 = .ok (.iload_n 1, 1) := by decide +kernel
theorem dX4_nextWalk_49 : decode cX4_nextWalk 49 = .ok (.iload_n 2, 1) := by decide +kernel
theorem dX4_nextWalk_50 : decode cX4_nextWalk 50 = .ok (.invokevirtual 104, 3) := by decide +kernel
theorem dX4_nextWalk_53 : decode cX4_nextWalk 53 = .ok (.istore_n 3, 1) := by decide +kernel
theorem dX4_nextWalk_54 : decode cX4_nextWalk 54 = .ok (.aload_n 0, 1) := by decide +kernel
theorem dX4_nextWalk_55 : decode cX4_nextWalk 55 = .ok (.iload_n 3, 1) := by decide +kernel
theorem dX4_nextWalk_56 : decode cX4_nextWalk 56 = .ok (.bipush (-9), 2) := by decide +kernel
theorem dX4_nextWalk_58 : decode cX4_nextWalk 58 = .ok (.if_icmp .ne 7, 3) := by decide +kernel
theorem dX4_nextWalk_61 : decode cX4_nextWalk 61 = .ok (.iconst 2, 1) := by decide +kernel
theorem dX4_nextWalk_62 : decode cX4_nextWalk 62 = .ok (.goto 13, 3) := by decide +kernel
theorem dX4_nextWalk_65 : decode cX4_nextWalk 65 = .ok (.iload_n 3, 1) := by decide +kernel
theorem dX4_nextWalk_66 : decode cX4_nextWalk 66 = .ok (.ifCond .ge 7, 3) := by decide +kernel
theorem dX4_nextWalk_69 : decode cX4_nextWalk 69 = .ok (.iconst 1, 1) := by decide +kernel
theorem dX4_nextWalk_70 : decode cX4_nextWalk 70 = .ok (.goto 5, 3) := by decide +kernel
theorem dX4_nextWalk_73 : decode cX4_nextWalk 73 = .ok (.bipush (-9), 2) := by decide +kernel
theorem dX4_nextWalk_75 : decode cX4_nextWalk 75 = .ok (.putfield 101, 3) := by decide +kernel
theorem dX4_nextWalk_78 : decode cX4_nextWalk 78 = .ok (.iload_n 3, 1) := by decide +kernel
theorem dX4_nextWalk_79 : decode cX4_nextWalk 79 = .ok (.ireturn, 1) := by decide +kernel
theorem dX4_follows_0 : decode cX4_follows 0 = .ok (.iconst 0, 1) := by decide +kernel
theorem dX4_follows_1 : decode cX4_follows 1 = .ok (.istore_n 3, 1) := by decide +kernel
theorem dX4_follows_2 : decode cX4_follows 2 = .ok (.iload_n 3, 1) := by decide +kernel
theorem dX4_follows_3 : decode cX4_follows 3 = .ok (.sipush 140, 3) := by decide +kernel
theorem dX4_follows_6 : decode cX4_follows 6 = .ok (.if_icmp .ge 16, 3) := by decide +kernel
theorem dX4_follows_9 : decode cX4_follows 9 = .ok (.aload_n 0, 1) := by decide +kernel
theorem dX4_follows_10 : decode cX4_follows 10 = .ok (.getfield 35, 3) := by decide +kernel
theorem dX4_follows_13 : decode cX4_follows 13 = .ok (.iload_n 3, 1) := by decide +kernel
theorem dX4_follows_14 : decode cX4_follows 14 = .ok (.iconst 0, 1) := by decide +kernel
theorem dX4_follows_15 : decode cX4_follows 15 = .ok (.bastore, 1) := by decide +kernel
theorem dX4_follows_16 : decode cX4_follows 16 = .ok (.iinc 3 1, 3) := by decide +kernel
theorem dX4_follows_19 : decode cX4_follows 19 = .ok (.goto (-17), 3) := by decide +kernel
theorem dX4_follows_22 : decode cX4_follows 22 = .ok (.aload_n 0, 1) := by decide +kernel
theorem dX4_follows_23 : decode cX4_follows 23 = .ok (.iconst 0, 1) := by decide +kernel
theorem dX4_follows_24 : decode cX4_follows 24 = .ok (.putfield 107, 3) := by decide +kernel
theorem dX4_follows_27 : decode cX4_follows 27 = .ok (.aload_n 0, 1) := by decide +kernel
theorem dX4_follows_28 : decode cX4_follows 28 = .ok (.iconst 0, 1) := by decide +kernel
theorem dX4_follows_29 : decode cX4_follows 29 = .ok (.putfield 110, 3) := by decide +kernel
theorem dX4_follows_32 : decode cX4_follows 32 = .ok (.aload_n 0, 1) := by decide +kernel
theorem dX4_follows_33 : decode cX4_follows 33 = .ok (.getfield 38, 3) := by decide +kernel
theorem dX4_follows_36 : decode cX4_follows 36 = .ok (.iconst 0, 1) := by decide +kernel
theorem dX4_follows_37 : decode cX4_follows 37 = .ok (.iload_n 1, 1) := by decide +kernel
theorem dX4_follows_38 : decode cX4_follows 38 = .ok (.iastore, 1) := by decide +kernel
theorem dX4_follows_39 : decode cX4_follows 39 = .ok (.iload_n 1, 1) := by decide +kernel
theorem dX4_follows_40 : decode cX4_follows 40 = .ok (.istore_n 3, 1) := by decide +kernel
theorem dX4_follows_41 : decode cX4_follows 41 = .ok (.bipush (-9), 2) := by decide +kernel
theorem dX4_follows_43 : decode cX4_follows 43 = .ok (.istore 4, 2) := by decide +kernel
theorem dX4_follows_45 : decode cX4_follows 45 = .ok (.aload_n 0, 1) := by decide +kernel
theorem dX4_follows_46 : decode cX4_follows 46 = .ok (.bipush (-9), 2) := by decide +kernel
theorem dX4_follows_48 : decode cX4_follows 48 = .ok (.putfield 101, 3) := by decide +kernel
theorem dX4_follows_51 : decode cX4_follows 51 = .ok (.aload_n 0, 1) := by decide +kernel
theorem dX4_follows_52 : decode cX4_follows 52 = .ok (.getfield 101, 3) := by decide +kernel
theorem dX4_follows_55 : decode cX4_follows 55 = .ok (.bipush (-9), 2) := by decide +kernel
theorem dX4_follows_57 : decode cX4_follows 57 = .ok (.if_icmp .ne 148, 3) := by decide +kernel
theorem dX4_follows_60 : decode cX4_follows 60 = .ok (.iload_n 3, 1) := by decide +kernel
theorem dX4_follows_61 : decode cX4_follows 61 = .ok (.aload_n 0, 1) := by decide +kernel
theorem dX4_follows_62 : decode cX4_follows 62 = .ok (.getfield 23, 3) := by decide +kernel
theorem dX4_follows_65 : decode cX4_follows 65 = .ok (.iload_n 2, 1) := by decide +kernel
theorem dX4_follows_66 : decode cX4_follows 66 = .ok (.iaload, 1) := by decide +kernel
theorem dX4_follows_67 : decode cX4_follows 67 = .ok (.if_icmp .ne 9, 3) := by decide +kernel
theorem dX4_follows_70 : decode cX4_follows 70 = .ok (.aload_n 0, 1) := by decide +kernel
theorem dX4_follows_71 : decode cX4_follows 71 = .ok (.iconst 0, 1) := by decide +kernel
theorem dX4_follows_72 : decode cX4_follows 72 = .ok (.putfield 101, 3) := by decide +kernel
theorem dX4_follows_75 : decode cX4_follows 75 = .ok (.return_, 1) := by decide +kernel
theorem dX4_follows_76 : decode cX4_follows 76 = .ok (.aload_n 0, 1) := by decide +kernel
theorem dX4_follows_77 : decode cX4_follows 77 = .ok (.iload_n 3, 1) := by decide +kernel
theorem dX4_follows_78 : decode cX4_follows 78 = .ok (.iload 4, 2) := by decide +kernel
theorem dX4_follows_80 : decode cX4_follows 80 = .ok (.invokevirtual 113, 3) := by decide +kernel
theorem dX4_follows_83 : decode cX4_follows 83 = .ok (.istore 5, 2) := by decide +kernel
theorem dX4_follows_85 : decode cX4_follows 85 = .ok (.aload_n 0, 1) := by decide +kernel
theorem dX4_follows_86 : decode cX4_follows 86 = .ok (.getfield 101, 3) := by decide +kernel
theorem dX4_follows_89 : decode cX4_follows 89 = .ok (.bipush (-9), 2) := by decide +kernel
theorem dX4_follows_91 : decode cX4_follows 91 = .ok (.if_icmp .eq 4, 3) := by decide +kernel
theorem dX4_follows_94 : decode cX4_follows 94 = .ok (.return_, 1) := by decide +kernel
theorem dX4_follows_95 : decode cX4_follows 95 = .ok (.aload_n 0, 1) := by decide +kernel
theorem dX4_follows_96 : decode cX4_follows 96 = .ok (.getfield 7, 3) := by decide +kernel
theorem dX4_follows_99 : decode cX4_follows 99 = .ok (.iload 5, 2) := by decide +kernel
theorem dX4_follows_101 : decode cX4_follows 101 = .ok (.iaload, 1) := by decide +kernel
theorem dX4_follows_102 : decode cX4_follows 102 = .ok (.iload_n 3, 1) := by decide +kernel
theorem dX4_follows_103 : decode cX4_follows 103 = .ok (.if_icmp .ne 13, 3) := by decide +kernel
theorem dX4_follows_106 : decode cX4_follows 106 = .ok (.aload_n 0, 1) := by decide +kernel
theorem dX4_follows_107 : decode cX4_follows 107 = .ok (.getfield 13, 3) := by decide +kernel
theorem dX4_follows_110 : decode cX4_follows 110 = .ok (.iload 5, 2) := by decide +kernel
theorem dX4_follows_112 : decode cX4_follows 112 = .ok (.iaload, 1) := by decide +kernel
theorem dX4_follows_113 : decode cX4_follows 113 = .ok (.goto 10, 3) := by decide +kernel
theorem dX4_follows_116 : decode cX4_follows 116 = .ok (.aload_n 0, 1) := by decide +kernel
theorem dX4_follows_117 : decode cX4_follows 117 = .ok (.getfield 7, 3) := by decide +kernel
theorem dX4_follows_120 : decode cX4_follows 120 = .ok (.iload 5, 2) := by decide +kernel
theorem dX4_follows_122 : decode cX4_follows 122 = .ok (.iaload, 1) := by decide +kernel
theorem dX4_follows_123 : decode cX4_follows 123 = .ok (.istore_n 3, 1) := by decide +kernel
theorem dX4_follows_124 : decode cX4_follows 124 = .ok (.iload 5, 2) := by decide +kernel
theorem dX4_follows_126 : decode cX4_follows 126 = .ok (.istore 4, 2) := by decide +kernel
theorem dX4_follows_128 : decode cX4_follows 128 = .ok (.aload_n 0, 1) := by decide +kernel
theorem dX4_follows_129 : decode cX4_follows 129 = .ok (.dup, 1) := by decide +kernel
theorem dX4_follows_130 : decode cX4_follows 130 = .ok (.getfield 107, 3) := by decide +kernel
theorem dX4_follows_133 : decode cX4_follows 133 = .ok (.iconst 1, 1) := by decide +kernel
theorem dX4_follows_134 : decode cX4_follows 134 = .ok (.iadd, 1) := by decide +kernel
theorem dX4_follows_135 : decode cX4_follows 135 = .ok (.putfield 107, 3) := by decide +kernel
theorem dX4_follows_138 : decode cX4_follows 138 = .ok (.aload_n 0, 1) := by decide +kernel
theorem dX4_follows_139 : decode cX4_follows 139 = .ok (.dup, 1) := by decide +kernel
theorem dX4_follows_140 : decode cX4_follows 140 = .ok (.getfield 110, 3) := by decide +kernel
theorem dX4_follows_143 : decode cX4_follows 143 = .ok (.aload_n 0, 1) := by decide +kernel
theorem dX4_follows_144 : decode cX4_follows 144 = .ok (.getfield 16, 3) := by decide +kernel
theorem dX4_follows_147 : decode cX4_follows 147 = .ok (.iload 5, 2) := by decide +kernel
theorem dX4_follows_149 : decode cX4_follows 149 = .ok (.iaload, 1) := by decide +kernel
theorem dX4_follows_150 : decode cX4_follows 150 = .ok (.iadd, 1) := by decide +kernel
theorem dX4_follows_151 : decode cX4_follows 151 = .ok (.putfield 110, 3) := by decide +kernel
theorem dX4_follows_154 : decode cX4_follows 154 = .ok (.aload_n 0, 1) := by decide +kernel
theorem dX4_follows_155 : decode cX4_follows 155 = .ok (.getfield 38, 3) := by decide +kernel
theorem dX4_follows_158 : decode cX4_follows 158 = .ok (.aload_n 0, 1) := by decide +kernel
theorem dX4_follows_159 : decode cX4_follows 159 = .ok (.getfield 107, 3) := by decide +kernel
theorem dX4_follows_162 : decode cX4_follows 162 = .ok (.iload_n 3, 1) := by decide +kernel
theorem dX4_follows_163 : decode cX4_follows 163 = .ok (.iastore, 1) := by decide +kernel
theorem dX4_follows_164 : decode cX4_follows 164 = .ok (.aload_n 0, 1) := by decide +kernel
theorem dX4_follows_165 : decode cX4_follows 165 = .ok (.aload_n 0, 1) := by decide +kernel
theorem dX4_follows_166 : decode cX4_follows 166 = .ok (.getfield 35, 3) := by decide +kernel
theorem dX4_follows_169 : decode cX4_follows 169 = .ok (.bipush 14, 2) := by decide +kernel
theorem dX4_follows_171 : decode cX4_follows 171 = .ok (.iload_n 3, 1) := by decide +kernel
theorem dX4_follows_172 : decode cX4_follows 172 = .ok (.imul, 1) := by decide +kernel
theorem dX4_follows_173 : decode cX4_follows 173 = .ok (.iload 5, 2) := by decide +kernel
theorem dX4_follows_175 : decode cX4_follows 175 = .ok (.iadd, 1) := by decide +kernel
theorem dX4_follows_176 : decode cX4_follows 176 = .ok (.baload, 1) := by decide +kernel
theorem dX4_follows_177 : decode cX4_follows 177 = .ok (.ifCond .eq 7, 3) := by decide +kernel
theorem dX4_follows_180 : decode cX4_follows 180 = .ok (.iconst 4, 1) := by decide +kernel
theorem dX4_follows_181 : decode cX4_follows 181 = .ok (.goto 5, 3) := by decide +kernel
theorem dX4_follows_184 : decode cX4_follows 184 = .ok (.bipush (-9), 2) := by decide +kernel
theorem dX4_follows_186 : decode cX4_follows 186 = .ok (.putfield 101, 3) := by decide +kernel
theorem dX4_follows_189 : decode cX4_follows 189 = .ok (.aload_n 0, 1) := by decide +kernel
theorem dX4_follows_190 : decode cX4_follows 190 = .ok (.getfield 35, 3) := by decide +kernel
theorem dX4_follows_193 : decode cX4_follows 193 = .ok (.bipush 14, 2) := by decide +kernel
theorem dX4_follows_195 : decode cX4_follows 195 = .ok (.iload_n 3, 1) := by decide +kernel
theorem dX4_follows_196 : decode cX4_follows 196 = .ok (.imul, 1) := by decide +kernel
theorem dX4_follows_197 : decode cX4_follows 197 = .ok (.iload 5, 2) := by decide +kernel
theorem dX4_follows_199 : decode cX4_follows 199 = .ok (.iadd, 1) := by decide +kernel
theorem dX4_follows_200 : decode cX4_follows 200 = .ok (.iconst 1, 1) := by decide +kernel
theorem dX4_follows_201 : decode cX4_follows 201 = .ok (.bastore, 1) := by decide +kernel
theorem dX4_follows_202 : decode cX4_follows 202 = .ok (.goto (-151), 3) := by decide +kernel
theorem dX4_follows_205 : decode cX4_follows 205 = .ok (.return_, 1) := by decide +kernel
theorem dX4_follow_0 : decode cX4_follow 0 = .ok (.iload_n 1, 1) := by decide +kernel
theorem dX4_follow_1 : decode cX4_follow 1 = .ok (.invokestatic 62, 3) := by decide +kernel
theorem dX4_follow_4 : decode cX4_follow 4 = .ok (.ifCond .eq 11, 3) := by decide +kernel
theorem dX4_follow_7 : decode cX4_follow 7 = .ok (.aload_n 0, 1) := by decide +kernel
theorem dX4_follow_8 : decode cX4_follow 8 = .ok (.iload_n 2, 1) := by decide +kernel
theorem dX4_follow_9 : decode cX4_follow 9 = .ok (.invokevirtual 69, 3) := by decide +kernel
theorem dX4_follow_12 : decode cX4_follow 12 = .ok (.ifCond .ne 5, 3) := by decide +kernel
theorem dX4_follow_15 : decode cX4_follow 15 = .ok (.iconst (-1), 1) := by decide +kernel
theorem dX4_follow_16 : decode cX4_follow 16 = .ok (.ireturn, 1) := by decide +kernel
theorem dX4_follow_17 : decode cX4_follow 17 = .ok (.iload_n 3, 1) := by decide +kernel
theorem dX4_follow_18 : decode cX4_follow 18 = .ok (.iconst 0, 1) := by decide +kernel
theorem dX4_follow_19 : decode cX4_follow 19 = .ok (.iconst 3, 1) := by decide +kernel
theorem dX4_follow_20 : decode cX4_follow 20 = .ok (.invokestatic 47, 3) := by decide +kernel
theorem dX4_follow_23 : decode cX4_follow 23 = .ok (.ifCond .ne 17, 3) := by decide +kernel
theorem dX4_follow_26 : decode cX4_follow 26 = .ok (.iload_n 3, 1) := by decide +kernel
theorem dX4_follow_27 : decode cX4_follow 27 = .ok (.bipush 10, 2) := by decide +kernel
theorem dX4_follow_29 : decode cX4_follow 29 = .ok (.bipush 50, 2) := by decide +kernel
theorem dX4_follow_31 : decode cX4_follow 31 = .ok (.invokestatic 47, 3) := by decide +kernel
theorem dX4_follow_34 : decode cX4_follow 34 = .ok (.ifCond .ne 6, 3) := by decide +kernel
theorem dX4_follow_37 : decode cX4_follow 37 = .ok (.bipush (-2), 2) := by decide +kernel
theorem dX4_follow_39 : decode cX4_follow 39 = .ok (.ireturn, 1) := by decide +kernel
theorem dX4_follow_40 : decode cX4_follow 40 = .ok (.aload_n 0, 1) := by decide +kernel
theorem dX4_follow_41 : decode cX4_follow 41 = .ok (.iload_n 2, 1) := by decide +kernel
theorem dX4_follow_42 : decode cX4_follow 42 = .ok (.invokevirtual 116, 3) := by decide +kernel
theorem dX4_follow_45 : decode cX4_follow 45 = .ok (.aload_n 0, 1) := by decide +kernel
theorem dX4_follow_46 : decode cX4_follow 46 = .ok (.iload_n 1, 1) := by decide +kernel
theorem dX4_follow_47 : decode cX4_follow 47 = .ok (.iload_n 2, 1) := by decide +kernel
theorem dX4_follow_48 : decode cX4_follow 48 = .ok (.invokevirtual 119, 3) := by decide +kernel
theorem dX4_follow_51 : decode cX4_follow 51 = .ok (.iload_n 3, 1) := by decide +kernel
theorem dX4_follow_52 : decode cX4_follow 52 = .ok (.tableswitch 57 0 3 #[32, 37, 42, 47], 32) := by decide +kernel
theorem dX4_follow_84 : decode cX4_follow 84 = .ok (.aload_n 0, 1) := by decide +kernel
theorem dX4_follow_85 : decode cX4_follow 85 = .ok (.getfield 101, 3) := by decide +kernel
theorem dX4_follow_88 : decode cX4_follow 88 = .ok (.ireturn, 1) := by decide +kernel
theorem dX4_follow_89 : decode cX4_follow 89 = .ok (.aload_n 0, 1) := by decide +kernel
theorem dX4_follow_90 : decode cX4_follow 90 = .ok (.getfield 107, 3) := by decide +kernel
theorem dX4_follow_93 : decode cX4_follow 93 = .ok (.ireturn, 1) := by decide +kernel
theorem dX4_follow_94 : decode cX4_follow 94 = .ok (.aload_n 0, 1) := by decide +kernel
theorem dX4_follow_95 : decode cX4_follow 95 = .ok (.getfield 110, 3) := by decide +kernel
theorem dX4_follow_98 : decode cX4_follow 98 = .ok (.ireturn, 1) := by decide +kernel
theorem dX4_follow_99 : decode cX4_follow 99 = .ok (.aload_n 0, 1) := by decide +kernel
theorem dX4_follow_100 : decode cX4_follow 100 = .ok (.getfield 38, 3) := by decide +kernel
theorem dX4_follow_103 : decode cX4_follow 103 = .ok (.aload_n 0, 1) := by decide +kernel
theorem dX4_follow_104 : decode cX4_follow 104 = .ok (.getfield 107, 3) := by decide +kernel
theorem dX4_follow_107 : decode cX4_follow 107 = .ok (.iaload, 1) := by decide +kernel
theorem dX4_follow_108 : decode cX4_follow 108 = .ok (.ireturn, 1) := by decide +kernel
theorem dX4_follow_109 : decode cX4_follow 109 = .ok (.iload_n 3, 1) := by decide +kernel
theorem dX4_follow_110 : decode cX4_follow 110 = .ok (.bipush 10, 2) := by decide +kernel
theorem dX4_follow_112 : decode cX4_follow 112 = .ok (.isub, 1) := by decide +kernel
theorem dX4_follow_113 : decode cX4_follow 113 = .ok (.aload_n 0, 1) := by decide +kernel
theorem dX4_follow_114 : decode cX4_follow 114 = .ok (.getfield 107, 3) := by decide +kernel
theorem dX4_follow_117 : decode cX4_follow 117 = .ok (.if_icmp .gt 15, 3) := by decide +kernel
theorem dX4_follow_120 : decode cX4_follow 120 = .ok (.aload_n 0, 1) := by decide +kernel
theorem dX4_follow_121 : decode cX4_follow 121 = .ok (.getfield 38, 3) := by decide +kernel
theorem dX4_follow_124 : decode cX4_follow 124 = .ok (.iload_n 3, 1) := by decide +kernel
theorem dX4_follow_125 : decode cX4_follow 125 = .ok (.bipush 10, 2) := by decide +kernel
theorem dX4_follow_127 : decode cX4_follow 127 = .ok (.isub, 1) := by decide +kernel
theorem dX4_follow_128 : decode cX4_follow 128 = .ok (.iaload, 1) := by decide +kernel
theorem dX4_follow_129 : decode cX4_follow 129 = .ok (.goto 5, 3) := by decide +kernel
theorem dX4_follow_132 : decode cX4_follow 132 = .ok (.bipush (-9), 2) := by decide +kernel
theorem dX4_follow_134 : decode cX4_follow 134 = .ok (.ireturn, 1) := by decide +kernel
theorem dX4_manyEnd_0 : decode cX4_manyEnd 0 = .ok (.iconst 0, 1) := by decide +kernel
theorem dX4_manyEnd_1 : decode cX4_manyEnd 1 = .ok (.istore_n 3, 1) := by decide +kernel
theorem dX4_manyEnd_2 : decode cX4_manyEnd 2 = .ok (.iconst 0, 1) := by decide +kernel
theorem dX4_manyEnd_3 : decode cX4_manyEnd 3 = .ok (.istore 4, 2) := by decide +kernel
theorem dX4_manyEnd_5 : decode cX4_manyEnd 5 = .ok (.iload 4, 2) := by decide +kernel
theorem dX4_manyEnd_7 : decode cX4_manyEnd 7 = .ok (.bipush 10, 2) := by decide +kernel
theorem dX4_manyEnd_9 : decode cX4_manyEnd 9 = .ok (.if_icmp .ge 44, 3) := by decide +kernel
theorem dX4_manyEnd_12 : decode cX4_manyEnd 12 = .ok (.aload_n 0, 1) := by decide +kernel
theorem dX4_manyEnd_13 : decode cX4_manyEnd 13 = .ok (.getfield 72, 3) := by decide +kernel
theorem dX4_manyEnd_16 : decode cX4_manyEnd 16 = .ok (.iload 4, 2) := by decide +kernel
theorem dX4_manyEnd_18 : decode cX4_manyEnd 18 = .ok (.invokestatic 75, 3) := by decide +kernel
theorem dX4_manyEnd_21 : decode cX4_manyEnd 21 = .ok (.ifCond .eq 26, 3) := by decide +kernel
theorem dX4_manyEnd_24 : decode cX4_manyEnd 24 = .ok (.aload_n 0, 1) := by decide +kernel
theorem dX4_manyEnd_25 : decode cX4_manyEnd 25 = .ok (.iload 4, 2) := by decide +kernel
theorem dX4_manyEnd_27 : decode cX4_manyEnd 27 = .ok (.iload_n 1, 1) := by decide +kernel
theorem dX4_manyEnd_28 : decode cX4_manyEnd 28 = .ok (.invokevirtual 119, 3) := by decide +kernel
theorem dX4_manyEnd_31 : decode cX4_manyEnd 31 = .ok (.iload_n 3, 1) := by decide +kernel
theorem dX4_manyEnd_32 : decode cX4_manyEnd 32 = .ok (.aload_n 0, 1) := by decide +kernel
theorem dX4_manyEnd_33 : decode cX4_manyEnd 33 = .ok (.getfield 101, 3) := by decide +kernel
theorem dX4_manyEnd_36 : decode cX4_manyEnd 36 = .ok (.iload_n 2, 1) := by decide +kernel
theorem dX4_manyEnd_37 : decode cX4_manyEnd 37 = .ok (.if_icmp .ne 7, 3) := by decide +kernel
theorem dX4_manyEnd_40 : decode cX4_manyEnd 40 = .ok (.iconst 1, 1) := by decide +kernel
theorem dX4_manyEnd_41 : decode cX4_manyEnd 41 = .ok (.goto 4, 3) := by decide +kernel
theorem dX4_manyEnd_44 : decode cX4_manyEnd 44 = .ok (.iconst 0, 1) := by decide +kernel
theorem dX4_manyEnd_45 : decode cX4_manyEnd 45 = .ok (.iadd, 1) := by decide +kernel
theorem dX4_manyEnd_46 : decode cX4_manyEnd 46 = .ok (.istore_n 3, 1) := by decide +kernel
theorem dX4_manyEnd_47 : decode cX4_manyEnd 47 = .ok (.iinc 4 1, 3) := by decide +kernel
theorem dX4_manyEnd_50 : decode cX4_manyEnd 50 = .ok (.goto (-45), 3) := by decide +kernel
theorem dX4_manyEnd_53 : decode cX4_manyEnd 53 = .ok (.iload_n 3, 1) := by decide +kernel
theorem dX4_manyEnd_54 : decode cX4_manyEnd 54 = .ok (.ireturn, 1) := by decide +kernel
theorem dX4_ends_0 : decode cX4_ends 0 = .ok (.iload_n 1, 1) := by decide +kernel
theorem dX4_ends_1 : decode cX4_ends 1 = .ok (.iconst 0, 1) := by decide +kernel
theorem dX4_ends_2 : decode cX4_ends 2 = .ok (.iconst 4, 1) := by decide +kernel
theorem dX4_ends_3 : decode cX4_ends 3 = .ok (.invokestatic 47, 3) := by decide +kernel
theorem dX4_ends_6 : decode cX4_ends 6 = .ok (.ifCond .ne 6, 3) := by decide +kernel
theorem dX4_ends_9 : decode cX4_ends 9 = .ok (.bipush (-2), 2) := by decide +kernel
theorem dX4_ends_11 : decode cX4_ends 11 = .ok (.ireturn, 1) := by decide +kernel
theorem dX4_ends_12 : decode cX4_ends 12 = .ok (.iconst 0, 1) := by decide +kernel
theorem dX4_ends_13 : decode cX4_ends 13 = .ok (.istore_n 2, 1) := by decide +kernel
theorem dX4_ends_14 : decode cX4_ends 14 = .ok (.iconst 0, 1) := by decide +kernel
theorem dX4_ends_15 : decode cX4_ends 15 = .ok (.istore_n 3, 1) := by decide +kernel
theorem dX4_ends_16 : decode cX4_ends 16 = .ok (.iload_n 3, 1) := by decide +kernel
theorem dX4_ends_17 : decode cX4_ends 17 = .ok (.aload_n 0, 1) := by decide +kernel
theorem dX4_ends_18 : decode cX4_ends 18 = .ok (.getfield 55, 3) := by decide +kernel
theorem dX4_ends_21 : decode cX4_ends 21 = .ok (.if_icmp .ge 23, 3) := by decide +kernel
theorem dX4_ends_24 : decode cX4_ends 24 = .ok (.aload_n 0, 1) := by decide +kernel
theorem dX4_ends_25 : decode cX4_ends 25 = .ok (.iload_n 3, 1) := by decide +kernel
theorem dX4_ends_26 : decode cX4_ends 26 = .ok (.invokevirtual 116, 3) := by decide +kernel
theorem dX4_ends_29 : decode cX4_ends 29 = .ok (.iload_n 2, 1) := by decide +kernel
theorem dX4_ends_30 : decode cX4_ends 30 = .ok (.aload_n 0, 1) := by decide +kernel
theorem dX4_ends_31 : decode cX4_ends 31 = .ok (.iload_n 3, 1) := by decide +kernel
theorem dX4_ends_32 : decode cX4_ends 32 = .ok (.iload_n 1, 1) := by decide +kernel
theorem dX4_ends_33 : decode cX4_ends 33 = .ok (.invokevirtual 123, 3) := by decide +kernel
theorem dX4_ends_36 : decode cX4_ends 36 = .ok (.iadd, 1) := by decide +kernel
theorem dX4_ends_37 : decode cX4_ends 37 = .ok (.istore_n 2, 1) := by decide +kernel
theorem dX4_ends_38 : decode cX4_ends 38 = .ok (.iinc 3 1, 3) := by decide +kernel
theorem dX4_ends_41 : decode cX4_ends 41 = .ok (.goto (-25), 3) := by decide +kernel
theorem dX4_ends_44 : decode cX4_ends 44 = .ok (.iload_n 2, 1) := by decide +kernel
theorem dX4_ends_45 : decode cX4_ends 45 = .ok (.ireturn, 1) := by decide +kernel
theorem dX4_those_0 : decode cX4_those 0 = .ok (.aload_n 0, 1) := by decide +kernel
theorem dX4_those_1 : decode cX4_those 1 = .ok (.iload_n 1, 1) := by decide +kernel
theorem dX4_those_2 : decode cX4_those 2 = .ok (.invokevirtual 69, 3) := by decide +kernel
theorem dX4_those_5 : decode cX4_those 5 = .ok (.ifCond .ne 5, 3) := by decide +kernel
theorem dX4_those_8 : decode cX4_those 8 = .ok (.iconst (-1), 1) := by decide +kernel
theorem dX4_those_9 : decode cX4_those 9 = .ok (.ireturn, 1) := by decide +kernel
theorem dX4_those_10 : decode cX4_those 10 = .ok (.iload_n 2, 1) := by decide +kernel
theorem dX4_those_11 : decode cX4_those 11 = .ok (.iconst 0, 1) := by decide +kernel
theorem dX4_those_12 : decode cX4_those 12 = .ok (.iconst 4, 1) := by decide +kernel
theorem dX4_those_13 : decode cX4_those 13 = .ok (.invokestatic 47, 3) := by decide +kernel
theorem dX4_those_16 : decode cX4_those 16 = .ok (.ifCond .ne 6, 3) := by decide +kernel
theorem dX4_those_19 : decode cX4_those 19 = .ok (.bipush (-2), 2) := by decide +kernel
theorem dX4_those_21 : decode cX4_those 21 = .ok (.ireturn, 1) := by decide +kernel
theorem dX4_those_22 : decode cX4_those 22 = .ok (.aload_n 0, 1) := by decide +kernel
theorem dX4_those_23 : decode cX4_those 23 = .ok (.iload_n 1, 1) := by decide +kernel
theorem dX4_those_24 : decode cX4_those 24 = .ok (.invokevirtual 116, 3) := by decide +kernel
theorem dX4_those_27 : decode cX4_those 27 = .ok (.iconst 0, 1) := by decide +kernel
theorem dX4_those_28 : decode cX4_those 28 = .ok (.istore_n 3, 1) := by decide +kernel
theorem dX4_those_29 : decode cX4_those 29 = .ok (.iconst 0, 1) := by decide +kernel
theorem dX4_those_30 : decode cX4_those 30 = .ok (.istore 4, 2) := by decide +kernel
theorem dX4_those_32 : decode cX4_those 32 = .ok (.iload 4, 2) := by decide +kernel
theorem dX4_those_34 : decode cX4_those 34 = .ok (.bipush 10, 2) := by decide +kernel
theorem dX4_those_36 : decode cX4_those 36 = .ok (.if_icmp .ge 35, 3) := by decide +kernel
theorem dX4_those_39 : decode cX4_those 39 = .ok (.aload_n 0, 1) := by decide +kernel
theorem dX4_those_40 : decode cX4_those 40 = .ok (.iload 4, 2) := by decide +kernel
theorem dX4_those_42 : decode cX4_those 42 = .ok (.iload_n 1, 1) := by decide +kernel
theorem dX4_those_43 : decode cX4_those 43 = .ok (.invokevirtual 119, 3) := by decide +kernel
theorem dX4_those_46 : decode cX4_those 46 = .ok (.iload_n 3, 1) := by decide +kernel
theorem dX4_those_47 : decode cX4_those 47 = .ok (.aload_n 0, 1) := by decide +kernel
theorem dX4_those_48 : decode cX4_those 48 = .ok (.getfield 101, 3) := by decide +kernel
theorem dX4_those_51 : decode cX4_those 51 = .ok (.iload_n 2, 1) := by decide +kernel
theorem dX4_those_52 : decode cX4_those 52 = .ok (.if_icmp .ne 10, 3) := by decide +kernel
theorem dX4_those_55 : decode cX4_those 55 = .ok (.iconst 1, 1) := by decide +kernel
theorem dX4_those_56 : decode cX4_those 56 = .ok (.iload 4, 2) := by decide +kernel
theorem dX4_those_58 : decode cX4_those 58 = .ok (.ishl, 1) := by decide +kernel
theorem dX4_those_59 : decode cX4_those 59 = .ok (.goto 4, 3) := by decide +kernel
theorem dX4_those_62 : decode cX4_those 62 = .ok (.iconst 0, 1) := by decide +kernel
theorem dX4_those_63 : decode cX4_those 63 = .ok (.ior, 1) := by decide +kernel
theorem dX4_those_64 : decode cX4_those 64 = .ok (.istore_n 3, 1) := by decide +kernel
theorem dX4_those_65 : decode cX4_those 65 = .ok (.iinc 4 1, 3) := by decide +kernel
theorem dX4_those_68 : decode cX4_those 68 = .ok (.goto (-36), 3) := by decide +kernel
theorem dX4_those_71 : decode cX4_those 71 = .ok (.iload_n 3, 1) := by decide +kernel
theorem dX4_those_72 : decode cX4_those 72 = .ok (.ireturn, 1) := by decide +kernel
theorem dX4_keeps_0 : decode cX4_keeps 0 = .ok (.aload_n 0, 1) := by decide +kernel
theorem dX4_keeps_1 : decode cX4_keeps 1 = .ok (.aload_n 0, 1) := by decide +kernel
theorem dX4_keeps_2 : decode cX4_keeps 2 = .ok (.getfield 107, 3) := by decide +kernel
theorem dX4_keeps_5 : decode cX4_keeps 5 = .ok (.putfield 126, 3) := by decide +kernel
theorem dX4_keeps_8 : decode cX4_keeps 8 = .ok (.aload_n 0, 1) := by decide +kernel
theorem dX4_keeps_9 : decode cX4_keeps 9 = .ok (.aload_n 0, 1) := by decide +kernel
theorem dX4_keeps_10 : decode cX4_keeps 10 = .ok (.getfield 101, 3) := by decide +kernel
theorem dX4_keeps_13 : decode cX4_keeps 13 = .ok (.putfield 129, 3) := by decide +kernel
theorem dX4_keeps_16 : decode cX4_keeps 16 = .ok (.iconst 0, 1) := by decide +kernel
theorem dX4_keeps_17 : decode cX4_keeps 17 = .ok (.istore_n 1, 1) := by decide +kernel
theorem dX4_keeps_18 : decode cX4_keeps 18 = .ok (.iload_n 1, 1) := by decide +kernel
theorem dX4_keeps_19 : decode cX4_keeps 19 = .ok (.aload_n 0, 1) := by decide +kernel
theorem dX4_keeps_20 : decode cX4_keeps 20 = .ok (.getfield 107, 3) := by decide +kernel
theorem dX4_keeps_23 : decode cX4_keeps 23 = .ok (.if_icmp .gt 21, 3) := by decide +kernel
theorem dX4_keeps_26 : decode cX4_keeps 26 = .ok (.aload_n 0, 1) := by decide +kernel
theorem dX4_keeps_27 : decode cX4_keeps 27 = .ok (.getfield 41, 3) := by decide +kernel
theorem dX4_keeps_30 : decode cX4_keeps 30 = .ok (.iload_n 1, 1) := by decide +kernel
theorem dX4_keeps_31 : decode cX4_keeps 31 = .ok (.aload_n 0, 1) := by decide +kernel
theorem dX4_keeps_32 : decode cX4_keeps 32 = .ok (.getfield 38, 3) := by decide +kernel
theorem dX4_keeps_35 : decode cX4_keeps 35 = .ok (.iload_n 1, 1) := by decide +kernel
theorem dX4_keeps_36 : decode cX4_keeps 36 = .ok (.iaload, 1) := by decide +kernel
theorem dX4_keeps_37 : decode cX4_keeps 37 = .ok (.iastore, 1) := by decide +kernel
theorem dX4_keeps_38 : decode cX4_keeps 38 = .ok (.iinc 1 1, 3) := by decide +kernel
theorem dX4_keeps_41 : decode cX4_keeps 41 = .ok (.goto (-23), 3) := by decide +kernel
theorem dX4_keeps_44 : decode cX4_keeps 44 = .ok (.return_, 1) := by decide +kernel
theorem dX4_isAsKept_0 : decode cX4_isAsKept 0 = .ok (.aload_n 0, 1) := by decide +kernel
theorem dX4_isAsKept_1 : decode cX4_isAsKept 1 = .ok (.getfield 107, 3) := by decide +kernel
theorem dX4_isAsKept_4 : decode cX4_isAsKept 4 = .ok (.aload_n 0, 1) := by decide +kernel
theorem dX4_isAsKept_5 : decode cX4_isAsKept 5 = .ok (.getfield 126, 3) := by decide +kernel
theorem dX4_isAsKept_8 : decode cX4_isAsKept 8 = .ok (.if_icmp .ne 18, 3) := by decide +kernel
theorem dX4_isAsKept_11 : decode cX4_isAsKept 11 = .ok (.aload_n 0, 1) := by decide +kernel
theorem dX4_isAsKept_12 : decode cX4_isAsKept 12 = .ok (.getfield 101, 3) := by decide +kernel
theorem dX4_isAsKept_15 : decode cX4_isAsKept 15 = .ok (.aload_n 0, 1) := by decide +kernel
theorem dX4_isAsKept_16 : decode cX4_isAsKept 16 = .ok (.getfield 129, 3) := by decide +kernel
theorem dX4_isAsKept_19 : decode cX4_isAsKept 19 = .ok (.if_icmp .ne 7, 3) := by decide +kernel
theorem dX4_isAsKept_22 : decode cX4_isAsKept 22 = .ok (.iconst 1, 1) := by decide +kernel
theorem dX4_isAsKept_23 : decode cX4_isAsKept 23 = .ok (.goto 4, 3) := by decide +kernel
theorem dX4_isAsKept_26 : decode cX4_isAsKept 26 = .ok (.iconst 0, 1) := by decide +kernel
theorem dX4_isAsKept_27 : decode cX4_isAsKept 27 = .ok (.istore_n 1, 1) := by decide +kernel
theorem dX4_isAsKept_28 : decode cX4_isAsKept 28 = .ok (.iconst 0, 1) := by decide +kernel
theorem dX4_isAsKept_29 : decode cX4_isAsKept 29 = .ok (.istore_n 2, 1) := by decide +kernel
theorem dX4_isAsKept_30 : decode cX4_isAsKept 30 = .ok (.iload_n 2, 1) := by decide +kernel
theorem dX4_isAsKept_31 : decode cX4_isAsKept 31 = .ok (.aload_n 0, 1) := by decide +kernel
theorem dX4_isAsKept_32 : decode cX4_isAsKept 32 = .ok (.getfield 107, 3) := by decide +kernel
theorem dX4_isAsKept_35 : decode cX4_isAsKept 35 = .ok (.if_icmp .gt 34, 3) := by decide +kernel
theorem dX4_isAsKept_38 : decode cX4_isAsKept 38 = .ok (.iload_n 1, 1) := by decide +kernel
theorem dX4_isAsKept_39 : decode cX4_isAsKept 39 = .ok (.ifCond .eq 30, 3) := by decide +kernel
theorem dX4_isAsKept_42 : decode cX4_isAsKept 42 = .ok (.aload_n 0, 1) := by decide +kernel
theorem dX4_isAsKept_43 : decode cX4_isAsKept 43 = .ok (.getfield 38, 3) := by decide +kernel
theorem dX4_isAsKept_46 : decode cX4_isAsKept 46 = .ok (.iload_n 2, 1) := by decide +kernel
theorem dX4_isAsKept_47 : decode cX4_isAsKept 47 = .ok (.iaload, 1) := by decide +kernel
theorem dX4_isAsKept_48 : decode cX4_isAsKept 48 = .ok (.aload_n 0, 1) := by decide +kernel
theorem dX4_isAsKept_49 : decode cX4_isAsKept 49 = .ok (.getfield 41, 3) := by decide +kernel
theorem dX4_isAsKept_52 : decode cX4_isAsKept 52 = .ok (.iload_n 2, 1) := by decide +kernel
theorem dX4_isAsKept_53 : decode cX4_isAsKept 53 = .ok (.iaload, 1) := by decide +kernel
theorem dX4_isAsKept_54 : decode cX4_isAsKept 54 = .ok (.if_icmp .ne 7, 3) := by decide +kernel
theorem dX4_isAsKept_57 : decode cX4_isAsKept 57 = .ok (.iconst 1, 1) := by decide +kernel
theorem dX4_isAsKept_58 : decode cX4_isAsKept 58 = .ok (.goto 4, 3) := by decide +kernel
theorem dX4_isAsKept_61 : decode cX4_isAsKept 61 = .ok (.iconst 0, 1) := by decide +kernel
theorem dX4_isAsKept_62 : decode cX4_isAsKept 62 = .ok (.istore_n 1, 1) := by decide +kernel
theorem dX4_isAsKept_63 : decode cX4_isAsKept 63 = .ok (.iinc 2 1, 3) := by decide +kernel
theorem dX4_isAsKept_66 : decode cX4_isAsKept 66 = .ok (.goto (-36), 3) := by decide +kernel
theorem dX4_isAsKept_69 : decode cX4_isAsKept 69 = .ok (.iload_n 1, 1) := by decide +kernel
theorem dX4_isAsKept_70 : decode cX4_isAsKept 70 = .ok (.ireturn, 1) := by decide +kernel
theorem dX4_isIdle_0 : decode cX4_isIdle 0 = .ok (.aload_n 0, 1) := by decide +kernel
theorem dX4_isIdle_1 : decode cX4_isIdle 1 = .ok (.getfield 26, 3) := by decide +kernel
theorem dX4_isIdle_4 : decode cX4_isIdle 4 = .ok (.iconst 5, 1) := by decide +kernel
theorem dX4_isIdle_5 : decode cX4_isIdle 5 = .ok (.iload_n 1, 1) := by decide +kernel
theorem dX4_isIdle_6 : decode cX4_isIdle 6 = .ok (.imul, 1) := by decide +kernel
theorem dX4_isIdle_7 : decode cX4_isIdle 7 = .ok (.iload_n 2, 1) := by decide +kernel
theorem dX4_isIdle_8 : decode cX4_isIdle 8 = .ok (.iadd, 1) := by decide +kernel
theorem dX4_isIdle_9 : decode cX4_isIdle 9 = .ok (.iaload, 1) := by decide +kernel
theorem dX4_isIdle_10 : decode cX4_isIdle 10 = .ok (.istore_n 3, 1) := by decide +kernel
theorem dX4_isIdle_11 : decode cX4_isIdle 11 = .ok (.iload_n 3, 1) := by decide +kernel
theorem dX4_isIdle_12 : decode cX4_isIdle 12 = .ok (.bipush (-9), 2) := by decide +kernel
theorem dX4_isIdle_14 : decode cX4_isIdle 14 = .ok (.if_icmp .eq 7, 3) := by decide +kernel
theorem dX4_isIdle_17 : decode cX4_isIdle 17 = .ok (.iconst 1, 1) := by decide +kernel
theorem dX4_isIdle_18 : decode cX4_isIdle 18 = .ok (.goto 4, 3) := by decide +kernel
theorem dX4_isIdle_21 : decode cX4_isIdle 21 = .ok (.iconst 0, 1) := by decide +kernel
theorem dX4_isIdle_22 : decode cX4_isIdle 22 = .ok (.istore 4, 2) := by decide +kernel
theorem dX4_isIdle_24 : decode cX4_isIdle 24 = .ok (.aload_n 0, 1) := by decide +kernel
theorem dX4_isIdle_25 : decode cX4_isIdle 25 = .ok (.iload_n 2, 1) := by decide +kernel
theorem dX4_isIdle_26 : decode cX4_isIdle 26 = .ok (.invokevirtual 116, 3) := by decide +kernel
theorem dX4_isIdle_29 : decode cX4_isIdle 29 = .ok (.iconst 0, 1) := by decide +kernel
theorem dX4_isIdle_30 : decode cX4_isIdle 30 = .ok (.istore 5, 2) := by decide +kernel
theorem dX4_isIdle_32 : decode cX4_isIdle 32 = .ok (.iload 5, 2) := by decide +kernel
theorem dX4_isIdle_34 : decode cX4_isIdle 34 = .ok (.bipush 10, 2) := by decide +kernel
theorem dX4_isIdle_36 : decode cX4_isIdle 36 = .ok (.if_icmp .ge 65, 3) := by decide +kernel
theorem dX4_isIdle_39 : decode cX4_isIdle 39 = .ok (.iload 4, 2) := by decide +kernel
theorem dX4_isIdle_41 : decode cX4_isIdle 41 = .ok (.ifCond .eq 60, 3) := by decide +kernel
theorem dX4_isIdle_44 : decode cX4_isIdle 44 = .ok (.aload_n 0, 1) := by decide +kernel
theorem dX4_isIdle_45 : decode cX4_isIdle 45 = .ok (.getfield 72, 3) := by decide +kernel
theorem dX4_isIdle_48 : decode cX4_isIdle 48 = .ok (.iload 5, 2) := by decide +kernel
theorem dX4_isIdle_50 : decode cX4_isIdle 50 = .ok (.invokestatic 75, 3) := by decide +kernel
theorem dX4_isIdle_53 : decode cX4_isIdle 53 = .ok (.ifCond .eq 42, 3) := by decide +kernel
theorem dX4_isIdle_56 : decode cX4_isIdle 56 = .ok (.aload_n 0, 1) := by decide +kernel
theorem dX4_isIdle_57 : decode cX4_isIdle 57 = .ok (.getfield 32, 3) := by decide +kernel
theorem dX4_isIdle_60 : decode cX4_isIdle 60 = .ok (.iload_n 1, 1) := by decide +kernel
theorem dX4_isIdle_61 : decode cX4_isIdle 61 = .ok (.iload_n 3, 1) := by decide +kernel
theorem dX4_isIdle_62 : decode cX4_isIdle 62 = .ok (.iastore, 1) := by decide +kernel
theorem dX4_isIdle_63 : decode cX4_isIdle 63 = .ok (.aload_n 0, 1) := by decide +kernel
theorem dX4_isIdle_64 : decode cX4_isIdle 64 = .ok (.iload 5, 2) := by decide +kernel
theorem dX4_isIdle_66 : decode cX4_isIdle 66 = .ok (.iload_n 2, 1) := by decide +kernel
theorem dX4_isIdle_67 : decode cX4_isIdle 67 = .ok (.invokevirtual 119, 3) := by decide +kernel
theorem dX4_isIdle_70 : decode cX4_isIdle 70 = .ok (.aload_n 0, 1) := by decide +kernel
theorem dX4_isIdle_71 : decode cX4_isIdle 71 = .ok (.invokevirtual 132, 3) := by decide +kernel
theorem dX4_isIdle_74 : decode cX4_isIdle 74 = .ok (.aload_n 0, 1) := by decide +kernel
theorem dX4_isIdle_75 : decode cX4_isIdle 75 = .ok (.getfield 32, 3) := by decide +kernel
theorem dX4_isIdle_78 : decode cX4_isIdle 78 = .ok (.iload_n 1, 1) := by decide +kernel
theorem dX4_isIdle_79 : decode cX4_isIdle 79 = .ok (.bipush (-9), 2) := by decide +kernel
theorem dX4_isIdle_81 : decode cX4_isIdle 81 = .ok (.iastore, 1) := by decide +kernel
theorem dX4_isIdle_82 : decode cX4_isIdle 82 = .ok (.aload_n 0, 1) := by decide +kernel
theorem dX4_isIdle_83 : decode cX4_isIdle 83 = .ok (.iload 5, 2) := by decide +kernel
theorem dX4_isIdle_85 : decode cX4_isIdle 85 = .ok (.iload_n 2, 1) := by decide +kernel
theorem dX4_isIdle_86 : decode cX4_isIdle 86 = .ok (.invokevirtual 119, 3) := by decide +kernel
theorem dX4_isIdle_89 : decode cX4_isIdle 89 = .ok (.aload_n 0, 1) := by decide +kernel
theorem dX4_isIdle_90 : decode cX4_isIdle 90 = .ok (.invokevirtual 135, 3) := by decide +kernel
theorem dX4_isIdle_93 : decode cX4_isIdle 93 = .ok (.istore 4, 2) := by decide +kernel
theorem dX4_isIdle_95 : decode cX4_isIdle 95 = .ok (.iinc 5 1, 3) := by decide +kernel
theorem dX4_isIdle_98 : decode cX4_isIdle 98 = .ok (.goto (-66), 3) := by decide +kernel
theorem dX4_isIdle_101 : decode cX4_isIdle 101 = .ok (.iload 4, 2) := by decide +kernel
theorem dX4_isIdle_103 : decode cX4_isIdle 103 = .ok (.ireturn, 1) := by decide +kernel
theorem dX4_idle_0 : decode cX4_idle 0 = .ok (.iload_n 1, 1) := by decide +kernel
theorem dX4_idle_1 : decode cX4_idle 1 = .ok (.invokestatic 62, 3) := by decide +kernel
theorem dX4_idle_4 : decode cX4_idle 4 = .ok (.ifCond .ne 5, 3) := by decide +kernel
theorem dX4_idle_7 : decode cX4_idle 7 = .ok (.iconst (-1), 1) := by decide +kernel
theorem dX4_idle_8 : decode cX4_idle 8 = .ok (.ireturn, 1) := by decide +kernel
theorem dX4_idle_9 : decode cX4_idle 9 = .ok (.iconst 0, 1) := by decide +kernel
theorem dX4_idle_10 : decode cX4_idle 10 = .ok (.istore_n 2, 1) := by decide +kernel
theorem dX4_idle_11 : decode cX4_idle 11 = .ok (.iconst 0, 1) := by decide +kernel
theorem dX4_idle_12 : decode cX4_idle 12 = .ok (.istore_n 3, 1) := by decide +kernel
theorem dX4_idle_13 : decode cX4_idle 13 = .ok (.iload_n 3, 1) := by decide +kernel
theorem dX4_idle_14 : decode cX4_idle 14 = .ok (.aload_n 0, 1) := by decide +kernel
theorem dX4_idle_15 : decode cX4_idle 15 = .ok (.getfield 55, 3) := by decide +kernel
theorem dX4_idle_18 : decode cX4_idle 18 = .ok (.if_icmp .ge 28, 3) := by decide +kernel
theorem dX4_idle_21 : decode cX4_idle 21 = .ok (.iload_n 2, 1) := by decide +kernel
theorem dX4_idle_22 : decode cX4_idle 22 = .ok (.aload_n 0, 1) := by decide +kernel
theorem dX4_idle_23 : decode cX4_idle 23 = .ok (.iload_n 1, 1) := by decide +kernel
theorem dX4_idle_24 : decode cX4_idle 24 = .ok (.iload_n 3, 1) := by decide +kernel
theorem dX4_idle_25 : decode cX4_idle 25 = .ok (.invokevirtual 139, 3) := by decide +kernel
theorem dX4_idle_28 : decode cX4_idle 28 = .ok (.ifCond .eq 9, 3) := by decide +kernel
theorem dX4_idle_31 : decode cX4_idle 31 = .ok (.iconst 1, 1) := by decide +kernel
theorem dX4_idle_32 : decode cX4_idle 32 = .ok (.iload_n 3, 1) := by decide +kernel
theorem dX4_idle_33 : decode cX4_idle 33 = .ok (.ishl, 1) := by decide +kernel
theorem dX4_idle_34 : decode cX4_idle 34 = .ok (.goto 4, 3) := by decide +kernel
theorem dX4_idle_37 : decode cX4_idle 37 = .ok (.iconst 0, 1) := by decide +kernel
theorem dX4_idle_38 : decode cX4_idle 38 = .ok (.ior, 1) := by decide +kernel
theorem dX4_idle_39 : decode cX4_idle 39 = .ok (.istore_n 2, 1) := by decide +kernel
theorem dX4_idle_40 : decode cX4_idle 40 = .ok (.iinc 3 1, 3) := by decide +kernel
theorem dX4_idle_43 : decode cX4_idle 43 = .ok (.goto (-30), 3) := by decide +kernel
theorem dX4_idle_46 : decode cX4_idle 46 = .ok (.iload_n 2, 1) := by decide +kernel
theorem dX4_idle_47 : decode cX4_idle 47 = .ok (.ireturn, 1) := by decide +kernel
theorem dX4_moreBy_0 : decode cX4_moreBy 0 = .ok (.aload_n 0, 1) := by decide +kernel
theorem dX4_moreBy_1 : decode cX4_moreBy 1 = .ok (.iload_n 2, 1) := by decide +kernel
theorem dX4_moreBy_2 : decode cX4_moreBy 2 = .ok (.invokevirtual 90, 3) := by decide +kernel
theorem dX4_moreBy_5 : decode cX4_moreBy 5 = .ok (.aload_n 0, 1) := by decide +kernel
theorem dX4_moreBy_6 : decode cX4_moreBy 6 = .ok (.iload_n 1, 1) := by decide +kernel
theorem dX4_moreBy_7 : decode cX4_moreBy 7 = .ok (.invokevirtual 94, 3) := by decide +kernel
theorem dX4_moreBy_10 : decode cX4_moreBy 10 = .ok (.istore_n 3, 1) := by decide +kernel
theorem dX4_moreBy_11 : decode cX4_moreBy 11 = .ok (.aload_n 0, 1) := by decide +kernel
theorem dX4_moreBy_12 : decode cX4_moreBy 12 = .ok (.getfield 26, 3) := by decide +kernel
theorem dX4_moreBy_15 : decode cX4_moreBy 15 = .ok (.iconst 5, 1) := by decide +kernel
theorem dX4_moreBy_16 : decode cX4_moreBy 16 = .ok (.iload_n 1, 1) := by decide +kernel
theorem dX4_moreBy_17 : decode cX4_moreBy 17 = .ok (.imul, 1) := by decide +kernel
theorem dX4_moreBy_18 : decode cX4_moreBy 18 = .ok (.iload_n 2, 1) := by decide +kernel
theorem dX4_moreBy_19 : decode cX4_moreBy 19 = .ok (.iadd, 1) := by decide +kernel
theorem dX4_moreBy_20 : decode cX4_moreBy 20 = .ok (.iaload, 1) := by decide +kernel
theorem dX4_moreBy_21 : decode cX4_moreBy 21 = .ok (.bipush (-9), 2) := by decide +kernel
theorem dX4_moreBy_23 : decode cX4_moreBy 23 = .ok (.if_icmp .ne 9, 3) := by decide +kernel
theorem dX4_moreBy_26 : decode cX4_moreBy 26 = .ok (.iload_n 3, 1) := by decide +kernel
theorem dX4_moreBy_27 : decode cX4_moreBy 27 = .ok (.bipush (-9), 2) := by decide +kernel
theorem dX4_moreBy_29 : decode cX4_moreBy 29 = .ok (.if_icmp .ne 6, 3) := by decide +kernel
theorem dX4_moreBy_32 : decode cX4_moreBy 32 = .ok (.bipush (-9), 2) := by decide +kernel
theorem dX4_moreBy_34 : decode cX4_moreBy 34 = .ok (.ireturn, 1) := by decide +kernel
theorem dX4_moreBy_35 : decode cX4_moreBy 35 = .ok (.aload_n 0, 1) := by decide +kernel
theorem dX4_moreBy_36 : decode cX4_moreBy 36 = .ok (.iload_n 2, 1) := by decide +kernel
theorem dX4_moreBy_37 : decode cX4_moreBy 37 = .ok (.invokevirtual 116, 3) := by decide +kernel
theorem dX4_moreBy_40 : decode cX4_moreBy 40 = .ok (.aload_n 0, 1) := by decide +kernel
theorem dX4_moreBy_41 : decode cX4_moreBy 41 = .ok (.iload_n 2, 1) := by decide +kernel
theorem dX4_moreBy_42 : decode cX4_moreBy 42 = .ok (.iconst 0, 1) := by decide +kernel
theorem dX4_moreBy_43 : decode cX4_moreBy 43 = .ok (.invokevirtual 123, 3) := by decide +kernel
theorem dX4_moreBy_46 : decode cX4_moreBy 46 = .ok (.istore 4, 2) := by decide +kernel
theorem dX4_moreBy_48 : decode cX4_moreBy 48 = .ok (.aload_n 0, 1) := by decide +kernel
theorem dX4_moreBy_49 : decode cX4_moreBy 49 = .ok (.getfield 32, 3) := by decide +kernel
theorem dX4_moreBy_52 : decode cX4_moreBy 52 = .ok (.iload_n 1, 1) := by decide +kernel
theorem dX4_moreBy_53 : decode cX4_moreBy 53 = .ok (.iload_n 3, 1) := by decide +kernel
theorem dX4_moreBy_54 : decode cX4_moreBy 54 = .ok (.iastore, 1) := by decide +kernel
theorem dX4_moreBy_55 : decode cX4_moreBy 55 = .ok (.aload_n 0, 1) := by decide +kernel
theorem dX4_moreBy_56 : decode cX4_moreBy 56 = .ok (.iload_n 2, 1) := by decide +kernel
theorem dX4_moreBy_57 : decode cX4_moreBy 57 = .ok (.iconst 0, 1) := by decide +kernel
theorem dX4_moreBy_58 : decode cX4_moreBy 58 = .ok (.invokevirtual 123, 3) := by decide +kernel
theorem dX4_moreBy_61 : decode cX4_moreBy 61 = .ok (.iload 4, 2) := by decide +kernel
theorem dX4_moreBy_63 : decode cX4_moreBy 63 = .ok (.isub, 1) := by decide +kernel
theorem dX4_moreBy_64 : decode cX4_moreBy 64 = .ok (.ireturn, 1) := by decide +kernel
theorem dX4_mend_0 : decode cX4_mend 0 = .ok (.iload_n 1, 1) := by decide +kernel
theorem dX4_mend_1 : decode cX4_mend 1 = .ok (.iconst 0, 1) := by decide +kernel
theorem dX4_mend_2 : decode cX4_mend 2 = .ok (.iconst 2, 1) := by decide +kernel
theorem dX4_mend_3 : decode cX4_mend 3 = .ok (.invokestatic 47, 3) := by decide +kernel
theorem dX4_mend_6 : decode cX4_mend 6 = .ok (.ifCond .ne 6, 3) := by decide +kernel
theorem dX4_mend_9 : decode cX4_mend 9 = .ok (.bipush (-2), 2) := by decide +kernel
theorem dX4_mend_11 : decode cX4_mend 11 = .ok (.ireturn, 1) := by decide +kernel
theorem dX4_mend_12 : decode cX4_mend 12 = .ok (.aload_n 0, 1) := by decide +kernel
theorem dX4_mend_13 : decode cX4_mend 13 = .ok (.iconst 0, 1) := by decide +kernel
theorem dX4_mend_14 : decode cX4_mend 14 = .ok (.invokevirtual 142, 3) := by decide +kernel
theorem dX4_mend_17 : decode cX4_mend 17 = .ok (.istore_n 2, 1) := by decide +kernel
theorem dX4_mend_18 : decode cX4_mend 18 = .ok (.iconst 0, 1) := by decide +kernel
theorem dX4_mend_19 : decode cX4_mend 19 = .ok (.istore_n 3, 1) := by decide +kernel
theorem dX4_mend_20 : decode cX4_mend 20 = .ok (.bipush (-9), 2) := by decide +kernel
theorem dX4_mend_22 : decode cX4_mend 22 = .ok (.istore 4, 2) := by decide +kernel
theorem dX4_mend_24 : decode cX4_mend 24 = .ok (.iconst 0, 1) := by decide +kernel
theorem dX4_mend_25 : decode cX4_mend 25 = .ok (.istore 5, 2) := by decide +kernel
theorem dX4_mend_27 : decode cX4_mend 27 = .ok (.iload 5, 2) := by decide +kernel
theorem dX4_mend_29 : decode cX4_mend 29 = .ok (.bipush 50, 2) := by decide +kernel
theorem dX4_mend_31 : decode cX4_mend 31 = .ok (.if_icmp .ge 52, 3) := by decide +kernel
theorem dX4_mend_34 : decode cX4_mend 34 = .ok (.iload 5, 2) := by decide +kernel
theorem dX4_mend_36 : decode cX4_mend 36 = .ok (.iconst 5, 1) := by decide +kernel
theorem dX4_mend_37 : decode cX4_mend 37 = .ok (.irem, 1) := by decide +kernel
theorem dX4_mend_38 : decode cX4_mend 38 = .ok (.aload_n 0, 1) := by decide +kernel
theorem dX4_mend_39 : decode cX4_mend 39 = .ok (.getfield 55, 3) := by decide +kernel
theorem dX4_mend_42 : decode cX4_mend 42 = .ok (.if_icmp .ge 18, 3) := by decide +kernel
theorem dX4_mend_45 : decode cX4_mend 45 = .ok (.aload_n 0, 1) := by decide +kernel
theorem dX4_mend_46 : decode cX4_mend 46 = .ok (.iload 5, 2) := by decide +kernel
theorem dX4_mend_48 : decode cX4_mend 48 = .ok (.iconst 5, 1) := by decide +kernel
theorem dX4_mend_49 : decode cX4_mend 49 = .ok (.idiv, 1) := by decide +kernel
theorem dX4_mend_50 : decode cX4_mend 50 = .ok (.iload 5, 2) := by decide +kernel
theorem dX4_mend_52 : decode cX4_mend 52 = .ok (.iconst 5, 1) := by decide +kernel
theorem dX4_mend_53 : decode cX4_mend 53 = .ok (.irem, 1) := by decide +kernel
theorem dX4_mend_54 : decode cX4_mend 54 = .ok (.invokevirtual 145, 3) := by decide +kernel
theorem dX4_mend_57 : decode cX4_mend 57 = .ok (.goto 5, 3) := by decide +kernel
theorem dX4_mend_60 : decode cX4_mend 60 = .ok (.bipush (-9), 2) := by decide +kernel
theorem dX4_mend_62 : decode cX4_mend 62 = .ok (.istore 6, 2) := by decide +kernel
theorem dX4_mend_64 : decode cX4_mend 64 = .ok (.iload 6, 2) := by decide +kernel
theorem dX4_mend_66 : decode cX4_mend 66 = .ok (.iload_n 3, 1) := by decide +kernel
theorem dX4_mend_67 : decode cX4_mend 67 = .ok (.if_icmp .le 10, 3) := by decide +kernel
theorem dX4_mend_70 : decode cX4_mend 70 = .ok (.iload 6, 2) := by decide +kernel
theorem dX4_mend_72 : decode cX4_mend 72 = .ok (.istore_n 3, 1) := by decide +kernel
theorem dX4_mend_73 : decode cX4_mend 73 = .ok (.iload 5, 2) := by decide +kernel
theorem dX4_mend_75 : decode cX4_mend 75 = .ok (.istore 4, 2) := by decide +kernel
theorem dX4_mend_77 : decode cX4_mend 77 = .ok (.iinc 5 1, 3) := by decide +kernel
theorem dX4_mend_80 : decode cX4_mend 80 = .ok (.goto (-53), 3) := by decide +kernel
theorem dX4_mend_83 : decode cX4_mend 83 = .ok (.iload 4, 2) := by decide +kernel
theorem dX4_mend_85 : decode cX4_mend 85 = .ok (.bipush (-9), 2) := by decide +kernel
theorem dX4_mend_87 : decode cX4_mend 87 = .ok (.if_icmp .ne 6, 3) := by decide +kernel
theorem dX4_mend_90 : decode cX4_mend 90 = .ok (.bipush (-9), 2) := by decide +kernel
theorem dX4_mend_92 : decode cX4_mend 92 = .ok (.ireturn, 1) := by decide +kernel
theorem dX4_mend_93 : decode cX4_mend 93 = .ok (.iload_n 1, 1) := by decide +kernel
theorem dX4_mend_94 : decode cX4_mend 94 = .ok (.ifCond .ne 10, 3) := by decide +kernel
theorem dX4_mend_97 : decode cX4_mend 97 = .ok (.iload 4, 2) := by decide +kernel
theorem dX4_mend_99 : decode cX4_mend 99 = .ok (.iconst 5, 1) := by decide +kernel
theorem dX4_mend_100 : decode cX4_mend 100 = .ok (.idiv, 1) := by decide +kernel
theorem dX4_mend_101 : decode cX4_mend 101 = .ok (.goto 18, 3) := by decide +kernel
theorem dX4_mend_104 : decode cX4_mend 104 = .ok (.iload_n 1, 1) := by decide +kernel
theorem dX4_mend_105 : decode cX4_mend 105 = .ok (.iconst 1, 1) := by decide +kernel
theorem dX4_mend_106 : decode cX4_mend 106 = .ok (.if_icmp .ne 10, 3) := by decide +kernel
theorem dX4_mend_109 : decode cX4_mend 109 = .ok (.iload 4, 2) := by decide +kernel
theorem dX4_mend_111 : decode cX4_mend 111 = .ok (.iconst 5, 1) := by decide +kernel
theorem dX4_mend_112 : decode cX4_mend 112 = .ok (.irem, 1) := by decide +kernel
theorem dX4_mend_113 : decode cX4_mend 113 = .ok (.goto 6, 3) := by decide +kernel
theorem dX4_mend_116 : decode cX4_mend 116 = .ok (.iload_n 2, 1) := by decide +kernel
theorem dX4_mend_117 : decode cX4_mend 117 = .ok (.iload_n 3, 1) := by decide +kernel
theorem dX4_mend_118 : decode cX4_mend 118 = .ok (.iadd, 1) := by decide +kernel
theorem dX4_mend_119 : decode cX4_mend 119 = .ok (.ireturn, 1) := by decide +kernel
theorem dX4_haveBest_0 : decode cX4_haveBest 0 = .ok (.aload_n 0, 1) := by decide +kernel
theorem dX4_haveBest_1 : decode cX4_haveBest 1 = .ok (.iload_n 1, 1) := by decide +kernel
theorem dX4_haveBest_2 : decode cX4_haveBest 2 = .ok (.invokevirtual 90, 3) := by decide +kernel
theorem dX4_haveBest_5 : decode cX4_haveBest 5 = .ok (.iconst 0, 1) := by decide +kernel
theorem dX4_haveBest_6 : decode cX4_haveBest 6 = .ok (.istore_n 2, 1) := by decide +kernel
theorem dX4_haveBest_7 : decode cX4_haveBest 7 = .ok (.iconst 0, 1) := by decide +kernel
theorem dX4_haveBest_8 : decode cX4_haveBest 8 = .ok (.istore_n 3, 1) := by decide +kernel
theorem dX4_haveBest_9 : decode cX4_haveBest 9 = .ok (.iload_n 3, 1) := by decide +kernel
theorem dX4_haveBest_10 : decode cX4_haveBest 10 = .ok (.bipush 10, 2) := by decide +kernel
theorem dX4_haveBest_12 : decode cX4_haveBest 12 = .ok (.if_icmp .ge 29, 3) := by decide +kernel
theorem dX4_haveBest_15 : decode cX4_haveBest 15 = .ok (.iload_n 2, 1) := by decide +kernel
theorem dX4_haveBest_16 : decode cX4_haveBest 16 = .ok (.aload_n 0, 1) := by decide +kernel
theorem dX4_haveBest_17 : decode cX4_haveBest 17 = .ok (.iload_n 3, 1) := by decide +kernel
theorem dX4_haveBest_18 : decode cX4_haveBest 18 = .ok (.invokevirtual 94, 3) := by decide +kernel
theorem dX4_haveBest_21 : decode cX4_haveBest 21 = .ok (.bipush (-9), 2) := by decide +kernel
theorem dX4_haveBest_23 : decode cX4_haveBest 23 = .ok (.if_icmp .eq 9, 3) := by decide +kernel
theorem dX4_haveBest_26 : decode cX4_haveBest 26 = .ok (.iconst 1, 1) := by decide +kernel
theorem dX4_haveBest_27 : decode cX4_haveBest 27 = .ok (.iload_n 3, 1) := by decide +kernel
theorem dX4_haveBest_28 : decode cX4_haveBest 28 = .ok (.ishl, 1) := by decide +kernel
theorem dX4_haveBest_29 : decode cX4_haveBest 29 = .ok (.goto 4, 3) := by decide +kernel
theorem dX4_haveBest_32 : decode cX4_haveBest 32 = .ok (.iconst 0, 1) := by decide +kernel
theorem dX4_haveBest_33 : decode cX4_haveBest 33 = .ok (.ior, 1) := by decide +kernel
theorem dX4_haveBest_34 : decode cX4_haveBest 34 = .ok (.istore_n 2, 1) := by decide +kernel
theorem dX4_haveBest_35 : decode cX4_haveBest 35 = .ok (.iinc 3 1, 3) := by decide +kernel
theorem dX4_haveBest_38 : decode cX4_haveBest 38 = .ok (.goto (-29), 3) := by decide +kernel
theorem dX4_haveBest_41 : decode cX4_haveBest 41 = .ok (.iload_n 2, 1) := by decide +kernel
theorem dX4_haveBest_42 : decode cX4_haveBest 42 = .ok (.ireturn, 1) := by decide +kernel
theorem dX4_doLead_0 : decode cX4_doLead 0 = .ok (.iconst 0, 1) := by decide +kernel
theorem dX4_doLead_1 : decode cX4_doLead 1 = .ok (.istore_n 3, 1) := by decide +kernel
theorem dX4_doLead_2 : decode cX4_doLead 2 = .ok (.iload_n 3, 1) := by decide +kernel
theorem dX4_doLead_3 : decode cX4_doLead 3 = .ok (.bipush 10, 2) := by decide +kernel
theorem dX4_doLead_5 : decode cX4_doLead 5 = .ok (.if_icmp .ge 33, 3) := by decide +kernel
theorem dX4_doLead_8 : decode cX4_doLead 8 = .ok (.aload_n 0, 1) := by decide +kernel
theorem dX4_doLead_9 : decode cX4_doLead 9 = .ok (.getfield 32, 3) := by decide +kernel
theorem dX4_doLead_12 : decode cX4_doLead 12 = .ok (.iload_n 3, 1) := by decide +kernel
theorem dX4_doLead_13 : decode cX4_doLead 13 = .ok (.iload_n 1, 1) := by decide +kernel
theorem dX4_doLead_14 : decode cX4_doLead 14 = .ok (.iload_n 3, 1) := by decide +kernel
theorem dX4_doLead_15 : decode cX4_doLead 15 = .ok (.invokestatic 75, 3) := by decide +kernel
theorem dX4_doLead_18 : decode cX4_doLead 18 = .ok (.ifCond .eq 11, 3) := by decide +kernel
theorem dX4_doLead_21 : decode cX4_doLead 21 = .ok (.aload_n 0, 1) := by decide +kernel
theorem dX4_doLead_22 : decode cX4_doLead 22 = .ok (.iload_n 3, 1) := by decide +kernel
theorem dX4_doLead_23 : decode cX4_doLead 23 = .ok (.invokevirtual 94, 3) := by decide +kernel
theorem dX4_doLead_26 : decode cX4_doLead 26 = .ok (.goto 5, 3) := by decide +kernel
theorem dX4_doLead_29 : decode cX4_doLead 29 = .ok (.bipush (-9), 2) := by decide +kernel
theorem dX4_doLead_31 : decode cX4_doLead 31 = .ok (.iastore, 1) := by decide +kernel
theorem dX4_doLead_32 : decode cX4_doLead 32 = .ok (.iinc 3 1, 3) := by decide +kernel
theorem dX4_doLead_35 : decode cX4_doLead 35 = .ok (.goto (-33), 3) := by decide +kernel
theorem dX4_doLead_38 : decode cX4_doLead 38 = .ok (.iconst 0, 1) := by decide +kernel
theorem dX4_doLead_39 : decode cX4_doLead 39 = .ok (.istore_n 3, 1) := by decide +kernel
theorem dX4_doLead_40 : decode cX4_doLead 40 = .ok (.iload_n 3, 1) := by decide +kernel
theorem dX4_doLead_41 : decode cX4_doLead 41 = .ok (.bipush 10, 2) := by decide +kernel
theorem dX4_doLead_43 : decode cX4_doLead 43 = .ok (.if_icmp .ge 53, 3) := by decide +kernel
theorem dX4_doLead_46 : decode cX4_doLead 46 = .ok (.aload_n 0, 1) := by decide +kernel
theorem dX4_doLead_47 : decode cX4_doLead 47 = .ok (.getfield 72, 3) := by decide +kernel
theorem dX4_doLead_50 : decode cX4_doLead 50 = .ok (.iload_n 3, 1) := by decide +kernel
theorem dX4_doLead_51 : decode cX4_doLead 51 = .ok (.invokestatic 75, 3) := by decide +kernel
theorem dX4_doLead_54 : decode cX4_doLead 54 = .ok (.ifCond .eq 36, 3) := by decide +kernel
theorem dX4_doLead_57 : decode cX4_doLead 57 = .ok (.aload_n 0, 1) := by decide +kernel
theorem dX4_doLead_58 : decode cX4_doLead 58 = .ok (.iload_n 3, 1) := by decide +kernel
theorem dX4_doLead_59 : decode cX4_doLead 59 = .ok (.iload_n 2, 1) := by decide +kernel
theorem dX4_doLead_60 : decode cX4_doLead 60 = .ok (.invokevirtual 119, 3) := by decide +kernel
theorem dX4_doLead_63 : decode cX4_doLead 63 = .ok (.aload_n 0, 1) := by decide +kernel
theorem dX4_doLead_64 : decode cX4_doLead 64 = .ok (.getfield 101, 3) := by decide +kernel
theorem dX4_doLead_67 : decode cX4_doLead 67 = .ok (.ifCond .ne 21, 3) := by decide +kernel
theorem dX4_doLead_70 : decode cX4_doLead 70 = .ok (.aload_n 0, 1) := by decide +kernel
theorem dX4_doLead_71 : decode cX4_doLead 71 = .ok (.getfield 110, 3) := by decide +kernel
theorem dX4_doLead_74 : decode cX4_doLead 74 = .ok (.aload_n 0, 1) := by decide +kernel
theorem dX4_doLead_75 : decode cX4_doLead 75 = .ok (.getfield 29, 3) := by decide +kernel
theorem dX4_doLead_78 : decode cX4_doLead 78 = .ok (.iload_n 3, 1) := by decide +kernel
theorem dX4_doLead_79 : decode cX4_doLead 79 = .ok (.iaload, 1) := by decide +kernel
theorem dX4_doLead_80 : decode cX4_doLead 80 = .ok (.aload_n 0, 1) := by decide +kernel
theorem dX4_doLead_81 : decode cX4_doLead 81 = .ok (.getfield 79, 3) := by decide +kernel
theorem dX4_doLead_84 : decode cX4_doLead 84 = .ok (.iadd, 1) := by decide +kernel
theorem dX4_doLead_85 : decode cX4_doLead 85 = .ok (.if_icmp .le 5, 3) := by decide +kernel
theorem dX4_doLead_88 : decode cX4_doLead 88 = .ok (.iconst 0, 1) := by decide +kernel
theorem dX4_doLead_89 : decode cX4_doLead 89 = .ok (.ireturn, 1) := by decide +kernel
theorem dX4_doLead_90 : decode cX4_doLead 90 = .ok (.iinc 3 1, 3) := by decide +kernel
theorem dX4_doLead_93 : decode cX4_doLead 93 = .ok (.goto (-53), 3) := by decide +kernel
theorem dX4_doLead_96 : decode cX4_doLead 96 = .ok (.iconst 1, 1) := by decide +kernel
theorem dX4_doLead_97 : decode cX4_doLead 97 = .ok (.ireturn, 1) := by decide +kernel
theorem dX4_leadsTo_0 : decode cX4_leadsTo 0 = .ok (.iload_n 1, 1) := by decide +kernel
theorem dX4_leadsTo_1 : decode cX4_leadsTo 1 = .ok (.aload_n 0, 1) := by decide +kernel
theorem dX4_leadsTo_2 : decode cX4_leadsTo 2 = .ok (.iload_n 2, 1) := by decide +kernel
theorem dX4_leadsTo_3 : decode cX4_leadsTo 3 = .ok (.invokevirtual 148, 3) := by decide +kernel
theorem dX4_leadsTo_6 : decode cX4_leadsTo 6 = .ok (.iconst (-1), 1) := by decide +kernel
theorem dX4_leadsTo_7 : decode cX4_leadsTo 7 = .ok (.ixor, 1) := by decide +kernel
theorem dX4_leadsTo_8 : decode cX4_leadsTo 8 = .ok (.iand, 1) := by decide +kernel
theorem dX4_leadsTo_9 : decode cX4_leadsTo 9 = .ok (.ifCond .ne 16, 3) := by decide +kernel
theorem dX4_leadsTo_12 : decode cX4_leadsTo 12 = .ok (.aload_n 0, 1) := by decide +kernel
theorem dX4_leadsTo_13 : decode cX4_leadsTo 13 = .ok (.iload_n 1, 1) := by decide +kernel
theorem dX4_leadsTo_14 : decode cX4_leadsTo 14 = .ok (.iload_n 2, 1) := by decide +kernel
theorem dX4_leadsTo_15 : decode cX4_leadsTo 15 = .ok (.invokevirtual 151, 3) := by decide +kernel
theorem dX4_leadsTo_18 : decode cX4_leadsTo 18 = .ok (.ifCond .eq 7, 3) := by decide +kernel
theorem dX4_leadsTo_21 : decode cX4_leadsTo 21 = .ok (.iconst 1, 1) := by decide +kernel
theorem dX4_leadsTo_22 : decode cX4_leadsTo 22 = .ok (.goto 4, 3) := by decide +kernel
theorem dX4_leadsTo_25 : decode cX4_leadsTo 25 = .ok (.iconst 0, 1) := by decide +kernel
theorem dX4_leadsTo_26 : decode cX4_leadsTo 26 = .ok (.ireturn, 1) := by decide +kernel
theorem dX4_leads_0 : decode cX4_leads 0 = .ok (.aload_n 0, 1) := by decide +kernel
theorem dX4_leads_1 : decode cX4_leads 1 = .ok (.iload_n 2, 1) := by decide +kernel
theorem dX4_leads_2 : decode cX4_leads 2 = .ok (.invokevirtual 69, 3) := by decide +kernel
theorem dX4_leads_5 : decode cX4_leads 5 = .ok (.ifCond .ne 5, 3) := by decide +kernel
theorem dX4_leads_8 : decode cX4_leads 8 = .ok (.iconst (-1), 1) := by decide +kernel
theorem dX4_leads_9 : decode cX4_leads 9 = .ok (.ireturn, 1) := by decide +kernel
theorem dX4_leads_10 : decode cX4_leads 10 = .ok (.iload_n 1, 1) := by decide +kernel
theorem dX4_leads_11 : decode cX4_leads 11 = .ok (.iconst 0, 1) := by decide +kernel
theorem dX4_leads_12 : decode cX4_leads 12 = .ok (.sipush 1023, 3) := by decide +kernel
theorem dX4_leads_15 : decode cX4_leads 15 = .ok (.invokestatic 47, 3) := by decide +kernel
theorem dX4_leads_18 : decode cX4_leads 18 = .ok (.ifCond .ne 6, 3) := by decide +kernel
theorem dX4_leads_21 : decode cX4_leads 21 = .ok (.bipush (-2), 2) := by decide +kernel
theorem dX4_leads_23 : decode cX4_leads 23 = .ok (.ireturn, 1) := by decide +kernel
theorem dX4_leads_24 : decode cX4_leads 24 = .ok (.aload_n 0, 1) := by decide +kernel
theorem dX4_leads_25 : decode cX4_leads 25 = .ok (.iload_n 1, 1) := by decide +kernel
theorem dX4_leads_26 : decode cX4_leads 26 = .ok (.iload_n 2, 1) := by decide +kernel
theorem dX4_leads_27 : decode cX4_leads 27 = .ok (.invokevirtual 154, 3) := by decide +kernel
theorem dX4_leads_30 : decode cX4_leads 30 = .ok (.ifCond .eq 7, 3) := by decide +kernel
theorem dX4_leads_33 : decode cX4_leads 33 = .ok (.iconst 1, 1) := by decide +kernel
theorem dX4_leads_34 : decode cX4_leads 34 = .ok (.goto 4, 3) := by decide +kernel
theorem dX4_leads_37 : decode cX4_leads 37 = .ok (.iconst 0, 1) := by decide +kernel
theorem dX4_leads_38 : decode cX4_leads 38 = .ok (.ireturn, 1) := by decide +kernel
theorem dX4_manyOf_0 : decode cX4_manyOf 0 = .ok (.iconst 0, 1) := by decide +kernel
theorem dX4_manyOf_1 : decode cX4_manyOf 1 = .ok (.istore_n 1, 1) := by decide +kernel
theorem dX4_manyOf_2 : decode cX4_manyOf 2 = .ok (.iload_n 0, 1) := by decide +kernel
theorem dX4_manyOf_3 : decode cX4_manyOf 3 = .ok (.istore_n 2, 1) := by decide +kernel
theorem dX4_manyOf_4 : decode cX4_manyOf 4 = .ok (.iload_n 2, 1) := by decide +kernel
theorem dX4_manyOf_5 : decode cX4_manyOf 5 = .ok (.ifCond .le 16, 3) := by decide +kernel
theorem dX4_manyOf_8 : decode cX4_manyOf 8 = .ok (.iload_n 1, 1) := by decide +kernel
theorem dX4_manyOf_9 : decode cX4_manyOf 9 = .ok (.iload_n 2, 1) := by decide +kernel
theorem dX4_manyOf_10 : decode cX4_manyOf 10 = .ok (.iconst 1, 1) := by decide +kernel
theorem dX4_manyOf_11 : decode cX4_manyOf 11 = .ok (.iand, 1) := by decide +kernel
theorem dX4_manyOf_12 : decode cX4_manyOf 12 = .ok (.iadd, 1) := by decide +kernel
theorem dX4_manyOf_13 : decode cX4_manyOf 13 = .ok (.istore_n 1, 1) := by decide +kernel
theorem dX4_manyOf_14 : decode cX4_manyOf 14 = .ok (.iload_n 2, 1) := by decide +kernel
theorem dX4_manyOf_15 : decode cX4_manyOf 15 = .ok (.iconst 1, 1) := by decide +kernel
theorem dX4_manyOf_16 : decode cX4_manyOf 16 = .ok (.ishr, 1) := by decide +kernel
theorem dX4_manyOf_17 : decode cX4_manyOf 17 = .ok (.istore_n 2, 1) := by decide +kernel
theorem dX4_manyOf_18 : decode cX4_manyOf 18 = .ok (.goto (-14), 3) := by decide +kernel
theorem dX4_manyOf_21 : decode cX4_manyOf 21 = .ok (.iload_n 1, 1) := by decide +kernel
theorem dX4_manyOf_22 : decode cX4_manyOf 22 = .ok (.ireturn, 1) := by decide +kernel
theorem dX4_fewest_0 : decode cX4_fewest 0 = .ok (.aload_n 0, 1) := by decide +kernel
theorem dX4_fewest_1 : decode cX4_fewest 1 = .ok (.iload_n 1, 1) := by decide +kernel
theorem dX4_fewest_2 : decode cX4_fewest 2 = .ok (.invokevirtual 69, 3) := by decide +kernel
theorem dX4_fewest_5 : decode cX4_fewest 5 = .ok (.ifCond .ne 5, 3) := by decide +kernel
theorem dX4_fewest_8 : decode cX4_fewest 8 = .ok (.iconst (-1), 1) := by decide +kernel
theorem dX4_fewest_9 : decode cX4_fewest 9 = .ok (.ireturn, 1) := by decide +kernel
theorem dX4_fewest_10 : decode cX4_fewest 10 = .ok (.aload_n 0, 1) := by decide +kernel
theorem dX4_fewest_11 : decode cX4_fewest 11 = .ok (.iload_n 1, 1) := by decide +kernel
theorem dX4_fewest_12 : decode cX4_fewest 12 = .ok (.invokevirtual 148, 3) := by decide +kernel
theorem dX4_fewest_15 : decode cX4_fewest 15 = .ok (.istore_n 2, 1) := by decide +kernel
theorem dX4_fewest_16 : decode cX4_fewest 16 = .ok (.bipush (-9), 2) := by decide +kernel
theorem dX4_fewest_18 : decode cX4_fewest 18 = .ok (.istore_n 3, 1) := by decide +kernel
theorem dX4_fewest_19 : decode cX4_fewest 19 = .ok (.iconst 0, 1) := by decide +kernel
theorem dX4_fewest_20 : decode cX4_fewest 20 = .ok (.istore 4, 2) := by decide +kernel
theorem dX4_fewest_22 : decode cX4_fewest 22 = .ok (.iload 4, 2) := by decide +kernel
theorem dX4_fewest_24 : decode cX4_fewest 24 = .ok (.sipush 1024, 3) := by decide +kernel
theorem dX4_fewest_27 : decode cX4_fewest 27 = .ok (.if_icmp .ge 65, 3) := by decide +kernel
theorem dX4_fewest_30 : decode cX4_fewest 30 = .ok (.iload 4, 2) := by decide +kernel
theorem dX4_fewest_32 : decode cX4_fewest 32 = .ok (.iload_n 2, 1) := by decide +kernel
theorem dX4_fewest_33 : decode cX4_fewest 33 = .ok (.iconst (-1), 1) := by decide +kernel
theorem dX4_fewest_34 : decode cX4_fewest 34 = .ok (.ixor, 1) := by decide +kernel
theorem dX4_fewest_35 : decode cX4_fewest 35 = .ok (.iand, 1) := by decide +kernel
theorem dX4_fewest_36 : decode cX4_fewest 36 = .ok (.ifCond .ne 25, 3) := by decide +kernel
theorem dX4_fewest_39 : decode cX4_fewest 39 = .ok (.iload_n 3, 1) := by decide +kernel
theorem dX4_fewest_40 : decode cX4_fewest 40 = .ok (.bipush (-9), 2) := by decide +kernel
theorem dX4_fewest_42 : decode cX4_fewest 42 = .ok (.if_icmp .eq 15, 3) := by decide +kernel
theorem dX4_fewest_45 : decode cX4_fewest 45 = .ok (.iload 4, 2) := by decide +kernel
theorem dX4_fewest_47 : decode cX4_fewest 47 = .ok (.invokestatic 157, 3) := by decide +kernel
theorem dX4_fewest_50 : decode cX4_fewest 50 = .ok (.iload_n 3, 1) := by decide +kernel
theorem dX4_fewest_51 : decode cX4_fewest 51 = .ok (.invokestatic 157, 3) := by decide +kernel
theorem dX4_fewest_54 : decode cX4_fewest 54 = .ok (.if_icmp .ge 7, 3) := by decide +kernel
theorem dX4_fewest_57 : decode cX4_fewest 57 = .ok (.iconst 1, 1) := by decide +kernel
theorem dX4_fewest_58 : decode cX4_fewest 58 = .ok (.goto 4, 3) := by decide +kernel
theorem dX4_fewest_61 : decode cX4_fewest 61 = .ok (.iconst 0, 1) := by decide +kernel
theorem dX4_fewest_62 : decode cX4_fewest 62 = .ok (.istore 5, 2) := by decide +kernel
theorem dX4_fewest_64 : decode cX4_fewest 64 = .ok (.iload 5, 2) := by decide +kernel
theorem dX4_fewest_66 : decode cX4_fewest 66 = .ok (.ifCond .eq 18, 3) := by decide +kernel
theorem dX4_fewest_69 : decode cX4_fewest 69 = .ok (.aload_n 0, 1) := by decide +kernel
theorem dX4_fewest_70 : decode cX4_fewest 70 = .ok (.iload 4, 2) := by decide +kernel
theorem dX4_fewest_72 : decode cX4_fewest 72 = .ok (.iload_n 1, 1) := by decide +kernel
theorem dX4_fewest_73 : decode cX4_fewest 73 = .ok (.invokevirtual 151, 3) := by decide +kernel
theorem dX4_fewest_76 : decode cX4_fewest 76 = .ok (.ifCond .eq 8, 3) := by decide +kernel
theorem dX4_fewest_79 : decode cX4_fewest 79 = .ok (.iload 4, 2) := by decide +kernel
theorem dX4_fewest_81 : decode cX4_fewest 81 = .ok (.goto 4, 3) := by decide +kernel
theorem dX4_fewest_84 : decode cX4_fewest 84 = .ok (.iload_n 3, 1) := by decide +kernel
theorem dX4_fewest_85 : decode cX4_fewest 85 = .ok (.istore_n 3, 1) := by decide +kernel
theorem dX4_fewest_86 : decode cX4_fewest 86 = .ok (.iinc 4 1, 3) := by decide +kernel
theorem dX4_fewest_89 : decode cX4_fewest 89 = .ok (.goto (-67), 3) := by decide +kernel
theorem dX4_fewest_92 : decode cX4_fewest 92 = .ok (.iload_n 3, 1) := by decide +kernel
theorem dX4_fewest_93 : decode cX4_fewest 93 = .ok (.ireturn, 1) := by decide +kernel
theorem dX4_posts_0 : decode cX4_posts 0 = .ok (.iconst 0, 1) := by decide +kernel
theorem dX4_posts_1 : decode cX4_posts 1 = .ok (.istore_n 1, 1) := by decide +kernel
theorem dX4_posts_2 : decode cX4_posts 2 = .ok (.iload_n 1, 1) := by decide +kernel
theorem dX4_posts_3 : decode cX4_posts 3 = .ok (.sipush 1024, 3) := by decide +kernel
theorem dX4_posts_6 : decode cX4_posts 6 = .ok (.if_icmp .ge 16, 3) := by decide +kernel
theorem dX4_posts_9 : decode cX4_posts 9 = .ok (.aload_n 0, 1) := by decide +kernel
theorem dX4_posts_10 : decode cX4_posts 10 = .ok (.getfield 44, 3) := by decide +kernel
theorem dX4_posts_13 : decode cX4_posts 13 = .ok (.iload_n 1, 1) := by decide +kernel
theorem dX4_posts_14 : decode cX4_posts 14 = .ok (.iconst 1, 1) := by decide +kernel
theorem dX4_posts_15 : decode cX4_posts 15 = .ok (.bastore, 1) := by decide +kernel
theorem dX4_posts_16 : decode cX4_posts 16 = .ok (.iinc 1 1, 3) := by decide +kernel
theorem dX4_posts_19 : decode cX4_posts 19 = .ok (.goto (-17), 3) := by decide +kernel
theorem dX4_posts_22 : decode cX4_posts 22 = .ok (.iconst 0, 1) := by decide +kernel
theorem dX4_posts_23 : decode cX4_posts 23 = .ok (.istore_n 1, 1) := by decide +kernel
theorem dX4_posts_24 : decode cX4_posts 24 = .ok (.iload_n 1, 1) := by decide +kernel
theorem dX4_posts_25 : decode cX4_posts 25 = .ok (.aload_n 0, 1) := by decide +kernel
theorem dX4_posts_26 : decode cX4_posts 26 = .ok (.getfield 55, 3) := by decide +kernel
theorem dX4_posts_29 : decode cX4_posts 29 = .ok (.if_icmp .ge 61, 3) := by decide +kernel
theorem dX4_posts_32 : decode cX4_posts 32 = .ok (.aload_n 0, 1) := by decide +kernel
theorem dX4_posts_33 : decode cX4_posts 33 = .ok (.iload_n 1, 1) := by decide +kernel
theorem dX4_posts_34 : decode cX4_posts 34 = .ok (.invokevirtual 148, 3) := by decide +kernel
theorem dX4_posts_37 : decode cX4_posts 37 = .ok (.istore_n 2, 1) := by decide +kernel
theorem dX4_posts_38 : decode cX4_posts 38 = .ok (.iconst 0, 1) := by decide +kernel
theorem dX4_posts_39 : decode cX4_posts 39 = .ok (.istore_n 3, 1) := by decide +kernel
theorem dX4_posts_40 : decode cX4_posts 40 = .ok (.iload_n 3, 1) := by decide +kernel
theorem dX4_posts_41 : decode cX4_posts 41 = .ok (.sipush 1024, 3) := by decide +kernel
theorem dX4_posts_44 : decode cX4_posts 44 = .ok (.if_icmp .ge 40, 3) := by decide +kernel
theorem dX4_posts_47 : decode cX4_posts 47 = .ok (.aload_n 0, 1) := by decide +kernel
theorem dX4_posts_48 : decode cX4_posts 48 = .ok (.getfield 44, 3) := by decide +kernel
theorem dX4_posts_51 : decode cX4_posts 51 = .ok (.iload_n 3, 1) := by decide +kernel
theorem dX4_posts_52 : decode cX4_posts 52 = .ok (.aload_n 0, 1) := by decide +kernel
theorem dX4_posts_53 : decode cX4_posts 53 = .ok (.getfield 44, 3) := by decide +kernel
theorem dX4_posts_56 : decode cX4_posts 56 = .ok (.iload_n 3, 1) := by decide +kernel
theorem dX4_posts_57 : decode cX4_posts 57 = .ok (.baload, 1) := by decide +kernel
theorem dX4_posts_58 : decode cX4_posts 58 = .ok (.ifCond .eq 18, 3) := by decide +kernel
theorem dX4_posts_61 : decode cX4_posts 61 = .ok (.aload_n 0, 1) := by decide +kernel
theorem dX4_posts_62 : decode cX4_posts 62 = .ok (.iload_n 3, 1) := by decide +kernel
theorem dX4_posts_63 : decode cX4_posts 63 = .ok (.iload_n 2, 1) := by decide +kernel
theorem dX4_posts_64 : decode cX4_posts 64 = .ok (.iand, 1) := by decide +kernel
theorem dX4_posts_65 : decode cX4_posts 65 = .ok (.iload_n 1, 1) := by decide +kernel
theorem dX4_posts_66 : decode cX4_posts 66 = .ok (.invokevirtual 151, 3) := by decide +kernel
theorem dX4_posts_69 : decode cX4_posts 69 = .ok (.ifCond .eq 7, 3) := by decide +kernel
theorem dX4_posts_72 : decode cX4_posts 72 = .ok (.iconst 1, 1) := by decide +kernel
theorem dX4_posts_73 : decode cX4_posts 73 = .ok (.goto 4, 3) := by decide +kernel
theorem dX4_posts_76 : decode cX4_posts 76 = .ok (.iconst 0, 1) := by decide +kernel
theorem dX4_posts_77 : decode cX4_posts 77 = .ok (.bastore, 1) := by decide +kernel
theorem dX4_posts_78 : decode cX4_posts 78 = .ok (.iinc 3 1, 3) := by decide +kernel
theorem dX4_posts_81 : decode cX4_posts 81 = .ok (.goto (-41), 3) := by decide +kernel
theorem dX4_posts_84 : decode cX4_posts 84 = .ok (.iinc 1 1, 3) := by decide +kernel
theorem dX4_posts_87 : decode cX4_posts 87 = .ok (.goto (-63), 3) := by decide +kernel
theorem dX4_posts_90 : decode cX4_posts 90 = .ok (.bipush (-9), 2) := by decide +kernel
theorem dX4_posts_92 : decode cX4_posts 92 = .ok (.istore_n 1, 1) := by decide +kernel
theorem dX4_posts_93 : decode cX4_posts 93 = .ok (.iconst 0, 1) := by decide +kernel
theorem dX4_posts_94 : decode cX4_posts 94 = .ok (.istore_n 2, 1) := by decide +kernel
theorem dX4_posts_95 : decode cX4_posts 95 = .ok (.iload_n 2, 1) := by decide +kernel
theorem dX4_posts_96 : decode cX4_posts 96 = .ok (.sipush 1024, 3) := by decide +kernel
theorem dX4_posts_99 : decode cX4_posts 99 = .ok (.if_icmp .ge 41, 3) := by decide +kernel
theorem dX4_posts_102 : decode cX4_posts 102 = .ok (.aload_n 0, 1) := by decide +kernel
theorem dX4_posts_103 : decode cX4_posts 103 = .ok (.getfield 44, 3) := by decide +kernel
theorem dX4_posts_106 : decode cX4_posts 106 = .ok (.iload_n 2, 1) := by decide +kernel
theorem dX4_posts_107 : decode cX4_posts 107 = .ok (.baload, 1) := by decide +kernel
theorem dX4_posts_108 : decode cX4_posts 108 = .ok (.ifCond .eq 24, 3) := by decide +kernel
theorem dX4_posts_111 : decode cX4_posts 111 = .ok (.iload_n 1, 1) := by decide +kernel
theorem dX4_posts_112 : decode cX4_posts 112 = .ok (.bipush (-9), 2) := by decide +kernel
theorem dX4_posts_114 : decode cX4_posts 114 = .ok (.if_icmp .eq 14, 3) := by decide +kernel
theorem dX4_posts_117 : decode cX4_posts 117 = .ok (.iload_n 2, 1) := by decide +kernel
theorem dX4_posts_118 : decode cX4_posts 118 = .ok (.invokestatic 157, 3) := by decide +kernel
theorem dX4_posts_121 : decode cX4_posts 121 = .ok (.iload_n 1, 1) := by decide +kernel
theorem dX4_posts_122 : decode cX4_posts 122 = .ok (.invokestatic 157, 3) := by decide +kernel
theorem dX4_posts_125 : decode cX4_posts 125 = .ok (.if_icmp .ge 7, 3) := by decide +kernel
theorem dX4_posts_128 : decode cX4_posts 128 = .ok (.iload_n 2, 1) := by decide +kernel
theorem dX4_posts_129 : decode cX4_posts 129 = .ok (.goto 4, 3) := by decide +kernel
theorem dX4_posts_132 : decode cX4_posts 132 = .ok (.iload_n 1, 1) := by decide +kernel
theorem dX4_posts_133 : decode cX4_posts 133 = .ok (.istore_n 1, 1) := by decide +kernel
theorem dX4_posts_134 : decode cX4_posts 134 = .ok (.iinc 2 1, 3) := by decide +kernel
theorem dX4_posts_137 : decode cX4_posts 137 = .ok (.goto (-42), 3) := by decide +kernel
theorem dX4_posts_140 : decode cX4_posts 140 = .ok (.iload_n 1, 1) := by decide +kernel
theorem dX4_posts_141 : decode cX4_posts 141 = .ok (.ireturn, 1) := by decide +kernel
theorem dX4_manyBoards_0 : decode cX4_manyBoards 0 = .ok (.iconst 0, 1) := by decide +kernel
theorem dX4_manyBoards_1 : decode cX4_manyBoards 1 = .ok (.istore_n 2, 1) := by decide +kernel
theorem dX4_manyBoards_2 : decode cX4_manyBoards 2 = .ok (.iconst 0, 1) := by decide +kernel
theorem dX4_manyBoards_3 : decode cX4_manyBoards 3 = .ok (.istore_n 3, 1) := by decide +kernel
theorem dX4_manyBoards_4 : decode cX4_manyBoards 4 = .ok (.iload_n 3, 1) := by decide +kernel
theorem dX4_manyBoards_5 : decode cX4_manyBoards 5 = .ok (.aload_n 0, 1) := by decide +kernel
theorem dX4_manyBoards_6 : decode cX4_manyBoards 6 = .ok (.getfield 55, 3) := by decide +kernel
theorem dX4_manyBoards_9 : decode cX4_manyBoards 9 = .ok (.if_icmp .ge 32, 3) := by decide +kernel
theorem dX4_manyBoards_12 : decode cX4_manyBoards 12 = .ok (.iload_n 2, 1) := by decide +kernel
theorem dX4_manyBoards_13 : decode cX4_manyBoards 13 = .ok (.aload_n 0, 1) := by decide +kernel
theorem dX4_manyBoards_14 : decode cX4_manyBoards 14 = .ok (.getfield 26, 3) := by decide +kernel
theorem dX4_manyBoards_17 : decode cX4_manyBoards 17 = .ok (.iconst 5, 1) := by decide +kernel
theorem dX4_manyBoards_18 : decode cX4_manyBoards 18 = .ok (.iload_n 1, 1) := by decide +kernel
theorem dX4_manyBoards_19 : decode cX4_manyBoards 19 = .ok (.imul, 1) := by decide +kernel
theorem dX4_manyBoards_20 : decode cX4_manyBoards 20 = .ok (.iload_n 3, 1) := by decide +kernel
theorem dX4_manyBoards_21 : decode cX4_manyBoards 21 = .ok (.iadd, 1) := by decide +kernel
theorem dX4_manyBoards_22 : decode cX4_manyBoards 22 = .ok (.iaload, 1) := by decide +kernel
theorem dX4_manyBoards_23 : decode cX4_manyBoards 23 = .ok (.bipush (-9), 2) := by decide +kernel
theorem dX4_manyBoards_25 : decode cX4_manyBoards 25 = .ok (.if_icmp .eq 7, 3) := by decide +kernel
theorem dX4_manyBoards_28 : decode cX4_manyBoards 28 = .ok (.iconst 1, 1) := by decide +kernel
theorem dX4_manyBoards_29 : decode cX4_manyBoards 29 = .ok (.goto 4, 3) := by decide +kernel
theorem dX4_manyBoards_32 : decode cX4_manyBoards 32 = .ok (.iconst 0, 1) := by decide +kernel
theorem dX4_manyBoards_33 : decode cX4_manyBoards 33 = .ok (.iadd, 1) := by decide +kernel
theorem dX4_manyBoards_34 : decode cX4_manyBoards 34 = .ok (.istore_n 2, 1) := by decide +kernel
theorem dX4_manyBoards_35 : decode cX4_manyBoards 35 = .ok (.iinc 3 1, 3) := by decide +kernel
theorem dX4_manyBoards_38 : decode cX4_manyBoards 38 = .ok (.goto (-34), 3) := by decide +kernel
theorem dX4_manyBoards_41 : decode cX4_manyBoards 41 = .ok (.iload_n 2, 1) := by decide +kernel
theorem dX4_manyBoards_42 : decode cX4_manyBoards 42 = .ok (.ireturn, 1) := by decide +kernel
theorem dX4_allBoards_0 : decode cX4_allBoards 0 = .ok (.iconst 0, 1) := by decide +kernel
theorem dX4_allBoards_1 : decode cX4_allBoards 1 = .ok (.istore_n 2, 1) := by decide +kernel
theorem dX4_allBoards_2 : decode cX4_allBoards 2 = .ok (.iconst 0, 1) := by decide +kernel
theorem dX4_allBoards_3 : decode cX4_allBoards 3 = .ok (.istore_n 3, 1) := by decide +kernel
theorem dX4_allBoards_4 : decode cX4_allBoards 4 = .ok (.iload_n 3, 1) := by decide +kernel
theorem dX4_allBoards_5 : decode cX4_allBoards 5 = .ok (.bipush 10, 2) := by decide +kernel
theorem dX4_allBoards_7 : decode cX4_allBoards 7 = .ok (.if_icmp .ge 35, 3) := by decide +kernel
theorem dX4_allBoards_10 : decode cX4_allBoards 10 = .ok (.aload_n 0, 1) := by decide +kernel
theorem dX4_allBoards_11 : decode cX4_allBoards 11 = .ok (.iload_n 3, 1) := by decide +kernel
theorem dX4_allBoards_12 : decode cX4_allBoards 12 = .ok (.invokevirtual 160, 3) := by decide +kernel
theorem dX4_allBoards_15 : decode cX4_allBoards 15 = .ok (.istore 4, 2) := by decide +kernel
theorem dX4_allBoards_17 : decode cX4_allBoards 17 = .ok (.iload_n 2, 1) := by decide +kernel
theorem dX4_allBoards_18 : decode cX4_allBoards 18 = .ok (.iload_n 1, 1) := by decide +kernel
theorem dX4_allBoards_19 : decode cX4_allBoards 19 = .ok (.ifCond .eq 13, 3) := by decide +kernel
theorem dX4_allBoards_22 : decode cX4_allBoards 22 = .ok (.iload 4, 2) := by decide +kernel
theorem dX4_allBoards_24 : decode cX4_allBoards 24 = .ok (.iconst 1, 1) := by decide +kernel
theorem dX4_allBoards_25 : decode cX4_allBoards 25 = .ok (.if_icmp .le 7, 3) := by decide +kernel
theorem dX4_allBoards_28 : decode cX4_allBoards 28 = .ok (.iconst 1, 1) := by decide +kernel
theorem dX4_allBoards_29 : decode cX4_allBoards 29 = .ok (.goto 5, 3) := by decide +kernel
theorem dX4_allBoards_32 : decode cX4_allBoards 32 = .ok (.iload 4, 2) := by decide +kernel
theorem dX4_allBoards_34 : decode cX4_allBoards 34 = .ok (.iadd, 1) := by decide +kernel
theorem dX4_allBoards_35 : decode cX4_allBoards 35 = .ok (.istore_n 2, 1) := by decide +kernel
theorem dX4_allBoards_36 : decode cX4_allBoards 36 = .ok (.iinc 3 1, 3) := by decide +kernel
theorem dX4_allBoards_39 : decode cX4_allBoards 39 = .ok (.goto (-35), 3) := by decide +kernel
theorem dX4_allBoards_42 : decode cX4_allBoards 42 = .ok (.iload_n 2, 1) := by decide +kernel
theorem dX4_allBoards_43 : decode cX4_allBoards 43 = .ok (.ireturn, 1) := by decide +kernel
theorem dX4_many_0 : decode cX4_many 0 = .ok (.iload_n 1, 1) := by decide +kernel
theorem dX4_many_1 : decode cX4_many 1 = .ok (.tableswitch 83 0 6 #[43, 48, 53, 58, 66, 72, 78], 43) := by decide +kernel
theorem dX4_many_44 : decode cX4_many 44 = .ok (.aload_n 0, 1) := by decide +kernel
theorem dX4_many_45 : decode cX4_many 45 = .ok (.getfield 51, 3) := by decide +kernel
theorem dX4_many_48 : decode cX4_many 48 = .ok (.ireturn, 1) := by decide +kernel
theorem dX4_many_49 : decode cX4_many 49 = .ok (.aload_n 0, 1) := by decide +kernel
theorem dX4_many_50 : decode cX4_many 50 = .ok (.invokevirtual 163, 3) := by decide +kernel
theorem dX4_many_53 : decode cX4_many 53 = .ok (.ireturn, 1) := by decide +kernel
theorem dX4_many_54 : decode cX4_many 54 = .ok (.aload_n 0, 1) := by decide +kernel
theorem dX4_many_55 : decode cX4_many 55 = .ok (.getfield 55, 3) := by decide +kernel
theorem dX4_many_58 : decode cX4_many 58 = .ok (.ireturn, 1) := by decide +kernel
theorem dX4_many_59 : decode cX4_many 59 = .ok (.aload_n 0, 1) := by decide +kernel
theorem dX4_many_60 : decode cX4_many 60 = .ok (.getfield 72, 3) := by decide +kernel
theorem dX4_many_63 : decode cX4_many 63 = .ok (.invokestatic 157, 3) := by decide +kernel
theorem dX4_many_66 : decode cX4_many 66 = .ok (.ireturn, 1) := by decide +kernel
theorem dX4_many_67 : decode cX4_many 67 = .ok (.aload_n 0, 1) := by decide +kernel
theorem dX4_many_68 : decode cX4_many 68 = .ok (.iconst 0, 1) := by decide +kernel
theorem dX4_many_69 : decode cX4_many 69 = .ok (.invokevirtual 167, 3) := by decide +kernel
theorem dX4_many_72 : decode cX4_many 72 = .ok (.ireturn, 1) := by decide +kernel
theorem dX4_many_73 : decode cX4_many 73 = .ok (.aload_n 0, 1) := by decide +kernel
theorem dX4_many_74 : decode cX4_many 74 = .ok (.iconst 1, 1) := by decide +kernel
theorem dX4_many_75 : decode cX4_many 75 = .ok (.invokevirtual 167, 3) := by decide +kernel
theorem dX4_many_78 : decode cX4_many 78 = .ok (.ireturn, 1) := by decide +kernel
theorem dX4_many_79 : decode cX4_many 79 = .ok (.aload_n 0, 1) := by decide +kernel
theorem dX4_many_80 : decode cX4_many 80 = .ok (.getfield 79, 3) := by decide +kernel
theorem dX4_many_83 : decode cX4_many 83 = .ok (.ireturn, 1) := by decide +kernel
theorem dX4_many_84 : decode cX4_many 84 = .ok (.bipush (-2), 2) := by decide +kernel
theorem dX4_many_86 : decode cX4_many 86 = .ok (.ireturn, 1) := by decide +kernel
theorem dX4_manyOpen_0 : decode cX4_manyOpen 0 = .ok (.iconst 0, 1) := by decide +kernel
theorem dX4_manyOpen_1 : decode cX4_manyOpen 1 = .ok (.istore_n 1, 1) := by decide +kernel
theorem dX4_manyOpen_2 : decode cX4_manyOpen 2 = .ok (.iconst 0, 1) := by decide +kernel
theorem dX4_manyOpen_3 : decode cX4_manyOpen 3 = .ok (.istore_n 2, 1) := by decide +kernel
theorem dX4_manyOpen_4 : decode cX4_manyOpen 4 = .ok (.iload_n 2, 1) := by decide +kernel
theorem dX4_manyOpen_5 : decode cX4_manyOpen 5 = .ok (.aload_n 0, 1) := by decide +kernel
theorem dX4_manyOpen_6 : decode cX4_manyOpen 6 = .ok (.getfield 51, 3) := by decide +kernel
theorem dX4_manyOpen_9 : decode cX4_manyOpen 9 = .ok (.if_icmp .ge 26, 3) := by decide +kernel
theorem dX4_manyOpen_12 : decode cX4_manyOpen 12 = .ok (.iload_n 1, 1) := by decide +kernel
theorem dX4_manyOpen_13 : decode cX4_manyOpen 13 = .ok (.aload_n 0, 1) := by decide +kernel
theorem dX4_manyOpen_14 : decode cX4_manyOpen 14 = .ok (.getfield 19, 3) := by decide +kernel
theorem dX4_manyOpen_17 : decode cX4_manyOpen 17 = .ok (.iload_n 2, 1) := by decide +kernel
theorem dX4_manyOpen_18 : decode cX4_manyOpen 18 = .ok (.baload, 1) := by decide +kernel
theorem dX4_manyOpen_19 : decode cX4_manyOpen 19 = .ok (.ifCond .eq 7, 3) := by decide +kernel
theorem dX4_manyOpen_22 : decode cX4_manyOpen 22 = .ok (.iconst 1, 1) := by decide +kernel
theorem dX4_manyOpen_23 : decode cX4_manyOpen 23 = .ok (.goto 4, 3) := by decide +kernel
theorem dX4_manyOpen_26 : decode cX4_manyOpen 26 = .ok (.iconst 0, 1) := by decide +kernel
theorem dX4_manyOpen_27 : decode cX4_manyOpen 27 = .ok (.iadd, 1) := by decide +kernel
theorem dX4_manyOpen_28 : decode cX4_manyOpen 28 = .ok (.istore_n 1, 1) := by decide +kernel
theorem dX4_manyOpen_29 : decode cX4_manyOpen 29 = .ok (.iinc 2 1, 3) := by decide +kernel
theorem dX4_manyOpen_32 : decode cX4_manyOpen 32 = .ok (.goto (-28), 3) := by decide +kernel
theorem dX4_manyOpen_35 : decode cX4_manyOpen 35 = .ok (.iload_n 1, 1) := by decide +kernel
theorem dX4_manyOpen_36 : decode cX4_manyOpen 36 = .ok (.ireturn, 1) := by decide +kernel
