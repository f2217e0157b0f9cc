theorem dX0_init_0 : decode cX0_init 0 = .ok (.aload_n 0, 1) := by decide +kernel
theorem dX0_init_1 : decode cX0_init 1 = .ok (.invokespecial 3, 3) := by decide +kernel
theorem dX0_init_4 : decode cX0_init 4 = .ok (.aload_n 0, 1) := by decide +kernel
theorem dX0_init_5 : decode cX0_init 5 = .ok (.bipush 14, 2) := by decide +kernel
theorem dX0_init_7 : decode cX0_init 7 = .ok (.newarray .int, 2) := by decide +kernel
theorem dX0_init_9 : decode cX0_init 9 = .ok (.putfield 9, 3) := by decide +kernel
theorem dX0_init_12 : decode cX0_init 12 = .ok (.aload_n 0, 1) := by decide +kernel
theorem dX0_init_13 : decode cX0_init 13 = .ok (.bipush 14, 2) := by decide +kernel
theorem dX0_init_15 : decode cX0_init 15 = .ok (.newarray .int, 2) := by decide +kernel
theorem dX0_init_17 : decode cX0_init 17 = .ok (.putfield 15, 3) := by decide +kernel
theorem dX0_init_20 : decode cX0_init 20 = .ok (.aload_n 0, 1) := by decide +kernel
theorem dX0_init_21 : decode cX0_init 21 = .ok (.bipush 14, 2) := by decide +kernel
theorem dX0_init_23 : decode cX0_init 23 = .ok (.newarray .int, 2) := by decide +kernel
theorem dX0_init_25 : decode cX0_init 25 = .ok (.putfield 18, 3) := by decide +kernel
theorem dX0_init_28 : decode cX0_init 28 = .ok (.aload_n 0, 1) := by decide +kernel
theorem dX0_init_29 : decode cX0_init 29 = .ok (.bipush 14, 2) := by decide +kernel
theorem dX0_init_31 : decode cX0_init 31 = .ok (.newarray .boolean, 2) := by decide +kernel
theorem dX0_init_33 : decode cX0_init 33 = .ok (.putfield 21, 3) := by decide +kernel
theorem dX0_init_36 : decode cX0_init 36 = .ok (.aload_n 0, 1) := by decide +kernel
theorem dX0_init_37 : decode cX0_init 37 = .ok (.bipush 10, 2) := by decide +kernel
theorem dX0_init_39 : decode cX0_init 39 = .ok (.newarray .int, 2) := by decide +kernel
theorem dX0_init_41 : decode cX0_init 41 = .ok (.putfield 25, 3) := by decide +kernel
theorem dX0_init_44 : decode cX0_init 44 = .ok (.aload_n 0, 1) := by decide +kernel
theorem dX0_init_45 : decode cX0_init 45 = .ok (.bipush 10, 2) := by decide +kernel
theorem dX0_init_47 : decode cX0_init 47 = .ok (.bipush 10, 2) := by decide +kernel
theorem dX0_init_49 : decode cX0_init 49 = .ok (.multianewarray 28 2, 4) := by decide +kernel
theorem dX0_init_53 : decode cX0_init 53 = .ok (.putfield 30, 3) := by decide +kernel
theorem dX0_init_56 : decode cX0_init 56 = .ok (.aload_n 0, 1) := by decide +kernel
theorem dX0_init_57 : decode cX0_init 57 = .ok (.iconst 0, 1) := by decide +kernel
theorem dX0_init_58 : decode cX0_init 58 = .ok (.putfield 33, 3) := by decide +kernel
theorem dX0_init_61 : decode cX0_init 61 = .ok (.return_, 1) := by decide +kernel
theorem dX0_has_0 : decode cX0_has 0 = .ok (.iload_n 1, 1) := by decide +kernel
theorem dX0_has_1 : decode cX0_has 1 = .ok (.ifCond .lt 15, 3) := by decide +kernel
theorem dX0_has_4 : decode cX0_has 4 = .ok (.iload_n 1, 1) := by decide +kernel
theorem dX0_has_5 : decode cX0_has 5 = .ok (.aload_n 0, 1) := by decide +kernel
theorem dX0_has_6 : decode cX0_has 6 = .ok (.getfield 33, 3) := by decide +kernel
theorem dX0_has_9 : decode cX0_has 9 = .ok (.if_icmp .ge 7, 3) := by decide +kernel
theorem dX0_has_12 : decode cX0_has 12 = .ok (.iconst 1, 1) := by decide +kernel
theorem dX0_has_13 : decode cX0_has 13 = .ok (.goto 4, 3) := by decide +kernel
theorem dX0_has_16 : decode cX0_has 16 = .ok (.iconst 0, 1) := by decide +kernel
theorem dX0_has_17 : decode cX0_has 17 = .ok (.ireturn, 1) := by decide +kernel
theorem dX0_joins_0 : decode cX0_joins 0 = .ok (.iload_n 1, 1) := by decide +kernel
theorem dX0_joins_1 : decode cX0_joins 1 = .ok (.iload_n 2, 1) := by decide +kernel
theorem dX0_joins_2 : decode cX0_joins 2 = .ok (.invokestatic 37, 3) := by decide +kernel
theorem dX0_joins_5 : decode cX0_joins 5 = .ok (.istore_n 3, 1) := by decide +kernel
theorem dX0_joins_6 : decode cX0_joins 6 = .ok (.iload_n 1, 1) := by decide +kernel
theorem dX0_joins_7 : decode cX0_joins 7 = .ok (.iload_n 2, 1) := by decide +kernel
theorem dX0_joins_8 : decode cX0_joins 8 = .ok (.invokestatic 43, 3) := by decide +kernel
theorem dX0_joins_11 : decode cX0_joins 11 = .ok (.istore 4, 2) := by decide +kernel
theorem dX0_joins_13 : decode cX0_joins 13 = .ok (.iconst 0, 1) := by decide +kernel
theorem dX0_joins_14 : decode cX0_joins 14 = .ok (.istore 5, 2) := by decide +kernel
theorem dX0_joins_16 : decode cX0_joins 16 = .ok (.iload 5, 2) := by decide +kernel
theorem dX0_joins_18 : decode cX0_joins 18 = .ok (.aload_n 0, 1) := by decide +kernel
theorem dX0_joins_19 : decode cX0_joins 19 = .ok (.getfield 33, 3) := by decide +kernel
theorem dX0_joins_22 : decode cX0_joins 22 = .ok (.if_icmp .ge 34, 3) := by decide +kernel
theorem dX0_joins_25 : decode cX0_joins 25 = .ok (.aload_n 0, 1) := by decide +kernel
theorem dX0_joins_26 : decode cX0_joins 26 = .ok (.getfield 9, 3) := by decide +kernel
theorem dX0_joins_29 : decode cX0_joins 29 = .ok (.iload 5, 2) := by decide +kernel
theorem dX0_joins_31 : decode cX0_joins 31 = .ok (.iaload, 1) := by decide +kernel
theorem dX0_joins_32 : decode cX0_joins 32 = .ok (.iload_n 3, 1) := by decide +kernel
theorem dX0_joins_33 : decode cX0_joins 33 = .ok (.if_icmp .ne 17, 3) := by decide +kernel
theorem dX0_joins_36 : decode cX0_joins 36 = .ok (.aload_n 0, 1) := by decide +kernel
theorem dX0_joins_37 : decode cX0_joins 37 = .ok (.getfield 15, 3) := by decide +kernel
theorem dX0_joins_40 : decode cX0_joins 40 = .ok (.iload 5, 2) := by decide +kernel
theorem dX0_joins_42 : decode cX0_joins 42 = .ok (.iaload, 1) := by decide +kernel
theorem dX0_joins_43 : decode cX0_joins 43 = .ok (.iload 4, 2) := by decide +kernel
theorem dX0_joins_45 : decode cX0_joins 45 = .ok (.if_icmp .ne 5, 3) := by decide +kernel
theorem dX0_joins_48 : decode cX0_joins 48 = .ok (.iconst 1, 1) := by decide +kernel
theorem dX0_joins_49 : decode cX0_joins 49 = .ok (.ireturn, 1) := by decide +kernel
theorem dX0_joins_50 : decode cX0_joins 50 = .ok (.iinc 5 1, 3) := by decide +kernel
theorem dX0_joins_53 : decode cX0_joins 53 = .ok (.goto (-37), 3) := by decide +kernel
theorem dX0_joins_56 : decode cX0_joins 56 = .ok (.iconst 0, 1) := by decide +kernel
theorem dX0_joins_57 : decode cX0_joins 57 = .ok (.ireturn, 1) := by decide +kernel
theorem dX0_add_0 : decode cX0_add 0 = .ok (.aload_n 0, 1) := by decide +kernel
theorem dX0_add_1 : decode cX0_add 1 = .ok (.getfield 33, 3) := by decide +kernel
theorem dX0_add_4 : decode cX0_add 4 = .ok (.istore 4, 2) := by decide +kernel
theorem dX0_add_6 : decode cX0_add 6 = .ok (.aload_n 0, 1) := by decide +kernel
theorem dX0_add_7 : decode cX0_add 7 = .ok (.dup, 1) := by decide +kernel
theorem dX0_add_8 : decode cX0_add 8 = .ok (.getfield 33, 3) := by decide +kernel
theorem dX0_add_11 : decode cX0_add 11 = .ok (.iconst 1, 1) := by decide +kernel
theorem dX0_add_12 : decode cX0_add 12 = .ok (.iadd, 1) := by decide +kernel
theorem dX0_add_13 : decode cX0_add 13 = .ok (.putfield 33, 3) := by decide +kernel
theorem dX0_add_16 : decode cX0_add 16 = .ok (.aload_n 0, 1) := by decide +kernel
theorem dX0_add_17 : decode cX0_add 17 = .ok (.getfield 9, 3) := by decide +kernel
theorem dX0_add_20 : decode cX0_add 20 = .ok (.iload 4, 2) := by decide +kernel
theorem dX0_add_22 : decode cX0_add 22 = .ok (.iload_n 1, 1) := by decide +kernel
theorem dX0_add_23 : decode cX0_add 23 = .ok (.iload_n 2, 1) := by decide +kernel
theorem dX0_add_24 : decode cX0_add 24 = .ok (.invokestatic 37, 3) := by decide +kernel
theorem dX0_add_27 : decode cX0_add 27 = .ok (.iastore, 1) := by decide +kernel
theorem dX0_add_28 : decode cX0_add 28 = .ok (.aload_n 0, 1) := by decide +kernel
theorem dX0_add_29 : decode cX0_add 29 = .ok (.getfield 15, 3) := by decide +kernel
theorem dX0_add_32 : decode cX0_add 32 = .ok (.iload 4, 2) := by decide +kernel
theorem dX0_add_34 : decode cX0_add 34 = .ok (.iload_n 1, 1) := by decide +kernel
theorem dX0_add_35 : decode cX0_add 35 = .ok (.iload_n 2, 1) := by decide +kernel
theorem dX0_add_36 : decode cX0_add 36 = .ok (.invokestatic 43, 3) := by decide +kernel
theorem dX0_add_39 : decode cX0_add 39 = .ok (.iastore, 1) := by decide +kernel
theorem dX0_add_40 : decode cX0_add 40 = .ok (.aload_n 0, 1) := by decide +kernel
theorem dX0_add_41 : decode cX0_add 41 = .ok (.getfield 18, 3) := by decide +kernel
theorem dX0_add_44 : decode cX0_add 44 = .ok (.iload 4, 2) := by decide +kernel
theorem dX0_add_46 : decode cX0_add 46 = .ok (.iload_n 3, 1) := by decide +kernel
theorem dX0_add_47 : decode cX0_add 47 = .ok (.iastore, 1) := by decide +kernel
theorem dX0_add_48 : decode cX0_add 48 = .ok (.aload_n 0, 1) := by decide +kernel
theorem dX0_add_49 : decode cX0_add 49 = .ok (.getfield 21, 3) := by decide +kernel
theorem dX0_add_52 : decode cX0_add 52 = .ok (.iload 4, 2) := by decide +kernel
theorem dX0_add_54 : decode cX0_add 54 = .ok (.iconst 0, 1) := by decide +kernel
theorem dX0_add_55 : decode cX0_add 55 = .ok (.bastore, 1) := by decide +kernel
theorem dX0_add_56 : decode cX0_add 56 = .ok (.aload_n 0, 1) := by decide +kernel
theorem dX0_add_57 : decode cX0_add 57 = .ok (.iload 4, 2) := by decide +kernel
theorem dX0_add_59 : decode cX0_add 59 = .ok (.iconst 1, 1) := by decide +kernel
theorem dX0_add_60 : decode cX0_add 60 = .ok (.invokevirtual 46, 3) := by decide +kernel
theorem dX0_add_63 : decode cX0_add 63 = .ok (.pop, 1) := by decide +kernel
theorem dX0_add_64 : decode cX0_add 64 = .ok (.iload 4, 2) := by decide +kernel
theorem dX0_add_66 : decode cX0_add 66 = .ok (.ireturn, 1) := by decide +kernel
theorem dX0_removeLast_0 : decode cX0_removeLast 0 = .ok (.aload_n 0, 1) := by decide +kernel
theorem dX0_removeLast_1 : decode cX0_removeLast 1 = .ok (.aload_n 0, 1) := by decide +kernel
theorem dX0_removeLast_2 : decode cX0_removeLast 2 = .ok (.getfield 33, 3) := by decide +kernel
theorem dX0_removeLast_5 : decode cX0_removeLast 5 = .ok (.iconst 1, 1) := by decide +kernel
theorem dX0_removeLast_6 : decode cX0_removeLast 6 = .ok (.isub, 1) := by decide +kernel
theorem dX0_removeLast_7 : decode cX0_removeLast 7 = .ok (.iconst 0, 1) := by decide +kernel
theorem dX0_removeLast_8 : decode cX0_removeLast 8 = .ok (.invokevirtual 46, 3) := by decide +kernel
theorem dX0_removeLast_11 : decode cX0_removeLast 11 = .ok (.pop, 1) := by decide +kernel
theorem dX0_removeLast_12 : decode cX0_removeLast 12 = .ok (.aload_n 0, 1) := by decide +kernel
theorem dX0_removeLast_13 : decode cX0_removeLast 13 = .ok (.dup, 1) := by decide +kernel
theorem dX0_removeLast_14 : decode cX0_removeLast 14 = .ok (.getfield 33, 3) := by decide +kernel
theorem dX0_removeLast_17 : decode cX0_removeLast 17 = .ok (.iconst 1, 1) := by decide +kernel
theorem dX0_removeLast_18 : decode cX0_removeLast 18 = .ok (.isub, 1) := by decide +kernel
theorem dX0_removeLast_19 : decode cX0_removeLast 19 = .ok (.putfield 33, 3) := by decide +kernel
theorem dX0_removeLast_22 : decode cX0_removeLast 22 = .ok (.aload_n 0, 1) := by decide +kernel
theorem dX0_removeLast_23 : decode cX0_removeLast 23 = .ok (.getfield 33, 3) := by decide +kernel
theorem dX0_removeLast_26 : decode cX0_removeLast 26 = .ok (.ireturn, 1) := by decide +kernel
theorem dX0_turn_0 : decode cX0_turn 0 = .ok (.aload_n 0, 1) := by decide +kernel
theorem dX0_turn_1 : decode cX0_turn 1 = .ok (.getfield 21, 3) := by decide +kernel
theorem dX0_turn_4 : decode cX0_turn 4 = .ok (.iload_n 1, 1) := by decide +kernel
theorem dX0_turn_5 : decode cX0_turn 5 = .ok (.baload, 1) := by decide +kernel
theorem dX0_turn_6 : decode cX0_turn 6 = .ok (.iload_n 2, 1) := by decide +kernel
theorem dX0_turn_7 : decode cX0_turn 7 = .ok (.if_icmp .ne 5, 3) := by decide +kernel
theorem dX0_turn_10 : decode cX0_turn 10 = .ok (.iconst 0, 1) := by decide +kernel
theorem dX0_turn_11 : decode cX0_turn 11 = .ok (.ireturn, 1) := by decide +kernel
theorem dX0_turn_12 : decode cX0_turn 12 = .ok (.aload_n 0, 1) := by decide +kernel
theorem dX0_turn_13 : decode cX0_turn 13 = .ok (.getfield 21, 3) := by decide +kernel
theorem dX0_turn_16 : decode cX0_turn 16 = .ok (.iload_n 1, 1) := by decide +kernel
theorem dX0_turn_17 : decode cX0_turn 17 = .ok (.iload_n 2, 1) := by decide +kernel
theorem dX0_turn_18 : decode cX0_turn 18 = .ok (.bastore, 1) := by decide +kernel
theorem dX0_turn_19 : decode cX0_turn 19 = .ok (.aload_n 0, 1) := by decide +kernel
theorem dX0_turn_20 : decode cX0_turn 20 = .ok (.getfield 9, 3) := by decide +kernel
theorem dX0_turn_23 : decode cX0_turn 23 = .ok (.iload_n 1, 1) := by decide +kernel
theorem dX0_turn_24 : decode cX0_turn 24 = .ok (.iaload, 1) := by decide +kernel
theorem dX0_turn_25 : decode cX0_turn 25 = .ok (.istore_n 3, 1) := by decide +kernel
theorem dX0_turn_26 : decode cX0_turn 26 = .ok (.aload_n 0, 1) := by decide +kernel
theorem dX0_turn_27 : decode cX0_turn 27 = .ok (.getfield 15, 3) := by decide +kernel
theorem dX0_turn_30 : decode cX0_turn 30 = .ok (.iload_n 1, 1) := by decide +kernel
theorem dX0_turn_31 : decode cX0_turn 31 = .ok (.iaload, 1) := by decide +kernel
theorem dX0_turn_32 : decode cX0_turn 32 = .ok (.istore 4, 2) := by decide +kernel
theorem dX0_turn_34 : decode cX0_turn 34 = .ok (.aload_n 0, 1) := by decide +kernel
theorem dX0_turn_35 : decode cX0_turn 35 = .ok (.getfield 25, 3) := by decide +kernel
theorem dX0_turn_38 : decode cX0_turn 38 = .ok (.iload_n 3, 1) := by decide +kernel
theorem dX0_turn_39 : decode cX0_turn 39 = .ok (.dup2, 1) := by decide +kernel
theorem dX0_turn_40 : decode cX0_turn 40 = .ok (.iaload, 1) := by decide +kernel
theorem dX0_turn_41 : decode cX0_turn 41 = .ok (.iconst 1, 1) := by decide +kernel
theorem dX0_turn_42 : decode cX0_turn 42 = .ok (.iload 4, 2) := by decide +kernel
theorem dX0_turn_44 : decode cX0_turn 44 = .ok (.ishl, 1) := by decide +kernel
theorem dX0_turn_45 : decode cX0_turn 45 = .ok (.ixor, 1) := by decide +kernel
theorem dX0_turn_46 : decode cX0_turn 46 = .ok (.iastore, 1) := by decide +kernel
theorem dX0_turn_47 : decode cX0_turn 47 = .ok (.aload_n 0, 1) := by decide +kernel
theorem dX0_turn_48 : decode cX0_turn 48 = .ok (.getfield 25, 3) := by decide +kernel
theorem dX0_turn_51 : decode cX0_turn 51 = .ok (.iload 4, 2) := by decide +kernel
theorem dX0_turn_53 : decode cX0_turn 53 = .ok (.dup2, 1) := by decide +kernel
theorem dX0_turn_54 : decode cX0_turn 54 = .ok (.iaload, 1) := by decide +kernel
theorem dX0_turn_55 : decode cX0_turn 55 = .ok (.iconst 1, 1) := by decide +kernel
theorem dX0_turn_56 : decode cX0_turn 56 = .ok (.iload_n 3, 1) := by decide +kernel
theorem dX0_turn_57 : decode cX0_turn 57 = .ok (.ishl, 1) := by decide +kernel
theorem dX0_turn_58 : decode cX0_turn 58 = .ok (.ixor, 1) := by decide +kernel
theorem dX0_turn_59 : decode cX0_turn 59 = .ok (.iastore, 1) := by decide +kernel
theorem dX0_turn_60 : decode cX0_turn 60 = .ok (.aload_n 0, 1) := by decide +kernel
theorem dX0_turn_61 : decode cX0_turn 61 = .ok (.getfield 30, 3) := by decide +kernel
theorem dX0_turn_64 : decode cX0_turn 64 = .ok (.iload_n 3, 1) := by decide +kernel
theorem dX0_turn_65 : decode cX0_turn 65 = .ok (.aaload, 1) := by decide +kernel
theorem dX0_turn_66 : decode cX0_turn 66 = .ok (.iload 4, 2) := by decide +kernel
theorem dX0_turn_68 : decode cX0_turn 68 = .ok (.iload_n 2, 1) := by decide +kernel
theorem dX0_turn_69 : decode cX0_turn 69 = .ok (.ifCond .eq 12, 3) := by decide +kernel
theorem dX0_turn_72 : decode cX0_turn 72 = .ok (.aload_n 0, 1) := by decide +kernel
theorem dX0_turn_73 : decode cX0_turn 73 = .ok (.getfield 18, 3) := by decide +kernel
theorem dX0_turn_76 : decode cX0_turn 76 = .ok (.iload_n 1, 1) := by decide +kernel
theorem dX0_turn_77 : decode cX0_turn 77 = .ok (.iaload, 1) := by decide +kernel
theorem dX0_turn_78 : decode cX0_turn 78 = .ok (.goto 4, 3) := by decide +kernel
theorem dX0_turn_81 : decode cX0_turn 81 = .ok (.iconst 0, 1) := by decide +kernel
theorem dX0_turn_82 : decode cX0_turn 82 = .ok (.iastore, 1) := by decide +kernel
theorem dX0_turn_83 : decode cX0_turn 83 = .ok (.aload_n 0, 1) := by decide +kernel
theorem dX0_turn_84 : decode cX0_turn 84 = .ok (.getfield 30, 3) := by decide +kernel
theorem dX0_turn_87 : decode cX0_turn 87 = .ok (.iload 4, 2) := by decide +kernel
theorem dX0_turn_89 : decode cX0_turn 89 = .ok (.aaload, 1) := by decide +kernel
theorem dX0_turn_90 : decode cX0_turn 90 = .ok (.iload_n 3, 1) := by decide +kernel
theorem dX0_turn_91 : decode cX0_turn 91 = .ok (.aload_n 0, 1) := by decide +kernel
theorem dX0_turn_92 : decode cX0_turn 92 = .ok (.getfield 30, 3) := by decide +kernel
theorem dX0_turn_95 : decode cX0_turn 95 = .ok (.iload_n 3, 1) := by decide +kernel
theorem dX0_turn_96 : decode cX0_turn 96 = .ok (.aaload, 1) := by decide +kernel
theorem dX0_turn_97 : decode cX0_turn 97 = .ok (.iload 4, 2) := by decide +kernel
theorem dX0_turn_99 : decode cX0_turn 99 = .ok (.iaload, 1) := by decide +kernel
theorem dX0_turn_100 : decode cX0_turn 100 = .ok (.iastore, 1) := by decide +kernel
theorem dX0_turn_101 : decode cX0_turn 101 = .ok (.iconst 1, 1) := by decide +kernel
theorem dX0_turn_102 : decode cX0_turn 102 = .ok (.ireturn, 1) := by decide +kernel
theorem dX0_countOpen_0 : decode cX0_countOpen 0 = .ok (.iconst 0, 1) := by decide +kernel
theorem dX0_countOpen_1 : decode cX0_countOpen 1 = .ok (.istore_n 1, 1) := by decide +kernel
theorem dX0_countOpen_2 : decode cX0_countOpen 2 = .ok (.iconst 0, 1) := by decide +kernel
theorem dX0_countOpen_3 : decode cX0_countOpen 3 = .ok (.istore_n 2, 1) := by decide +kernel
theorem dX0_countOpen_4 : decode cX0_countOpen 4 = .ok (.iload_n 2, 1) := by decide +kernel
theorem dX0_countOpen_5 : decode cX0_countOpen 5 = .ok (.aload_n 0, 1) := by decide +kernel
theorem dX0_countOpen_6 : decode cX0_countOpen 6 = .ok (.getfield 33, 3) := by decide +kernel
theorem dX0_countOpen_9 : decode cX0_countOpen 9 = .ok (.if_icmp .ge 21, 3) := by decide +kernel
theorem dX0_countOpen_12 : decode cX0_countOpen 12 = .ok (.aload_n 0, 1) := by decide +kernel
theorem dX0_countOpen_13 : decode cX0_countOpen 13 = .ok (.getfield 21, 3) := by decide +kernel
theorem dX0_countOpen_16 : decode cX0_countOpen 16 = .ok (.iload_n 2, 1) := by decide +kernel
theorem dX0_countOpen_17 : decode cX0_countOpen 17 = .ok (.baload, 1) := by decide +kernel
theorem dX0_countOpen_18 : decode cX0_countOpen 18 = .ok (.ifCond .eq 6, 3) := by decide +kernel
theorem dX0_countOpen_21 : decode cX0_countOpen 21 = .ok (.iinc 1 1, 3) := by decide +kernel
theorem dX0_countOpen_24 : decode cX0_countOpen 24 = .ok (.iinc 2 1, 3) := by decide +kernel
theorem dX0_countOpen_27 : decode cX0_countOpen 27 = .ok (.goto (-23), 3) := by decide +kernel
theorem dX0_countOpen_30 : decode cX0_countOpen 30 = .ok (.iload_n 1, 1) := by decide +kernel
theorem dX0_countOpen_31 : decode cX0_countOpen 31 = .ok (.ireturn, 1) := by decide +kernel
theorem dX1_init_0 : decode cX1_init 0 = .ok (.aload_n 0, 1) := by decide +kernel
theorem dX1_init_1 : decode cX1_init 1 = .ok (.invokespecial 3, 3) := by decide +kernel
theorem dX1_init_4 : decode cX1_init 4 = .ok (.aload_n 0, 1) := by decide +kernel
theorem dX1_init_5 : decode cX1_init 5 = .ok (.bipush 30, 2) := by decide +kernel
theorem dX1_init_7 : decode cX1_init 7 = .ok (.newarray .int, 2) := by decide +kernel
theorem dX1_init_9 : decode cX1_init 9 = .ok (.putfield 9, 3) := by decide +kernel
theorem dX1_init_12 : decode cX1_init 12 = .ok (.aload_n 0, 1) := by decide +kernel
theorem dX1_init_13 : decode cX1_init 13 = .ok (.bipush 10, 2) := by decide +kernel
theorem dX1_init_15 : decode cX1_init 15 = .ok (.newarray .int, 2) := by decide +kernel
theorem dX1_init_17 : decode cX1_init 17 = .ok (.putfield 15, 3) := by decide +kernel
theorem dX1_init_20 : decode cX1_init 20 = .ok (.aload_n 0, 1) := by decide +kernel
theorem dX1_init_21 : decode cX1_init 21 = .ok (.iconst 0, 1) := by decide +kernel
theorem dX1_init_22 : decode cX1_init 22 = .ok (.putfield 18, 3) := by decide +kernel
theorem dX1_init_25 : decode cX1_init 25 = .ok (.aload_n 0, 1) := by decide +kernel
theorem dX1_init_26 : decode cX1_init 26 = .ok (.iconst 0, 1) := by decide +kernel
theorem dX1_init_27 : decode cX1_init 27 = .ok (.putfield 22, 3) := by decide +kernel
theorem dX1_init_30 : decode cX1_init 30 = .ok (.aload_n 0, 1) := by decide +kernel
theorem dX1_init_31 : decode cX1_init 31 = .ok (.iconst 0, 1) := by decide +kernel
theorem dX1_init_32 : decode cX1_init 32 = .ok (.putfield 25, 3) := by decide +kernel
theorem dX1_init_35 : decode cX1_init 35 = .ok (.return_, 1) := by decide +kernel
theorem dX1_go_0 : decode cX1_go 0 = .ok (.aload_n 0, 1) := by decide +kernel
theorem dX1_go_1 : decode cX1_go 1 = .ok (.getfield 15, 3) := by decide +kernel
theorem dX1_go_4 : decode cX1_go 4 = .ok (.iconst 0, 1) := by decide +kernel
theorem dX1_go_5 : decode cX1_go 5 = .ok (.invokestatic 28, 3) := by decide +kernel
theorem dX1_go_8 : decode cX1_go 8 = .ok (.aload_n 0, 1) := by decide +kernel
theorem dX1_go_9 : decode cX1_go 9 = .ok (.getfield 9, 3) := by decide +kernel
theorem dX1_go_12 : decode cX1_go 12 = .ok (.iconst 0, 1) := by decide +kernel
theorem dX1_go_13 : decode cX1_go 13 = .ok (.iload_n 2, 1) := by decide +kernel
theorem dX1_go_14 : decode cX1_go 14 = .ok (.iastore, 1) := by decide +kernel
theorem dX1_go_15 : decode cX1_go 15 = .ok (.aload_n 0, 1) := by decide +kernel
theorem dX1_go_16 : decode cX1_go 16 = .ok (.iconst 0, 1) := by decide +kernel
theorem dX1_go_17 : decode cX1_go 17 = .ok (.putfield 18, 3) := by decide +kernel
theorem dX1_go_20 : decode cX1_go 20 = .ok (.aload_n 0, 1) := by decide +kernel
theorem dX1_go_21 : decode cX1_go 21 = .ok (.iconst 0, 1) := by decide +kernel
theorem dX1_go_22 : decode cX1_go 22 = .ok (.putfield 22, 3) := by decide +kernel
theorem dX1_go_25 : decode cX1_go 25 = .ok (.aload_n 0, 1) := by decide +kernel
theorem dX1_go_26 : decode cX1_go 26 = .ok (.iconst 4, 1) := by decide +kernel
theorem dX1_go_27 : decode cX1_go 27 = .ok (.putfield 25, 3) := by decide +kernel
theorem dX1_go_30 : decode cX1_go 30 = .ok (.iload_n 2, 1) := by decide +kernel
theorem dX1_go_31 : decode cX1_go 31 = .ok (.istore 5, 2) := by decide +kernel
theorem dX1_go_33 : decode cX1_go 33 = .ok (.iconst 0, 1) := by decide +kernel
theorem dX1_go_34 : decode cX1_go 34 = .ok (.istore 6, 2) := by decide +kernel
theorem dX1_go_36 : decode cX1_go 36 = .ok (.iconst 1, 1) := by decide +kernel
theorem dX1_go_37 : decode cX1_go 37 = .ok (.istore 7, 2) := by decide +kernel
theorem dX1_go_39 : decode cX1_go 39 = .ok (.iload 7, 2) := by decide +kernel
theorem dX1_go_41 : decode cX1_go 41 = .ok (.bipush 29, 2) := by decide +kernel
theorem dX1_go_43 : decode cX1_go 43 = .ok (.if_icmp .gt 119, 3) := by decide +kernel
theorem dX1_go_46 : decode cX1_go 46 = .ok (.iload 5, 2) := by decide +kernel
theorem dX1_go_48 : decode cX1_go 48 = .ok (.iload_n 3, 1) := by decide +kernel
theorem dX1_go_49 : decode cX1_go 49 = .ok (.if_icmp .ne 9, 3) := by decide +kernel
theorem dX1_go_52 : decode cX1_go 52 = .ok (.aload_n 0, 1) := by decide +kernel
theorem dX1_go_53 : decode cX1_go 53 = .ok (.iconst 0, 1) := by decide +kernel
theorem dX1_go_54 : decode cX1_go 54 = .ok (.putfield 25, 3) := by decide +kernel
theorem dX1_go_57 : decode cX1_go 57 = .ok (.return_, 1) := by decide +kernel
theorem dX1_go_58 : decode cX1_go 58 = .ok (.aload_n 1, 1) := by decide +kernel
theorem dX1_go_59 : decode cX1_go 59 = .ok (.iload 5, 2) := by decide +kernel
theorem dX1_go_61 : decode cX1_go 61 = .ok (.iload 6, 2) := by decide +kernel
theorem dX1_go_63 : decode cX1_go 63 = .ok (.aload 4, 2) := by decide +kernel
theorem dX1_go_65 : decode cX1_go 65 = .ok (.iload 5, 2) := by decide +kernel
theorem dX1_go_67 : decode cX1_go 67 = .ok (.iaload, 1) := by decide +kernel
theorem dX1_go_68 : decode cX1_go 68 = .ok (.invokestatic 34, 3) := by decide +kernel
theorem dX1_go_71 : decode cX1_go 71 = .ok (.istore 8, 2) := by decide +kernel
theorem dX1_go_73 : decode cX1_go 73 = .ok (.iload 8, 2) := by decide +kernel
theorem dX1_go_75 : decode cX1_go 75 = .ok (.ifCond .ge 11, 3) := by decide +kernel
theorem dX1_go_78 : decode cX1_go 78 = .ok (.aload_n 0, 1) := by decide +kernel
theorem dX1_go_79 : decode cX1_go 79 = .ok (.iload 8, 2) := by decide +kernel
theorem dX1_go_81 : decode cX1_go 81 = .ok (.ineg, 1) := by decide +kernel
theorem dX1_go_82 : decode cX1_go 82 = .ok (.putfield 25, 3) := by decide +kernel
theorem dX1_go_85 : decode cX1_go 85 = .ok (.return_, 1) := by decide +kernel
theorem dX1_go_86 : decode cX1_go 86 = .ok (.aload_n 0, 1) := by decide +kernel
theorem dX1_go_87 : decode cX1_go 87 = .ok (.getfield 9, 3) := by decide +kernel
theorem dX1_go_90 : decode cX1_go 90 = .ok (.iload 7, 2) := by decide +kernel
theorem dX1_go_92 : decode cX1_go 92 = .ok (.iload 8, 2) := by decide +kernel
theorem dX1_go_94 : decode cX1_go 94 = .ok (.iastore, 1) := by decide +kernel
theorem dX1_go_95 : decode cX1_go 95 = .ok (.aload_n 0, 1) := by decide +kernel
theorem dX1_go_96 : decode cX1_go 96 = .ok (.iload 7, 2) := by decide +kernel
theorem dX1_go_98 : decode cX1_go 98 = .ok (.putfield 18, 3) := by decide +kernel
theorem dX1_go_101 : decode cX1_go 101 = .ok (.aload_n 0, 1) := by decide +kernel
theorem dX1_go_102 : decode cX1_go 102 = .ok (.dup, 1) := by decide +kernel
theorem dX1_go_103 : decode cX1_go 103 = .ok (.getfield 22, 3) := by decide +kernel
theorem dX1_go_106 : decode cX1_go 106 = .ok (.aload_n 1, 1) := by decide +kernel
theorem dX1_go_107 : decode cX1_go 107 = .ok (.getfield 38, 3) := by decide +kernel
theorem dX1_go_110 : decode cX1_go 110 = .ok (.iload 5, 2) := by decide +kernel
theorem dX1_go_112 : decode cX1_go 112 = .ok (.aaload, 1) := by decide +kernel
theorem dX1_go_113 : decode cX1_go 113 = .ok (.iload 8, 2) := by decide +kernel
theorem dX1_go_115 : decode cX1_go 115 = .ok (.iaload, 1) := by decide +kernel
theorem dX1_go_116 : decode cX1_go 116 = .ok (.iadd, 1) := by decide +kernel
theorem dX1_go_117 : decode cX1_go 117 = .ok (.putfield 22, 3) := by decide +kernel
theorem dX1_go_120 : decode cX1_go 120 = .ok (.iconst 1, 1) := by decide +kernel
theorem dX1_go_121 : decode cX1_go 121 = .ok (.iload 5, 2) := by decide +kernel
theorem dX1_go_123 : decode cX1_go 123 = .ok (.ishl, 1) := by decide +kernel
theorem dX1_go_124 : decode cX1_go 124 = .ok (.istore 6, 2) := by decide +kernel
theorem dX1_go_126 : decode cX1_go 126 = .ok (.aload_n 0, 1) := by decide +kernel
theorem dX1_go_127 : decode cX1_go 127 = .ok (.getfield 15, 3) := by decide +kernel
theorem dX1_go_130 : decode cX1_go 130 = .ok (.iload 8, 2) := by decide +kernel
theorem dX1_go_132 : decode cX1_go 132 = .ok (.iaload, 1) := by decide +kernel
theorem dX1_go_133 : decode cX1_go 133 = .ok (.iload 6, 2) := by decide +kernel
theorem dX1_go_135 : decode cX1_go 135 = .ok (.iand, 1) := by decide +kernel
theorem dX1_go_136 : decode cX1_go 136 = .ok (.ifCond .eq 4, 3) := by decide +kernel
theorem dX1_go_139 : decode cX1_go 139 = .ok (.return_, 1) := by decide +kernel
theorem dX1_go_140 : decode cX1_go 140 = .ok (.aload_n 0, 1) := by decide +kernel
theorem dX1_go_141 : decode cX1_go 141 = .ok (.getfield 15, 3) := by decide +kernel
theorem dX1_go_144 : decode cX1_go 144 = .ok (.iload 8, 2) := by decide +kernel
theorem dX1_go_146 : decode cX1_go 146 = .ok (.dup2, 1) := by decide +kernel
theorem dX1_go_147 : decode cX1_go 147 = .ok (.iaload, 1) := by decide +kernel
theorem dX1_go_148 : decode cX1_go 148 = .ok (.iload 6, 2) := by decide +kernel
theorem dX1_go_150 : decode cX1_go 150 = .ok (.ior, 1) := by decide +kernel
theorem dX1_go_151 : decode cX1_go 151 = .ok (.iastore, 1) := by decide +kernel
theorem dX1_go_152 : decode cX1_go 152 = .ok (.iload 8, 2) := by decide +kernel
theorem dX1_go_154 : decode cX1_go 154 = .ok (.istore 5, 2) := by decide +kernel
theorem dX1_go_156 : decode cX1_go 156 = .ok (.iinc 7 1, 3) := by decide +kernel
theorem dX1_go_159 : decode cX1_go 159 = .ok (.goto (-120), 3) := by decide +kernel
theorem dX1_go_162 : decode cX1_go 162 = .ok (.return_, 1) := by decide +kernel
theorem dX1_nextFrom_0 : decode cX1_nextFrom 0 = .ok (.aload_n 0, 1) := by decide +kernel
theorem dX1_nextFrom_1 : decode cX1_nextFrom 1 = .ok (.getfield 44, 3) := by decide +kernel
theorem dX1_nextFrom_4 : decode cX1_nextFrom 4 = .ok (.iload_n 1, 1) := by decide +kernel
theorem dX1_nextFrom_5 : decode cX1_nextFrom 5 = .ok (.iaload, 1) := by decide +kernel
theorem dX1_nextFrom_6 : decode cX1_nextFrom 6 = .ok (.istore 4, 2) := by decide +kernel
theorem dX1_nextFrom_8 : decode cX1_nextFrom 8 = .ok (.iload_n 3, 1) := by decide +kernel
theorem dX1_nextFrom_9 : decode cX1_nextFrom 9 = .ok (.bipush (-9), 2) := by decide +kernel
theorem dX1_nextFrom_11 : decode cX1_nextFrom 11 = .ok (.if_icmp .eq 19, 3) := by decide +kernel
theorem dX1_nextFrom_14 : decode cX1_nextFrom 14 = .ok (.iload 4, 2) := by decide +kernel
theorem dX1_nextFrom_16 : decode cX1_nextFrom 16 = .ok (.iload_n 3, 1) := by decide +kernel
theorem dX1_nextFrom_17 : decode cX1_nextFrom 17 = .ok (.invokestatic 47, 3) := by decide +kernel
theorem dX1_nextFrom_20 : decode cX1_nextFrom 20 = .ok (.ifCond .eq 7, 3) := by decide +kernel
theorem dX1_nextFrom_23 : decode cX1_nextFrom 23 = .ok (.iload_n 3, 1) := by decide +kernel
theorem dX1_nextFrom_24 : decode cX1_nextFrom 24 = .ok (.goto 5, 3) := by decide +kernel
theorem dX1_nextFrom_27 : decode cX1_nextFrom 27 = .ok (.bipush (-3), 2) := by decide +kernel
theorem dX1_nextFrom_29 : decode cX1_nextFrom 29 = .ok (.ireturn, 1) := by decide +kernel
theorem dX1_nextFrom_30 : decode cX1_nextFrom 30 = .ok (.iload 4, 2) := by decide +kernel
theorem dX1_nextFrom_32 : decode cX1_nextFrom 32 = .ok (.iload_n 2, 1) := by decide +kernel
theorem dX1_nextFrom_33 : decode cX1_nextFrom 33 = .ok (.iconst (-1), 1) := by decide +kernel
theorem dX1_nextFrom_34 : decode cX1_nextFrom 34 = .ok (.ixor, 1) := by decide +kernel
theorem dX1_nextFrom_35 : decode cX1_nextFrom 35 = .ok (.iand, 1) := by decide +kernel
theorem dX1_nextFrom_36 : decode cX1_nextFrom 36 = .ok (.istore 4, 2) := by decide +kernel
theorem dX1_nextFrom_38 : decode cX1_nextFrom 38 = .ok (.iload 4, 2) := by decide +kernel
theorem dX1_nextFrom_40 : decode cX1_nextFrom 40 = .ok (.ifCond .ne 6, 3) := by decide +kernel
theorem dX1_nextFrom_43 : decode cX1_nextFrom 43 = .ok (.bipush (-2), 2) := by decide +kernel
theorem dX1_nextFrom_45 : decode cX1_nextFrom 45 = .ok (.ireturn, 1) := by decide +kernel
theorem dX1_nextFrom_46 : decode cX1_nextFrom 46 = .ok (.iload 4, 2) := by decide +kernel
theorem dX1_nextFrom_48 : decode cX1_nextFrom 48 = .ok (.invokestatic 51, 3) := by decide +kernel
theorem dX1_nextFrom_51 : decode cX1_nextFrom 51 = .ok (.iconst 1, 1) := by decide +kernel
theorem dX1_nextFrom_52 : decode cX1_nextFrom 52 = .ok (.if_icmp .le 7, 3) := by decide +kernel
theorem dX1_nextFrom_55 : decode cX1_nextFrom 55 = .ok (.iconst (-1), 1) := by decide +kernel
theorem dX1_nextFrom_56 : decode cX1_nextFrom 56 = .ok (.goto 10, 3) := by decide +kernel
theorem dX1_nextFrom_59 : decode cX1_nextFrom 59 = .ok (.iload 4, 2) := by decide +kernel
theorem dX1_nextFrom_61 : decode cX1_nextFrom 61 = .ok (.iconst 1, 1) := by decide +kernel
theorem dX1_nextFrom_62 : decode cX1_nextFrom 62 = .ok (.isub, 1) := by decide +kernel
theorem dX1_nextFrom_63 : decode cX1_nextFrom 63 = .ok (.invokestatic 51, 3) := by decide +kernel
theorem dX1_nextFrom_66 : decode cX1_nextFrom 66 = .ok (.ireturn, 1) := by decide +kernel
theorem dX1_placeAt_0 : decode cX1_placeAt 0 = .ok (.iload_n 1, 1) := by decide +kernel
theorem dX1_placeAt_1 : decode cX1_placeAt 1 = .ok (.ifCond .lt 20, 3) := by decide +kernel
theorem dX1_placeAt_4 : decode cX1_placeAt 4 = .ok (.iload_n 1, 1) := by decide +kernel
theorem dX1_placeAt_5 : decode cX1_placeAt 5 = .ok (.aload_n 0, 1) := by decide +kernel
theorem dX1_placeAt_6 : decode cX1_placeAt 6 = .ok (.getfield 18, 3) := by decide +kernel
theorem dX1_placeAt_9 : decode cX1_placeAt 9 = .ok (.if_icmp .gt 12, 3) := by decide +kernel
theorem dX1_placeAt_12 : decode cX1_placeAt 12 = .ok (.aload_n 0, 1) := by decide +kernel
theorem dX1_placeAt_13 : decode cX1_placeAt 13 = .ok (.getfield 9, 3) := by decide +kernel
theorem dX1_placeAt_16 : decode cX1_placeAt 16 = .ok (.iload_n 1, 1) := by decide +kernel
theorem dX1_placeAt_17 : decode cX1_placeAt 17 = .ok (.iaload, 1) := by decide +kernel
theorem dX1_placeAt_18 : decode cX1_placeAt 18 = .ok (.goto 5, 3) := by decide +kernel
theorem dX1_placeAt_21 : decode cX1_placeAt 21 = .ok (.bipush (-9), 2) := by decide +kernel
theorem dX1_placeAt_23 : decode cX1_placeAt 23 = .ok (.ireturn, 1) := by decide +kernel
theorem dX1_wentLike_0 : decode cX1_wentLike 0 = .ok (.aload_n 0, 1) := by decide +kernel
theorem dX1_wentLike_1 : decode cX1_wentLike 1 = .ok (.getfield 25, 3) := by decide +kernel
theorem dX1_wentLike_4 : decode cX1_wentLike 4 = .ok (.aload_n 1, 1) := by decide +kernel
theorem dX1_wentLike_5 : decode cX1_wentLike 5 = .ok (.getfield 25, 3) := by decide +kernel
theorem dX1_wentLike_8 : decode cX1_wentLike 8 = .ok (.if_icmp .ne 14, 3) := by decide +kernel
theorem dX1_wentLike_11 : decode cX1_wentLike 11 = .ok (.aload_n 0, 1) := by decide +kernel
theorem dX1_wentLike_12 : decode cX1_wentLike 12 = .ok (.getfield 18, 3) := by decide +kernel
theorem dX1_wentLike_15 : decode cX1_wentLike 15 = .ok (.aload_n 1, 1) := by decide +kernel
theorem dX1_wentLike_16 : decode cX1_wentLike 16 = .ok (.getfield 18, 3) := by decide +kernel
theorem dX1_wentLike_19 : decode cX1_wentLike 19 = .ok (.if_icmp .eq 5, 3) := by decide +kernel
theorem dX1_wentLike_22 : decode cX1_wentLike 22 = .ok (.iconst 0, 1) := by decide +kernel
theorem dX1_wentLike_23 : decode cX1_wentLike 23 = .ok (.ireturn, 1) := by decide +kernel
theorem dX1_wentLike_24 : decode cX1_wentLike 24 = .ok (.iconst 0, 1) := by decide +kernel
theorem dX1_wentLike_25 : decode cX1_wentLike 25 = .ok (.istore_n 2, 1) := by decide +kernel
theorem dX1_wentLike_26 : decode cX1_wentLike 26 = .ok (.iload_n 2, 1) := by decide +kernel
theorem dX1_wentLike_27 : decode cX1_wentLike 27 = .ok (.aload_n 0, 1) := by decide +kernel
theorem dX1_wentLike_28 : decode cX1_wentLike 28 = .ok (.getfield 18, 3) := by decide +kernel
theorem dX1_wentLike_31 : decode cX1_wentLike 31 = .ok (.if_icmp .gt 26, 3) := by decide +kernel
theorem dX1_wentLike_34 : decode cX1_wentLike 34 = .ok (.aload_n 0, 1) := by decide +kernel
theorem dX1_wentLike_35 : decode cX1_wentLike 35 = .ok (.getfield 9, 3) := by decide +kernel
theorem dX1_wentLike_38 : decode cX1_wentLike 38 = .ok (.iload_n 2, 1) := by decide +kernel
theorem dX1_wentLike_39 : decode cX1_wentLike 39 = .ok (.iaload, 1) := by decide +kernel
theorem dX1_wentLike_40 : decode cX1_wentLike 40 = .ok (.aload_n 1, 1) := by decide +kernel
theorem dX1_wentLike_41 : decode cX1_wentLike 41 = .ok (.getfield 9, 3) := by decide +kernel
theorem dX1_wentLike_44 : decode cX1_wentLike 44 = .ok (.iload_n 2, 1) := by decide +kernel
theorem dX1_wentLike_45 : decode cX1_wentLike 45 = .ok (.iaload, 1) := by decide +kernel
theorem dX1_wentLike_46 : decode cX1_wentLike 46 = .ok (.if_icmp .eq 5, 3) := by decide +kernel
theorem dX1_wentLike_49 : decode cX1_wentLike 49 = .ok (.iconst 0, 1) := by decide +kernel
theorem dX1_wentLike_50 : decode cX1_wentLike 50 = .ok (.ireturn, 1) := by decide +kernel
theorem dX1_wentLike_51 : decode cX1_wentLike 51 = .ok (.iinc 2 1, 3) := by decide +kernel
theorem dX1_wentLike_54 : decode cX1_wentLike 54 = .ok (.goto (-28), 3) := by decide +kernel
theorem dX1_wentLike_57 : decode cX1_wentLike 57 = .ok (.iconst 1, 1) := by decide +kernel
theorem dX1_wentLike_58 : decode cX1_wentLike 58 = .ok (.ireturn, 1) := by decide +kernel
theorem dX2_init_0 : decode cX2_init 0 = .ok (.aload_n 0, 1) := by decide +kernel
theorem dX2_init_1 : decode cX2_init 1 = .ok (.invokespecial 3, 3) := by decide +kernel
theorem dX2_init_4 : decode cX2_init 4 = .ok (.aload_n 0, 1) := by decide +kernel
theorem dX2_init_5 : decode cX2_init 5 = .ok (.iconst 5, 1) := by decide +kernel
theorem dX2_init_6 : decode cX2_init 6 = .ok (.bipush 10, 2) := by decide +kernel
theorem dX2_init_8 : decode cX2_init 8 = .ok (.multianewarray 9 2, 4) := by decide +kernel
theorem dX2_init_12 : decode cX2_init 12 = .ok (.putfield 11, 3) := by decide +kernel
theorem dX2_init_15 : decode cX2_init 15 = .ok (.aload_n 0, 1) := by decide +kernel
theorem dX2_init_16 : decode cX2_init 16 = .ok (.iconst 5, 1) := by decide +kernel
theorem dX2_init_17 : decode cX2_init 17 = .ok (.bipush 10, 2) := by decide +kernel
theorem dX2_init_19 : decode cX2_init 19 = .ok (.multianewarray 9 2, 4) := by decide +kernel
theorem dX2_init_23 : decode cX2_init 23 = .ok (.putfield 16, 3) := by decide +kernel
theorem dX2_init_26 : decode cX2_init 26 = .ok (.aload_n 0, 1) := by decide +kernel
theorem dX2_init_27 : decode cX2_init 27 = .ok (.iconst 5, 1) := by decide +kernel
theorem dX2_init_28 : decode cX2_init 28 = .ok (.newarray .int, 2) := by decide +kernel
theorem dX2_init_30 : decode cX2_init 30 = .ok (.putfield 19, 3) := by decide +kernel
theorem dX2_init_33 : decode cX2_init 33 = .ok (.return_, 1) := by decide +kernel
theorem dX2_draw_0 : decode cX2_draw 0 = .ok (.aload_n 1, 1) := by decide +kernel
theorem dX2_draw_1 : decode cX2_draw 1 = .ok (.aload_n 0, 1) := by decide +kernel
theorem dX2_draw_2 : decode cX2_draw 2 = .ok (.getfield 11, 3) := by decide +kernel
theorem dX2_draw_5 : decode cX2_draw 5 = .ok (.iload_n 2, 1) := by decide +kernel
theorem dX2_draw_6 : decode cX2_draw 6 = .ok (.aaload, 1) := by decide +kernel
theorem dX2_draw_7 : decode cX2_draw 7 = .ok (.iload_n 3, 1) := by decide +kernel
theorem dX2_draw_8 : decode cX2_draw 8 = .ok (.invokestatic 23, 3) := by decide +kernel
theorem dX2_draw_11 : decode cX2_draw 11 = .ok (.aload_n 0, 1) := by decide +kernel
theorem dX2_draw_12 : decode cX2_draw 12 = .ok (.getfield 19, 3) := by decide +kernel
theorem dX2_draw_15 : decode cX2_draw 15 = .ok (.iload_n 2, 1) := by decide +kernel
theorem dX2_draw_16 : decode cX2_draw 16 = .ok (.iconst 0, 1) := by decide +kernel
theorem dX2_draw_17 : decode cX2_draw 17 = .ok (.iastore, 1) := by decide +kernel
theorem dX2_draw_18 : decode cX2_draw 18 = .ok (.iconst 0, 1) := by decide +kernel
theorem dX2_draw_19 : decode cX2_draw 19 = .ok (.istore 4, 2) := by decide +kernel
theorem dX2_draw_21 : decode cX2_draw 21 = .ok (.iload 4, 2) := by decide +kernel
theorem dX2_draw_23 : decode cX2_draw 23 = .ok (.bipush 10, 2) := by decide +kernel
theorem dX2_draw_25 : decode cX2_draw 25 = .ok (.if_icmp .ge 57, 3) := by decide +kernel
theorem dX2_draw_28 : decode cX2_draw 28 = .ok (.aload_n 0, 1) := by decide +kernel
theorem dX2_draw_29 : decode cX2_draw 29 = .ok (.getfield 16, 3) := by decide +kernel
theorem dX2_draw_32 : decode cX2_draw 32 = .ok (.iload_n 2, 1) := by decide +kernel
theorem dX2_draw_33 : decode cX2_draw 33 = .ok (.aaload, 1) := by decide +kernel
theorem dX2_draw_34 : decode cX2_draw 34 = .ok (.iload 4, 2) := by decide +kernel
theorem dX2_draw_36 : decode cX2_draw 36 = .ok (.aload_n 1, 1) := by decide +kernel
theorem dX2_draw_37 : decode cX2_draw 37 = .ok (.aload_n 0, 1) := by decide +kernel
theorem dX2_draw_38 : decode cX2_draw 38 = .ok (.getfield 11, 3) := by decide +kernel
theorem dX2_draw_41 : decode cX2_draw 41 = .ok (.iload_n 2, 1) := by decide +kernel
theorem dX2_draw_42 : decode cX2_draw 42 = .ok (.aaload, 1) := by decide +kernel
theorem dX2_draw_43 : decode cX2_draw 43 = .ok (.iload 4, 2) := by decide +kernel
theorem dX2_draw_45 : decode cX2_draw 45 = .ok (.invokestatic 27, 3) := by decide +kernel
theorem dX2_draw_48 : decode cX2_draw 48 = .ok (.iastore, 1) := by decide +kernel
theorem dX2_draw_49 : decode cX2_draw 49 = .ok (.aload_n 0, 1) := by decide +kernel
theorem dX2_draw_50 : decode cX2_draw 50 = .ok (.getfield 16, 3) := by decide +kernel
theorem dX2_draw_53 : decode cX2_draw 53 = .ok (.iload_n 2, 1) := by decide +kernel
theorem dX2_draw_54 : decode cX2_draw 54 = .ok (.aaload, 1) := by decide +kernel
theorem dX2_draw_55 : decode cX2_draw 55 = .ok (.iload 4, 2) := by decide +kernel
theorem dX2_draw_57 : decode cX2_draw 57 = .ok (.iaload, 1) := by decide +kernel
theorem dX2_draw_58 : decode cX2_draw 58 = .ok (.bipush (-9), 2) := by decide +kernel
theorem dX2_draw_60 : decode cX2_draw 60 = .ok (.if_icmp .eq 16, 3) := by decide +kernel
theorem dX2_draw_63 : decode cX2_draw 63 = .ok (.aload_n 0, 1) := by decide +kernel
theorem dX2_draw_64 : decode cX2_draw 64 = .ok (.getfield 19, 3) := by decide +kernel
theorem dX2_draw_67 : decode cX2_draw 67 = .ok (.iload_n 2, 1) := by decide +kernel
theorem dX2_draw_68 : decode cX2_draw 68 = .ok (.dup2, 1) := by decide +kernel
theorem dX2_draw_69 : decode cX2_draw 69 = .ok (.iaload, 1) := by decide +kernel
theorem dX2_draw_70 : decode cX2_draw 70 = .ok (.iconst 1, 1) := by decide +kernel
theorem dX2_draw_71 : decode cX2_draw 71 = .ok (.iload 4, 2) := by decide +kernel
theorem dX2_draw_73 : decode cX2_draw 73 = .ok (.ishl, 1) := by decide +kernel
theorem dX2_draw_74 : decode cX2_draw 74 = .ok (.ior, 1) := by decide +kernel
theorem dX2_draw_75 : decode cX2_draw 75 = .ok (.iastore, 1) := by decide +kernel
theorem dX2_draw_76 : decode cX2_draw 76 = .ok (.iinc 4 1, 3) := by decide +kernel
theorem dX2_draw_79 : decode cX2_draw 79 = .ok (.goto (-58), 3) := by decide +kernel
theorem dX2_draw_82 : decode cX2_draw 82 = .ok (.return_, 1) := by decide +kernel
theorem dX2_measure_0 : decode cX2_measure 0 = .ok (.aload_n 1, 1) := by decide +kernel
theorem dX2_measure_1 : decode cX2_measure 1 = .ok (.bipush (-9), 2) := by decide +kernel
theorem dX2_measure_3 : decode cX2_measure 3 = .ok (.invokestatic 31, 3) := by decide +kernel
theorem dX2_measure_6 : decode cX2_measure 6 = .ok (.aload_n 1, 1) := by decide +kernel
theorem dX2_measure_7 : decode cX2_measure 7 = .ok (.iload_n 2, 1) := by decide +kernel
theorem dX2_measure_8 : decode cX2_measure 8 = .ok (.iconst 0, 1) := by decide +kernel
theorem dX2_measure_9 : decode cX2_measure 9 = .ok (.iastore, 1) := by decide +kernel
theorem dX2_measure_10 : decode cX2_measure 10 = .ok (.iconst 1, 1) := by decide +kernel
theorem dX2_measure_11 : decode cX2_measure 11 = .ok (.istore_n 3, 1) := by decide +kernel
theorem dX2_measure_12 : decode cX2_measure 12 = .ok (.iconst 1, 1) := by decide +kernel
theorem dX2_measure_13 : decode cX2_measure 13 = .ok (.istore 4, 2) := by decide +kernel
theorem dX2_measure_15 : decode cX2_measure 15 = .ok (.iload 4, 2) := by decide +kernel
theorem dX2_measure_17 : decode cX2_measure 17 = .ok (.bipush 10, 2) := by decide +kernel
theorem dX2_measure_19 : decode cX2_measure 19 = .ok (.if_icmp .ge 97, 3) := by decide +kernel
theorem dX2_measure_22 : decode cX2_measure 22 = .ok (.iload_n 3, 1) := by decide +kernel
theorem dX2_measure_23 : decode cX2_measure 23 = .ok (.ifCond .eq 93, 3) := by decide +kernel
theorem dX2_measure_26 : decode cX2_measure 26 = .ok (.iconst 0, 1) := by decide +kernel
theorem dX2_measure_27 : decode cX2_measure 27 = .ok (.istore_n 3, 1) := by decide +kernel
theorem dX2_measure_28 : decode cX2_measure 28 = .ok (.iconst 0, 1) := by decide +kernel
theorem dX2_measure_29 : decode cX2_measure 29 = .ok (.istore 5, 2) := by decide +kernel
theorem dX2_measure_31 : decode cX2_measure 31 = .ok (.iload 5, 2) := by decide +kernel
theorem dX2_measure_33 : decode cX2_measure 33 = .ok (.aload_n 0, 1) := by decide +kernel
theorem dX2_measure_34 : decode cX2_measure 34 = .ok (.getfield 37, 3) := by decide +kernel
theorem dX2_measure_37 : decode cX2_measure 37 = .ok (.if_icmp .ge 73, 3) := by decide +kernel
theorem dX2_measure_40 : decode cX2_measure 40 = .ok (.aload_n 0, 1) := by decide +kernel
theorem dX2_measure_41 : decode cX2_measure 41 = .ok (.getfield 43, 3) := by decide +kernel
theorem dX2_measure_44 : decode cX2_measure 44 = .ok (.iload 5, 2) := by decide +kernel
theorem dX2_measure_46 : decode cX2_measure 46 = .ok (.baload, 1) := by decide +kernel
theorem dX2_measure_47 : decode cX2_measure 47 = .ok (.ifCond .eq 57, 3) := by decide +kernel
theorem dX2_measure_50 : decode cX2_measure 50 = .ok (.aload_n 0, 1) := by decide +kernel
theorem dX2_measure_51 : decode cX2_measure 51 = .ok (.getfield 47, 3) := by decide +kernel
theorem dX2_measure_54 : decode cX2_measure 54 = .ok (.iload 5, 2) := by decide +kernel
theorem dX2_measure_56 : decode cX2_measure 56 = .ok (.iaload, 1) := by decide +kernel
theorem dX2_measure_57 : decode cX2_measure 57 = .ok (.istore 6, 2) := by decide +kernel
theorem dX2_measure_59 : decode cX2_measure 59 = .ok (.aload_n 0, 1) := by decide +kernel
theorem dX2_measure_60 : decode cX2_measure 60 = .ok (.getfield 50, 3) := by decide +kernel
theorem dX2_measure_63 : decode cX2_measure 63 = .ok (.iload 5, 2) := by decide +kernel
theorem dX2_measure_65 : decode cX2_measure 65 = .ok (.iaload, 1) := by decide +kernel
theorem dX2_measure_66 : decode cX2_measure 66 = .ok (.istore 7, 2) := by decide +kernel
theorem dX2_measure_68 : decode cX2_measure 68 = .ok (.iload_n 3, 1) := by decide +kernel
theorem dX2_measure_69 : decode cX2_measure 69 = .ok (.aload_n 1, 1) := by decide +kernel
theorem dX2_measure_70 : decode cX2_measure 70 = .ok (.iload 6, 2) := by decide +kernel
theorem dX2_measure_72 : decode cX2_measure 72 = .ok (.iload 7, 2) := by decide +kernel
theorem dX2_measure_74 : decode cX2_measure 74 = .ok (.aload_n 0, 1) := by decide +kernel
theorem dX2_measure_75 : decode cX2_measure 75 = .ok (.getfield 53, 3) := by decide +kernel
theorem dX2_measure_78 : decode cX2_measure 78 = .ok (.iload 5, 2) := by decide +kernel
theorem dX2_measure_80 : decode cX2_measure 80 = .ok (.iaload, 1) := by decide +kernel
theorem dX2_measure_81 : decode cX2_measure 81 = .ok (.invokestatic 56, 3) := by decide +kernel
theorem dX2_measure_84 : decode cX2_measure 84 = .ok (.ior, 1) := by decide +kernel
theorem dX2_measure_85 : decode cX2_measure 85 = .ok (.istore_n 3, 1) := by decide +kernel
theorem dX2_measure_86 : decode cX2_measure 86 = .ok (.iload_n 3, 1) := by decide +kernel
theorem dX2_measure_87 : decode cX2_measure 87 = .ok (.aload_n 1, 1) := by decide +kernel
theorem dX2_measure_88 : decode cX2_measure 88 = .ok (.iload 7, 2) := by decide +kernel
theorem dX2_measure_90 : decode cX2_measure 90 = .ok (.iload 6, 2) := by decide +kernel
theorem dX2_measure_92 : decode cX2_measure 92 = .ok (.aload_n 0, 1) := by decide +kernel
theorem dX2_measure_93 : decode cX2_measure 93 = .ok (.getfield 53, 3) := by decide +kernel
theorem dX2_measure_96 : decode cX2_measure 96 = .ok (.iload 5, 2) := by decide +kernel
theorem dX2_measure_98 : decode cX2_measure 98 = .ok (.iaload, 1) := by decide +kernel
theorem dX2_measure_99 : decode cX2_measure 99 = .ok (.invokestatic 56, 3) := by decide +kernel
theorem dX2_measure_102 : decode cX2_measure 102 = .ok (.ior, 1) := by decide +kernel
theorem dX2_measure_103 : decode cX2_measure 103 = .ok (.istore_n 3, 1) := by decide +kernel
theorem dX2_measure_104 : decode cX2_measure 104 = .ok (.iinc 5 1, 3) := by decide +kernel
theorem dX2_measure_107 : decode cX2_measure 107 = .ok (.goto (-76), 3) := by decide +kernel
theorem dX2_measure_110 : decode cX2_measure 110 = .ok (.iinc 4 1, 3) := by decide +kernel
theorem dX2_measure_113 : decode cX2_measure 113 = .ok (.goto (-98), 3) := by decide +kernel
theorem dX2_measure_116 : decode cX2_measure 116 = .ok (.return_, 1) := by decide +kernel
theorem dX2_shorten_0 : decode cX2_shorten 0 = .ok (.aload_n 0, 1) := by decide +kernel
theorem dX2_shorten_1 : decode cX2_shorten 1 = .ok (.iload_n 2, 1) := by decide +kernel
theorem dX2_shorten_2 : decode cX2_shorten 2 = .ok (.iaload, 1) := by decide +kernel
theorem dX2_shorten_3 : decode cX2_shorten 3 = .ok (.bipush (-9), 2) := by decide +kernel
theorem dX2_shorten_5 : decode cX2_shorten 5 = .ok (.if_icmp .eq 22, 3) := by decide +kernel
theorem dX2_shorten_8 : decode cX2_shorten 8 = .ok (.aload_n 0, 1) := by decide +kernel
theorem dX2_shorten_9 : decode cX2_shorten 9 = .ok (.iload_n 1, 1) := by decide +kernel
theorem dX2_shorten_10 : decode cX2_shorten 10 = .ok (.iaload, 1) := by decide +kernel
theorem dX2_shorten_11 : decode cX2_shorten 11 = .ok (.bipush (-9), 2) := by decide +kernel
theorem dX2_shorten_13 : decode cX2_shorten 13 = .ok (.if_icmp .eq 16, 3) := by decide +kernel
theorem dX2_shorten_16 : decode cX2_shorten 16 = .ok (.aload_n 0, 1) := by decide +kernel
theorem dX2_shorten_17 : decode cX2_shorten 17 = .ok (.iload_n 1, 1) := by decide +kernel
theorem dX2_shorten_18 : decode cX2_shorten 18 = .ok (.iaload, 1) := by decide +kernel
theorem dX2_shorten_19 : decode cX2_shorten 19 = .ok (.aload_n 0, 1) := by decide +kernel
theorem dX2_shorten_20 : decode cX2_shorten 20 = .ok (.iload_n 2, 1) := by decide +kernel
theorem dX2_shorten_21 : decode cX2_shorten 21 = .ok (.iaload, 1) := by decide +kernel
theorem dX2_shorten_22 : decode cX2_shorten 22 = .ok (.iload_n 3, 1) := by decide +kernel
theorem dX2_shorten_23 : decode cX2_shorten 23 = .ok (.iadd, 1) := by decide +kernel
theorem dX2_shorten_24 : decode cX2_shorten 24 = .ok (.if_icmp .gt 5, 3) := by decide +kernel
theorem dX2_shorten_27 : decode cX2_shorten 27 = .ok (.iconst 0, 1) := by decide +kernel
theorem dX2_shorten_28 : decode cX2_shorten 28 = .ok (.ireturn, 1) := by decide +kernel
theorem dX2_shorten_29 : decode cX2_shorten 29 = .ok (.aload_n 0, 1) := by decide +kernel
theorem dX2_shorten_30 : decode cX2_shorten 30 = .ok (.iload_n 1, 1) := by decide +kernel
theorem dX2_shorten_31 : decode cX2_shorten 31 = .ok (.aload_n 0, 1) := by decide +kernel
theorem dX2_shorten_32 : decode cX2_shorten 32 = .ok (.iload_n 2, 1) := by decide +kernel
theorem dX2_shorten_33 : decode cX2_shorten 33 = .ok (.iaload, 1) := by decide +kernel
theorem dX2_shorten_34 : decode cX2_shorten 34 = .ok (.iload_n 3, 1) := by decide +kernel
theorem dX2_shorten_35 : decode cX2_shorten 35 = .ok (.iadd, 1) := by decide +kernel
theorem dX2_shorten_36 : decode cX2_shorten 36 = .ok (.iastore, 1) := by decide +kernel
theorem dX2_shorten_37 : decode cX2_shorten 37 = .ok (.iconst 1, 1) := by decide +kernel
theorem dX2_shorten_38 : decode cX2_shorten 38 = .ok (.ireturn, 1) := by decide +kernel
theorem dX2_bestAt_0 : decode cX2_bestAt 0 = .ok (.iconst 0, 1) := by decide +kernel
theorem dX2_bestAt_1 : decode cX2_bestAt 1 = .ok (.istore_n 3, 1) := by decide +kernel
theorem dX2_bestAt_2 : decode cX2_bestAt 2 = .ok (.iload_n 3, 1) := by decide +kernel
theorem dX2_bestAt_3 : decode cX2_bestAt 3 = .ok (.bipush 10, 2) := by decide +kernel
theorem dX2_bestAt_5 : decode cX2_bestAt 5 = .ok (.if_icmp .ge 46, 3) := by decide +kernel
theorem dX2_bestAt_8 : decode cX2_bestAt 8 = .ok (.aload_n 0, 1) := by decide +kernel
theorem dX2_bestAt_9 : decode cX2_bestAt 9 = .ok (.getfield 60, 3) := by decide +kernel
theorem dX2_bestAt_12 : decode cX2_bestAt 12 = .ok (.iload_n 2, 1) := by decide +kernel
theorem dX2_bestAt_13 : decode cX2_bestAt 13 = .ok (.aaload, 1) := by decide +kernel
theorem dX2_bestAt_14 : decode cX2_bestAt 14 = .ok (.iload_n 3, 1) := by decide +kernel
theorem dX2_bestAt_15 : decode cX2_bestAt 15 = .ok (.iaload, 1) := by decide +kernel
theorem dX2_bestAt_16 : decode cX2_bestAt 16 = .ok (.istore 4, 2) := by decide +kernel
theorem dX2_bestAt_18 : decode cX2_bestAt 18 = .ok (.iload 4, 2) := by decide +kernel
theorem dX2_bestAt_20 : decode cX2_bestAt 20 = .ok (.ifCond .le 25, 3) := by decide +kernel
theorem dX2_bestAt_23 : decode cX2_bestAt 23 = .ok (.aload_n 1, 1) := by decide +kernel
theorem dX2_bestAt_24 : decode cX2_bestAt 24 = .ok (.iload_n 3, 1) := by decide +kernel
theorem dX2_bestAt_25 : decode cX2_bestAt 25 = .ok (.iaload, 1) := by decide +kernel
theorem dX2_bestAt_26 : decode cX2_bestAt 26 = .ok (.bipush (-9), 2) := by decide +kernel
theorem dX2_bestAt_28 : decode cX2_bestAt 28 = .ok (.if_icmp .eq 17, 3) := by decide +kernel
theorem dX2_bestAt_31 : decode cX2_bestAt 31 = .ok (.aload_n 1, 1) := by decide +kernel
theorem dX2_bestAt_32 : decode cX2_bestAt 32 = .ok (.iload_n 3, 1) := by decide +kernel
theorem dX2_bestAt_33 : decode cX2_bestAt 33 = .ok (.iaload, 1) := by decide +kernel
theorem dX2_bestAt_34 : decode cX2_bestAt 34 = .ok (.iload 4, 2) := by decide +kernel
theorem dX2_bestAt_36 : decode cX2_bestAt 36 = .ok (.iadd, 1) := by decide +kernel
theorem dX2_bestAt_37 : decode cX2_bestAt 37 = .ok (.aload_n 1, 1) := by decide +kernel
theorem dX2_bestAt_38 : decode cX2_bestAt 38 = .ok (.iload_n 2, 1) := by decide +kernel
theorem dX2_bestAt_39 : decode cX2_bestAt 39 = .ok (.iaload, 1) := by decide +kernel
theorem dX2_bestAt_40 : decode cX2_bestAt 40 = .ok (.if_icmp .ne 5, 3) := by decide +kernel
theorem dX2_bestAt_43 : decode cX2_bestAt 43 = .ok (.iload_n 3, 1) := by decide +kernel
theorem dX2_bestAt_44 : decode cX2_bestAt 44 = .ok (.ireturn, 1) := by decide +kernel
theorem dX2_bestAt_45 : decode cX2_bestAt 45 = .ok (.iinc 3 1, 3) := by decide +kernel
theorem dX2_bestAt_48 : decode cX2_bestAt 48 = .ok (.goto (-46), 3) := by decide +kernel
theorem dX2_bestAt_51 : decode cX2_bestAt 51 = .ok (.bipush (-9), 2) := by decide +kernel
theorem dX2_bestAt_53 : decode cX2_bestAt 53 = .ok (.ireturn, 1) := by decide +kernel
theorem dX3_init_0 : decode cX3_init 0 = .ok (.aload_n 0, 1) := by decide +kernel
theorem dX3_init_1 : decode cX3_init 1 = .ok (.invokespecial 3, 3) := by decide +kernel
theorem dX3_init_4 : decode cX3_init 4 = .ok (.aload_n 0, 1) := by decide +kernel
theorem dX3_init_5 : decode cX3_init 5 = .ok (.new 9, 3) := by decide +kernel
theorem dX3_init_8 : decode cX3_init 8 = .ok (.dup, 1) := by decide +kernel
theorem dX3_init_9 : decode cX3_init 9 = .ok (.invokespecial 11, 3) := by decide +kernel
theorem dX3_init_12 : decode cX3_init 12 = .ok (.putfield 12, 3) := by decide +kernel
theorem dX3_init_15 : decode cX3_init 15 = .ok (.aload_n 0, 1) := by decide +kernel
theorem dX3_init_16 : decode cX3_init 16 = .ok (.new 16, 3) := by decide +kernel
theorem dX3_init_19 : decode cX3_init 19 = .ok (.dup, 1) := by decide +kernel
theorem dX3_init_20 : decode cX3_init 20 = .ok (.invokespecial 18, 3) := by decide +kernel
theorem dX3_init_23 : decode cX3_init 23 = .ok (.putfield 19, 3) := by decide +kernel
theorem dX3_init_26 : decode cX3_init 26 = .ok (.aload_n 0, 1) := by decide +kernel
theorem dX3_init_27 : decode cX3_init 27 = .ok (.new 23, 3) := by decide +kernel
theorem dX3_init_30 : decode cX3_init 30 = .ok (.dup, 1) := by decide +kernel
theorem dX3_init_31 : decode cX3_init 31 = .ok (.invokespecial 25, 3) := by decide +kernel
theorem dX3_init_34 : decode cX3_init 34 = .ok (.putfield 26, 3) := by decide +kernel
theorem dX3_init_37 : decode cX3_init 37 = .ok (.aload_n 0, 1) := by decide +kernel
theorem dX3_init_38 : decode cX3_init 38 = .ok (.new 23, 3) := by decide +kernel
theorem dX3_init_41 : decode cX3_init 41 = .ok (.dup, 1) := by decide +kernel
theorem dX3_init_42 : decode cX3_init 42 = .ok (.invokespecial 25, 3) := by decide +kernel
theorem dX3_init_45 : decode cX3_init 45 = .ok (.putfield 30, 3) := by decide +kernel
theorem dX3_init_48 : decode cX3_init 48 = .ok (.aload_n 0, 1) := by decide +kernel
theorem dX3_init_49 : decode cX3_init 49 = .ok (.iconst 5, 1) := by decide +kernel
theorem dX3_init_50 : decode cX3_init 50 = .ok (.newarray .int, 2) := by decide +kernel
theorem dX3_init_52 : decode cX3_init 52 = .ok (.putfield 33, 3) := by decide +kernel
theorem dX3_init_55 : decode cX3_init 55 = .ok (.aload_n 0, 1) := by decide +kernel
theorem dX3_init_56 : decode cX3_init 56 = .ok (.iconst 5, 1) := by decide +kernel
theorem dX3_init_57 : decode cX3_init 57 = .ok (.bipush 10, 2) := by decide +kernel
theorem dX3_init_59 : decode cX3_init 59 = .ok (.multianewarray 37 2, 4) := by decide +kernel
theorem dX3_init_63 : decode cX3_init 63 = .ok (.putfield 39, 3) := by decide +kernel
theorem dX3_init_66 : decode cX3_init 66 = .ok (.iconst 0, 1) := by decide +kernel
theorem dX3_init_67 : decode cX3_init 67 = .ok (.istore_n 1, 1) := by decide +kernel
theorem dX3_init_68 : decode cX3_init 68 = .ok (.iload_n 1, 1) := by decide +kernel
theorem dX3_init_69 : decode cX3_init 69 = .ok (.iconst 5, 1) := by decide +kernel
theorem dX3_init_70 : decode cX3_init 70 = .ok (.if_icmp .ge 20, 3) := by decide +kernel
theorem dX3_init_73 : decode cX3_init 73 = .ok (.aload_n 0, 1) := by decide +kernel
theorem dX3_init_74 : decode cX3_init 74 = .ok (.getfield 39, 3) := by decide +kernel
theorem dX3_init_77 : decode cX3_init 77 = .ok (.iload_n 1, 1) := by decide +kernel
theorem dX3_init_78 : decode cX3_init 78 = .ok (.aaload, 1) := by decide +kernel
theorem dX3_init_79 : decode cX3_init 79 = .ok (.bipush (-9), 2) := by decide +kernel
theorem dX3_init_81 : decode cX3_init 81 = .ok (.invokestatic 42, 3) := by decide +kernel
theorem dX3_init_84 : decode cX3_init 84 = .ok (.iinc 1 1, 3) := by decide +kernel
theorem dX3_init_87 : decode cX3_init 87 = .ok (.goto (-19), 3) := by decide +kernel
theorem dX3_init_90 : decode cX3_init 90 = .ok (.aload_n 0, 1) := by decide +kernel
theorem dX3_init_91 : decode cX3_init 91 = .ok (.bipush 10, 2) := by decide +kernel
theorem dX3_init_93 : decode cX3_init 93 = .ok (.newarray .int, 2) := by decide +kernel
theorem dX3_init_95 : decode cX3_init 95 = .ok (.putfield 48, 3) := by decide +kernel
theorem dX3_init_98 : decode cX3_init 98 = .ok (.aload_n 0, 1) := by decide +kernel
theorem dX3_init_99 : decode cX3_init 99 = .ok (.iconst 0, 1) := by decide +kernel
theorem dX3_init_100 : decode cX3_init 100 = .ok (.putfield 51, 3) := by decide +kernel
theorem dX3_init_103 : decode cX3_init 103 = .ok (.aload_n 0, 1) := by decide +kernel
theorem dX3_init_104 : decode cX3_init 104 = .ok (.iconst 0, 1) := by decide +kernel
theorem dX3_init_105 : decode cX3_init 105 = .ok (.putfield 55, 3) := by decide +kernel
theorem dX3_init_108 : decode cX3_init 108 = .ok (.aload_n 0, 1) := by decide +kernel
theorem dX3_init_109 : decode cX3_init 109 = .ok (.iconst 0, 1) := by decide +kernel
theorem dX3_init_110 : decode cX3_init 110 = .ok (.putfield 58, 3) := by decide +kernel
theorem dX3_init_113 : decode cX3_init 113 = .ok (.aload_n 0, 1) := by decide +kernel
theorem dX3_init_114 : decode cX3_init 114 = .ok (.bipush (-9), 2) := by decide +kernel
theorem dX3_init_116 : decode cX3_init 116 = .ok (.putfield 61, 3) := by decide +kernel
theorem dX3_init_119 : decode cX3_init 119 = .ok (.aload_n 0, 1) := by decide +kernel
theorem dX3_init_120 : decode cX3_init 120 = .ok (.bipush (-9), 2) := by decide +kernel
theorem dX3_init_122 : decode cX3_init 122 = .ok (.putfield 64, 3) := by decide +kernel
theorem dX3_init_125 : decode cX3_init 125 = .ok (.aload_n 0, 1) := by decide +kernel
theorem dX3_init_126 : decode cX3_init 126 = .ok (.bipush (-9), 2) := by decide +kernel
theorem dX3_init_128 : decode cX3_init 128 = .ok (.putfield 67, 3) := by decide +kernel
theorem dX3_init_131 : decode cX3_init 131 = .ok (.return_, 1) := by decide +kernel
theorem dX3_walk_0 : decode cX3_walk 0 = .ok (.iload_n 1, 1) := by decide +kernel
theorem dX3_walk_1 : decode cX3_walk 1 = .ok (.invokestatic 70, 3) := by decide +kernel
theorem dX3_walk_4 : decode cX3_walk 4 = .ok (.ifCond .eq 15, 3) := by decide +kernel
theorem dX3_walk_7 : decode cX3_walk 7 = .ok (.iload_n 2, 1) := by decide +kernel
theorem dX3_walk_8 : decode cX3_walk 8 = .ok (.invokestatic 70, 3) := by decide +kernel
theorem dX3_walk_11 : decode cX3_walk 11 = .ok (.ifCond .eq 8, 3) := by decide +kernel
theorem dX3_walk_14 : decode cX3_walk 14 = .ok (.iload_n 1, 1) := by decide +kernel
theorem dX3_walk_15 : decode cX3_walk 15 = .ok (.iload_n 2, 1) := by decide +kernel
theorem dX3_walk_16 : decode cX3_walk 16 = .ok (.if_icmp .ne 5, 3) := by decide +kernel
theorem dX3_walk_19 : decode cX3_walk 19 = .ok (.iconst (-1), 1) := by decide +kernel
theorem dX3_walk_20 : decode cX3_walk 20 = .ok (.ireturn, 1) := by decide +kernel
theorem dX3_walk_21 : decode cX3_walk 21 = .ok (.iload_n 3, 1) := by decide +kernel
theorem dX3_walk_22 : decode cX3_walk 22 = .ok (.iconst 1, 1) := by decide +kernel
theorem dX3_walk_23 : decode cX3_walk 23 = .ok (.if_icmp .lt 9, 3) := by decide +kernel
theorem dX3_walk_26 : decode cX3_walk 26 = .ok (.iload_n 3, 1) := by decide +kernel
theorem dX3_walk_27 : decode cX3_walk 27 = .ok (.bipush 99, 2) := by decide +kernel
theorem dX3_walk_29 : decode cX3_walk 29 = .ok (.if_icmp .le 6, 3) := by decide +kernel
theorem dX3_walk_32 : decode cX3_walk 32 = .ok (.bipush (-2), 2) := by decide +kernel
theorem dX3_walk_34 : decode cX3_walk 34 = .ok (.ireturn, 1) := by decide +kernel
theorem dX3_walk_35 : decode cX3_walk 35 = .ok (.aload_n 0, 1) := by decide +kernel
theorem dX3_walk_36 : decode cX3_walk 36 = .ok (.getfield 12, 3) := by decide +kernel
theorem dX3_walk_39 : decode cX3_walk 39 = .ok (.iload_n 1, 1) := by decide +kernel
theorem dX3_walk_40 : decode cX3_walk 40 = .ok (.iload_n 2, 1) := by decide +kernel
theorem dX3_walk_41 : decode cX3_walk 41 = .ok (.invokevirtual 74, 3) := by decide +kernel
theorem dX3_walk_44 : decode cX3_walk 44 = .ok (.ifCond .eq 6, 3) := by decide +kernel
theorem dX3_walk_47 : decode cX3_walk 47 = .ok (.bipush (-3), 2) := by decide +kernel
theorem dX3_walk_49 : decode cX3_walk 49 = .ok (.ireturn, 1) := by decide +kernel
theorem dX3_walk_50 : decode cX3_walk 50 = .ok (.aload_n 0, 1) := by decide +kernel
theorem dX3_walk_51 : decode cX3_walk 51 = .ok (.getfield 12, 3) := by decide +kernel
theorem dX3_walk_54 : decode cX3_walk 54 = .ok (.getfield 78, 3) := by decide +kernel
theorem dX3_walk_57 : decode cX3_walk 57 = .ok (.bipush 14, 2) := by decide +kernel
theorem dX3_walk_59 : decode cX3_walk 59 = .ok (.if_icmp .lt 6, 3) := by decide +kernel
theorem dX3_walk_62 : decode cX3_walk 62 = .ok (.bipush (-4), 2) := by decide +kernel
theorem dX3_walk_64 : decode cX3_walk 64 = .ok (.ireturn, 1) := by decide +kernel
theorem dX3_walk_65 : decode cX3_walk 65 = .ok (.aload_n 0, 1) := by decide +kernel
theorem dX3_walk_66 : decode cX3_walk 66 = .ok (.getfield 12, 3) := by decide +kernel
theorem dX3_walk_69 : decode cX3_walk 69 = .ok (.iload_n 1, 1) := by decide +kernel
theorem dX3_walk_70 : decode cX3_walk 70 = .ok (.iload_n 2, 1) := by decide +kernel
theorem dX3_walk_71 : decode cX3_walk 71 = .ok (.iload_n 3, 1) := by decide +kernel
theorem dX3_walk_72 : decode cX3_walk 72 = .ok (.invokevirtual 81, 3) := by decide +kernel
theorem dX3_walk_75 : decode cX3_walk 75 = .ok (.ireturn, 1) := by decide +kernel
theorem dX3_unwalk_0 : decode cX3_unwalk 0 = .ok (.aload_n 0, 1) := by decide +kernel
theorem dX3_unwalk_1 : decode cX3_unwalk 1 = .ok (.getfield 12, 3) := by decide +kernel
theorem dX3_unwalk_4 : decode cX3_unwalk 4 = .ok (.getfield 78, 3) := by decide +kernel
theorem dX3_unwalk_7 : decode cX3_unwalk 7 = .ok (.iconst 1, 1) := by decide +kernel
theorem dX3_unwalk_8 : decode cX3_unwalk 8 = .ok (.if_icmp .ge 6, 3) := by decide +kernel
theorem dX3_unwalk_11 : decode cX3_unwalk 11 = .ok (.bipush (-3), 2) := by decide +kernel
theorem dX3_unwalk_13 : decode cX3_unwalk 13 = .ok (.ireturn, 1) := by decide +kernel
theorem dX3_unwalk_14 : decode cX3_unwalk 14 = .ok (.aload_n 0, 1) := by decide +kernel
theorem dX3_unwalk_15 : decode cX3_unwalk 15 = .ok (.getfield 12, 3) := by decide +kernel
theorem dX3_unwalk_18 : decode cX3_unwalk 18 = .ok (.invokevirtual 85, 3) := by decide +kernel
theorem dX3_unwalk_21 : decode cX3_unwalk 21 = .ok (.ireturn, 1) := by decide +kernel
theorem dX3_open_0 : decode cX3_open 0 = .ok (.aload_n 0, 1) := by decide +kernel
theorem dX3_open_1 : decode cX3_open 1 = .ok (.getfield 12, 3) := by decide +kernel
theorem dX3_open_4 : decode cX3_open 4 = .ok (.iload_n 1, 1) := by decide +kernel
theorem dX3_open_5 : decode cX3_open 5 = .ok (.invokevirtual 89, 3) := by decide +kernel
theorem dX3_open_8 : decode cX3_open 8 = .ok (.ifCond .ne 5, 3) := by decide +kernel
theorem dX3_open_11 : decode cX3_open 11 = .ok (.iconst (-1), 1) := by decide +kernel
theorem dX3_open_12 : decode cX3_open 12 = .ok (.ireturn, 1) := by decide +kernel
theorem dX3_open_13 : decode cX3_open 13 = .ok (.aload_n 0, 1) := by decide +kernel
theorem dX3_open_14 : decode cX3_open 14 = .ok (.getfield 12, 3) := by decide +kernel
theorem dX3_open_17 : decode cX3_open 17 = .ok (.iload_n 1, 1) := by decide +kernel
theorem dX3_open_18 : decode cX3_open 18 = .ok (.iload_n 2, 1) := by decide +kernel
theorem dX3_open_19 : decode cX3_open 19 = .ok (.invokevirtual 92, 3) := by decide +kernel
theorem dX3_open_22 : decode cX3_open 22 = .ok (.ifCond .eq 7, 3) := by decide +kernel
theorem dX3_open_25 : decode cX3_open 25 = .ok (.iconst 1, 1) := by decide +kernel
theorem dX3_open_26 : decode cX3_open 26 = .ok (.goto 4, 3) := by decide +kernel
theorem dX3_open_29 : decode cX3_open 29 = .ok (.iconst 0, 1) := by decide +kernel
theorem dX3_open_30 : decode cX3_open 30 = .ok (.ireturn, 1) := by decide +kernel
theorem dX3_ofWalk_0 : decode cX3_ofWalk 0 = .ok (.aload_n 0, 1) := by decide +kernel
theorem dX3_ofWalk_1 : decode cX3_ofWalk 1 = .ok (.getfield 12, 3) := by decide +kernel
theorem dX3_ofWalk_4 : decode cX3_ofWalk 4 = .ok (.iload_n 1, 1) := by decide +kernel
theorem dX3_ofWalk_5 : decode cX3_ofWalk 5 = .ok (.invokevirtual 89, 3) := by decide +kernel
theorem dX3_ofWalk_8 : decode cX3_ofWalk 8 = .ok (.ifCond .ne 5, 3) := by decide +kernel
theorem dX3_ofWalk_11 : decode cX3_ofWalk 11 = .ok (.iconst (-1), 1) := by decide +kernel
theorem dX3_ofWalk_12 : decode cX3_ofWalk 12 = .ok (.ireturn, 1) := by decide +kernel
theorem dX3_ofWalk_13 : decode cX3_ofWalk 13 = .ok (.iload_n 2, 1) := by decide +kernel
theorem dX3_ofWalk_14 : decode cX3_ofWalk 14 = .ok (.tableswitch 78 0 3 #[30, 40, 50, 60], 30) := by decide +kernel
theorem dX3_ofWalk_44 : decode cX3_ofWalk 44 = .ok (.aload_n 0, 1) := by decide +kernel
theorem dX3_ofWalk_45 : decode cX3_ofWalk 45 = .ok (.getfield 12, 3) := by decide +kernel
theorem dX3_ofWalk_48 : decode cX3_ofWalk 48 = .ok (.getfield 96, 3) := by decide +kernel
theorem dX3_ofWalk_51 : decode cX3_ofWalk 51 = .ok (.iload_n 1, 1) := by decide +kernel
theorem dX3_ofWalk_52 : decode cX3_ofWalk 52 = .ok (.iaload, 1) := by decide +kernel
theorem dX3_ofWalk_53 : decode cX3_ofWalk 53 = .ok (.ireturn, 1) := by decide +kernel
theorem dX3_ofWalk_54 : decode cX3_ofWalk 54 = .ok (.aload_n 0, 1) := by decide +kernel
theorem dX3_ofWalk_55 : decode cX3_ofWalk 55 = .ok (.getfield 12, 3) := by decide +kernel
theorem dX3_ofWalk_58 : decode cX3_ofWalk 58 = .ok (.getfield 99, 3) := by decide +kernel
theorem dX3_ofWalk_61 : decode cX3_ofWalk 61 = .ok (.iload_n 1, 1) := by decide +kernel
theorem dX3_ofWalk_62 : decode cX3_ofWalk 62 = .ok (.iaload, 1) := by decide +kernel
theorem dX3_ofWalk_63 : decode cX3_ofWalk 63 = .ok (.ireturn, 1) := by decide +kernel
theorem dX3_ofWalk_64 : decode cX3_ofWalk 64 = .ok (.aload_n 0, 1) := by decide +kernel
theorem dX3_ofWalk_65 : decode cX3_ofWalk 65 = .ok (.getfield 12, 3) := by decide +kernel
theorem dX3_ofWalk_68 : decode cX3_ofWalk 68 = .ok (.getfield 102, 3) := by decide +kernel
theorem dX3_ofWalk_71 : decode cX3_ofWalk 71 = .ok (.iload_n 1, 1) := by decide +kernel
theorem dX3_ofWalk_72 : decode cX3_ofWalk 72 = .ok (.iaload, 1) := by decide +kernel
theorem dX3_ofWalk_73 : decode cX3_ofWalk 73 = .ok (.ireturn, 1) := by decide +kernel
theorem dX3_ofWalk_74 : decode cX3_ofWalk 74 = .ok (.aload_n 0, 1) := by decide +kernel
theorem dX3_ofWalk_75 : decode cX3_ofWalk 75 = .ok (.getfield 12, 3) := by decide +kernel
theorem dX3_ofWalk_78 : decode cX3_ofWalk 78 = .ok (.getfield 105, 3) := by decide +kernel
theorem dX3_ofWalk_81 : decode cX3_ofWalk 81 = .ok (.iload_n 1, 1) := by decide +kernel
theorem dX3_ofWalk_82 : decode cX3_ofWalk 82 = .ok (.baload, 1) := by decide +kernel
theorem dX3_ofWalk_83 : decode cX3_ofWalk 83 = .ok (.ifCond .eq 7, 3) := by decide +kernel
theorem dX3_ofWalk_86 : decode cX3_ofWalk 86 = .ok (.iconst 1, 1) := by decide +kernel
theorem dX3_ofWalk_87 : decode cX3_ofWalk 87 = .ok (.goto 4, 3) := by decide +kernel
theorem dX3_ofWalk_90 : decode cX3_ofWalk 90 = .ok (.iconst 0, 1) := by decide +kernel
theorem dX3_ofWalk_91 : decode cX3_ofWalk 91 = .ok (.ireturn, 1) := by decide +kernel
theorem dX3_ofWalk_92 : decode cX3_ofWalk 92 = .ok (.bipush (-2), 2) := by decide +kernel
theorem dX3_ofWalk_94 : decode cX3_ofWalk 94 = .ok (.ireturn, 1) := by decide +kernel
theorem dX3_name_0 : decode cX3_name 0 = .ok (.iload_n 1, 1) := by decide +kernel
theorem dX3_name_1 : decode cX3_name 1 = .ok (.invokestatic 70, 3) := by decide +kernel
theorem dX3_name_4 : decode cX3_name 4 = .ok (.ifCond .ne 5, 3) := by decide +kernel
theorem dX3_name_7 : decode cX3_name 7 = .ok (.iconst (-1), 1) := by decide +kernel
theorem dX3_name_8 : decode cX3_name 8 = .ok (.ireturn, 1) := by decide +kernel
theorem dX3_name_9 : decode cX3_name 9 = .ok (.aload_n 0, 1) := by decide +kernel
theorem dX3_name_10 : decode cX3_name 10 = .ok (.getfield 51, 3) := by decide +kernel
theorem dX3_name_13 : decode cX3_name 13 = .ok (.iconst 5, 1) := by decide +kernel
theorem dX3_name_14 : decode cX3_name 14 = .ok (.if_icmp .lt 6, 3) := by decide +kernel
theorem dX3_name_17 : decode cX3_name 17 = .ok (.bipush (-4), 2) := by decide +kernel
theorem dX3_name_19 : decode cX3_name 19 = .ok (.ireturn, 1) := by decide +kernel
theorem dX3_name_20 : decode cX3_name 20 = .ok (.aload_n 0, 1) := by decide +kernel
theorem dX3_name_21 : decode cX3_name 21 = .ok (.getfield 33, 3) := by decide +kernel
theorem dX3_name_24 : decode cX3_name 24 = .ok (.aload_n 0, 1) := by decide +kernel
theorem dX3_name_25 : decode cX3_name 25 = .ok (.getfield 51, 3) := by decide +kernel
theorem dX3_name_28 : decode cX3_name 28 = .ok (.iload_n 1, 1) := by decide +kernel
theorem dX3_name_29 : decode cX3_name 29 = .ok (.iastore, 1) := by decide +kernel
theorem dX3_name_30 : decode cX3_name 30 = .ok (.aload_n 0, 1) := by decide +kernel
theorem dX3_name_31 : decode cX3_name 31 = .ok (.dup, 1) := by decide +kernel
theorem dX3_name_32 : decode cX3_name 32 = .ok (.getfield 51, 3) := by decide +kernel
theorem dX3_name_35 : decode cX3_name 35 = .ok (.iconst 1, 1) := by decide +kernel
theorem dX3_name_36 : decode cX3_name 36 = .ok (.iadd, 1) := by decide +kernel
theorem dX3_name_37 : decode cX3_name 37 = .ok (.putfield 51, 3) := by decide +kernel
theorem dX3_name_40 : decode cX3_name 40 = .ok (.aload_n 0, 1) := by decide +kernel
theorem dX3_name_41 : decode cX3_name 41 = .ok (.getfield 51, 3) := by decide +kernel
theorem dX3_name_44 : decode cX3_name 44 = .ok (.iconst 1, 1) := by decide +kernel
theorem dX3_name_45 : decode cX3_name 45 = .ok (.isub, 1) := by decide +kernel
theorem dX3_name_46 : decode cX3_name 46 = .ok (.ireturn, 1) := by decide +kernel
theorem dX3_moves_0 : decode cX3_moves 0 = .ok (.aload_n 0, 1) := by decide +kernel
theorem dX3_moves_1 : decode cX3_moves 1 = .ok (.iload_n 1, 1) := by decide +kernel
theorem dX3_moves_2 : decode cX3_moves 2 = .ok (.invokevirtual 109, 3) := by decide +kernel
theorem dX3_moves_5 : decode cX3_moves 5 = .ok (.ifCond .eq 10, 3) := by decide +kernel
theorem dX3_moves_8 : decode cX3_moves 8 = .ok (.iload_n 2, 1) := by decide +kernel
theorem dX3_moves_9 : decode cX3_moves 9 = .ok (.invokestatic 70, 3) := by decide +kernel
theorem dX3_moves_12 : decode cX3_moves 12 = .ok (.ifCond .ne 5, 3) := by decide +kernel
theorem dX3_moves_15 : decode cX3_moves 15 = .ok (.iconst (-1), 1) := by decide +kernel
theorem dX3_moves_16 : decode cX3_moves 16 = .ok (.ireturn, 1) := by decide +kernel
theorem dX3_moves_17 : decode cX3_moves 17 = .ok (.aload_n 0, 1) := by decide +kernel
theorem dX3_moves_18 : decode cX3_moves 18 = .ok (.getfield 33, 3) := by decide +kernel
theorem dX3_moves_21 : decode cX3_moves 21 = .ok (.iload_n 1, 1) := by decide +kernel
theorem dX3_moves_22 : decode cX3_moves 22 = .ok (.iaload, 1) := by decide +kernel
theorem dX3_moves_23 : decode cX3_moves 23 = .ok (.istore_n 3, 1) := by decide +kernel
theorem dX3_moves_24 : decode cX3_moves 24 = .ok (.aload_n 0, 1) := by decide +kernel
theorem dX3_moves_25 : decode cX3_moves 25 = .ok (.getfield 33, 3) := by decide +kernel
theorem dX3_moves_28 : decode cX3_moves 28 = .ok (.iload_n 1, 1) := by decide +kernel
theorem dX3_moves_29 : decode cX3_moves 29 = .ok (.iload_n 2, 1) := by decide +kernel
theorem dX3_moves_30 : decode cX3_moves 30 = .ok (.iastore, 1) := by decide +kernel
theorem dX3_moves_31 : decode cX3_moves 31 = .ok (.iload_n 3, 1) := by decide +kernel
theorem dX3_moves_32 : decode cX3_moves 32 = .ok (.ireturn, 1) := by decide +kernel
theorem dX3_entrance_0 : decode cX3_entrance 0 = .ok (.iload_n 1, 1) := by decide +kernel
theorem dX3_entrance_1 : decode cX3_entrance 1 = .ok (.invokestatic 70, 3) := by decide +kernel
theorem dX3_entrance_4 : decode cX3_entrance 4 = .ok (.ifCond .ne 5, 3) := by decide +kernel
theorem dX3_entrance_7 : decode cX3_entrance 7 = .ok (.iconst (-1), 1) := by decide +kernel
theorem dX3_entrance_8 : decode cX3_entrance 8 = .ok (.ireturn, 1) := by decide +kernel
theorem dX3_entrance_9 : decode cX3_entrance 9 = .ok (.aload_n 0, 1) := by decide +kernel
theorem dX3_entrance_10 : decode cX3_entrance 10 = .ok (.getfield 55, 3) := by decide +kernel
theorem dX3_entrance_13 : decode cX3_entrance 13 = .ok (.iload_n 1, 1) := by decide +kernel
theorem dX3_entrance_14 : decode cX3_entrance 14 = .ok (.invokestatic 112, 3) := by decide +kernel
theorem dX3_entrance_17 : decode cX3_entrance 17 = .ok (.iload_n 2, 1) := by decide +kernel
theorem dX3_entrance_18 : decode cX3_entrance 18 = .ok (.if_icmp .ne 5, 3) := by decide +kernel
theorem dX3_entrance_21 : decode cX3_entrance 21 = .ok (.iconst 0, 1) := by decide +kernel
theorem dX3_entrance_22 : decode cX3_entrance 22 = .ok (.ireturn, 1) := by decide +kernel
theorem dX3_entrance_23 : decode cX3_entrance 23 = .ok (.aload_n 0, 1) := by decide +kernel
theorem dX3_entrance_24 : decode cX3_entrance 24 = .ok (.dup, 1) := by decide +kernel
theorem dX3_entrance_25 : decode cX3_entrance 25 = .ok (.getfield 55, 3) := by decide +kernel
theorem dX3_entrance_28 : decode cX3_entrance 28 = .ok (.iconst 1, 1) := by decide +kernel
theorem dX3_entrance_29 : decode cX3_entrance 29 = .ok (.iload_n 1, 1) := by decide +kernel
theorem dX3_entrance_30 : decode cX3_entrance 30 = .ok (.ishl, 1) := by decide +kernel
theorem dX3_entrance_31 : decode cX3_entrance 31 = .ok (.ixor, 1) := by decide +kernel
theorem dX3_entrance_32 : decode cX3_entrance 32 = .ok (.putfield 55, 3) := by decide +kernel
theorem dX3_entrance_35 : decode cX3_entrance 35 = .ok (.iconst 1, 1) := by decide +kernel
theorem dX3_entrance_36 : decode cX3_entrance 36 = .ok (.ireturn, 1) := by decide +kernel
theorem dX3_detour_0 : decode cX3_detour 0 = .ok (.iload_n 1, 1) := by decide +kernel
theorem dX3_detour_1 : decode cX3_detour 1 = .ok (.ifCond .lt 10, 3) := by decide +kernel
theorem dX3_detour_4 : decode cX3_detour 4 = .ok (.iload_n 1, 1) := by decide +kernel
theorem dX3_detour_5 : decode cX3_detour 5 = .ok (.sipush 999, 3) := by decide +kernel
theorem dX3_detour_8 : decode cX3_detour 8 = .ok (.if_icmp .le 6, 3) := by decide +kernel
theorem dX3_detour_11 : decode cX3_detour 11 = .ok (.bipush (-2), 2) := by decide +kernel
theorem dX3_detour_13 : decode cX3_detour 13 = .ok (.ireturn, 1) := by decide +kernel
theorem dX3_detour_14 : decode cX3_detour 14 = .ok (.aload_n 0, 1) := by decide +kernel
theorem dX3_detour_15 : decode cX3_detour 15 = .ok (.getfield 58, 3) := by decide +kernel
theorem dX3_detour_18 : decode cX3_detour 18 = .ok (.istore_n 2, 1) := by decide +kernel
theorem dX3_detour_19 : decode cX3_detour 19 = .ok (.aload_n 0, 1) := by decide +kernel
theorem dX3_detour_20 : decode cX3_detour 20 = .ok (.iload_n 1, 1) := by decide +kernel
theorem dX3_detour_21 : decode cX3_detour 21 = .ok (.putfield 58, 3) := by decide +kernel
theorem dX3_detour_24 : decode cX3_detour 24 = .ok (.iload_n 2, 1) := by decide +kernel
theorem dX3_detour_25 : decode cX3_detour 25 = .ok (.ireturn, 1) := by decide +kernel
theorem dX3_board_0 : decode cX3_board 0 = .ok (.iload_n 1, 1) := by decide +kernel
theorem dX3_board_1 : decode cX3_board 1 = .ok (.invokestatic 70, 3) := by decide +kernel
theorem dX3_board_4 : decode cX3_board 4 = .ok (.ifCond .eq 18, 3) := by decide +kernel
theorem dX3_board_7 : decode cX3_board 7 = .ok (.aload_n 0, 1) := by decide +kernel
theorem dX3_board_8 : decode cX3_board 8 = .ok (.iload_n 2, 1) := by decide +kernel
theorem dX3_board_9 : decode cX3_board 9 = .ok (.invokevirtual 109, 3) := by decide +kernel
theorem dX3_board_12 : decode cX3_board 12 = .ok (.ifCond .eq 10, 3) := by decide +kernel
theorem dX3_board_15 : decode cX3_board 15 = .ok (.iload_n 3, 1) := by decide +kernel
theorem dX3_board_16 : decode cX3_board 16 = .ok (.invokestatic 70, 3) := by decide +kernel
theorem dX3_board_19 : decode cX3_board 19 = .ok (.ifCond .ne 5, 3) := by decide +kernel
theorem dX3_board_22 : decode cX3_board 22 = .ok (.iconst (-1), 1) := by decide +kernel
theorem dX3_board_23 : decode cX3_board 23 = .ok (.ireturn, 1) := by decide +kernel
theorem dX3_board_24 : decode cX3_board 24 = .ok (.aload_n 0, 1) := by decide +kernel
theorem dX3_board_25 : decode cX3_board 25 = .ok (.getfield 12, 3) := by decide +kernel
theorem dX3_board_28 : decode cX3_board 28 = .ok (.iload_n 1, 1) := by decide +kernel
theorem dX3_board_29 : decode cX3_board 29 = .ok (.iload_n 3, 1) := by decide +kernel
theorem dX3_board_30 : decode cX3_board 30 = .ok (.invokevirtual 74, 3) := by decide +kernel
theorem dX3_board_33 : decode cX3_board 33 = .ok (.ifCond .ne 6, 3) := by decide +kernel
theorem dX3_board_36 : decode cX3_board 36 = .ok (.bipush (-3), 2) := by decide +kernel
theorem dX3_board_38 : decode cX3_board 38 = .ok (.ireturn, 1) := by decide +kernel
theorem dX3_board_39 : decode cX3_board 39 = .ok (.aload_n 0, 1) := by decide +kernel
theorem dX3_board_40 : decode cX3_board 40 = .ok (.getfield 39, 3) := by decide +kernel
theorem dX3_board_43 : decode cX3_board 43 = .ok (.iload_n 2, 1) := by decide +kernel
theorem dX3_board_44 : decode cX3_board 44 = .ok (.aaload, 1) := by decide +kernel
theorem dX3_board_45 : decode cX3_board 45 = .ok (.iload_n 1, 1) := by decide +kernel
theorem dX3_board_46 : decode cX3_board 46 = .ok (.iaload, 1) := by decide +kernel
theorem dX3_board_47 : decode cX3_board 47 = .ok (.istore 4, 2) := by decide +kernel
theorem dX3_board_49 : decode cX3_board 49 = .ok (.aload_n 0, 1) := by decide +kernel
theorem dX3_board_50 : decode cX3_board 50 = .ok (.getfield 39, 3) := by decide +kernel
theorem dX3_board_53 : decode cX3_board 53 = .ok (.iload_n 2, 1) := by decide +kernel
theorem dX3_board_54 : decode cX3_board 54 = .ok (.aaload, 1) := by decide +kernel
theorem dX3_board_55 : decode cX3_board 55 = .ok (.iload_n 1, 1) := by decide +kernel
theorem dX3_board_56 : decode cX3_board 56 = .ok (.iload_n 3, 1) := by decide +kernel
theorem dX3_board_57 : decode cX3_board 57 = .ok (.iastore, 1) := by decide +kernel
theorem dX3_board_58 : decode cX3_board 58 = .ok (.iload 4, 2) := by decide +kernel
theorem dX3_board_60 : decode cX3_board 60 = .ok (.ireturn, 1) := by decide +kernel
theorem dX3_unboard_0 : decode cX3_unboard 0 = .ok (.iload_n 1, 1) := by decide +kernel
theorem dX3_unboard_1 : decode cX3_unboard 1 = .ok (.invokestatic 70, 3) := by decide +kernel
theorem dX3_unboard_4 : decode cX3_unboard 4 = .ok (.ifCond .eq 11, 3) := by decide +kernel
theorem dX3_unboard_7 : decode cX3_unboard 7 = .ok (.aload_n 0, 1) := by decide +kernel
theorem dX3_unboard_8 : decode cX3_unboard 8 = .ok (.iload_n 2, 1) := by decide +kernel
theorem dX3_unboard_9 : decode cX3_unboard 9 = .ok (.invokevirtual 109, 3) := by decide +kernel
theorem dX3_unboard_12 : decode cX3_unboard 12 = .ok (.ifCond .ne 5, 3) := by decide +kernel
theorem dX3_unboard_15 : decode cX3_unboard 15 = .ok (.iconst (-1), 1) := by decide +kernel
theorem dX3_unboard_16 : decode cX3_unboard 16 = .ok (.ireturn, 1) := by decide +kernel
theorem dX3_unboard_17 : decode cX3_unboard 17 = .ok (.aload_n 0, 1) := by decide +kernel
theorem dX3_unboard_18 : decode cX3_unboard 18 = .ok (.getfield 39, 3) := by decide +kernel
theorem dX3_unboard_21 : decode cX3_unboard 21 = .ok (.iload_n 2, 1) := by decide +kernel
theorem dX3_unboard_22 : decode cX3_unboard 22 = .ok (.aaload, 1) := by decide +kernel
theorem dX3_unboard_23 : decode cX3_unboard 23 = .ok (.iload_n 1, 1) := by decide +kernel
theorem dX3_unboard_24 : decode cX3_unboard 24 = .ok (.iaload, 1) := by decide +kernel
theorem dX3_unboard_25 : decode cX3_unboard 25 = .ok (.istore_n 3, 1) := by decide +kernel
theorem dX3_unboard_26 : decode cX3_unboard 26 = .ok (.iload_n 3, 1) := by decide +kernel
theorem dX3_unboard_27 : decode cX3_unboard 27 = .ok (.bipush (-9), 2) := by decide +kernel
theorem dX3_unboard_29 : decode cX3_unboard 29 = .ok (.if_icmp .ne 6, 3) := by decide +kernel
theorem dX3_unboard_32 : decode cX3_unboard 32 = .ok (.bipush (-3), 2) := by decide +kernel
theorem dX3_unboard_34 : decode cX3_unboard 34 = .ok (.ireturn, 1) := by decide +kernel
theorem dX3_unboard_35 : decode cX3_unboard 35 = .ok (.aload_n 0, 1) := by decide +kernel
theorem dX3_unboard_36 : decode cX3_unboard 36 = .ok (.getfield 39, 3) := by decide +kernel
theorem dX3_unboard_39 : decode cX3_unboard 39 = .ok (.iload_n 2, 1) := by decide +kernel
theorem dX3_unboard_40 : decode cX3_unboard 40 = .ok (.aaload, 1) := by decide +kernel
theorem dX3_unboard_41 : decode cX3_unboard 41 = .ok (.iload_n 1, 1) := by decide +kernel
theorem dX3_unboard_42 : decode cX3_unboard 42 = .ok (.bipush (-9), 2) := by decide +kernel
theorem dX3_unboard_44 : decode cX3_unboard 44 = .ok (.iastore, 1) := by decide +kernel
theorem dX3_unboard_45 : decode cX3_unboard 45 = .ok (.iload_n 3, 1) := by decide +kernel
theorem dX3_unboard_46 : decode cX3_unboard 46 = .ok (.ireturn, 1) := by decide +kernel
theorem dX3_arrow_0 : decode cX3_arrow 0 = .ok (.iload_n 1, 1) := by decide +kernel
theorem dX3_arrow_1 : decode cX3_arrow 1 = .ok (.invokestatic 70, 3) := by decide +kernel
theorem dX3_arrow_4 : decode cX3_arrow 4 = .ok (.ifCond .eq 11, 3) := by decide +kernel
theorem dX3_arrow_7 : decode cX3_arrow 7 = .ok (.aload_n 0, 1) := by decide +kernel
theorem dX3_arrow_8 : decode cX3_arrow 8 = .ok (.iload_n 2, 1) := by decide +kernel
theorem dX3_arrow_9 : decode cX3_arrow 9 = .ok (.invokevirtual 109, 3) := by decide +kernel
theorem dX3_arrow_12 : decode cX3_arrow 12 = .ok (.ifCond .ne 5, 3) := by decide +kernel
theorem dX3_arrow_15 : decode cX3_arrow 15 = .ok (.iconst (-1), 1) := by decide +kernel
theorem dX3_arrow_16 : decode cX3_arrow 16 = .ok (.ireturn, 1) := by decide +kernel
theorem dX3_arrow_17 : decode cX3_arrow 17 = .ok (.aload_n 0, 1) := by decide +kernel
theorem dX3_arrow_18 : decode cX3_arrow 18 = .ok (.getfield 39, 3) := by decide +kernel
theorem dX3_arrow_21 : decode cX3_arrow 21 = .ok (.iload_n 2, 1) := by decide +kernel
theorem dX3_arrow_22 : decode cX3_arrow 22 = .ok (.aaload, 1) := by decide +kernel
theorem dX3_arrow_23 : decode cX3_arrow 23 = .ok (.iload_n 1, 1) := by decide +kernel
theorem dX3_arrow_24 : decode cX3_arrow 24 = .ok (.iaload, 1) := by decide +kernel
theorem dX3_arrow_25 : decode cX3_arrow 25 = .ok (.ireturn, 1) := by decide +kernel
theorem dX3_far_0 : decode cX3_far 0 = .ok (.iload_n 1, 1) := by decide +kernel
theorem dX3_far_1 : decode cX3_far 1 = .ok (.invokestatic 70, 3) := by decide +kernel
theorem dX3_far_4 : decode cX3_far 4 = .ok (.ifCond .eq 11, 3) := by decide +kernel
theorem dX3_far_7 : decode cX3_far 7 = .ok (.aload_n 0, 1) := by decide +kernel
theorem dX3_far_8 : decode cX3_far 8 = .ok (.iload_n 2, 1) := by decide +kernel
theorem dX3_far_9 : decode cX3_far 9 = .ok (.invokevirtual 109, 3) := by decide +kernel
theorem dX3_far_12 : decode cX3_far 12 = .ok (.ifCond .ne 5, 3) := by decide +kernel
theorem dX3_far_15 : decode cX3_far 15 = .ok (.iconst (-1), 1) := by decide +kernel
theorem dX3_far_16 : decode cX3_far 16 = .ok (.ireturn, 1) := by decide +kernel
theorem dX3_far_17 : decode cX3_far 17 = .ok (.iload_n 3, 1) := by decide +kernel
theorem dX3_far_18 : decode cX3_far 18 = .ok (.ifCond .lt 8, 3) := by decide +kernel
theorem dX3_far_21 : decode cX3_far 21 = .ok (.iload_n 3, 1) := by decide +kernel
theorem dX3_far_22 : decode cX3_far 22 = .ok (.iconst 1, 1) := by decide +kernel
theorem dX3_far_23 : decode cX3_far 23 = .ok (.if_icmp .le 6, 3) := by decide +kernel
theorem dX3_far_26 : decode cX3_far 26 = .ok (.bipush (-2), 2) := by decide +kernel
theorem dX3_far_28 : decode cX3_far 28 = .ok (.ireturn, 1) := by decide +kernel
theorem dX3_far_29 : decode cX3_far 29 = .ok (.aload_n 0, 1) := by decide +kernel
theorem dX3_far_30 : decode cX3_far 30 = .ok (.getfield 19, 3) := by decide +kernel
theorem dX3_far_33 : decode cX3_far 33 = .ok (.aload_n 0, 1) := by decide +kernel
theorem dX3_far_34 : decode cX3_far 34 = .ok (.getfield 12, 3) := by decide +kernel
theorem dX3_far_37 : decode cX3_far 37 = .ok (.iload_n 2, 1) := by decide +kernel
theorem dX3_far_38 : decode cX3_far 38 = .ok (.aload_n 0, 1) := by decide +kernel
theorem dX3_far_39 : decode cX3_far 39 = .ok (.getfield 33, 3) := by decide +kernel
theorem dX3_far_42 : decode cX3_far 42 = .ok (.iload_n 2, 1) := by decide +kernel
theorem dX3_far_43 : decode cX3_far 43 = .ok (.iaload, 1) := by decide +kernel
theorem dX3_far_44 : decode cX3_far 44 = .ok (.invokevirtual 115, 3) := by decide +kernel
theorem dX3_far_47 : decode cX3_far 47 = .ok (.iload_n 3, 1) := by decide +kernel
theorem dX3_far_48 : decode cX3_far 48 = .ok (.ifCond .ne 17, 3) := by decide +kernel
theorem dX3_far_51 : decode cX3_far 51 = .ok (.aload_n 0, 1) := by decide +kernel
theorem dX3_far_52 : decode cX3_far 52 = .ok (.getfield 19, 3) := by decide +kernel
theorem dX3_far_55 : decode cX3_far 55 = .ok (.getfield 119, 3) := by decide +kernel
theorem dX3_far_58 : decode cX3_far 58 = .ok (.iload_n 2, 1) := by decide +kernel
theorem dX3_far_59 : decode cX3_far 59 = .ok (.aaload, 1) := by decide +kernel
theorem dX3_far_60 : decode cX3_far 60 = .ok (.iload_n 1, 1) := by decide +kernel
theorem dX3_far_61 : decode cX3_far 61 = .ok (.iaload, 1) := by decide +kernel
theorem dX3_far_62 : decode cX3_far 62 = .ok (.goto 14, 3) := by decide +kernel
theorem dX3_far_65 : decode cX3_far 65 = .ok (.aload_n 0, 1) := by decide +kernel
theorem dX3_far_66 : decode cX3_far 66 = .ok (.getfield 19, 3) := by decide +kernel
theorem dX3_far_69 : decode cX3_far 69 = .ok (.getfield 122, 3) := by decide +kernel
theorem dX3_far_72 : decode cX3_far 72 = .ok (.iload_n 2, 1) := by decide +kernel
theorem dX3_far_73 : decode cX3_far 73 = .ok (.aaload, 1) := by decide +kernel
theorem dX3_far_74 : decode cX3_far 74 = .ok (.iload_n 1, 1) := by decide +kernel
theorem dX3_far_75 : decode cX3_far 75 = .ok (.iaload, 1) := by decide +kernel
theorem dX3_far_76 : decode cX3_far 76 = .ok (.ireturn, 1) := by decide +kernel
theorem dX3_from_0 : decode cX3_from 0 = .ok (.iload_n 1, 1) := by decide +kernel
theorem dX3_from_1 : decode cX3_from 1 = .ok (.invokestatic 70, 3) := by decide +kernel
theorem dX3_from_4 : decode cX3_from 4 = .ok (.ifCond .ne 5, 3) := by decide +kernel
theorem dX3_from_7 : decode cX3_from 7 = .ok (.iconst (-1), 1) := by decide +kernel
theorem dX3_from_8 : decode cX3_from 8 = .ok (.ireturn, 1) := by decide +kernel
theorem dX3_from_9 : decode cX3_from 9 = .ok (.aload_n 0, 1) := by decide +kernel
theorem dX3_from_10 : decode cX3_from 10 = .ok (.getfield 12, 3) := by decide +kernel
theorem dX3_from_13 : decode cX3_from 13 = .ok (.getfield 125, 3) := by decide +kernel
theorem dX3_from_16 : decode cX3_from 16 = .ok (.iload_n 1, 1) := by decide +kernel
theorem dX3_from_17 : decode cX3_from 17 = .ok (.iaload, 1) := by decide +kernel
theorem dX3_from_18 : decode cX3_from 18 = .ok (.ireturn, 1) := by decide +kernel
theorem dX3_follow_0 : decode cX3_follow 0 = .ok (.iload_n 1, 1) := by decide +kernel
theorem dX3_follow_1 : decode cX3_follow 1 = .ok (.invokestatic 70, 3) := by decide +kernel
theorem dX3_follow_4 : decode cX3_follow 4 = .ok (.ifCond .eq 11, 3) := by decide +kernel
theorem dX3_follow_7 : decode cX3_follow 7 = .ok (.aload_n 0, 1) := by decide +kernel
theorem dX3_follow_8 : decode cX3_follow 8 = .ok (.iload_n 2, 1) := by decide +kernel
theorem dX3_follow_9 : decode cX3_follow 9 = .ok (.invokevirtual 109, 3) := by decide +kernel
theorem dX3_follow_12 : decode cX3_follow 12 = .ok (.ifCond .ne 5, 3) := by decide +kernel
theorem dX3_follow_15 : decode cX3_follow 15 = .ok (.iconst (-1), 1) := by decide +kernel
theorem dX3_follow_16 : decode cX3_follow 16 = .ok (.ireturn, 1) := by decide +kernel
theorem dX3_follow_17 : decode cX3_follow 17 = .ok (.iload_n 3, 1) := by decide +kernel
theorem dX3_follow_18 : decode cX3_follow 18 = .ok (.bipush 10, 2) := by decide +kernel
theorem dX3_follow_20 : decode cX3_follow 20 = .ok (.if_icmp .lt 13, 3) := by decide +kernel
theorem dX3_follow_23 : decode cX3_follow 23 = .ok (.iload_n 3, 1) := by decide +kernel
theorem dX3_follow_24 : decode cX3_follow 24 = .ok (.bipush 50, 2) := by decide +kernel
theorem dX3_follow_26 : decode cX3_follow 26 = .ok (.if_icmp .gt 7, 3) := by decide +kernel
theorem dX3_follow_29 : decode cX3_follow 29 = .ok (.iconst 1, 1) := by decide +kernel
theorem dX3_follow_30 : decode cX3_follow 30 = .ok (.goto 4, 3) := by decide +kernel
theorem dX3_follow_33 : decode cX3_follow 33 = .ok (.iconst 0, 1) := by decide +kernel
theorem dX3_follow_34 : decode cX3_follow 34 = .ok (.istore 4, 2) := by decide +kernel
theorem dX3_follow_36 : decode cX3_follow 36 = .ok (.iload 4, 2) := by decide +kernel
theorem dX3_follow_38 : decode cX3_follow 38 = .ok (.ifCond .ne 15, 3) := by decide +kernel
theorem dX3_follow_41 : decode cX3_follow 41 = .ok (.iload_n 3, 1) := by decide +kernel
theorem dX3_follow_42 : decode cX3_follow 42 = .ok (.ifCond .lt 8, 3) := by decide +kernel
theorem dX3_follow_45 : decode cX3_follow 45 = .ok (.iload_n 3, 1) := by decide +kernel
theorem dX3_follow_46 : decode cX3_follow 46 = .ok (.iconst 3, 1) := by decide +kernel
theorem dX3_follow_47 : decode cX3_follow 47 = .ok (.if_icmp .le 6, 3) := by decide +kernel
theorem dX3_follow_50 : decode cX3_follow 50 = .ok (.bipush (-2), 2) := by decide +kernel
theorem dX3_follow_52 : decode cX3_follow 52 = .ok (.ireturn, 1) := by decide +kernel
theorem dX3_follow_53 : decode cX3_follow 53 = .ok (.aload_n 0, 1) := by decide +kernel
theorem dX3_follow_54 : decode cX3_follow 54 = .ok (.getfield 26, 3) := by decide +kernel
theorem dX3_follow_57 : decode cX3_follow 57 = .ok (.aload_n 0, 1) := by decide +kernel
theorem dX3_follow_58 : decode cX3_follow 58 = .ok (.getfield 12, 3) := by decide +kernel
theorem dX3_follow_61 : decode cX3_follow 61 = .ok (.iload_n 1, 1) := by decide +kernel
theorem dX3_follow_62 : decode cX3_follow 62 = .ok (.aload_n 0, 1) := by decide +kernel
theorem dX3_follow_63 : decode cX3_follow 63 = .ok (.getfield 33, 3) := by decide +kernel
theorem dX3_follow_66 : decode cX3_follow 66 = .ok (.iload_n 2, 1) := by decide +kernel
theorem dX3_follow_67 : decode cX3_follow 67 = .ok (.iaload, 1) := by decide +kernel
theorem dX3_follow_68 : decode cX3_follow 68 = .ok (.aload_n 0, 1) := by decide +kernel
theorem dX3_follow_69 : decode cX3_follow 69 = .ok (.getfield 39, 3) := by decide +kernel
theorem dX3_follow_72 : decode cX3_follow 72 = .ok (.iload_n 2, 1) := by decide +kernel
theorem dX3_follow_73 : decode cX3_follow 73 = .ok (.aaload, 1) := by decide +kernel
theorem dX3_follow_74 : decode cX3_follow 74 = .ok (.invokevirtual 128, 3) := by decide +kernel
theorem dX3_follow_77 : decode cX3_follow 77 = .ok (.iload_n 3, 1) := by decide +kernel
theorem dX3_follow_78 : decode cX3_follow 78 = .ok (.tableswitch 69 0 3 #[30, 38, 46, 54], 30) := by decide +kernel
theorem dX3_follow_108 : decode cX3_follow 108 = .ok (.aload_n 0, 1) := by decide +kernel
theorem dX3_follow_109 : decode cX3_follow 109 = .ok (.getfield 26, 3) := by decide +kernel
theorem dX3_follow_112 : decode cX3_follow 112 = .ok (.getfield 132, 3) := by decide +kernel
theorem dX3_follow_115 : decode cX3_follow 115 = .ok (.ireturn, 1) := by decide +kernel
theorem dX3_follow_116 : decode cX3_follow 116 = .ok (.aload_n 0, 1) := by decide +kernel
theorem dX3_follow_117 : decode cX3_follow 117 = .ok (.getfield 26, 3) := by decide +kernel
theorem dX3_follow_120 : decode cX3_follow 120 = .ok (.getfield 135, 3) := by decide +kernel
theorem dX3_follow_123 : decode cX3_follow 123 = .ok (.ireturn, 1) := by decide +kernel
theorem dX3_follow_124 : decode cX3_follow 124 = .ok (.aload_n 0, 1) := by decide +kernel
theorem dX3_follow_125 : decode cX3_follow 125 = .ok (.getfield 26, 3) := by decide +kernel
theorem dX3_follow_128 : decode cX3_follow 128 = .ok (.getfield 138, 3) := by decide +kernel
theorem dX3_follow_131 : decode cX3_follow 131 = .ok (.ireturn, 1) := by decide +kernel
theorem dX3_follow_132 : decode cX3_follow 132 = .ok (.aload_n 0, 1) := by decide +kernel
theorem dX3_follow_133 : decode cX3_follow 133 = .ok (.getfield 26, 3) := by decide +kernel
theorem dX3_follow_136 : decode cX3_follow 136 = .ok (.aload_n 0, 1) := by decide +kernel
theorem dX3_follow_137 : decode cX3_follow 137 = .ok (.getfield 26, 3) := by decide +kernel
theorem dX3_follow_140 : decode cX3_follow 140 = .ok (.getfield 135, 3) := by decide +kernel
theorem dX3_follow_143 : decode cX3_follow 143 = .ok (.invokevirtual 141, 3) := by decide +kernel
theorem dX3_follow_146 : decode cX3_follow 146 = .ok (.ireturn, 1) := by decide +kernel
theorem dX3_follow_147 : decode cX3_follow 147 = .ok (.aload_n 0, 1) := by decide +kernel
theorem dX3_follow_148 : decode cX3_follow 148 = .ok (.getfield 26, 3) := by decide +kernel
theorem dX3_follow_151 : decode cX3_follow 151 = .ok (.iload_n 3, 1) := by decide +kernel
theorem dX3_follow_152 : decode cX3_follow 152 = .ok (.bipush 10, 2) := by decide +kernel
theorem dX3_follow_154 : decode cX3_follow 154 = .ok (.isub, 1) := by decide +kernel
theorem dX3_follow_155 : decode cX3_follow 155 = .ok (.invokevirtual 141, 3) := by decide +kernel
theorem dX3_follow_158 : decode cX3_follow 158 = .ok (.ireturn, 1) := by decide +kernel
theorem dX3_ends_0 : decode cX3_ends 0 = .ok (.iload_n 1, 1) := by decide +kernel
theorem dX3_ends_1 : decode cX3_ends 1 = .ok (.invokestatic 145, 3) := by decide +kernel
theorem dX3_ends_4 : decode cX3_ends 4 = .ok (.ifCond .ne 6, 3) := by decide +kernel
theorem dX3_ends_7 : decode cX3_ends 7 = .ok (.bipush (-2), 2) := by decide +kernel
theorem dX3_ends_9 : decode cX3_ends 9 = .ok (.ireturn, 1) := by decide +kernel
theorem dX3_ends_10 : decode cX3_ends 10 = .ok (.iconst 0, 1) := by decide +kernel
theorem dX3_ends_11 : decode cX3_ends 11 = .ok (.istore_n 2, 1) := by decide +kernel
theorem dX3_ends_12 : decode cX3_ends 12 = .ok (.iconst 0, 1) := by decide +kernel
theorem dX3_ends_13 : decode cX3_ends 13 = .ok (.istore_n 3, 1) := by decide +kernel
theorem dX3_ends_14 : decode cX3_ends 14 = .ok (.iload_n 3, 1) := by decide +kernel
theorem dX3_ends_15 : decode cX3_ends 15 = .ok (.aload_n 0, 1) := by decide +kernel
theorem dX3_ends_16 : decode cX3_ends 16 = .ok (.getfield 51, 3) := by decide +kernel
theorem dX3_ends_19 : decode cX3_ends 19 = .ok (.if_icmp .ge 24, 3) := by decide +kernel
theorem dX3_ends_22 : decode cX3_ends 22 = .ok (.iload_n 2, 1) := by decide +kernel
theorem dX3_ends_23 : decode cX3_ends 23 = .ok (.aload_n 0, 1) := by decide +kernel
theorem dX3_ends_24 : decode cX3_ends 24 = .ok (.iload_n 3, 1) := by decide +kernel
theorem dX3_ends_25 : decode cX3_ends 25 = .ok (.aload_n 0, 1) := by decide +kernel
theorem dX3_ends_26 : decode cX3_ends 26 = .ok (.getfield 39, 3) := by decide +kernel
theorem dX3_ends_29 : decode cX3_ends 29 = .ok (.iload_n 3, 1) := by decide +kernel
theorem dX3_ends_30 : decode cX3_ends 30 = .ok (.aaload, 1) := by decide +kernel
theorem dX3_ends_31 : decode cX3_ends 31 = .ok (.iload_n 1, 1) := by decide +kernel
theorem dX3_ends_32 : decode cX3_ends 32 = .ok (.invokevirtual 148, 3) := by decide +kernel
theorem dX3_ends_35 : decode cX3_ends 35 = .ok (.iadd, 1) := by decide +kernel
theorem dX3_ends_36 : decode cX3_ends 36 = .ok (.istore_n 2, 1) := by decide +kernel
theorem dX3_ends_37 : decode cX3_ends 37 = .ok (.iinc 3 1, 3) := by decide +kernel
theorem dX3_ends_40 : decode cX3_ends 40 = .ok (.goto (-26), 3) := by decide +kernel
theorem dX3_ends_43 : decode cX3_ends 43 = .ok (.iload_n 2, 1) := by decide +kernel
theorem dX3_ends_44 : decode cX3_ends 44 = .ok (.ireturn, 1) := by decide +kernel
theorem dX3_those_0 : decode cX3_those 0 = .ok (.aload_n 0, 1) := by decide +kernel
theorem dX3_those_1 : decode cX3_those 1 = .ok (.iload_n 1, 1) := by decide +kernel
theorem dX3_those_2 : decode cX3_those 2 = .ok (.invokevirtual 109, 3) := by decide +kernel
theorem dX3_those_5 : decode cX3_those 5 = .ok (.ifCond .ne 5, 3) := by decide +kernel
theorem dX3_those_8 : decode cX3_those 8 = .ok (.iconst (-1), 1) := by decide +kernel
theorem dX3_those_9 : decode cX3_those 9 = .ok (.ireturn, 1) := by decide +kernel
theorem dX3_those_10 : decode cX3_those 10 = .ok (.iload_n 2, 1) := by decide +kernel
theorem dX3_those_11 : decode cX3_those 11 = .ok (.invokestatic 145, 3) := by decide +kernel
theorem dX3_those_14 : decode cX3_those 14 = .ok (.ifCond .ne 6, 3) := by decide +kernel
theorem dX3_those_17 : decode cX3_those 17 = .ok (.bipush (-2), 2) := by decide +kernel
theorem dX3_those_19 : decode cX3_those 19 = .ok (.ireturn, 1) := by decide +kernel
theorem dX3_those_20 : decode cX3_those 20 = .ok (.iconst 0, 1) := by decide +kernel
theorem dX3_those_21 : decode cX3_those 21 = .ok (.istore_n 3, 1) := by decide +kernel
theorem dX3_those_22 : decode cX3_those 22 = .ok (.iconst 0, 1) := by decide +kernel
theorem dX3_those_23 : decode cX3_those 23 = .ok (.istore 4, 2) := by decide +kernel
theorem dX3_those_25 : decode cX3_those 25 = .ok (.iload 4, 2) := by decide +kernel
theorem dX3_those_27 : decode cX3_those 27 = .ok (.bipush 10, 2) := by decide +kernel
theorem dX3_those_29 : decode cX3_those 29 = .ok (.if_icmp .ge 52, 3) := by decide +kernel
theorem dX3_those_32 : decode cX3_those 32 = .ok (.aload_n 0, 1) := by decide +kernel
theorem dX3_those_33 : decode cX3_those 33 = .ok (.getfield 26, 3) := by decide +kernel
theorem dX3_those_36 : decode cX3_those 36 = .ok (.aload_n 0, 1) := by decide +kernel
theorem dX3_those_37 : decode cX3_those 37 = .ok (.getfield 12, 3) := by decide +kernel
theorem dX3_those_40 : decode cX3_those 40 = .ok (.iload 4, 2) := by decide +kernel
theorem dX3_those_42 : decode cX3_those 42 = .ok (.aload_n 0, 1) := by decide +kernel
theorem dX3_those_43 : decode cX3_those 43 = .ok (.getfield 33, 3) := by decide +kernel
theorem dX3_those_46 : decode cX3_those 46 = .ok (.iload_n 1, 1) := by decide +kernel
theorem dX3_those_47 : decode cX3_those 47 = .ok (.iaload, 1) := by decide +kernel
theorem dX3_those_48 : decode cX3_those 48 = .ok (.aload_n 0, 1) := by decide +kernel
theorem dX3_those_49 : decode cX3_those 49 = .ok (.getfield 39, 3) := by decide +kernel
theorem dX3_those_52 : decode cX3_those 52 = .ok (.iload_n 1, 1) := by decide +kernel
theorem dX3_those_53 : decode cX3_those 53 = .ok (.aaload, 1) := by decide +kernel
theorem dX3_those_54 : decode cX3_those 54 = .ok (.invokevirtual 128, 3) := by decide +kernel
theorem dX3_those_57 : decode cX3_those 57 = .ok (.aload_n 0, 1) := by decide +kernel
theorem dX3_those_58 : decode cX3_those 58 = .ok (.getfield 26, 3) := by decide +kernel
theorem dX3_those_61 : decode cX3_those 61 = .ok (.getfield 132, 3) := by decide +kernel
theorem dX3_those_64 : decode cX3_those 64 = .ok (.iload_n 2, 1) := by decide +kernel
theorem dX3_those_65 : decode cX3_those 65 = .ok (.if_icmp .ne 10, 3) := by decide +kernel
theorem dX3_those_68 : decode cX3_those 68 = .ok (.iload_n 3, 1) := by decide +kernel
theorem dX3_those_69 : decode cX3_those 69 = .ok (.iconst 1, 1) := by decide +kernel
theorem dX3_those_70 : decode cX3_those 70 = .ok (.iload 4, 2) := by decide +kernel
theorem dX3_those_72 : decode cX3_those 72 = .ok (.ishl, 1) := by decide +kernel
theorem dX3_those_73 : decode cX3_those 73 = .ok (.ior, 1) := by decide +kernel
theorem dX3_those_74 : decode cX3_those 74 = .ok (.istore_n 3, 1) := by decide +kernel
theorem dX3_those_75 : decode cX3_those 75 = .ok (.iinc 4 1, 3) := by decide +kernel
theorem dX3_those_78 : decode cX3_those 78 = .ok (.goto (-53), 3) := by decide +kernel
theorem dX3_those_81 : decode cX3_those 81 = .ok (.iload_n 3, 1) := by decide +kernel
theorem dX3_those_82 : decode cX3_those 82 = .ok (.ireturn, 1) := by decide +kernel
theorem dX3_idle_0 : decode cX3_idle 0 = .ok (.iload_n 1, 1) := by decide +kernel
theorem dX3_idle_1 : decode cX3_idle 1 = .ok (.invokestatic 70, 3) := by decide +kernel
theorem dX3_idle_4 : decode cX3_idle 4 = .ok (.ifCond .ne 5, 3) := by decide +kernel
theorem dX3_idle_7 : decode cX3_idle 7 = .ok (.iconst (-1), 1) := by decide +kernel
theorem dX3_idle_8 : decode cX3_idle 8 = .ok (.ireturn, 1) := by decide +kernel
theorem dX3_idle_9 : decode cX3_idle 9 = .ok (.iconst 0, 1) := by decide +kernel
theorem dX3_idle_10 : decode cX3_idle 10 = .ok (.istore_n 2, 1) := by decide +kernel
theorem dX3_idle_11 : decode cX3_idle 11 = .ok (.iconst 0, 1) := by decide +kernel
theorem dX3_idle_12 : decode cX3_idle 12 = .ok (.istore_n 3, 1) := by decide +kernel
theorem dX3_idle_13 : decode cX3_idle 13 = .ok (.iload_n 3, 1) := by decide +kernel
theorem dX3_idle_14 : decode cX3_idle 14 = .ok (.aload_n 0, 1) := by decide +kernel
theorem dX3_idle_15 : decode cX3_idle 15 = .ok (.getfield 51, 3) := by decide +kernel
theorem dX3_idle_18 : decode cX3_idle 18 = .ok (.if_icmp .ge 37, 3) := by decide +kernel
theorem dX3_idle_21 : decode cX3_idle 21 = .ok (.aload_n 0, 1) := by decide +kernel
theorem dX3_idle_22 : decode cX3_idle 22 = .ok (.getfield 39, 3) := by decide +kernel
theorem dX3_idle_25 : decode cX3_idle 25 = .ok (.iload_n 3, 1) := by decide +kernel
theorem dX3_idle_26 : decode cX3_idle 26 = .ok (.aaload, 1) := by decide +kernel
theorem dX3_idle_27 : decode cX3_idle 27 = .ok (.iload_n 1, 1) := by decide +kernel
theorem dX3_idle_28 : decode cX3_idle 28 = .ok (.iaload, 1) := by decide +kernel
theorem dX3_idle_29 : decode cX3_idle 29 = .ok (.bipush (-9), 2) := by decide +kernel
theorem dX3_idle_31 : decode cX3_idle 31 = .ok (.if_icmp .eq 18, 3) := by decide +kernel
theorem dX3_idle_34 : decode cX3_idle 34 = .ok (.aload_n 0, 1) := by decide +kernel
theorem dX3_idle_35 : decode cX3_idle 35 = .ok (.iload_n 1, 1) := by decide +kernel
theorem dX3_idle_36 : decode cX3_idle 36 = .ok (.iload_n 3, 1) := by decide +kernel
theorem dX3_idle_37 : decode cX3_idle 37 = .ok (.invokevirtual 152, 3) := by decide +kernel
theorem dX3_idle_40 : decode cX3_idle 40 = .ok (.ifCond .eq 9, 3) := by decide +kernel
theorem dX3_idle_43 : decode cX3_idle 43 = .ok (.iload_n 2, 1) := by decide +kernel
theorem dX3_idle_44 : decode cX3_idle 44 = .ok (.iconst 1, 1) := by decide +kernel
theorem dX3_idle_45 : decode cX3_idle 45 = .ok (.iload_n 3, 1) := by decide +kernel
theorem dX3_idle_46 : decode cX3_idle 46 = .ok (.ishl, 1) := by decide +kernel
theorem dX3_idle_47 : decode cX3_idle 47 = .ok (.ior, 1) := by decide +kernel
theorem dX3_idle_48 : decode cX3_idle 48 = .ok (.istore_n 2, 1) := by decide +kernel
theorem dX3_idle_49 : decode cX3_idle 49 = .ok (.iinc 3 1, 3) := by decide +kernel
theorem dX3_idle_52 : decode cX3_idle 52 = .ok (.goto (-39), 3) := by decide +kernel
theorem dX3_idle_55 : decode cX3_idle 55 = .ok (.iload_n 2, 1) := by decide +kernel
theorem dX3_idle_56 : decode cX3_idle 56 = .ok (.ireturn, 1) := by decide +kernel
theorem dX3_mend_0 : decode cX3_mend 0 = .ok (.iload_n 1, 1) := by decide +kernel
theorem dX3_mend_1 : decode cX3_mend 1 = .ok (.ifCond .lt 8, 3) := by decide +kernel
theorem dX3_mend_4 : decode cX3_mend 4 = .ok (.iload_n 1, 1) := by decide +kernel
theorem dX3_mend_5 : decode cX3_mend 5 = .ok (.iconst 2, 1) := by decide +kernel
theorem dX3_mend_6 : decode cX3_mend 6 = .ok (.if_icmp .le 6, 3) := by decide +kernel
theorem dX3_mend_9 : decode cX3_mend 9 = .ok (.bipush (-2), 2) := by decide +kernel
theorem dX3_mend_11 : decode cX3_mend 11 = .ok (.ireturn, 1) := by decide +kernel
theorem dX3_mend_12 : decode cX3_mend 12 = .ok (.aload_n 0, 1) := by decide +kernel
theorem dX3_mend_13 : decode cX3_mend 13 = .ok (.invokevirtual 155, 3) := by decide +kernel
theorem dX3_mend_16 : decode cX3_mend 16 = .ok (.iload_n 1, 1) := by decide +kernel
theorem dX3_mend_17 : decode cX3_mend 17 = .ok (.lookupswitch 37 #[(0, 27), (1, 32)], 27) := by decide +kernel
theorem dX3_mend_44 : decode cX3_mend 44 = .ok (.aload_n 0, 1) := by decide +kernel
theorem dX3_mend_45 : decode cX3_mend 45 = .ok (.getfield 61, 3) := by decide +kernel
theorem dX3_mend_48 : decode cX3_mend 48 = .ok (.ireturn, 1) := by decide +kernel
theorem dX3_mend_49 : decode cX3_mend 49 = .ok (.aload_n 0, 1) := by decide +kernel
theorem dX3_mend_50 : decode cX3_mend 50 = .ok (.getfield 64, 3) := by decide +kernel
theorem dX3_mend_53 : decode cX3_mend 53 = .ok (.ireturn, 1) := by decide +kernel
theorem dX3_mend_54 : decode cX3_mend 54 = .ok (.aload_n 0, 1) := by decide +kernel
theorem dX3_mend_55 : decode cX3_mend 55 = .ok (.getfield 67, 3) := by decide +kernel
theorem dX3_mend_58 : decode cX3_mend 58 = .ok (.ireturn, 1) := by decide +kernel
theorem dX3_leads_0 : decode cX3_leads 0 = .ok (.aload_n 0, 1) := by decide +kernel
theorem dX3_leads_1 : decode cX3_leads 1 = .ok (.iload_n 2, 1) := by decide +kernel
theorem dX3_leads_2 : decode cX3_leads 2 = .ok (.invokevirtual 109, 3) := by decide +kernel
theorem dX3_leads_5 : decode cX3_leads 5 = .ok (.ifCond .ne 5, 3) := by decide +kernel
theorem dX3_leads_8 : decode cX3_leads 8 = .ok (.iconst (-1), 1) := by decide +kernel
theorem dX3_leads_9 : decode cX3_leads 9 = .ok (.ireturn, 1) := by decide +kernel
theorem dX3_leads_10 : decode cX3_leads 10 = .ok (.iload_n 1, 1) := by decide +kernel
theorem dX3_leads_11 : decode cX3_leads 11 = .ok (.ifCond .lt 10, 3) := by decide +kernel
theorem dX3_leads_14 : decode cX3_leads 14 = .ok (.iload_n 1, 1) := by decide +kernel
theorem dX3_leads_15 : decode cX3_leads 15 = .ok (.sipush 1023, 3) := by decide +kernel
theorem dX3_leads_18 : decode cX3_leads 18 = .ok (.if_icmp .le 6, 3) := by decide +kernel
theorem dX3_leads_21 : decode cX3_leads 21 = .ok (.bipush (-2), 2) := by decide +kernel
theorem dX3_leads_23 : decode cX3_leads 23 = .ok (.ireturn, 1) := by decide +kernel
theorem dX3_leads_24 : decode cX3_leads 24 = .ok (.aload_n 0, 1) := by decide +kernel
theorem dX3_leads_25 : decode cX3_leads 25 = .ok (.getfield 19, 3) := by decide +kernel
theorem dX3_leads_28 : decode cX3_leads 28 = .ok (.aload_n 0, 1) := by decide +kernel
theorem dX3_leads_29 : decode cX3_leads 29 = .ok (.getfield 12, 3) := by decide +kernel
theorem dX3_leads_32 : decode cX3_leads 32 = .ok (.iload_n 2, 1) := by decide +kernel
theorem dX3_leads_33 : decode cX3_leads 33 = .ok (.aload_n 0, 1) := by decide +kernel
theorem dX3_leads_34 : decode cX3_leads 34 = .ok (.getfield 33, 3) := by decide +kernel
theorem dX3_leads_37 : decode cX3_leads 37 = .ok (.iload_n 2, 1) := by decide +kernel
theorem dX3_leads_38 : decode cX3_leads 38 = .ok (.iaload, 1) := by decide +kernel
theorem dX3_leads_39 : decode cX3_leads 39 = .ok (.invokevirtual 115, 3) := by decide +kernel
theorem dX3_leads_42 : decode cX3_leads 42 = .ok (.aload_n 0, 1) := by decide +kernel
theorem dX3_leads_43 : decode cX3_leads 43 = .ok (.iload_n 1, 1) := by decide +kernel
theorem dX3_leads_44 : decode cX3_leads 44 = .ok (.iload_n 2, 1) := by decide +kernel
theorem dX3_leads_45 : decode cX3_leads 45 = .ok (.invokevirtual 158, 3) := by decide +kernel
theorem dX3_leads_48 : decode cX3_leads 48 = .ok (.ifCond .eq 7, 3) := by decide +kernel
theorem dX3_leads_51 : decode cX3_leads 51 = .ok (.iconst 1, 1) := by decide +kernel
theorem dX3_leads_52 : decode cX3_leads 52 = .ok (.goto 4, 3) := by decide +kernel
theorem dX3_leads_55 : decode cX3_leads 55 = .ok (.iconst 0, 1) := by decide +kernel
theorem dX3_leads_56 : decode cX3_leads 56 = .ok (.ireturn, 1) := by decide +kernel
theorem dX3_fewest_0 : decode cX3_fewest 0 = .ok (.aload_n 0, 1) := by decide +kernel
theorem dX3_fewest_1 : decode cX3_fewest 1 = .ok (.iload_n 1, 1) := by decide +kernel
theorem dX3_fewest_2 : decode cX3_fewest 2 = .ok (.invokevirtual 109, 3) := by decide +kernel
theorem dX3_fewest_5 : decode cX3_fewest 5 = .ok (.ifCond .ne 5, 3) := by decide +kernel
theorem dX3_fewest_8 : decode cX3_fewest 8 = .ok (.iconst (-1), 1) := by decide +kernel
theorem dX3_fewest_9 : decode cX3_fewest 9 = .ok (.ireturn, 1) := by decide +kernel
theorem dX3_fewest_10 : decode cX3_fewest 10 = .ok (.aload_n 0, 1) := by decide +kernel
theorem dX3_fewest_11 : decode cX3_fewest 11 = .ok (.iload_n 1, 1) := by decide +kernel
theorem dX3_fewest_12 : decode cX3_fewest 12 = .ok (.iload_n 1, 1) := by decide +kernel
theorem dX3_fewest_13 : decode cX3_fewest 13 = .ok (.iconst 1, 1) := by decide +kernel
theorem dX3_fewest_14 : decode cX3_fewest 14 = .ok (.iadd, 1) := by decide +kernel
theorem dX3_fewest_15 : decode cX3_fewest 15 = .ok (.invokevirtual 161, 3) := by decide +kernel
theorem dX3_fewest_18 : decode cX3_fewest 18 = .ok (.ireturn, 1) := by decide +kernel
theorem dX3_posts_0 : decode cX3_posts 0 = .ok (.aload_n 0, 1) := by decide +kernel
theorem dX3_posts_1 : decode cX3_posts 1 = .ok (.iconst 0, 1) := by decide +kernel
theorem dX3_posts_2 : decode cX3_posts 2 = .ok (.aload_n 0, 1) := by decide +kernel
theorem dX3_posts_3 : decode cX3_posts 3 = .ok (.getfield 51, 3) := by decide +kernel
theorem dX3_posts_6 : decode cX3_posts 6 = .ok (.invokevirtual 161, 3) := by decide +kernel
theorem dX3_posts_9 : decode cX3_posts 9 = .ok (.ireturn, 1) := by decide +kernel
theorem dX3_many_0 : decode cX3_many 0 = .ok (.iload_n 1, 1) := by decide +kernel
theorem dX3_many_1 : decode cX3_many 1 = .ok (.tableswitch 90 0 6 #[43, 51, 59, 64, 72, 77, 85], 43) := by decide +kernel
theorem dX3_many_44 : decode cX3_many 44 = .ok (.aload_n 0, 1) := by decide +kernel
theorem dX3_many_45 : decode cX3_many 45 = .ok (.getfield 12, 3) := by decide +kernel
theorem dX3_many_48 : decode cX3_many 48 = .ok (.getfield 78, 3) := by decide +kernel
theorem dX3_many_51 : decode cX3_many 51 = .ok (.ireturn, 1) := by decide +kernel
theorem dX3_many_52 : decode cX3_many 52 = .ok (.aload_n 0, 1) := by decide +kernel
theorem dX3_many_53 : decode cX3_many 53 = .ok (.getfield 12, 3) := by decide +kernel
theorem dX3_many_56 : decode cX3_many 56 = .ok (.invokevirtual 165, 3) := by decide +kernel
theorem dX3_many_59 : decode cX3_many 59 = .ok (.ireturn, 1) := by decide +kernel
theorem dX3_many_60 : decode cX3_many 60 = .ok (.aload_n 0, 1) := by decide +kernel
theorem dX3_many_61 : decode cX3_many 61 = .ok (.getfield 51, 3) := by decide +kernel
theorem dX3_many_64 : decode cX3_many 64 = .ok (.ireturn, 1) := by decide +kernel
theorem dX3_many_65 : decode cX3_many 65 = .ok (.aload_n 0, 1) := by decide +kernel
theorem dX3_many_66 : decode cX3_many 66 = .ok (.getfield 55, 3) := by decide +kernel
theorem dX3_many_69 : decode cX3_many 69 = .ok (.invokestatic 168, 3) := by decide +kernel
theorem dX3_many_72 : decode cX3_many 72 = .ok (.ireturn, 1) := by decide +kernel
theorem dX3_many_73 : decode cX3_many 73 = .ok (.aload_n 0, 1) := by decide +kernel
theorem dX3_many_74 : decode cX3_many 74 = .ok (.invokevirtual 173, 3) := by decide +kernel
theorem dX3_many_77 : decode cX3_many 77 = .ok (.ireturn, 1) := by decide +kernel
theorem dX3_many_78 : decode cX3_many 78 = .ok (.aload_n 0, 1) := by decide +kernel
theorem dX3_many_79 : decode cX3_many 79 = .ok (.invokevirtual 176, 3) := by decide +kernel
theorem dX3_many_82 : decode cX3_many 82 = .ok (.invokestatic 168, 3) := by decide +kernel
theorem dX3_many_85 : decode cX3_many 85 = .ok (.ireturn, 1) := by decide +kernel
theorem dX3_many_86 : decode cX3_many 86 = .ok (.aload_n 0, 1) := by decide +kernel
theorem dX3_many_87 : decode cX3_many 87 = .ok (.getfield 58, 3) := by decide +kernel
theorem dX3_many_90 : decode cX3_many 90 = .ok (.ireturn, 1) := by decide +kernel
theorem dX3_many_91 : decode cX3_many 91 = .ok (.bipush (-2), 2) := by decide +kernel
theorem dX3_many_93 : decode cX3_many 93 = .ok (.ireturn, 1) := by decide +kernel
theorem dX3_isPlace_0 : decode cX3_isPlace 0 = .ok (.iload_n 0, 1) := by decide +kernel
theorem dX3_isPlace_1 : decode cX3_isPlace 1 = .ok (.ifCond .lt 13, 3) := by decide +kernel
theorem dX3_isPlace_4 : decode cX3_isPlace 4 = .ok (.iload_n 0, 1) := by decide +kernel
theorem dX3_isPlace_5 : decode cX3_isPlace 5 = .ok (.bipush 10, 2) := by decide +kernel
theorem dX3_isPlace_7 : decode cX3_isPlace 7 = .ok (.if_icmp .ge 7, 3) := by decide +kernel
theorem dX3_isPlace_10 : decode cX3_isPlace 10 = .ok (.iconst 1, 1) := by decide +kernel
theorem dX3_isPlace_11 : decode cX3_isPlace 11 = .ok (.goto 4, 3) := by decide +kernel
theorem dX3_isPlace_14 : decode cX3_isPlace 14 = .ok (.iconst 0, 1) := by decide +kernel
theorem dX3_isPlace_15 : decode cX3_isPlace 15 = .ok (.ireturn, 1) := by decide +kernel
theorem dX3_isEnding_0 : decode cX3_isEnding 0 = .ok (.iload_n 0, 1) := by decide +kernel
theorem dX3_isEnding_1 : decode cX3_isEnding 1 = .ok (.ifCond .lt 12, 3) := by decide +kernel
theorem dX3_isEnding_4 : decode cX3_isEnding 4 = .ok (.iload_n 0, 1) := by decide +kernel
theorem dX3_isEnding_5 : decode cX3_isEnding 5 = .ok (.iconst 4, 1) := by decide +kernel
theorem dX3_isEnding_6 : decode cX3_isEnding 6 = .ok (.if_icmp .gt 7, 3) := by decide +kernel
theorem dX3_isEnding_9 : decode cX3_isEnding 9 = .ok (.iconst 1, 1) := by decide +kernel
theorem dX3_isEnding_10 : decode cX3_isEnding 10 = .ok (.goto 4, 3) := by decide +kernel
theorem dX3_isEnding_13 : decode cX3_isEnding 13 = .ok (.iconst 0, 1) := by decide +kernel
theorem dX3_isEnding_14 : decode cX3_isEnding 14 = .ok (.ireturn, 1) := by decide +kernel
theorem dX3_holds_0 : decode cX3_holds 0 = .ok (.iload_n 0, 1) := by decide +kernel
theorem dX3_holds_1 : decode cX3_holds 1 = .ok (.iload_n 1, 1) := by decide +kernel
theorem dX3_holds_2 : decode cX3_holds 2 = .ok (.ishr, 1) := by decide +kernel
theorem dX3_holds_3 : decode cX3_holds 3 = .ok (.iconst 1, 1) := by decide +kernel
theorem dX3_holds_4 : decode cX3_holds 4 = .ok (.iand, 1) := by decide +kernel
theorem dX3_holds_5 : decode cX3_holds 5 = .ok (.ifCond .eq 7, 3) := by decide +kernel
theorem dX3_holds_8 : decode cX3_holds 8 = .ok (.iconst 1, 1) := by decide +kernel
theorem dX3_holds_9 : decode cX3_holds 9 = .ok (.goto 4, 3) := by decide +kernel
theorem dX3_holds_12 : decode cX3_holds 12 = .ok (.iconst 0, 1) := by decide +kernel
theorem dX3_holds_13 : decode cX3_holds 13 = .ok (.ireturn, 1) := by decide +kernel
theorem dX3_isName_0 : decode cX3_isName 0 = .ok (.iload_n 1, 1) := by decide +kernel
theorem dX3_isName_1 : decode cX3_isName 1 = .ok (.ifCond .lt 15, 3) := by decide +kernel
theorem dX3_isName_4 : decode cX3_isName 4 = .ok (.iload_n 1, 1) := by decide +kernel
theorem dX3_isName_5 : decode cX3_isName 5 = .ok (.aload_n 0, 1) := by decide +kernel
theorem dX3_isName_6 : decode cX3_isName 6 = .ok (.getfield 51, 3) := by decide +kernel
theorem dX3_isName_9 : decode cX3_isName 9 = .ok (.if_icmp .ge 7, 3) := by decide +kernel
theorem dX3_isName_12 : decode cX3_isName 12 = .ok (.iconst 1, 1) := by decide +kernel
theorem dX3_isName_13 : decode cX3_isName 13 = .ok (.goto 4, 3) := by decide +kernel
theorem dX3_isName_16 : decode cX3_isName 16 = .ok (.iconst 0, 1) := by decide +kernel
theorem dX3_isName_17 : decode cX3_isName 17 = .ok (.ireturn, 1) := by decide +kernel
theorem dX3_countBoards_0 : decode cX3_countBoards 0 = .ok (.iconst 0, 1) := by decide +kernel
theorem dX3_countBoards_1 : decode cX3_countBoards 1 = .ok (.istore_n 1, 1) := by decide +kernel
theorem dX3_countBoards_2 : decode cX3_countBoards 2 = .ok (.iconst 0, 1) := by decide +kernel
theorem dX3_countBoards_3 : decode cX3_countBoards 3 = .ok (.istore_n 2, 1) := by decide +kernel
theorem dX3_countBoards_4 : decode cX3_countBoards 4 = .ok (.iload_n 2, 1) := by decide +kernel
theorem dX3_countBoards_5 : decode cX3_countBoards 5 = .ok (.aload_n 0, 1) := by decide +kernel
theorem dX3_countBoards_6 : decode cX3_countBoards 6 = .ok (.getfield 51, 3) := by decide +kernel
theorem dX3_countBoards_9 : decode cX3_countBoards 9 = .ok (.if_icmp .ge 20, 3) := by decide +kernel
theorem dX3_countBoards_12 : decode cX3_countBoards 12 = .ok (.iload_n 1, 1) := by decide +kernel
theorem dX3_countBoards_13 : decode cX3_countBoards 13 = .ok (.aload_n 0, 1) := by decide +kernel
theorem dX3_countBoards_14 : decode cX3_countBoards 14 = .ok (.iload_n 2, 1) := by decide +kernel
theorem dX3_countBoards_15 : decode cX3_countBoards 15 = .ok (.invokevirtual 179, 3) := by decide +kernel
theorem dX3_countBoards_18 : decode cX3_countBoards 18 = .ok (.invokestatic 168, 3) := by decide +kernel
theorem dX3_countBoards_21 : decode cX3_countBoards 21 = .ok (.iadd, 1) := by decide +kernel
theorem dX3_countBoards_22 : decode cX3_countBoards 22 = .ok (.istore_n 1, 1) := by decide +kernel
theorem dX3_countBoards_23 : decode cX3_countBoards 23 = .ok (.iinc 2 1, 3) := by decide +kernel
theorem dX3_countBoards_26 : decode cX3_countBoards 26 = .ok (.goto (-22), 3) := by decide +kernel
theorem dX3_countBoards_29 : decode cX3_countBoards 29 = .ok (.iload_n 1, 1) := by decide +kernel
theorem dX3_countBoards_30 : decode cX3_countBoards 30 = .ok (.ireturn, 1) := by decide +kernel
theorem dX3_boardedPlaces_0 : decode cX3_boardedPlaces 0 = .ok (.iconst 0, 1) := by decide +kernel
theorem dX3_boardedPlaces_1 : decode cX3_boardedPlaces 1 = .ok (.istore_n 1, 1) := by decide +kernel
theorem dX3_boardedPlaces_2 : decode cX3_boardedPlaces 2 = .ok (.iconst 0, 1) := by decide +kernel
theorem dX3_boardedPlaces_3 : decode cX3_boardedPlaces 3 = .ok (.istore_n 2, 1) := by decide +kernel
theorem dX3_boardedPlaces_4 : decode cX3_boardedPlaces 4 = .ok (.iload_n 2, 1) := by decide +kernel
theorem dX3_boardedPlaces_5 : decode cX3_boardedPlaces 5 = .ok (.aload_n 0, 1) := by decide +kernel
theorem dX3_boardedPlaces_6 : decode cX3_boardedPlaces 6 = .ok (.getfield 51, 3) := by decide +kernel
theorem dX3_boardedPlaces_9 : decode cX3_boardedPlaces 9 = .ok (.if_icmp .ge 17, 3) := by decide +kernel
theorem dX3_boardedPlaces_12 : decode cX3_boardedPlaces 12 = .ok (.iload_n 1, 1) := by decide +kernel
theorem dX3_boardedPlaces_13 : decode cX3_boardedPlaces 13 = .ok (.aload_n 0, 1) := by decide +kernel
theorem dX3_boardedPlaces_14 : decode cX3_boardedPlaces 14 = .ok (.iload_n 2, 1) := by decide +kernel
theorem dX3_boardedPlaces_15 : decode cX3_boardedPlaces 15 = .ok (.invokevirtual 179, 3) := by decide +kernel
theorem dX3_boardedPlaces_18 : decode cX3_boardedPlaces 18 = .ok (.ior, 1) := by decide +kernel
theorem dX3_boardedPlaces_19 : decode cX3_boardedPlaces 19 = .ok (.istore_n 1, 1) := by decide +kernel
theorem dX3_boardedPlaces_20 : decode cX3_boardedPlaces 20 = .ok (.iinc 2 1, 3) := by decide +kernel
theorem dX3_boardedPlaces_23 : decode cX3_boardedPlaces 23 = .ok (.goto (-19), 3) := by decide +kernel
theorem dX3_boardedPlaces_26 : decode cX3_boardedPlaces 26 = .ok (.iload_n 1, 1) := by decide +kernel
theorem dX3_boardedPlaces_27 : decode cX3_boardedPlaces 27 = .ok (.ireturn, 1) := by decide +kernel
theorem dX3_boardedFor_0 : decode cX3_boardedFor 0 = .ok (.iconst 0, 1) := by decide +kernel
theorem dX3_boardedFor_1 : decode cX3_boardedFor 1 = .ok (.istore_n 2, 1) := by decide +kernel
theorem dX3_boardedFor_2 : decode cX3_boardedFor 2 = .ok (.iconst 0, 1) := by decide +kernel
theorem dX3_boardedFor_3 : decode cX3_boardedFor 3 = .ok (.istore_n 3, 1) := by decide +kernel
theorem dX3_boardedFor_4 : decode cX3_boardedFor 4 = .ok (.iload_n 3, 1) := by decide +kernel
theorem dX3_boardedFor_5 : decode cX3_boardedFor 5 = .ok (.bipush 10, 2) := by decide +kernel
theorem dX3_boardedFor_7 : decode cX3_boardedFor 7 = .ok (.if_icmp .ge 28, 3) := by decide +kernel
theorem dX3_boardedFor_10 : decode cX3_boardedFor 10 = .ok (.aload_n 0, 1) := by decide +kernel
theorem dX3_boardedFor_11 : decode cX3_boardedFor 11 = .ok (.getfield 39, 3) := by decide +kernel
theorem dX3_boardedFor_14 : decode cX3_boardedFor 14 = .ok (.iload_n 1, 1) := by decide +kernel
theorem dX3_boardedFor_15 : decode cX3_boardedFor 15 = .ok (.aaload, 1) := by decide +kernel
theorem dX3_boardedFor_16 : decode cX3_boardedFor 16 = .ok (.iload_n 3, 1) := by decide +kernel
theorem dX3_boardedFor_17 : decode cX3_boardedFor 17 = .ok (.iaload, 1) := by decide +kernel
theorem dX3_boardedFor_18 : decode cX3_boardedFor 18 = .ok (.bipush (-9), 2) := by decide +kernel
theorem dX3_boardedFor_20 : decode cX3_boardedFor 20 = .ok (.if_icmp .eq 9, 3) := by decide +kernel
theorem dX3_boardedFor_23 : decode cX3_boardedFor 23 = .ok (.iload_n 2, 1) := by decide +kernel
theorem dX3_boardedFor_24 : decode cX3_boardedFor 24 = .ok (.iconst 1, 1) := by decide +kernel
theorem dX3_boardedFor_25 : decode cX3_boardedFor 25 = .ok (.iload_n 3, 1) := by decide +kernel
theorem dX3_boardedFor_26 : decode cX3_boardedFor 26 = .ok (.ishl, 1) := by decide +kernel
theorem dX3_boardedFor_27 : decode cX3_boardedFor 27 = .ok (.ior, 1) := by decide +kernel
theorem dX3_boardedFor_28 : decode cX3_boardedFor 28 = .ok (.istore_n 2, 1) := by decide +kernel
theorem dX3_boardedFor_29 : decode cX3_boardedFor 29 = .ok (.iinc 3 1, 3) := by decide +kernel
theorem dX3_boardedFor_32 : decode cX3_boardedFor 32 = .ok (.goto (-28), 3) := by decide +kernel
theorem dX3_boardedFor_35 : decode cX3_boardedFor 35 = .ok (.iload_n 2, 1) := by decide +kernel
theorem dX3_boardedFor_36 : decode cX3_boardedFor 36 = .ok (.ireturn, 1) := by decide +kernel
theorem dX3_countEndings_0 : decode cX3_countEndings 0 = .ok (.iconst 0, 1) := by decide +kernel
theorem dX3_countEndings_1 : decode cX3_countEndings 1 = .ok (.istore 4, 2) := by decide +kernel
theorem dX3_countEndings_3 : decode cX3_countEndings 3 = .ok (.iconst 0, 1) := by decide +kernel
theorem dX3_countEndings_4 : decode cX3_countEndings 4 = .ok (.istore 5, 2) := by decide +kernel
theorem dX3_countEndings_6 : decode cX3_countEndings 6 = .ok (.iload 5, 2) := by decide +kernel
theorem dX3_countEndings_8 : decode cX3_countEndings 8 = .ok (.bipush 10, 2) := by decide +kernel
theorem dX3_countEndings_10 : decode cX3_countEndings 10 = .ok (.if_icmp .ge 55, 3) := by decide +kernel
theorem dX3_countEndings_13 : decode cX3_countEndings 13 = .ok (.aload_n 0, 1) := by decide +kernel
theorem dX3_countEndings_14 : decode cX3_countEndings 14 = .ok (.getfield 55, 3) := by decide +kernel
theorem dX3_countEndings_17 : decode cX3_countEndings 17 = .ok (.iload 5, 2) := by decide +kernel
theorem dX3_countEndings_19 : decode cX3_countEndings 19 = .ok (.invokestatic 112, 3) := by decide +kernel
theorem dX3_countEndings_22 : decode cX3_countEndings 22 = .ok (.ifCond .eq 37, 3) := by decide +kernel
theorem dX3_countEndings_25 : decode cX3_countEndings 25 = .ok (.aload_n 0, 1) := by decide +kernel
theorem dX3_countEndings_26 : decode cX3_countEndings 26 = .ok (.getfield 26, 3) := by decide +kernel
theorem dX3_countEndings_29 : decode cX3_countEndings 29 = .ok (.aload_n 0, 1) := by decide +kernel
theorem dX3_countEndings_30 : decode cX3_countEndings 30 = .ok (.getfield 12, 3) := by decide +kernel
theorem dX3_countEndings_33 : decode cX3_countEndings 33 = .ok (.iload 5, 2) := by decide +kernel
theorem dX3_countEndings_35 : decode cX3_countEndings 35 = .ok (.aload_n 0, 1) := by decide +kernel
theorem dX3_countEndings_36 : decode cX3_countEndings 36 = .ok (.getfield 33, 3) := by decide +kernel
theorem dX3_countEndings_39 : decode cX3_countEndings 39 = .ok (.iload_n 1, 1) := by decide +kernel
theorem dX3_countEndings_40 : decode cX3_countEndings 40 = .ok (.iaload, 1) := by decide +kernel
theorem dX3_countEndings_41 : decode cX3_countEndings 41 = .ok (.aload_n 2, 1) := by decide +kernel
theorem dX3_countEndings_42 : decode cX3_countEndings 42 = .ok (.invokevirtual 128, 3) := by decide +kernel
theorem dX3_countEndings_45 : decode cX3_countEndings 45 = .ok (.aload_n 0, 1) := by decide +kernel
theorem dX3_countEndings_46 : decode cX3_countEndings 46 = .ok (.getfield 26, 3) := by decide +kernel
theorem dX3_countEndings_49 : decode cX3_countEndings 49 = .ok (.getfield 132, 3) := by decide +kernel
theorem dX3_countEndings_52 : decode cX3_countEndings 52 = .ok (.iload_n 3, 1) := by decide +kernel
theorem dX3_countEndings_53 : decode cX3_countEndings 53 = .ok (.if_icmp .ne 6, 3) := by decide +kernel
theorem dX3_countEndings_56 : decode cX3_countEndings 56 = .ok (.iinc 4 1, 3) := by decide +kernel
theorem dX3_countEndings_59 : decode cX3_countEndings 59 = .ok (.iinc 5 1, 3) := by decide +kernel
theorem dX3_countEndings_62 : decode cX3_countEndings 62 = .ok (.goto (-56), 3) := by decide +kernel
theorem dX3_countEndings_65 : decode cX3_countEndings 65 = .ok (.iload 4, 2) := by decide +kernel
theorem dX3_countEndings_67 : decode cX3_countEndings 67 = .ok (.ireturn, 1) := by decide +kernel
theorem dX3_isIdle_0 : decode cX3_isIdle 0 = .ok (.aload_n 0, 1) := by decide +kernel
theorem dX3_isIdle_1 : decode cX3_isIdle 1 = .ok (.getfield 39, 3) := by decide +kernel
theorem dX3_isIdle_4 : decode cX3_isIdle 4 = .ok (.iload_n 2, 1) := by decide +kernel
theorem dX3_isIdle_5 : decode cX3_isIdle 5 = .ok (.aaload, 1) := by decide +kernel
theorem dX3_isIdle_6 : decode cX3_isIdle 6 = .ok (.iconst 0, 1) := by decide +kernel
theorem dX3_isIdle_7 : decode cX3_isIdle 7 = .ok (.aload_n 0, 1) := by decide +kernel
theorem dX3_isIdle_8 : decode cX3_isIdle 8 = .ok (.getfield 48, 3) := by decide +kernel
theorem dX3_isIdle_11 : decode cX3_isIdle 11 = .ok (.iconst 0, 1) := by decide +kernel
theorem dX3_isIdle_12 : decode cX3_isIdle 12 = .ok (.bipush 10, 2) := by decide +kernel
theorem dX3_isIdle_14 : decode cX3_isIdle 14 = .ok (.invokestatic 182, 3) := by decide +kernel
theorem dX3_isIdle_17 : decode cX3_isIdle 17 = .ok (.aload_n 0, 1) := by decide +kernel
theorem dX3_isIdle_18 : decode cX3_isIdle 18 = .ok (.getfield 48, 3) := by decide +kernel
theorem dX3_isIdle_21 : decode cX3_isIdle 21 = .ok (.iload_n 1, 1) := by decide +kernel
theorem dX3_isIdle_22 : decode cX3_isIdle 22 = .ok (.bipush (-9), 2) := by decide +kernel
theorem dX3_isIdle_24 : decode cX3_isIdle 24 = .ok (.iastore, 1) := by decide +kernel
theorem dX3_isIdle_25 : decode cX3_isIdle 25 = .ok (.iconst 0, 1) := by decide +kernel
theorem dX3_isIdle_26 : decode cX3_isIdle 26 = .ok (.istore_n 3, 1) := by decide +kernel
theorem dX3_isIdle_27 : decode cX3_isIdle 27 = .ok (.iload_n 3, 1) := by decide +kernel
theorem dX3_isIdle_28 : decode cX3_isIdle 28 = .ok (.bipush 10, 2) := by decide +kernel
theorem dX3_isIdle_30 : decode cX3_isIdle 30 = .ok (.if_icmp .ge 82, 3) := by decide +kernel
theorem dX3_isIdle_33 : decode cX3_isIdle 33 = .ok (.aload_n 0, 1) := by decide +kernel
theorem dX3_isIdle_34 : decode cX3_isIdle 34 = .ok (.getfield 55, 3) := by decide +kernel
theorem dX3_isIdle_37 : decode cX3_isIdle 37 = .ok (.iload_n 3, 1) := by decide +kernel
theorem dX3_isIdle_38 : decode cX3_isIdle 38 = .ok (.invokestatic 112, 3) := by decide +kernel
theorem dX3_isIdle_41 : decode cX3_isIdle 41 = .ok (.ifCond .eq 65, 3) := by decide +kernel
theorem dX3_isIdle_44 : decode cX3_isIdle 44 = .ok (.aload_n 0, 1) := by decide +kernel
theorem dX3_isIdle_45 : decode cX3_isIdle 45 = .ok (.getfield 26, 3) := by decide +kernel
theorem dX3_isIdle_48 : decode cX3_isIdle 48 = .ok (.aload_n 0, 1) := by decide +kernel
theorem dX3_isIdle_49 : decode cX3_isIdle 49 = .ok (.getfield 12, 3) := by decide +kernel
theorem dX3_isIdle_52 : decode cX3_isIdle 52 = .ok (.iload_n 3, 1) := by decide +kernel
theorem dX3_isIdle_53 : decode cX3_isIdle 53 = .ok (.aload_n 0, 1) := by decide +kernel
theorem dX3_isIdle_54 : decode cX3_isIdle 54 = .ok (.getfield 33, 3) := by decide +kernel
theorem dX3_isIdle_57 : decode cX3_isIdle 57 = .ok (.iload_n 2, 1) := by decide +kernel
theorem dX3_isIdle_58 : decode cX3_isIdle 58 = .ok (.iaload, 1) := by decide +kernel
theorem dX3_isIdle_59 : decode cX3_isIdle 59 = .ok (.aload_n 0, 1) := by decide +kernel
theorem dX3_isIdle_60 : decode cX3_isIdle 60 = .ok (.getfield 39, 3) := by decide +kernel
theorem dX3_isIdle_63 : decode cX3_isIdle 63 = .ok (.iload_n 2, 1) := by decide +kernel
theorem dX3_isIdle_64 : decode cX3_isIdle 64 = .ok (.aaload, 1) := by decide +kernel
theorem dX3_isIdle_65 : decode cX3_isIdle 65 = .ok (.invokevirtual 128, 3) := by decide +kernel
theorem dX3_isIdle_68 : decode cX3_isIdle 68 = .ok (.aload_n 0, 1) := by decide +kernel
theorem dX3_isIdle_69 : decode cX3_isIdle 69 = .ok (.getfield 30, 3) := by decide +kernel
theorem dX3_isIdle_72 : decode cX3_isIdle 72 = .ok (.aload_n 0, 1) := by decide +kernel
theorem dX3_isIdle_73 : decode cX3_isIdle 73 = .ok (.getfield 12, 3) := by decide +kernel
theorem dX3_isIdle_76 : decode cX3_isIdle 76 = .ok (.iload_n 3, 1) := by decide +kernel
theorem dX3_isIdle_77 : decode cX3_isIdle 77 = .ok (.aload_n 0, 1) := by decide +kernel
theorem dX3_isIdle_78 : decode cX3_isIdle 78 = .ok (.getfield 33, 3) := by decide +kernel
theorem dX3_isIdle_81 : decode cX3_isIdle 81 = .ok (.iload_n 2, 1) := by decide +kernel
theorem dX3_isIdle_82 : decode cX3_isIdle 82 = .ok (.iaload, 1) := by decide +kernel
theorem dX3_isIdle_83 : decode cX3_isIdle 83 = .ok (.aload_n 0, 1) := by decide +kernel
theorem dX3_isIdle_84 : decode cX3_isIdle 84 = .ok (.getfield 48, 3) := by decide +kernel
theorem dX3_isIdle_87 : decode cX3_isIdle 87 = .ok (.invokevirtual 128, 3) := by decide +kernel
theorem dX3_isIdle_90 : decode cX3_isIdle 90 = .ok (.aload_n 0, 1) := by decide +kernel
theorem dX3_isIdle_91 : decode cX3_isIdle 91 = .ok (.getfield 26, 3) := by decide +kernel
theorem dX3_isIdle_94 : decode cX3_isIdle 94 = .ok (.aload_n 0, 1) := by decide +kernel
theorem dX3_isIdle_95 : decode cX3_isIdle 95 = .ok (.getfield 30, 3) := by decide +kernel
theorem dX3_isIdle_98 : decode cX3_isIdle 98 = .ok (.invokevirtual 188, 3) := by decide +kernel
theorem dX3_isIdle_101 : decode cX3_isIdle 101 = .ok (.ifCond .ne 5, 3) := by decide +kernel
theorem dX3_isIdle_104 : decode cX3_isIdle 104 = .ok (.iconst 0, 1) := by decide +kernel
theorem dX3_isIdle_105 : decode cX3_isIdle 105 = .ok (.ireturn, 1) := by decide +kernel
theorem dX3_isIdle_106 : decode cX3_isIdle 106 = .ok (.iinc 3 1, 3) := by decide +kernel
theorem dX3_isIdle_109 : decode cX3_isIdle 109 = .ok (.goto (-82), 3) := by decide +kernel
theorem dX3_isIdle_112 : decode cX3_isIdle 112 = .ok (.iconst 1, 1) := by decide +kernel
theorem dX3_isIdle_113 : decode cX3_isIdle 113 = .ok (.ireturn, 1) := by decide +kernel
theorem dX3_findMend_0 : decode cX3_findMend 0 = .ok (.aload_n 0, 1) := by decide +kernel
theorem dX3_findMend_1 : decode cX3_findMend 1 = .ok (.iconst 0, 1) := by decide +kernel
theorem dX3_findMend_2 : decode cX3_findMend 2 = .ok (.invokevirtual 192, 3) := by decide +kernel
theorem dX3_findMend_5 : decode cX3_findMend 5 = .ok (.istore_n 1, 1) := by decide +kernel
theorem dX3_findMend_6 : decode cX3_findMend 6 = .ok (.aload_n 0, 1) := by decide +kernel
theorem dX3_findMend_7 : decode cX3_findMend 7 = .ok (.bipush (-9), 2) := by decide +kernel
theorem dX3_findMend_9 : decode cX3_findMend 9 = .ok (.putfield 61, 3) := by decide +kernel
theorem dX3_findMend_12 : decode cX3_findMend 12 = .ok (.aload_n 0, 1) := by decide +kernel
theorem dX3_findMend_13 : decode cX3_findMend 13 = .ok (.bipush (-9), 2) := by decide +kernel
theorem dX3_findMend_15 : decode cX3_findMend 15 = .ok (.putfield 64, 3) := by decide +kernel
theorem dX3_findMend_18 : decode cX3_findMend 18 = .ok (.aload_n 0, 1) := by decide +kernel
theorem dX3_findMend_19 : decode cX3_findMend 19 = .ok (.bipush (-9), 2) := by decide +kernel
theorem dX3_findMend_21 : decode cX3_findMend 21 = .ok (.putfield 67, 3) := by decide +kernel
theorem dX3_findMend_24 : decode cX3_findMend 24 = .ok (.iconst 0, 1) := by decide +kernel
theorem dX3_findMend_25 : decode cX3_findMend 25 = .ok (.istore_n 2, 1) := by decide +kernel
theorem dX3_findMend_26 : decode cX3_findMend 26 = .ok (.iload_n 2, 1) := by decide +kernel
theorem dX3_findMend_27 : decode cX3_findMend 27 = .ok (.aload_n 0, 1) := by decide +kernel
theorem dX3_findMend_28 : decode cX3_findMend 28 = .ok (.getfield 51, 3) := by decide +kernel
theorem dX3_findMend_31 : decode cX3_findMend 31 = .ok (.if_icmp .ge 163, 3) := by decide +kernel
theorem dX3_findMend_34 : decode cX3_findMend 34 = .ok (.aload_n 0, 1) := by decide +kernel
theorem dX3_findMend_35 : decode cX3_findMend 35 = .ok (.getfield 19, 3) := by decide +kernel
theorem dX3_findMend_38 : decode cX3_findMend 38 = .ok (.aload_n 0, 1) := by decide +kernel
theorem dX3_findMend_39 : decode cX3_findMend 39 = .ok (.getfield 12, 3) := by decide +kernel
theorem dX3_findMend_42 : decode cX3_findMend 42 = .ok (.iload_n 2, 1) := by decide +kernel
theorem dX3_findMend_43 : decode cX3_findMend 43 = .ok (.aload_n 0, 1) := by decide +kernel
theorem dX3_findMend_44 : decode cX3_findMend 44 = .ok (.getfield 33, 3) := by decide +kernel
theorem dX3_findMend_47 : decode cX3_findMend 47 = .ok (.iload_n 2, 1) := by decide +kernel
theorem dX3_findMend_48 : decode cX3_findMend 48 = .ok (.iaload, 1) := by decide +kernel
theorem dX3_findMend_49 : decode cX3_findMend 49 = .ok (.invokevirtual 115, 3) := by decide +kernel
theorem dX3_findMend_52 : decode cX3_findMend 52 = .ok (.iload_n 1, 1) := by decide +kernel
theorem dX3_findMend_53 : decode cX3_findMend 53 = .ok (.aload_n 0, 1) := by decide +kernel
theorem dX3_findMend_54 : decode cX3_findMend 54 = .ok (.iload_n 2, 1) := by decide +kernel
theorem dX3_findMend_55 : decode cX3_findMend 55 = .ok (.aload_n 0, 1) := by decide +kernel
theorem dX3_findMend_56 : decode cX3_findMend 56 = .ok (.getfield 39, 3) := by decide +kernel
theorem dX3_findMend_59 : decode cX3_findMend 59 = .ok (.iload_n 2, 1) := by decide +kernel
theorem dX3_findMend_60 : decode cX3_findMend 60 = .ok (.aaload, 1) := by decide +kernel
theorem dX3_findMend_61 : decode cX3_findMend 61 = .ok (.iconst 0, 1) := by decide +kernel
theorem dX3_findMend_62 : decode cX3_findMend 62 = .ok (.invokevirtual 148, 3) := by decide +kernel
theorem dX3_findMend_65 : decode cX3_findMend 65 = .ok (.isub, 1) := by decide +kernel
theorem dX3_findMend_66 : decode cX3_findMend 66 = .ok (.istore_n 3, 1) := by decide +kernel
theorem dX3_findMend_67 : decode cX3_findMend 67 = .ok (.aload_n 0, 1) := by decide +kernel
theorem dX3_findMend_68 : decode cX3_findMend 68 = .ok (.getfield 39, 3) := by decide +kernel
theorem dX3_findMend_71 : decode cX3_findMend 71 = .ok (.iload_n 2, 1) := by decide +kernel
theorem dX3_findMend_72 : decode cX3_findMend 72 = .ok (.aaload, 1) := by decide +kernel
theorem dX3_findMend_73 : decode cX3_findMend 73 = .ok (.iconst 0, 1) := by decide +kernel
theorem dX3_findMend_74 : decode cX3_findMend 74 = .ok (.aload_n 0, 1) := by decide +kernel
theorem dX3_findMend_75 : decode cX3_findMend 75 = .ok (.getfield 48, 3) := by decide +kernel
theorem dX3_findMend_78 : decode cX3_findMend 78 = .ok (.iconst 0, 1) := by decide +kernel
theorem dX3_findMend_79 : decode cX3_findMend 79 = .ok (.bipush 10, 2) := by decide +kernel
theorem dX3_findMend_81 : decode cX3_findMend 81 = .ok (.invokestatic 182, 3) := by decide +kernel
theorem dX3_findMend_84 : decode cX3_findMend 84 = .ok (.iconst 0, 1) := by decide +kernel
theorem dX3_findMend_85 : decode cX3_findMend 85 = .ok (.istore 4, 2) := by decide +kernel
theorem dX3_findMend_87 : decode cX3_findMend 87 = .ok (.iload 4, 2) := by decide +kernel
theorem dX3_findMend_89 : decode cX3_findMend 89 = .ok (.bipush 10, 2) := by decide +kernel
theorem dX3_findMend_91 : decode cX3_findMend 91 = .ok (.if_icmp .ge 97, 3) := by decide +kernel
theorem dX3_findMend_94 : decode cX3_findMend 94 = .ok (.aload_n 0, 1) := by decide +kernel
theorem dX3_findMend_95 : decode cX3_findMend 95 = .ok (.getfield 39, 3) := by decide +kernel
theorem dX3_findMend_98 : decode cX3_findMend 98 = .ok (.iload_n 2, 1) := by decide +kernel
theorem dX3_findMend_99 : decode cX3_findMend 99 = .ok (.aaload, 1) := by decide +kernel
theorem dX3_findMend_100 : decode cX3_findMend 100 = .ok (.iload 4, 2) := by decide +kernel
theorem dX3_findMend_102 : decode cX3_findMend 102 = .ok (.iaload, 1) := by decide +kernel
theorem dX3_findMend_103 : decode cX3_findMend 103 = .ok (.bipush (-9), 2) := by decide +kernel
theorem dX3_findMend_105 : decode cX3_findMend 105 = .ok (.if_icmp .ne 77, 3) := by decide +kernel
theorem dX3_findMend_108 : decode cX3_findMend 108 = .ok (.aload_n 0, 1) := by decide +kernel
theorem dX3_findMend_109 : decode cX3_findMend 109 = .ok (.getfield 19, 3) := by decide +kernel
theorem dX3_findMend_112 : decode cX3_findMend 112 = .ok (.getfield 195, 3) := by decide +kernel
theorem dX3_findMend_115 : decode cX3_findMend 115 = .ok (.iload_n 2, 1) := by decide +kernel
theorem dX3_findMend_116 : decode cX3_findMend 116 = .ok (.iaload, 1) := by decide +kernel
theorem dX3_findMend_117 : decode cX3_findMend 117 = .ok (.iload 4, 2) := by decide +kernel
theorem dX3_findMend_119 : decode cX3_findMend 119 = .ok (.invokestatic 112, 3) := by decide +kernel
theorem dX3_findMend_122 : decode cX3_findMend 122 = .ok (.ifCond .eq 60, 3) := by decide +kernel
theorem dX3_findMend_125 : decode cX3_findMend 125 = .ok (.aload_n 0, 1) := by decide +kernel
theorem dX3_findMend_126 : decode cX3_findMend 126 = .ok (.getfield 48, 3) := by decide +kernel
theorem dX3_findMend_129 : decode cX3_findMend 129 = .ok (.iload 4, 2) := by decide +kernel
theorem dX3_findMend_131 : decode cX3_findMend 131 = .ok (.aload_n 0, 1) := by decide +kernel
theorem dX3_findMend_132 : decode cX3_findMend 132 = .ok (.getfield 19, 3) := by decide +kernel
theorem dX3_findMend_135 : decode cX3_findMend 135 = .ok (.getfield 122, 3) := by decide +kernel
theorem dX3_findMend_138 : decode cX3_findMend 138 = .ok (.iload_n 2, 1) := by decide +kernel
theorem dX3_findMend_139 : decode cX3_findMend 139 = .ok (.aaload, 1) := by decide +kernel
theorem dX3_findMend_140 : decode cX3_findMend 140 = .ok (.iload 4, 2) := by decide +kernel
theorem dX3_findMend_142 : decode cX3_findMend 142 = .ok (.iaload, 1) := by decide +kernel
theorem dX3_findMend_143 : decode cX3_findMend 143 = .ok (.iastore, 1) := by decide +kernel
theorem dX3_findMend_144 : decode cX3_findMend 144 = .ok (.iload_n 3, 1) := by decide +kernel
theorem dX3_findMend_145 : decode cX3_findMend 145 = .ok (.aload_n 0, 1) := by decide +kernel
theorem dX3_findMend_146 : decode cX3_findMend 146 = .ok (.iload_n 2, 1) := by decide +kernel
theorem dX3_findMend_147 : decode cX3_findMend 147 = .ok (.aload_n 0, 1) := by decide +kernel
theorem dX3_findMend_148 : decode cX3_findMend 148 = .ok (.getfield 48, 3) := by decide +kernel
theorem dX3_findMend_151 : decode cX3_findMend 151 = .ok (.iconst 0, 1) := by decide +kernel
theorem dX3_findMend_152 : decode cX3_findMend 152 = .ok (.invokevirtual 148, 3) := by decide +kernel
theorem dX3_findMend_155 : decode cX3_findMend 155 = .ok (.iadd, 1) := by decide +kernel
theorem dX3_findMend_156 : decode cX3_findMend 156 = .ok (.istore 5, 2) := by decide +kernel
theorem dX3_findMend_158 : decode cX3_findMend 158 = .ok (.aload_n 0, 1) := by decide +kernel
theorem dX3_findMend_159 : decode cX3_findMend 159 = .ok (.getfield 48, 3) := by decide +kernel
theorem dX3_findMend_162 : decode cX3_findMend 162 = .ok (.iload 4, 2) := by decide +kernel
theorem dX3_findMend_164 : decode cX3_findMend 164 = .ok (.bipush (-9), 2) := by decide +kernel
theorem dX3_findMend_166 : decode cX3_findMend 166 = .ok (.iastore, 1) := by decide +kernel
theorem dX3_findMend_167 : decode cX3_findMend 167 = .ok (.iload 5, 2) := by decide +kernel
theorem dX3_findMend_169 : decode cX3_findMend 169 = .ok (.iload_n 1, 1) := by decide +kernel
theorem dX3_findMend_170 : decode cX3_findMend 170 = .ok (.if_icmp .le 12, 3) := by decide +kernel
theorem dX3_findMend_173 : decode cX3_findMend 173 = .ok (.aload_n 0, 1) := by decide +kernel
theorem dX3_findMend_174 : decode cX3_findMend 174 = .ok (.iload 4, 2) := by decide +kernel
theorem dX3_findMend_176 : decode cX3_findMend 176 = .ok (.iload_n 2, 1) := by decide +kernel
theorem dX3_findMend_177 : decode cX3_findMend 177 = .ok (.iload 5, 2) := by decide +kernel
theorem dX3_findMend_179 : decode cX3_findMend 179 = .ok (.invokevirtual 198, 3) := by decide +kernel
theorem dX3_findMend_182 : decode cX3_findMend 182 = .ok (.iinc 4 1, 3) := by decide +kernel
theorem dX3_findMend_185 : decode cX3_findMend 185 = .ok (.goto (-98), 3) := by decide +kernel
theorem dX3_findMend_188 : decode cX3_findMend 188 = .ok (.iinc 2 1, 3) := by decide +kernel
theorem dX3_findMend_191 : decode cX3_findMend 191 = .ok (.goto (-165), 3) := by decide +kernel
theorem dX3_findMend_194 : decode cX3_findMend 194 = .ok (.return_, 1) := by decide +kernel
theorem dX3_offerMend_0 : decode cX3_offerMend 0 = .ok (.iload_n 3, 1) := by decide +kernel
theorem dX3_offerMend_1 : decode cX3_offerMend 1 = .ok (.aload_n 0, 1) := by decide +kernel
theorem dX3_offerMend_2 : decode cX3_offerMend 2 = .ok (.getfield 67, 3) := by decide +kernel
theorem dX3_offerMend_5 : decode cX3_offerMend 5 = .ok (.if_icmp .gt 19, 3) := by decide +kernel
theorem dX3_offerMend_8 : decode cX3_offerMend 8 = .ok (.iload_n 3, 1) := by decide +kernel
theorem dX3_offerMend_9 : decode cX3_offerMend 9 = .ok (.aload_n 0, 1) := by decide +kernel
theorem dX3_offerMend_10 : decode cX3_offerMend 10 = .ok (.getfield 67, 3) := by decide +kernel
theorem dX3_offerMend_13 : decode cX3_offerMend 13 = .ok (.if_icmp .ne 26, 3) := by decide +kernel
theorem dX3_offerMend_16 : decode cX3_offerMend 16 = .ok (.iload_n 1, 1) := by decide +kernel
theorem dX3_offerMend_17 : decode cX3_offerMend 17 = .ok (.aload_n 0, 1) := by decide +kernel
theorem dX3_offerMend_18 : decode cX3_offerMend 18 = .ok (.getfield 61, 3) := by decide +kernel
theorem dX3_offerMend_21 : decode cX3_offerMend 21 = .ok (.if_icmp .ge 18, 3) := by decide +kernel
theorem dX3_offerMend_24 : decode cX3_offerMend 24 = .ok (.aload_n 0, 1) := by decide +kernel
theorem dX3_offerMend_25 : decode cX3_offerMend 25 = .ok (.iload_n 1, 1) := by decide +kernel
theorem dX3_offerMend_26 : decode cX3_offerMend 26 = .ok (.putfield 61, 3) := by decide +kernel
theorem dX3_offerMend_29 : decode cX3_offerMend 29 = .ok (.aload_n 0, 1) := by decide +kernel
theorem dX3_offerMend_30 : decode cX3_offerMend 30 = .ok (.iload_n 2, 1) := by decide +kernel
theorem dX3_offerMend_31 : decode cX3_offerMend 31 = .ok (.putfield 64, 3) := by decide +kernel
theorem dX3_offerMend_34 : decode cX3_offerMend 34 = .ok (.aload_n 0, 1) := by decide +kernel
theorem dX3_offerMend_35 : decode cX3_offerMend 35 = .ok (.iload_n 3, 1) := by decide +kernel
theorem dX3_offerMend_36 : decode cX3_offerMend 36 = .ok (.putfield 67, 3) := by decide +kernel
theorem dX3_offerMend_39 : decode cX3_offerMend 39 = .ok (.return_, 1) := by decide +kernel
theorem dX3_wouldLead_0 : decode cX3_wouldLead 0 = .ok (.iload_n 1, 1) := by decide +kernel
theorem dX3_wouldLead_1 : decode cX3_wouldLead 1 = .ok (.aload_n 0, 1) := by decide +kernel
theorem dX3_wouldLead_2 : decode cX3_wouldLead 2 = .ok (.getfield 19, 3) := by decide +kernel
theorem dX3_wouldLead_5 : decode cX3_wouldLead 5 = .ok (.getfield 195, 3) := by decide +kernel
theorem dX3_wouldLead_8 : decode cX3_wouldLead 8 = .ok (.iload_n 2, 1) := by decide +kernel
theorem dX3_wouldLead_9 : decode cX3_wouldLead 9 = .ok (.iaload, 1) := by decide +kernel
theorem dX3_wouldLead_10 : decode cX3_wouldLead 10 = .ok (.iconst (-1), 1) := by decide +kernel
theorem dX3_wouldLead_11 : decode cX3_wouldLead 11 = .ok (.ixor, 1) := by decide +kernel
theorem dX3_wouldLead_12 : decode cX3_wouldLead 12 = .ok (.iand, 1) := by decide +kernel
theorem dX3_wouldLead_13 : decode cX3_wouldLead 13 = .ok (.ifCond .eq 5, 3) := by decide +kernel
theorem dX3_wouldLead_16 : decode cX3_wouldLead 16 = .ok (.iconst 0, 1) := by decide +kernel
theorem dX3_wouldLead_17 : decode cX3_wouldLead 17 = .ok (.ireturn, 1) := by decide +kernel
theorem dX3_wouldLead_18 : decode cX3_wouldLead 18 = .ok (.iconst 0, 1) := by decide +kernel
theorem dX3_wouldLead_19 : decode cX3_wouldLead 19 = .ok (.istore_n 3, 1) := by decide +kernel
theorem dX3_wouldLead_20 : decode cX3_wouldLead 20 = .ok (.iload_n 3, 1) := by decide +kernel
theorem dX3_wouldLead_21 : decode cX3_wouldLead 21 = .ok (.bipush 10, 2) := by decide +kernel
theorem dX3_wouldLead_23 : decode cX3_wouldLead 23 = .ok (.if_icmp .ge 39, 3) := by decide +kernel
theorem dX3_wouldLead_26 : decode cX3_wouldLead 26 = .ok (.aload_n 0, 1) := by decide +kernel
theorem dX3_wouldLead_27 : decode cX3_wouldLead 27 = .ok (.getfield 48, 3) := by decide +kernel
theorem dX3_wouldLead_30 : decode cX3_wouldLead 30 = .ok (.iload_n 3, 1) := by decide +kernel
theorem dX3_wouldLead_31 : decode cX3_wouldLead 31 = .ok (.iload_n 1, 1) := by decide +kernel
theorem dX3_wouldLead_32 : decode cX3_wouldLead 32 = .ok (.iload_n 3, 1) := by decide +kernel
theorem dX3_wouldLead_33 : decode cX3_wouldLead 33 = .ok (.invokestatic 112, 3) := by decide +kernel
theorem dX3_wouldLead_36 : decode cX3_wouldLead 36 = .ok (.ifCond .eq 17, 3) := by decide +kernel
theorem dX3_wouldLead_39 : decode cX3_wouldLead 39 = .ok (.aload_n 0, 1) := by decide +kernel
theorem dX3_wouldLead_40 : decode cX3_wouldLead 40 = .ok (.getfield 19, 3) := by decide +kernel
theorem dX3_wouldLead_43 : decode cX3_wouldLead 43 = .ok (.getfield 122, 3) := by decide +kernel
theorem dX3_wouldLead_46 : decode cX3_wouldLead 46 = .ok (.iload_n 2, 1) := by decide +kernel
theorem dX3_wouldLead_47 : decode cX3_wouldLead 47 = .ok (.aaload, 1) := by decide +kernel
theorem dX3_wouldLead_48 : decode cX3_wouldLead 48 = .ok (.iload_n 3, 1) := by decide +kernel
theorem dX3_wouldLead_49 : decode cX3_wouldLead 49 = .ok (.iaload, 1) := by decide +kernel
theorem dX3_wouldLead_50 : decode cX3_wouldLead 50 = .ok (.goto 5, 3) := by decide +kernel
theorem dX3_wouldLead_53 : decode cX3_wouldLead 53 = .ok (.bipush (-9), 2) := by decide +kernel
theorem dX3_wouldLead_55 : decode cX3_wouldLead 55 = .ok (.iastore, 1) := by decide +kernel
theorem dX3_wouldLead_56 : decode cX3_wouldLead 56 = .ok (.iinc 3 1, 3) := by decide +kernel
theorem dX3_wouldLead_59 : decode cX3_wouldLead 59 = .ok (.goto (-39), 3) := by decide +kernel
theorem dX3_wouldLead_62 : decode cX3_wouldLead 62 = .ok (.iconst 0, 1) := by decide +kernel
theorem dX3_wouldLead_63 : decode cX3_wouldLead 63 = .ok (.istore_n 3, 1) := by decide +kernel
theorem dX3_wouldLead_64 : decode cX3_wouldLead 64 = .ok (.iload_n 3, 1) := by decide +kernel
theorem dX3_wouldLead_65 : decode cX3_wouldLead 65 = .ok (.bipush 10, 2) := by decide +kernel
theorem dX3_wouldLead_67 : decode cX3_wouldLead 67 = .ok (.if_icmp .ge 80, 3) := by decide +kernel
theorem dX3_wouldLead_70 : decode cX3_wouldLead 70 = .ok (.aload_n 0, 1) := by decide +kernel
theorem dX3_wouldLead_71 : decode cX3_wouldLead 71 = .ok (.getfield 55, 3) := by decide +kernel
theorem dX3_wouldLead_74 : decode cX3_wouldLead 74 = .ok (.iload_n 3, 1) := by decide +kernel
theorem dX3_wouldLead_75 : decode cX3_wouldLead 75 = .ok (.invokestatic 112, 3) := by decide +kernel
theorem dX3_wouldLead_78 : decode cX3_wouldLead 78 = .ok (.ifCond .eq 63, 3) := by decide +kernel
theorem dX3_wouldLead_81 : decode cX3_wouldLead 81 = .ok (.aload_n 0, 1) := by decide +kernel
theorem dX3_wouldLead_82 : decode cX3_wouldLead 82 = .ok (.getfield 26, 3) := by decide +kernel
theorem dX3_wouldLead_85 : decode cX3_wouldLead 85 = .ok (.aload_n 0, 1) := by decide +kernel
theorem dX3_wouldLead_86 : decode cX3_wouldLead 86 = .ok (.getfield 12, 3) := by decide +kernel
theorem dX3_wouldLead_89 : decode cX3_wouldLead 89 = .ok (.iload_n 3, 1) := by decide +kernel
theorem dX3_wouldLead_90 : decode cX3_wouldLead 90 = .ok (.aload_n 0, 1) := by decide +kernel
theorem dX3_wouldLead_91 : decode cX3_wouldLead 91 = .ok (.getfield 33, 3) := by decide +kernel
theorem dX3_wouldLead_94 : decode cX3_wouldLead 94 = .ok (.iload_n 2, 1) := by decide +kernel
theorem dX3_wouldLead_95 : decode cX3_wouldLead 95 = .ok (.iaload, 1) := by decide +kernel
theorem dX3_wouldLead_96 : decode cX3_wouldLead 96 = .ok (.aload_n 0, 1) := by decide +kernel
theorem dX3_wouldLead_97 : decode cX3_wouldLead 97 = .ok (.getfield 48, 3) := by decide +kernel
theorem dX3_wouldLead_100 : decode cX3_wouldLead 100 = .ok (.invokevirtual 128, 3) := by decide +kernel
theorem dX3_wouldLead_103 : decode cX3_wouldLead 103 = .ok (.aload_n 0, 1) := by decide +kernel
theorem dX3_wouldLead_104 : decode cX3_wouldLead 104 = .ok (.getfield 26, 3) := by decide +kernel
theorem dX3_wouldLead_107 : decode cX3_wouldLead 107 = .ok (.getfield 132, 3) := by decide +kernel
theorem dX3_wouldLead_110 : decode cX3_wouldLead 110 = .ok (.ifCond .ne 29, 3) := by decide +kernel
theorem dX3_wouldLead_113 : decode cX3_wouldLead 113 = .ok (.aload_n 0, 1) := by decide +kernel
theorem dX3_wouldLead_114 : decode cX3_wouldLead 114 = .ok (.getfield 26, 3) := by decide +kernel
theorem dX3_wouldLead_117 : decode cX3_wouldLead 117 = .ok (.getfield 138, 3) := by decide +kernel
theorem dX3_wouldLead_120 : decode cX3_wouldLead 120 = .ok (.aload_n 0, 1) := by decide +kernel
theorem dX3_wouldLead_121 : decode cX3_wouldLead 121 = .ok (.getfield 19, 3) := by decide +kernel
theorem dX3_wouldLead_124 : decode cX3_wouldLead 124 = .ok (.getfield 119, 3) := by decide +kernel
theorem dX3_wouldLead_127 : decode cX3_wouldLead 127 = .ok (.iload_n 2, 1) := by decide +kernel
theorem dX3_wouldLead_128 : decode cX3_wouldLead 128 = .ok (.aaload, 1) := by decide +kernel
theorem dX3_wouldLead_129 : decode cX3_wouldLead 129 = .ok (.iload_n 3, 1) := by decide +kernel
theorem dX3_wouldLead_130 : decode cX3_wouldLead 130 = .ok (.iaload, 1) := by decide +kernel
theorem dX3_wouldLead_131 : decode cX3_wouldLead 131 = .ok (.aload_n 0, 1) := by decide +kernel
theorem dX3_wouldLead_132 : decode cX3_wouldLead 132 = .ok (.getfield 58, 3) := by decide +kernel
theorem dX3_wouldLead_135 : decode cX3_wouldLead 135 = .ok (.iadd, 1) := by decide +kernel
theorem dX3_wouldLead_136 : decode cX3_wouldLead 136 = .ok (.if_icmp .le 5, 3) := by decide +kernel
theorem dX3_wouldLead_139 : decode cX3_wouldLead 139 = .ok (.iconst 0, 1) := by decide +kernel
theorem dX3_wouldLead_140 : decode cX3_wouldLead 140 = .ok (.ireturn, 1) := by decide +kernel
theorem dX3_wouldLead_141 : decode cX3_wouldLead 141 = .ok (.iinc 3 1, 3) := by decide +kernel
theorem dX3_wouldLead_144 : decode cX3_wouldLead 144 = .ok (.goto (-80), 3) := by decide +kernel
theorem dX3_wouldLead_147 : decode cX3_wouldLead 147 = .ok (.iconst 1, 1) := by decide +kernel
theorem dX3_wouldLead_148 : decode cX3_wouldLead 148 = .ok (.ireturn, 1) := by decide +kernel
theorem dX3_leastSet_0 : decode cX3_leastSet 0 = .ok (.iconst 0, 1) := by decide +kernel
theorem dX3_leastSet_1 : decode cX3_leastSet 1 = .ok (.istore_n 3, 1) := by decide +kernel
theorem dX3_leastSet_2 : decode cX3_leastSet 2 = .ok (.iload_n 1, 1) := by decide +kernel
theorem dX3_leastSet_3 : decode cX3_leastSet 3 = .ok (.istore 4, 2) := by decide +kernel
theorem dX3_leastSet_5 : decode cX3_leastSet 5 = .ok (.iload 4, 2) := by decide +kernel
theorem dX3_leastSet_7 : decode cX3_leastSet 7 = .ok (.iload_n 2, 1) := by decide +kernel
theorem dX3_leastSet_8 : decode cX3_leastSet 8 = .ok (.if_icmp .ge 38, 3) := by decide +kernel
theorem dX3_leastSet_11 : decode cX3_leastSet 11 = .ok (.aload_n 0, 1) := by decide +kernel
theorem dX3_leastSet_12 : decode cX3_leastSet 12 = .ok (.getfield 19, 3) := by decide +kernel
theorem dX3_leastSet_15 : decode cX3_leastSet 15 = .ok (.aload_n 0, 1) := by decide +kernel
theorem dX3_leastSet_16 : decode cX3_leastSet 16 = .ok (.getfield 12, 3) := by decide +kernel
theorem dX3_leastSet_19 : decode cX3_leastSet 19 = .ok (.iload 4, 2) := by decide +kernel
theorem dX3_leastSet_21 : decode cX3_leastSet 21 = .ok (.aload_n 0, 1) := by decide +kernel
theorem dX3_leastSet_22 : decode cX3_leastSet 22 = .ok (.getfield 33, 3) := by decide +kernel
theorem dX3_leastSet_25 : decode cX3_leastSet 25 = .ok (.iload 4, 2) := by decide +kernel
theorem dX3_leastSet_27 : decode cX3_leastSet 27 = .ok (.iaload, 1) := by decide +kernel
theorem dX3_leastSet_28 : decode cX3_leastSet 28 = .ok (.invokevirtual 115, 3) := by decide +kernel
theorem dX3_leastSet_31 : decode cX3_leastSet 31 = .ok (.iload_n 3, 1) := by decide +kernel
theorem dX3_leastSet_32 : decode cX3_leastSet 32 = .ok (.aload_n 0, 1) := by decide +kernel
theorem dX3_leastSet_33 : decode cX3_leastSet 33 = .ok (.iload 4, 2) := by decide +kernel
theorem dX3_leastSet_35 : decode cX3_leastSet 35 = .ok (.invokevirtual 202, 3) := by decide +kernel
theorem dX3_leastSet_38 : decode cX3_leastSet 38 = .ok (.ior, 1) := by decide +kernel
theorem dX3_leastSet_39 : decode cX3_leastSet 39 = .ok (.istore_n 3, 1) := by decide +kernel
theorem dX3_leastSet_40 : decode cX3_leastSet 40 = .ok (.iinc 4 1, 3) := by decide +kernel
theorem dX3_leastSet_43 : decode cX3_leastSet 43 = .ok (.goto (-38), 3) := by decide +kernel
theorem dX3_leastSet_46 : decode cX3_leastSet 46 = .ok (.iload_n 1, 1) := by decide +kernel
theorem dX3_leastSet_47 : decode cX3_leastSet 47 = .ok (.istore 4, 2) := by decide +kernel
theorem dX3_leastSet_49 : decode cX3_leastSet 49 = .ok (.iload 4, 2) := by decide +kernel
theorem dX3_leastSet_51 : decode cX3_leastSet 51 = .ok (.iload_n 2, 1) := by decide +kernel
theorem dX3_leastSet_52 : decode cX3_leastSet 52 = .ok (.if_icmp .ge 33, 3) := by decide +kernel
theorem dX3_leastSet_55 : decode cX3_leastSet 55 = .ok (.aload_n 0, 1) := by decide +kernel
theorem dX3_leastSet_56 : decode cX3_leastSet 56 = .ok (.iload_n 3, 1) := by decide +kernel
theorem dX3_leastSet_57 : decode cX3_leastSet 57 = .ok (.aload_n 0, 1) := by decide +kernel
theorem dX3_leastSet_58 : decode cX3_leastSet 58 = .ok (.getfield 19, 3) := by decide +kernel
theorem dX3_leastSet_61 : decode cX3_leastSet 61 = .ok (.getfield 195, 3) := by decide +kernel
theorem dX3_leastSet_64 : decode cX3_leastSet 64 = .ok (.iload 4, 2) := by decide +kernel
theorem dX3_leastSet_66 : decode cX3_leastSet 66 = .ok (.iaload, 1) := by decide +kernel
theorem dX3_leastSet_67 : decode cX3_leastSet 67 = .ok (.iand, 1) := by decide +kernel
theorem dX3_leastSet_68 : decode cX3_leastSet 68 = .ok (.iload 4, 2) := by decide +kernel
theorem dX3_leastSet_70 : decode cX3_leastSet 70 = .ok (.invokevirtual 158, 3) := by decide +kernel
theorem dX3_leastSet_73 : decode cX3_leastSet 73 = .ok (.ifCond .ne 6, 3) := by decide +kernel
theorem dX3_leastSet_76 : decode cX3_leastSet 76 = .ok (.bipush (-9), 2) := by decide +kernel
theorem dX3_leastSet_78 : decode cX3_leastSet 78 = .ok (.ireturn, 1) := by decide +kernel
theorem dX3_leastSet_79 : decode cX3_leastSet 79 = .ok (.iinc 4 1, 3) := by decide +kernel
theorem dX3_leastSet_82 : decode cX3_leastSet 82 = .ok (.goto (-33), 3) := by decide +kernel
theorem dX3_leastSet_85 : decode cX3_leastSet 85 = .ok (.iload_n 3, 1) := by decide +kernel
theorem dX3_leastSet_86 : decode cX3_leastSet 86 = .ok (.ireturn, 1) := by decide +kernel
theorem dX3_choicesOnBestWays_0 : decode cX3_choicesOnBestWays 0 = .ok (.iconst 0, 1) := by decide +kernel
theorem dX3_choicesOnBestWays_1 : decode cX3_choicesOnBestWays 1 = .ok (.istore_n 2, 1) := by decide +kernel
theorem dX3_choicesOnBestWays_2 : decode cX3_choicesOnBestWays 2 = .ok (.iconst 0, 1) := by decide +kernel
theorem dX3_choicesOnBestWays_3 : decode cX3_choicesOnBestWays 3 = .ok (.istore_n 3, 1) := by decide +kernel
theorem dX3_choicesOnBestWays_4 : decode cX3_choicesOnBestWays 4 = .ok (.iload_n 3, 1) := by decide +kernel
theorem dX3_choicesOnBestWays_5 : decode cX3_choicesOnBestWays 5 = .ok (.bipush 10, 2) := by decide +kernel
theorem dX3_choicesOnBestWays_7 : decode cX3_choicesOnBestWays 7 = .ok (.if_icmp .ge 29, 3) := by decide +kernel
theorem dX3_choicesOnBestWays_10 : decode cX3_choicesOnBestWays 10 = .ok (.aload_n 0, 1) := by decide +kernel
theorem dX3_choicesOnBestWays_11 : decode cX3_choicesOnBestWays 11 = .ok (.getfield 55, 3) := by decide +kernel
theorem dX3_choicesOnBestWays_14 : decode cX3_choicesOnBestWays 14 = .ok (.iload_n 3, 1) := by decide +kernel
theorem dX3_choicesOnBestWays_15 : decode cX3_choicesOnBestWays 15 = .ok (.invokestatic 112, 3) := by decide +kernel
theorem dX3_choicesOnBestWays_18 : decode cX3_choicesOnBestWays 18 = .ok (.ifCond .eq 12, 3) := by decide +kernel
theorem dX3_choicesOnBestWays_21 : decode cX3_choicesOnBestWays 21 = .ok (.iload_n 2, 1) := by decide +kernel
theorem dX3_choicesOnBestWays_22 : decode cX3_choicesOnBestWays 22 = .ok (.aload_n 0, 1) := by decide +kernel
theorem dX3_choicesOnBestWays_23 : decode cX3_choicesOnBestWays 23 = .ok (.iload_n 3, 1) := by decide +kernel
theorem dX3_choicesOnBestWays_24 : decode cX3_choicesOnBestWays 24 = .ok (.iload_n 1, 1) := by decide +kernel
theorem dX3_choicesOnBestWays_25 : decode cX3_choicesOnBestWays 25 = .ok (.invokevirtual 205, 3) := by decide +kernel
theorem dX3_choicesOnBestWays_28 : decode cX3_choicesOnBestWays 28 = .ok (.ior, 1) := by decide +kernel
theorem dX3_choicesOnBestWays_29 : decode cX3_choicesOnBestWays 29 = .ok (.istore_n 2, 1) := by decide +kernel
theorem dX3_choicesOnBestWays_30 : decode cX3_choicesOnBestWays 30 = .ok (.iinc 3 1, 3) := by decide +kernel
theorem dX3_choicesOnBestWays_33 : decode cX3_choicesOnBestWays 33 = .ok (.goto (-29), 3) := by decide +kernel
theorem dX3_choicesOnBestWays_36 : decode cX3_choicesOnBestWays 36 = .ok (.iload_n 2, 1) := by decide +kernel
theorem dX3_choicesOnBestWays_37 : decode cX3_choicesOnBestWays 37 = .ok (.ireturn, 1) := by decide +kernel
theorem dX3_choicesFrom_0 : decode cX3_choicesFrom 0 = .ok (.iconst 0, 1) := by decide +kernel
theorem dX3_choicesFrom_1 : decode cX3_choicesFrom 1 = .ok (.istore_n 3, 1) := by decide +kernel
theorem dX3_choicesFrom_2 : decode cX3_choicesFrom 2 = .ok (.iconst 0, 1) := by decide +kernel
theorem dX3_choicesFrom_3 : decode cX3_choicesFrom 3 = .ok (.istore 4, 2) := by decide +kernel
theorem dX3_choicesFrom_5 : decode cX3_choicesFrom 5 = .ok (.iload_n 1, 1) := by decide +kernel
theorem dX3_choicesFrom_6 : decode cX3_choicesFrom 6 = .ok (.istore 5, 2) := by decide +kernel
theorem dX3_choicesFrom_8 : decode cX3_choicesFrom 8 = .ok (.iconst 0, 1) := by decide +kernel
theorem dX3_choicesFrom_9 : decode cX3_choicesFrom 9 = .ok (.istore 6, 2) := by decide +kernel
theorem dX3_choicesFrom_11 : decode cX3_choicesFrom 11 = .ok (.iload 6, 2) := by decide +kernel
theorem dX3_choicesFrom_13 : decode cX3_choicesFrom 13 = .ok (.bipush 10, 2) := by decide +kernel
theorem dX3_choicesFrom_15 : decode cX3_choicesFrom 15 = .ok (.if_icmp .ge 75, 3) := by decide +kernel
theorem dX3_choicesFrom_18 : decode cX3_choicesFrom 18 = .ok (.aload_n 0, 1) := by decide +kernel
theorem dX3_choicesFrom_19 : decode cX3_choicesFrom 19 = .ok (.getfield 19, 3) := by decide +kernel
theorem dX3_choicesFrom_22 : decode cX3_choicesFrom 22 = .ok (.getfield 122, 3) := by decide +kernel
theorem dX3_choicesFrom_25 : decode cX3_choicesFrom 25 = .ok (.iload_n 2, 1) := by decide +kernel
theorem dX3_choicesFrom_26 : decode cX3_choicesFrom 26 = .ok (.aaload, 1) := by decide +kernel
theorem dX3_choicesFrom_27 : decode cX3_choicesFrom 27 = .ok (.iload 5, 2) := by decide +kernel
theorem dX3_choicesFrom_29 : decode cX3_choicesFrom 29 = .ok (.iaload, 1) := by decide +kernel
theorem dX3_choicesFrom_30 : decode cX3_choicesFrom 30 = .ok (.bipush (-9), 2) := by decide +kernel
theorem dX3_choicesFrom_32 : decode cX3_choicesFrom 32 = .ok (.if_icmp .eq 58, 3) := by decide +kernel
theorem dX3_choicesFrom_35 : decode cX3_choicesFrom 35 = .ok (.aload_n 0, 1) := by decide +kernel
theorem dX3_choicesFrom_36 : decode cX3_choicesFrom 36 = .ok (.getfield 12, 3) := by decide +kernel
theorem dX3_choicesFrom_39 : decode cX3_choicesFrom 39 = .ok (.getfield 125, 3) := by decide +kernel
theorem dX3_choicesFrom_42 : decode cX3_choicesFrom 42 = .ok (.iload 5, 2) := by decide +kernel
theorem dX3_choicesFrom_44 : decode cX3_choicesFrom 44 = .ok (.iaload, 1) := by decide +kernel
theorem dX3_choicesFrom_45 : decode cX3_choicesFrom 45 = .ok (.iload 4, 2) := by decide +kernel
theorem dX3_choicesFrom_47 : decode cX3_choicesFrom 47 = .ok (.iconst (-1), 1) := by decide +kernel
theorem dX3_choicesFrom_48 : decode cX3_choicesFrom 48 = .ok (.ixor, 1) := by decide +kernel
theorem dX3_choicesFrom_49 : decode cX3_choicesFrom 49 = .ok (.iand, 1) := by decide +kernel
theorem dX3_choicesFrom_50 : decode cX3_choicesFrom 50 = .ok (.invokestatic 168, 3) := by decide +kernel
theorem dX3_choicesFrom_53 : decode cX3_choicesFrom 53 = .ok (.iconst 1, 1) := by decide +kernel
theorem dX3_choicesFrom_54 : decode cX3_choicesFrom 54 = .ok (.if_icmp .le 10, 3) := by decide +kernel
theorem dX3_choicesFrom_57 : decode cX3_choicesFrom 57 = .ok (.iload_n 3, 1) := by decide +kernel
theorem dX3_choicesFrom_58 : decode cX3_choicesFrom 58 = .ok (.iconst 1, 1) := by decide +kernel
theorem dX3_choicesFrom_59 : decode cX3_choicesFrom 59 = .ok (.iload 5, 2) := by decide +kernel
theorem dX3_choicesFrom_61 : decode cX3_choicesFrom 61 = .ok (.ishl, 1) := by decide +kernel
theorem dX3_choicesFrom_62 : decode cX3_choicesFrom 62 = .ok (.ior, 1) := by decide +kernel
theorem dX3_choicesFrom_63 : decode cX3_choicesFrom 63 = .ok (.istore_n 3, 1) := by decide +kernel
theorem dX3_choicesFrom_64 : decode cX3_choicesFrom 64 = .ok (.iconst 1, 1) := by decide +kernel
theorem dX3_choicesFrom_65 : decode cX3_choicesFrom 65 = .ok (.iload 5, 2) := by decide +kernel
theorem dX3_choicesFrom_67 : decode cX3_choicesFrom 67 = .ok (.ishl, 1) := by decide +kernel
theorem dX3_choicesFrom_68 : decode cX3_choicesFrom 68 = .ok (.istore 4, 2) := by decide +kernel
theorem dX3_choicesFrom_70 : decode cX3_choicesFrom 70 = .ok (.aload_n 0, 1) := by decide +kernel
theorem dX3_choicesFrom_71 : decode cX3_choicesFrom 71 = .ok (.getfield 19, 3) := by decide +kernel
theorem dX3_choicesFrom_74 : decode cX3_choicesFrom 74 = .ok (.getfield 122, 3) := by decide +kernel
theorem dX3_choicesFrom_77 : decode cX3_choicesFrom 77 = .ok (.iload_n 2, 1) := by decide +kernel
theorem dX3_choicesFrom_78 : decode cX3_choicesFrom 78 = .ok (.aaload, 1) := by decide +kernel
theorem dX3_choicesFrom_79 : decode cX3_choicesFrom 79 = .ok (.iload 5, 2) := by decide +kernel
theorem dX3_choicesFrom_81 : decode cX3_choicesFrom 81 = .ok (.iaload, 1) := by decide +kernel
theorem dX3_choicesFrom_82 : decode cX3_choicesFrom 82 = .ok (.istore 5, 2) := by decide +kernel
theorem dX3_choicesFrom_84 : decode cX3_choicesFrom 84 = .ok (.iinc 6 1, 3) := by decide +kernel
theorem dX3_choicesFrom_87 : decode cX3_choicesFrom 87 = .ok (.goto (-76), 3) := by decide +kernel
theorem dX3_choicesFrom_90 : decode cX3_choicesFrom 90 = .ok (.iload_n 3, 1) := by decide +kernel
theorem dX3_choicesFrom_91 : decode cX3_choicesFrom 91 = .ok (.ireturn, 1) := by decide +kernel
theorem dJ6_bitCount_0f7a4_0 : decode cJ6_bitCount_0f7a4 0 = .ok (.iload_n 0, 1) := by decide +kernel
theorem dJ6_bitCount_0f7a4_1 : decode cJ6_bitCount_0f7a4 1 = .ok (.iload_n 0, 1) := by decide +kernel
theorem dJ6_bitCount_0f7a4_2 : decode cJ6_bitCount_0f7a4 2 = .ok (.iconst 1, 1) := by decide +kernel
theorem dJ6_bitCount_0f7a4_3 : decode cJ6_bitCount_0f7a4 3 = .ok (.iushr, 1) := by decide +kernel
theorem dJ6_bitCount_0f7a4_4 : decode cJ6_bitCount_0f7a4 4 = .ok (.ldc_w 265, 3) := by decide +kernel
theorem dJ6_bitCount_0f7a4_7 : decode cJ6_bitCount_0f7a4 7 = .ok (.iand, 1) := by decide +kernel
theorem dJ6_bitCount_0f7a4_8 : decode cJ6_bitCount_0f7a4 8 = .ok (.isub, 1) := by decide +kernel
theorem dJ6_bitCount_0f7a4_9 : decode cJ6_bitCount_0f7a4 9 = .ok (.istore_n 0, 1) := by decide +kernel
theorem dJ6_bitCount_0f7a4_10 : decode cJ6_bitCount_0f7a4 10 = .ok (.iload_n 0, 1) := by decide +kernel
theorem dJ6_bitCount_0f7a4_11 : decode cJ6_bitCount_0f7a4 11 = .ok (.ldc_w 266, 3) := by decide +kernel
theorem dJ6_bitCount_0f7a4_14 : decode cJ6_bitCount_0f7a4 14 = .ok (.iand, 1) := by decide +kernel
theorem dJ6_bitCount_0f7a4_15 : decode cJ6_bitCount_0f7a4 15 = .ok (.iload_n 0, 1) := by decide +kernel
theorem dJ6_bitCount_0f7a4_16 : decode cJ6_bitCount_0f7a4 16 = .ok (.iconst 2, 1) := by decide +kernel
theorem dJ6_bitCount_0f7a4_17 : decode cJ6_bitCount_0f7a4 17 = .ok (.iushr, 1) := by decide +kernel
theorem dJ6_bitCount_0f7a4_18 : decode cJ6_bitCount_0f7a4 18 = .ok (.ldc_w 266, 3) := by decide +kernel
theorem dJ6_bitCount_0f7a4_21 : decode cJ6_bitCount_0f7a4 21 = .ok (.iand, 1) := by decide +kernel
theorem dJ6_bitCount_0f7a4_22 : decode cJ6_bitCount_0f7a4 22 = .ok (.iadd, 1) := by decide +kernel
theorem dJ6_bitCount_0f7a4_23 : decode cJ6_bitCount_0f7a4 23 = .ok (.istore_n 0, 1) := by decide +kernel
theorem dJ6_bitCount_0f7a4_24 : decode cJ6_bitCount_0f7a4 24 = .ok (.iload_n 0, 1) := by decide +kernel
theorem dJ6_bitCount_0f7a4_25 : decode cJ6_bitCount_0f7a4 25 = .ok (.iload_n 0, 1) := by decide +kernel
theorem dJ6_bitCount_0f7a4_26 : decode cJ6_bitCount_0f7a4 26 = .ok (.iconst 4, 1) := by decide +kernel
theorem dJ6_bitCount_0f7a4_27 : decode cJ6_bitCount_0f7a4 27 = .ok (.iushr, 1) := by decide +kernel
theorem dJ6_bitCount_0f7a4_28 : decode cJ6_bitCount_0f7a4 28 = .ok (.iadd, 1) := by decide +kernel
theorem dJ6_bitCount_0f7a4_29 : decode cJ6_bitCount_0f7a4 29 = .ok (.ldc_w 267, 3) := by decide +kernel
theorem dJ6_bitCount_0f7a4_32 : decode cJ6_bitCount_0f7a4 32 = .ok (.iand, 1) := by decide +kernel
theorem dJ6_bitCount_0f7a4_33 : decode cJ6_bitCount_0f7a4 33 = .ok (.istore_n 0, 1) := by decide +kernel
theorem dJ6_bitCount_0f7a4_34 : decode cJ6_bitCount_0f7a4 34 = .ok (.iload_n 0, 1) := by decide +kernel
theorem dJ6_bitCount_0f7a4_35 : decode cJ6_bitCount_0f7a4 35 = .ok (.iload_n 0, 1) := by decide +kernel
theorem dJ6_bitCount_0f7a4_36 : decode cJ6_bitCount_0f7a4 36 = .ok (.bipush 8, 2) := by decide +kernel
theorem dJ6_bitCount_0f7a4_38 : decode cJ6_bitCount_0f7a4 38 = .ok (.iushr, 1) := by decide +kernel
theorem dJ6_bitCount_0f7a4_39 : decode cJ6_bitCount_0f7a4 39 = .ok (.iadd, 1) := by decide +kernel
theorem dJ6_bitCount_0f7a4_40 : decode cJ6_bitCount_0f7a4 40 = .ok (.istore_n 0, 1) := by decide +kernel
theorem dJ6_bitCount_0f7a4_41 : decode cJ6_bitCount_0f7a4 41 = .ok (.iload_n 0, 1) := by decide +kernel
theorem dJ6_bitCount_0f7a4_42 : decode cJ6_bitCount_0f7a4 42 = .ok (.iload_n 0, 1) := by decide +kernel
theorem dJ6_bitCount_0f7a4_43 : decode cJ6_bitCount_0f7a4 43 = .ok (.bipush 16, 2) := by decide +kernel
theorem dJ6_bitCount_0f7a4_45 : decode cJ6_bitCount_0f7a4 45 = .ok (.iushr, 1) := by decide +kernel
theorem dJ6_bitCount_0f7a4_46 : decode cJ6_bitCount_0f7a4 46 = .ok (.iadd, 1) := by decide +kernel
theorem dJ6_bitCount_0f7a4_47 : decode cJ6_bitCount_0f7a4 47 = .ok (.istore_n 0, 1) := by decide +kernel
theorem dJ6_bitCount_0f7a4_48 : decode cJ6_bitCount_0f7a4 48 = .ok (.iload_n 0, 1) := by decide +kernel
theorem dJ6_bitCount_0f7a4_49 : decode cJ6_bitCount_0f7a4 49 = .ok (.bipush 63, 2) := by decide +kernel
theorem dJ6_bitCount_0f7a4_51 : decode cJ6_bitCount_0f7a4 51 = .ok (.iand, 1) := by decide +kernel
theorem dJ6_bitCount_0f7a4_52 : decode cJ6_bitCount_0f7a4 52 = .ok (.ireturn, 1) := by decide +kernel
theorem dJ9_max_7cf53_0 : decode cJ9_max_7cf53 0 = .ok (.iload_n 0, 1) := by decide +kernel
theorem dJ9_max_7cf53_1 : decode cJ9_max_7cf53 1 = .ok (.iload_n 1, 1) := by decide +kernel
theorem dJ9_max_7cf53_2 : decode cJ9_max_7cf53 2 = .ok (.if_icmp .lt 7, 3) := by decide +kernel
theorem dJ9_max_7cf53_5 : decode cJ9_max_7cf53 5 = .ok (.iload_n 0, 1) := by decide +kernel
theorem dJ9_max_7cf53_6 : decode cJ9_max_7cf53 6 = .ok (.goto 4, 3) := by decide +kernel
theorem dJ9_max_7cf53_9 : decode cJ9_max_7cf53 9 = .ok (.iload_n 1, 1) := by decide +kernel
theorem dJ9_max_7cf53_10 : decode cJ9_max_7cf53 10 = .ok (.ireturn, 1) := by decide +kernel
theorem dJ9_min_7cf53_0 : decode cJ9_min_7cf53 0 = .ok (.iload_n 0, 1) := by decide +kernel
theorem dJ9_min_7cf53_1 : decode cJ9_min_7cf53 1 = .ok (.iload_n 1, 1) := by decide +kernel
theorem dJ9_min_7cf53_2 : decode cJ9_min_7cf53 2 = .ok (.if_icmp .gt 7, 3) := by decide +kernel
theorem dJ9_min_7cf53_5 : decode cJ9_min_7cf53 5 = .ok (.iload_n 0, 1) := by decide +kernel
theorem dJ9_min_7cf53_6 : decode cJ9_min_7cf53 6 = .ok (.goto 4, 3) := by decide +kernel
theorem dJ9_min_7cf53_9 : decode cJ9_min_7cf53 9 = .ok (.iload_n 1, 1) := by decide +kernel
theorem dJ9_min_7cf53_10 : decode cJ9_min_7cf53 10 = .ok (.ireturn, 1) := by decide +kernel
theorem dJ7_fill_53178_0 : decode cJ7_fill_53178 0 = .ok (.iconst 0, 1) := by decide +kernel
theorem dJ7_fill_53178_1 : decode cJ7_fill_53178 1 = .ok (.istore_n 2, 1) := by decide +kernel
theorem dJ7_fill_53178_2 : decode cJ7_fill_53178 2 = .ok (.aload_n 0, 1) := by decide +kernel
theorem dJ7_fill_53178_3 : decode cJ7_fill_53178 3 = .ok (.arraylength, 1) := by decide +kernel
theorem dJ7_fill_53178_4 : decode cJ7_fill_53178 4 = .ok (.istore_n 3, 1) := by decide +kernel
theorem dJ7_fill_53178_5 : decode cJ7_fill_53178 5 = .ok (.iload_n 2, 1) := by decide +kernel
theorem dJ7_fill_53178_6 : decode cJ7_fill_53178 6 = .ok (.iload_n 3, 1) := by decide +kernel
theorem dJ7_fill_53178_7 : decode cJ7_fill_53178 7 = .ok (.if_icmp .ge 13, 3) := by decide +kernel
theorem dJ7_fill_53178_10 : decode cJ7_fill_53178 10 = .ok (.aload_n 0, 1) := by decide +kernel
theorem dJ7_fill_53178_11 : decode cJ7_fill_53178 11 = .ok (.iload_n 2, 1) := by decide +kernel
theorem dJ7_fill_53178_12 : decode cJ7_fill_53178 12 = .ok (.iload_n 1, 1) := by decide +kernel
theorem dJ7_fill_53178_13 : decode cJ7_fill_53178 13 = .ok (.iastore, 1) := by decide +kernel
theorem dJ7_fill_53178_14 : decode cJ7_fill_53178 14 = .ok (.iinc 2 1, 3) := by decide +kernel
theorem dJ7_fill_53178_17 : decode cJ7_fill_53178 17 = .ok (.goto (-12), 3) := by decide +kernel
theorem dJ7_fill_53178_20 : decode cJ7_fill_53178 20 = .ok (.return_, 1) := by decide +kernel
