theorem dX4_init_0 : decode cX4_init 0 = .ok (.aload_n 0, 1) := by decide +kernel
theorem dX4_init_1 : decode cX4_init 1 = .ok (.invokespecial 1, 3) := by decide +kernel
theorem dX4_init_4 : decode cX4_init 4 = .ok (.aload_n 0, 1) := by decide +kernel
theorem dX4_init_5 : decode cX4_init 5 = .ok (.bipush 37, 2) := by decide +kernel
theorem dX4_init_7 : decode cX4_init 7 = .ok (.newarray .int, 2) := by decide +kernel
theorem dX4_init_9 : decode cX4_init 9 = .ok (.putfield 7, 3) := by decide +kernel
theorem dX4_init_12 : decode cX4_init 12 = .ok (.aload_n 0, 1) := by decide +kernel
theorem dX4_init_13 : decode cX4_init 13 = .ok (.sipush 148, 3) := by decide +kernel
theorem dX4_init_16 : decode cX4_init 16 = .ok (.newarray .int, 2) := by decide +kernel
theorem dX4_init_18 : decode cX4_init 18 = .ok (.putfield 13, 3) := by decide +kernel
theorem dX4_init_21 : decode cX4_init 21 = .ok (.aload_n 0, 1) := by decide +kernel
theorem dX4_init_22 : decode cX4_init 22 = .ok (.bipush 37, 2) := by decide +kernel
theorem dX4_init_24 : decode cX4_init 24 = .ok (.newarray .int, 2) := by decide +kernel
theorem dX4_init_26 : decode cX4_init 26 = .ok (.putfield 16, 3) := by decide +kernel
theorem dX4_init_29 : decode cX4_init 29 = .ok (.aload_n 0, 1) := by decide +kernel
theorem dX4_init_30 : decode cX4_init 30 = .ok (.bipush 80, 2) := by decide +kernel
theorem dX4_init_32 : decode cX4_init 32 = .ok (.newarray .int, 2) := by decide +kernel
theorem dX4_init_34 : decode cX4_init 34 = .ok (.putfield 19, 3) := by decide +kernel
theorem dX4_init_37 : decode cX4_init 37 = .ok (.aload_n 0, 1) := by decide +kernel
theorem dX4_init_38 : decode cX4_init 38 = .ok (.bipush 12, 2) := by decide +kernel
theorem dX4_init_40 : decode cX4_init 40 = .ok (.newarray .int, 2) := by decide +kernel
theorem dX4_init_42 : decode cX4_init 42 = .ok (.putfield 22, 3) := by decide +kernel
theorem dX4_init_45 : decode cX4_init 45 = .ok (.aload_n 0, 1) := by decide +kernel
theorem dX4_init_46 : decode cX4_init 46 = .ok (.bipush 12, 2) := by decide +kernel
theorem dX4_init_48 : decode cX4_init 48 = .ok (.newarray .int, 2) := by decide +kernel
theorem dX4_init_50 : decode cX4_init 50 = .ok (.putfield 25, 3) := by decide +kernel
theorem dX4_init_53 : decode cX4_init 53 = .ok (.aload_n 0, 1) := by decide +kernel
theorem dX4_init_54 : decode cX4_init 54 = .ok (.bipush 12, 2) := by decide +kernel
theorem dX4_init_56 : decode cX4_init 56 = .ok (.newarray .int, 2) := by decide +kernel
theorem dX4_init_58 : decode cX4_init 58 = .ok (.putfield 28, 3) := by decide +kernel
theorem dX4_init_61 : decode cX4_init 61 = .ok (.aload_n 0, 1) := by decide +kernel
theorem dX4_init_62 : decode cX4_init 62 = .ok (.bipush 12, 2) := by decide +kernel
theorem dX4_init_64 : decode cX4_init 64 = .ok (.newarray .int, 2) := by decide +kernel
theorem dX4_init_66 : decode cX4_init 66 = .ok (.putfield 31, 3) := by decide +kernel
theorem dX4_init_69 : decode cX4_init 69 = .ok (.aload_n 0, 1) := by decide +kernel
theorem dX4_init_70 : decode cX4_init 70 = .ok (.bipush 12, 2) := by decide +kernel
theorem dX4_init_72 : decode cX4_init 72 = .ok (.newarray .int, 2) := by decide +kernel
theorem dX4_init_74 : decode cX4_init 74 = .ok (.putfield 34, 3) := by decide +kernel
theorem dX4_init_77 : decode cX4_init 77 = .ok (.aload_n 0, 1) := by decide +kernel
theorem dX4_init_78 : decode cX4_init 78 = .ok (.bipush 12, 2) := by decide +kernel
theorem dX4_init_80 : decode cX4_init 80 = .ok (.newarray .int, 2) := by decide +kernel
theorem dX4_init_82 : decode cX4_init 82 = .ok (.putfield 37, 3) := by decide +kernel
theorem dX4_init_85 : decode cX4_init 85 = .ok (.aload_n 0, 1) := by decide +kernel
theorem dX4_init_86 : decode cX4_init 86 = .ok (.bipush 100, 2) := by decide +kernel
theorem dX4_init_88 : decode cX4_init 88 = .ok (.newarray .int, 2) := by decide +kernel
theorem dX4_init_90 : decode cX4_init 90 = .ok (.putfield 40, 3) := by decide +kernel
theorem dX4_init_93 : decode cX4_init 93 = .ok (.aload_n 0, 1) := by decide +kernel
theorem dX4_init_94 : decode cX4_init 94 = .ok (.bipush 100, 2) := by decide +kernel
theorem dX4_init_96 : decode cX4_init 96 = .ok (.newarray .int, 2) := by decide +kernel
theorem dX4_init_98 : decode cX4_init 98 = .ok (.putfield 43, 3) := by decide +kernel
theorem dX4_init_101 : decode cX4_init 101 = .ok (.aload_n 0, 1) := by decide +kernel
theorem dX4_init_102 : decode cX4_init 102 = .ok (.iconst 0, 1) := by decide +kernel
theorem dX4_init_103 : decode cX4_init 103 = .ok (.putfield 46, 3) := by decide +kernel
theorem dX4_init_106 : decode cX4_init 106 = .ok (.return_, 1) := by decide +kernel
theorem dX4_in_0 : decode cX4_in 0 = .ok (.iload_n 0, 1) := by decide +kernel
theorem dX4_in_1 : decode cX4_in 1 = .ok (.iload_n 1, 1) := by decide +kernel
theorem dX4_in_2 : decode cX4_in 2 = .ok (.if_icmp .lt 12, 3) := by decide +kernel
theorem dX4_in_5 : decode cX4_in 5 = .ok (.iload_n 0, 1) := by decide +kernel
theorem dX4_in_6 : decode cX4_in 6 = .ok (.iload_n 2, 1) := by decide +kernel
theorem dX4_in_7 : decode cX4_in 7 = .ok (.if_icmp .gt 7, 3) := by decide +kernel
theorem dX4_in_10 : decode cX4_in 10 = .ok (.iconst 1, 1) := by decide +kernel
theorem dX4_in_11 : decode cX4_in 11 = .ok (.goto 4, 3) := by decide +kernel
theorem dX4_in_14 : decode cX4_in 14 = .ok (.iconst 0, 1) := by decide +kernel
theorem dX4_in_15 : decode cX4_in 15 = .ok (.ireturn, 1) := by decide +kernel
theorem dX4_copies_0 : decode cX4_copies 0 = .ok (.iconst 0, 1) := by decide +kernel
theorem dX4_copies_1 : decode cX4_copies 1 = .ok (.istore_n 2, 1) := by decide +kernel
theorem dX4_copies_2 : decode cX4_copies 2 = .ok (.iload_n 2, 1) := by decide +kernel
theorem dX4_copies_3 : decode cX4_copies 3 = .ok (.bipush 37, 2) := by decide +kernel
theorem dX4_copies_5 : decode cX4_copies 5 = .ok (.if_icmp .ge 15, 3) := by decide +kernel
theorem dX4_copies_8 : decode cX4_copies 8 = .ok (.aload_n 1, 1) := by decide +kernel
theorem dX4_copies_9 : decode cX4_copies 9 = .ok (.iload_n 2, 1) := by decide +kernel
theorem dX4_copies_10 : decode cX4_copies 10 = .ok (.aload_n 0, 1) := by decide +kernel
theorem dX4_copies_11 : decode cX4_copies 11 = .ok (.iload_n 2, 1) := by decide +kernel
theorem dX4_copies_12 : decode cX4_copies 12 = .ok (.iaload, 1) := by decide +kernel
theorem dX4_copies_13 : decode cX4_copies 13 = .ok (.iastore, 1) := by decide +kernel
theorem dX4_copies_14 : decode cX4_copies 14 = .ok (.iinc 2 1, 3) := by decide +kernel
theorem dX4_copies_17 : decode cX4_copies 17 = .ok (.goto (-15), 3) := by decide +kernel
theorem dX4_copies_20 : decode cX4_copies 20 = .ok (.return_, 1) := by decide +kernel
theorem dX4_changes_0 : decode cX4_changes 0 = .ok (.aload_n 0, 1) := by decide +kernel
theorem dX4_changes_1 : decode cX4_changes 1 = .ok (.getfield 46, 3) := by decide +kernel
theorem dX4_changes_4 : decode cX4_changes 4 = .ok (.iconst 4, 1) := by decide +kernel
theorem dX4_changes_5 : decode cX4_changes 5 = .ok (.if_icmp .ne 42, 3) := by decide +kernel
theorem dX4_changes_8 : decode cX4_changes 8 = .ok (.iconst 0, 1) := by decide +kernel
theorem dX4_changes_9 : decode cX4_changes 9 = .ok (.istore_n 1, 1) := by decide +kernel
theorem dX4_changes_10 : decode cX4_changes 10 = .ok (.iload_n 1, 1) := by decide +kernel
theorem dX4_changes_11 : decode cX4_changes 11 = .ok (.bipush 111, 2) := by decide +kernel
theorem dX4_changes_13 : decode cX4_changes 13 = .ok (.if_icmp .ge 24, 3) := by decide +kernel
theorem dX4_changes_16 : decode cX4_changes 16 = .ok (.aload_n 0, 1) := by decide +kernel
theorem dX4_changes_17 : decode cX4_changes 17 = .ok (.getfield 13, 3) := by decide +kernel
theorem dX4_changes_20 : decode cX4_changes 20 = .ok (.iload_n 1, 1) := by decide +kernel
theorem dX4_changes_21 : decode cX4_changes 21 = .ok (.aload_n 0, 1) := by decide +kernel
theorem dX4_changes_22 : decode cX4_changes 22 = .ok (.getfield 13, 3) := by decide +kernel
theorem dX4_changes_25 : decode cX4_changes 25 = .ok (.iload_n 1, 1) := by decide +kernel
theorem dX4_changes_26 : decode cX4_changes 26 = .ok (.bipush 37, 2) := by decide +kernel
theorem dX4_changes_28 : decode cX4_changes 28 = .ok (.iadd, 1) := by decide +kernel
theorem dX4_changes_29 : decode cX4_changes 29 = .ok (.iaload, 1) := by decide +kernel
theorem dX4_changes_30 : decode cX4_changes 30 = .ok (.iastore, 1) := by decide +kernel
theorem dX4_changes_31 : decode cX4_changes 31 = .ok (.iinc 1 1, 3) := by decide +kernel
theorem dX4_changes_34 : decode cX4_changes 34 = .ok (.goto (-24), 3) := by decide +kernel
theorem dX4_changes_37 : decode cX4_changes 37 = .ok (.aload_n 0, 1) := by decide +kernel
theorem dX4_changes_38 : decode cX4_changes 38 = .ok (.dup, 1) := by decide +kernel
theorem dX4_changes_39 : decode cX4_changes 39 = .ok (.getfield 46, 3) := by decide +kernel
theorem dX4_changes_42 : decode cX4_changes 42 = .ok (.iconst 1, 1) := by decide +kernel
theorem dX4_changes_43 : decode cX4_changes 43 = .ok (.isub, 1) := by decide +kernel
theorem dX4_changes_44 : decode cX4_changes 44 = .ok (.putfield 46, 3) := by decide +kernel
theorem dX4_changes_47 : decode cX4_changes 47 = .ok (.iconst 0, 1) := by decide +kernel
theorem dX4_changes_48 : decode cX4_changes 48 = .ok (.istore_n 1, 1) := by decide +kernel
theorem dX4_changes_49 : decode cX4_changes 49 = .ok (.iload_n 1, 1) := by decide +kernel
theorem dX4_changes_50 : decode cX4_changes 50 = .ok (.bipush 37, 2) := by decide +kernel
theorem dX4_changes_52 : decode cX4_changes 52 = .ok (.if_icmp .ge 29, 3) := by decide +kernel
theorem dX4_changes_55 : decode cX4_changes 55 = .ok (.aload_n 0, 1) := by decide +kernel
theorem dX4_changes_56 : decode cX4_changes 56 = .ok (.getfield 13, 3) := by decide +kernel
theorem dX4_changes_59 : decode cX4_changes 59 = .ok (.bipush 37, 2) := by decide +kernel
theorem dX4_changes_61 : decode cX4_changes 61 = .ok (.aload_n 0, 1) := by decide +kernel
theorem dX4_changes_62 : decode cX4_changes 62 = .ok (.getfield 46, 3) := by decide +kernel
theorem dX4_changes_65 : decode cX4_changes 65 = .ok (.imul, 1) := by decide +kernel
theorem dX4_changes_66 : decode cX4_changes 66 = .ok (.iload_n 1, 1) := by decide +kernel
theorem dX4_changes_67 : decode cX4_changes 67 = .ok (.iadd, 1) := by decide +kernel
theorem dX4_changes_68 : decode cX4_changes 68 = .ok (.aload_n 0, 1) := by decide +kernel
theorem dX4_changes_69 : decode cX4_changes 69 = .ok (.getfield 7, 3) := by decide +kernel
theorem dX4_changes_72 : decode cX4_changes 72 = .ok (.iload_n 1, 1) := by decide +kernel
theorem dX4_changes_73 : decode cX4_changes 73 = .ok (.iaload, 1) := by decide +kernel
theorem dX4_changes_74 : decode cX4_changes 74 = .ok (.iastore, 1) := by decide +kernel
theorem dX4_changes_75 : decode cX4_changes 75 = .ok (.iinc 1 1, 3) := by decide +kernel
theorem dX4_changes_78 : decode cX4_changes 78 = .ok (.goto (-29), 3) := by decide +kernel
theorem dX4_changes_81 : decode cX4_changes 81 = .ok (.aload_n 0, 1) := by decide +kernel
theorem dX4_changes_82 : decode cX4_changes 82 = .ok (.dup, 1) := by decide +kernel
theorem dX4_changes_83 : decode cX4_changes 83 = .ok (.getfield 46, 3) := by decide +kernel
theorem dX4_changes_86 : decode cX4_changes 86 = .ok (.iconst 1, 1) := by decide +kernel
theorem dX4_changes_87 : decode cX4_changes 87 = .ok (.iadd, 1) := by decide +kernel
theorem dX4_changes_88 : decode cX4_changes 88 = .ok (.putfield 46, 3) := by decide +kernel
theorem dX4_changes_91 : decode cX4_changes 91 = .ok (.return_, 1) := by decide +kernel
theorem dX4_isPlace_0 : decode cX4_isPlace 0 = .ok (.iload_n 1, 1) := by decide +kernel
theorem dX4_isPlace_1 : decode cX4_isPlace 1 = .ok (.ifCond .lt 17, 3) := by decide +kernel
theorem dX4_isPlace_4 : decode cX4_isPlace 4 = .ok (.iload_n 1, 1) := by decide +kernel
theorem dX4_isPlace_5 : decode cX4_isPlace 5 = .ok (.aload_n 0, 1) := by decide +kernel
theorem dX4_isPlace_6 : decode cX4_isPlace 6 = .ok (.getfield 7, 3) := by decide +kernel
theorem dX4_isPlace_9 : decode cX4_isPlace 9 = .ok (.iconst 0, 1) := by decide +kernel
theorem dX4_isPlace_10 : decode cX4_isPlace 10 = .ok (.iaload, 1) := by decide +kernel
theorem dX4_isPlace_11 : decode cX4_isPlace 11 = .ok (.if_icmp .ge 7, 3) := by decide +kernel
theorem dX4_isPlace_14 : decode cX4_isPlace 14 = .ok (.iconst 1, 1) := by decide +kernel
theorem dX4_isPlace_15 : decode cX4_isPlace 15 = .ok (.goto 4, 3) := by decide +kernel
theorem dX4_isPlace_18 : decode cX4_isPlace 18 = .ok (.iconst 0, 1) := by decide +kernel
theorem dX4_isPlace_19 : decode cX4_isPlace 19 = .ok (.ireturn, 1) := by decide +kernel
theorem dX4_all_0 : decode cX4_all 0 = .ok (.iconst 1, 1) := by decide +kernel
theorem dX4_all_1 : decode cX4_all 1 = .ok (.aload_n 0, 1) := by decide +kernel
theorem dX4_all_2 : decode cX4_all 2 = .ok (.getfield 7, 3) := by decide +kernel
theorem dX4_all_5 : decode cX4_all 5 = .ok (.iconst 0, 1) := by decide +kernel
theorem dX4_all_6 : decode cX4_all 6 = .ok (.iaload, 1) := by decide +kernel
theorem dX4_all_7 : decode cX4_all 7 = .ok (.ishl, 1) := by decide +kernel
theorem dX4_all_8 : decode cX4_all 8 = .ok (.iconst 1, 1) := by decide +kernel
theorem dX4_all_9 : decode cX4_all 9 = .ok (.isub, 1) := by decide +kernel
theorem dX4_all_10 : decode cX4_all 10 = .ok (.ireturn, 1) := by decide +kernel
theorem dX4_hasWay_0 : decode cX4_hasWay 0 = .ok (.aload_n 0, 1) := by decide +kernel
theorem dX4_hasWay_1 : decode cX4_hasWay 1 = .ok (.getfield 7, 3) := by decide +kernel
theorem dX4_hasWay_4 : decode cX4_hasWay 4 = .ok (.bipush 25, 2) := by decide +kernel
theorem dX4_hasWay_6 : decode cX4_hasWay 6 = .ok (.iload_n 1, 1) := by decide +kernel
theorem dX4_hasWay_7 : decode cX4_hasWay 7 = .ok (.iadd, 1) := by decide +kernel
theorem dX4_hasWay_8 : decode cX4_hasWay 8 = .ok (.iaload, 1) := by decide +kernel
theorem dX4_hasWay_9 : decode cX4_hasWay 9 = .ok (.iload_n 2, 1) := by decide +kernel
theorem dX4_hasWay_10 : decode cX4_hasWay 10 = .ok (.ishr, 1) := by decide +kernel
theorem dX4_hasWay_11 : decode cX4_hasWay 11 = .ok (.iconst 1, 1) := by decide +kernel
theorem dX4_hasWay_12 : decode cX4_hasWay 12 = .ok (.iand, 1) := by decide +kernel
theorem dX4_hasWay_13 : decode cX4_hasWay 13 = .ok (.iconst 1, 1) := by decide +kernel
theorem dX4_hasWay_14 : decode cX4_hasWay 14 = .ok (.if_icmp .ne 7, 3) := by decide +kernel
theorem dX4_hasWay_17 : decode cX4_hasWay 17 = .ok (.iconst 1, 1) := by decide +kernel
theorem dX4_hasWay_18 : decode cX4_hasWay 18 = .ok (.goto 4, 3) := by decide +kernel
theorem dX4_hasWay_21 : decode cX4_hasWay 21 = .ok (.iconst 0, 1) := by decide +kernel
theorem dX4_hasWay_22 : decode cX4_hasWay 22 = .ok (.ireturn, 1) := by decide +kernel
theorem dX4_ones_0 : decode cX4_ones 0 = .ok (.iconst 0, 1) := by decide +kernel
theorem dX4_ones_1 : decode cX4_ones 1 = .ok (.istore_n 1, 1) := by decide +kernel
theorem dX4_ones_2 : decode cX4_ones 2 = .ok (.iconst 0, 1) := by decide +kernel
theorem dX4_ones_3 : decode cX4_ones 3 = .ok (.istore_n 2, 1) := by decide +kernel
theorem dX4_ones_4 : decode cX4_ones 4 = .ok (.iload_n 2, 1) := by decide +kernel
theorem dX4_ones_5 : decode cX4_ones 5 = .ok (.bipush 12, 2) := by decide +kernel
theorem dX4_ones_7 : decode cX4_ones 7 = .ok (.if_icmp .ge 17, 3) := by decide +kernel
theorem dX4_ones_10 : decode cX4_ones 10 = .ok (.iload_n 1, 1) := by decide +kernel
theorem dX4_ones_11 : decode cX4_ones 11 = .ok (.iload_n 0, 1) := by decide +kernel
theorem dX4_ones_12 : decode cX4_ones 12 = .ok (.iload_n 2, 1) := by decide +kernel
theorem dX4_ones_13 : decode cX4_ones 13 = .ok (.ishr, 1) := by decide +kernel
theorem dX4_ones_14 : decode cX4_ones 14 = .ok (.iconst 1, 1) := by decide +kernel
theorem dX4_ones_15 : decode cX4_ones 15 = .ok (.iand, 1) := by decide +kernel
theorem dX4_ones_16 : decode cX4_ones 16 = .ok (.iadd, 1) := by decide +kernel
theorem dX4_ones_17 : decode cX4_ones 17 = .ok (.istore_n 1, 1) := by decide +kernel
theorem dX4_ones_18 : decode cX4_ones 18 = .ok (.iinc 2 1, 3) := by decide +kernel
theorem dX4_ones_21 : decode cX4_ones 21 = .ok (.goto (-17), 3) := by decide +kernel
theorem dX4_ones_24 : decode cX4_ones 24 = .ok (.iload_n 1, 1) := by decide +kernel
theorem dX4_ones_25 : decode cX4_ones 25 = .ok (.ireturn, 1) := by decide +kernel
theorem dX4_lowest_0 : decode cX4_lowest 0 = .ok (.iconst 0, 1) := by decide +kernel
theorem dX4_lowest_1 : decode cX4_lowest 1 = .ok (.istore_n 1, 1) := by decide +kernel
theorem dX4_lowest_2 : decode cX4_lowest 2 = .ok (.iload_n 1, 1) := by decide +kernel
theorem dX4_lowest_3 : decode cX4_lowest 3 = .ok (.bipush 12, 2) := by decide +kernel
theorem dX4_lowest_5 : decode cX4_lowest 5 = .ok (.if_icmp .ge 17, 3) := by decide +kernel
theorem dX4_lowest_8 : decode cX4_lowest 8 = .ok (.iload_n 0, 1) := by decide +kernel
theorem dX4_lowest_9 : decode cX4_lowest 9 = .ok (.iload_n 1, 1) := by decide +kernel
theorem dX4_lowest_10 : decode cX4_lowest 10 = .ok (.ishr, 1) := by decide +kernel
theorem dX4_lowest_11 : decode cX4_lowest 11 = .ok (.iconst 1, 1) := by decide +kernel
theorem dX4_lowest_12 : decode cX4_lowest 12 = .ok (.iand, 1) := by decide +kernel
theorem dX4_lowest_13 : decode cX4_lowest 13 = .ok (.ifCond .ne 9, 3) := by decide +kernel
theorem dX4_lowest_16 : decode cX4_lowest 16 = .ok (.iinc 1 1, 3) := by decide +kernel
theorem dX4_lowest_19 : decode cX4_lowest 19 = .ok (.goto (-17), 3) := by decide +kernel
theorem dX4_lowest_22 : decode cX4_lowest 22 = .ok (.iload_n 1, 1) := by decide +kernel
theorem dX4_lowest_23 : decode cX4_lowest 23 = .ok (.bipush 12, 2) := by decide +kernel
theorem dX4_lowest_25 : decode cX4_lowest 25 = .ok (.if_icmp .ne 8, 3) := by decide +kernel
theorem dX4_lowest_28 : decode cX4_lowest 28 = .ok (.bipush (-4), 2) := by decide +kernel
theorem dX4_lowest_30 : decode cX4_lowest 30 = .ok (.goto 4, 3) := by decide +kernel
theorem dX4_lowest_33 : decode cX4_lowest 33 = .ok (.iload_n 1, 1) := by decide +kernel
theorem dX4_lowest_34 : decode cX4_lowest 34 = .ok (.ireturn, 1) := by decide +kernel
theorem dX4_add_0 : decode cX4_add 0 = .ok (.iload_n 1, 1) := by decide +kernel
theorem dX4_add_1 : decode cX4_add 1 = .ok (.iconst 0, 1) := by decide +kernel
theorem dX4_add_2 : decode cX4_add 2 = .ok (.iconst 1, 1) := by decide +kernel
theorem dX4_add_3 : decode cX4_add 3 = .ok (.invokestatic 50, 3) := by decide +kernel
theorem dX4_add_6 : decode cX4_add 6 = .ok (.ifCond .eq 12, 3) := by decide +kernel
theorem dX4_add_9 : decode cX4_add 9 = .ok (.iload_n 2, 1) := by decide +kernel
theorem dX4_add_10 : decode cX4_add 10 = .ok (.iconst 0, 1) := by decide +kernel
theorem dX4_add_11 : decode cX4_add 11 = .ok (.iconst 5, 1) := by decide +kernel
theorem dX4_add_12 : decode cX4_add 12 = .ok (.invokestatic 50, 3) := by decide +kernel
theorem dX4_add_15 : decode cX4_add 15 = .ok (.ifCond .ne 5, 3) := by decide +kernel
theorem dX4_add_18 : decode cX4_add 18 = .ok (.iconst (-1), 1) := by decide +kernel
theorem dX4_add_19 : decode cX4_add 19 = .ok (.ireturn, 1) := by decide +kernel
theorem dX4_add_20 : decode cX4_add 20 = .ok (.aload_n 0, 1) := by decide +kernel
theorem dX4_add_21 : decode cX4_add 21 = .ok (.getfield 7, 3) := by decide +kernel
theorem dX4_add_24 : decode cX4_add 24 = .ok (.iconst 0, 1) := by decide +kernel
theorem dX4_add_25 : decode cX4_add 25 = .ok (.iaload, 1) := by decide +kernel
theorem dX4_add_26 : decode cX4_add 26 = .ok (.istore_n 3, 1) := by decide +kernel
theorem dX4_add_27 : decode cX4_add 27 = .ok (.iload_n 3, 1) := by decide +kernel
theorem dX4_add_28 : decode cX4_add 28 = .ok (.bipush 12, 2) := by decide +kernel
theorem dX4_add_30 : decode cX4_add 30 = .ok (.if_icmp .ne 6, 3) := by decide +kernel
theorem dX4_add_33 : decode cX4_add 33 = .ok (.bipush (-3), 2) := by decide +kernel
theorem dX4_add_35 : decode cX4_add 35 = .ok (.ireturn, 1) := by decide +kernel
theorem dX4_add_36 : decode cX4_add 36 = .ok (.aload_n 0, 1) := by decide +kernel
theorem dX4_add_37 : decode cX4_add 37 = .ok (.invokevirtual 54, 3) := by decide +kernel
theorem dX4_add_40 : decode cX4_add 40 = .ok (.aload_n 0, 1) := by decide +kernel
theorem dX4_add_41 : decode cX4_add 41 = .ok (.getfield 7, 3) := by decide +kernel
theorem dX4_add_44 : decode cX4_add 44 = .ok (.iconst 1, 1) := by decide +kernel
theorem dX4_add_45 : decode cX4_add 45 = .ok (.iload_n 3, 1) := by decide +kernel
theorem dX4_add_46 : decode cX4_add 46 = .ok (.iadd, 1) := by decide +kernel
theorem dX4_add_47 : decode cX4_add 47 = .ok (.iload_n 1, 1) := by decide +kernel
theorem dX4_add_48 : decode cX4_add 48 = .ok (.iastore, 1) := by decide +kernel
theorem dX4_add_49 : decode cX4_add 49 = .ok (.aload_n 0, 1) := by decide +kernel
theorem dX4_add_50 : decode cX4_add 50 = .ok (.getfield 7, 3) := by decide +kernel
theorem dX4_add_53 : decode cX4_add 53 = .ok (.bipush 13, 2) := by decide +kernel
theorem dX4_add_55 : decode cX4_add 55 = .ok (.iload_n 3, 1) := by decide +kernel
theorem dX4_add_56 : decode cX4_add 56 = .ok (.iadd, 1) := by decide +kernel
theorem dX4_add_57 : decode cX4_add 57 = .ok (.iload_n 2, 1) := by decide +kernel
theorem dX4_add_58 : decode cX4_add 58 = .ok (.iastore, 1) := by decide +kernel
theorem dX4_add_59 : decode cX4_add 59 = .ok (.aload_n 0, 1) := by decide +kernel
theorem dX4_add_60 : decode cX4_add 60 = .ok (.getfield 7, 3) := by decide +kernel
theorem dX4_add_63 : decode cX4_add 63 = .ok (.bipush 25, 2) := by decide +kernel
theorem dX4_add_65 : decode cX4_add 65 = .ok (.iload_n 3, 1) := by decide +kernel
theorem dX4_add_66 : decode cX4_add 66 = .ok (.iadd, 1) := by decide +kernel
theorem dX4_add_67 : decode cX4_add 67 = .ok (.iconst 0, 1) := by decide +kernel
theorem dX4_add_68 : decode cX4_add 68 = .ok (.iastore, 1) := by decide +kernel
theorem dX4_add_69 : decode cX4_add 69 = .ok (.aload_n 0, 1) := by decide +kernel
theorem dX4_add_70 : decode cX4_add 70 = .ok (.getfield 7, 3) := by decide +kernel
theorem dX4_add_73 : decode cX4_add 73 = .ok (.iconst 0, 1) := by decide +kernel
theorem dX4_add_74 : decode cX4_add 74 = .ok (.dup2, 1) := by decide +kernel
theorem dX4_add_75 : decode cX4_add 75 = .ok (.iaload, 1) := by decide +kernel
theorem dX4_add_76 : decode cX4_add 76 = .ok (.iconst 1, 1) := by decide +kernel
theorem dX4_add_77 : decode cX4_add 77 = .ok (.iadd, 1) := by decide +kernel
theorem dX4_add_78 : decode cX4_add 78 = .ok (.iastore, 1) := by decide +kernel
theorem dX4_add_79 : decode cX4_add 79 = .ok (.iload_n 3, 1) := by decide +kernel
theorem dX4_add_80 : decode cX4_add 80 = .ok (.ireturn, 1) := by decide +kernel
theorem dX4_own_0 : decode cX4_own 0 = .ok (.aload_n 0, 1) := by decide +kernel
theorem dX4_own_1 : decode cX4_own 1 = .ok (.iload_n 1, 1) := by decide +kernel
theorem dX4_own_2 : decode cX4_own 2 = .ok (.invokevirtual 57, 3) := by decide +kernel
theorem dX4_own_5 : decode cX4_own 5 = .ok (.ifCond .eq 12, 3) := by decide +kernel
theorem dX4_own_8 : decode cX4_own 8 = .ok (.iload_n 2, 1) := by decide +kernel
theorem dX4_own_9 : decode cX4_own 9 = .ok (.iconst 0, 1) := by decide +kernel
theorem dX4_own_10 : decode cX4_own 10 = .ok (.iconst 1, 1) := by decide +kernel
theorem dX4_own_11 : decode cX4_own 11 = .ok (.invokestatic 50, 3) := by decide +kernel
theorem dX4_own_14 : decode cX4_own 14 = .ok (.ifCond .ne 5, 3) := by decide +kernel
theorem dX4_own_17 : decode cX4_own 17 = .ok (.iconst (-1), 1) := by decide +kernel
theorem dX4_own_18 : decode cX4_own 18 = .ok (.ireturn, 1) := by decide +kernel
theorem dX4_own_19 : decode cX4_own 19 = .ok (.aload_n 0, 1) := by decide +kernel
theorem dX4_own_20 : decode cX4_own 20 = .ok (.invokevirtual 54, 3) := by decide +kernel
theorem dX4_own_23 : decode cX4_own 23 = .ok (.aload_n 0, 1) := by decide +kernel
theorem dX4_own_24 : decode cX4_own 24 = .ok (.getfield 7, 3) := by decide +kernel
theorem dX4_own_27 : decode cX4_own 27 = .ok (.iconst 1, 1) := by decide +kernel
theorem dX4_own_28 : decode cX4_own 28 = .ok (.iload_n 1, 1) := by decide +kernel
theorem dX4_own_29 : decode cX4_own 29 = .ok (.iadd, 1) := by decide +kernel
theorem dX4_own_30 : decode cX4_own 30 = .ok (.iaload, 1) := by decide +kernel
theorem dX4_own_31 : decode cX4_own 31 = .ok (.istore_n 3, 1) := by decide +kernel
theorem dX4_own_32 : decode cX4_own 32 = .ok (.aload_n 0, 1) := by decide +kernel
theorem dX4_own_33 : decode cX4_own 33 = .ok (.getfield 7, 3) := by decide +kernel
theorem dX4_own_36 : decode cX4_own 36 = .ok (.iconst 1, 1) := by decide +kernel
theorem dX4_own_37 : decode cX4_own 37 = .ok (.iload_n 1, 1) := by decide +kernel
theorem dX4_own_38 : decode cX4_own 38 = .ok (.iadd, 1) := by decide +kernel
theorem dX4_own_39 : decode cX4_own 39 = .ok (.iload_n 2, 1) := by decide +kernel
theorem dX4_own_40 : decode cX4_own 40 = .ok (.iastore, 1) := by decide +kernel
theorem dX4_own_41 : decode cX4_own 41 = .ok (.iload_n 3, 1) := by decide +kernel
theorem dX4_own_42 : decode cX4_own 42 = .ok (.ireturn, 1) := by decide +kernel
theorem dX4_rank_0 : decode cX4_rank 0 = .ok (.aload_n 0, 1) := by decide +kernel
theorem dX4_rank_1 : decode cX4_rank 1 = .ok (.iload_n 1, 1) := by decide +kernel
theorem dX4_rank_2 : decode cX4_rank 2 = .ok (.invokevirtual 57, 3) := by decide +kernel
theorem dX4_rank_5 : decode cX4_rank 5 = .ok (.ifCond .eq 12, 3) := by decide +kernel
theorem dX4_rank_8 : decode cX4_rank 8 = .ok (.iload_n 2, 1) := by decide +kernel
theorem dX4_rank_9 : decode cX4_rank 9 = .ok (.iconst 0, 1) := by decide +kernel
theorem dX4_rank_10 : decode cX4_rank 10 = .ok (.iconst 5, 1) := by decide +kernel
theorem dX4_rank_11 : decode cX4_rank 11 = .ok (.invokestatic 50, 3) := by decide +kernel
theorem dX4_rank_14 : decode cX4_rank 14 = .ok (.ifCond .ne 5, 3) := by decide +kernel
theorem dX4_rank_17 : decode cX4_rank 17 = .ok (.iconst (-1), 1) := by decide +kernel
theorem dX4_rank_18 : decode cX4_rank 18 = .ok (.ireturn, 1) := by decide +kernel
theorem dX4_rank_19 : decode cX4_rank 19 = .ok (.aload_n 0, 1) := by decide +kernel
theorem dX4_rank_20 : decode cX4_rank 20 = .ok (.invokevirtual 54, 3) := by decide +kernel
theorem dX4_rank_23 : decode cX4_rank 23 = .ok (.aload_n 0, 1) := by decide +kernel
theorem dX4_rank_24 : decode cX4_rank 24 = .ok (.getfield 7, 3) := by decide +kernel
theorem dX4_rank_27 : decode cX4_rank 27 = .ok (.bipush 13, 2) := by decide +kernel
theorem dX4_rank_29 : decode cX4_rank 29 = .ok (.iload_n 1, 1) := by decide +kernel
theorem dX4_rank_30 : decode cX4_rank 30 = .ok (.iadd, 1) := by decide +kernel
theorem dX4_rank_31 : decode cX4_rank 31 = .ok (.iaload, 1) := by decide +kernel
theorem dX4_rank_32 : decode cX4_rank 32 = .ok (.istore_n 3, 1) := by decide +kernel
theorem dX4_rank_33 : decode cX4_rank 33 = .ok (.aload_n 0, 1) := by decide +kernel
theorem dX4_rank_34 : decode cX4_rank 34 = .ok (.getfield 7, 3) := by decide +kernel
theorem dX4_rank_37 : decode cX4_rank 37 = .ok (.bipush 13, 2) := by decide +kernel
theorem dX4_rank_39 : decode cX4_rank 39 = .ok (.iload_n 1, 1) := by decide +kernel
theorem dX4_rank_40 : decode cX4_rank 40 = .ok (.iadd, 1) := by decide +kernel
theorem dX4_rank_41 : decode cX4_rank 41 = .ok (.iload_n 2, 1) := by decide +kernel
theorem dX4_rank_42 : decode cX4_rank 42 = .ok (.iastore, 1) := by decide +kernel
theorem dX4_rank_43 : decode cX4_rank 43 = .ok (.iload_n 3, 1) := by decide +kernel
theorem dX4_rank_44 : decode cX4_rank 44 = .ok (.ireturn, 1) := by decide +kernel
theorem dX4_way_0 : decode cX4_way 0 = .ok (.aload_n 0, 1) := by decide +kernel
theorem dX4_way_1 : decode cX4_way 1 = .ok (.iload_n 1, 1) := by decide +kernel
theorem dX4_way_2 : decode cX4_way 2 = .ok (.invokevirtual 57, 3) := by decide +kernel
theorem dX4_way_5 : decode cX4_way 5 = .ok (.ifCond .eq 20, 3) := by decide +kernel
theorem dX4_way_8 : decode cX4_way 8 = .ok (.aload_n 0, 1) := by decide +kernel
theorem dX4_way_9 : decode cX4_way 9 = .ok (.iload_n 2, 1) := by decide +kernel
theorem dX4_way_10 : decode cX4_way 10 = .ok (.invokevirtual 57, 3) := by decide +kernel
theorem dX4_way_13 : decode cX4_way 13 = .ok (.ifCond .eq 12, 3) := by decide +kernel
theorem dX4_way_16 : decode cX4_way 16 = .ok (.iload_n 3, 1) := by decide +kernel
theorem dX4_way_17 : decode cX4_way 17 = .ok (.iconst 0, 1) := by decide +kernel
theorem dX4_way_18 : decode cX4_way 18 = .ok (.iconst 1, 1) := by decide +kernel
theorem dX4_way_19 : decode cX4_way 19 = .ok (.invokestatic 50, 3) := by decide +kernel
theorem dX4_way_22 : decode cX4_way 22 = .ok (.ifCond .ne 5, 3) := by decide +kernel
theorem dX4_way_25 : decode cX4_way 25 = .ok (.iconst (-1), 1) := by decide +kernel
theorem dX4_way_26 : decode cX4_way 26 = .ok (.ireturn, 1) := by decide +kernel
theorem dX4_way_27 : decode cX4_way 27 = .ok (.aload_n 0, 1) := by decide +kernel
theorem dX4_way_28 : decode cX4_way 28 = .ok (.iload_n 1, 1) := by decide +kernel
theorem dX4_way_29 : decode cX4_way 29 = .ok (.iload_n 2, 1) := by decide +kernel
theorem dX4_way_30 : decode cX4_way 30 = .ok (.invokevirtual 61, 3) := by decide +kernel
theorem dX4_way_33 : decode cX4_way 33 = .ok (.iload_n 3, 1) := by decide +kernel
theorem dX4_way_34 : decode cX4_way 34 = .ok (.iconst 1, 1) := by decide +kernel
theorem dX4_way_35 : decode cX4_way 35 = .ok (.if_icmp .ne 7, 3) := by decide +kernel
theorem dX4_way_38 : decode cX4_way 38 = .ok (.iconst 1, 1) := by decide +kernel
theorem dX4_way_39 : decode cX4_way 39 = .ok (.goto 4, 3) := by decide +kernel
theorem dX4_way_42 : decode cX4_way 42 = .ok (.iconst 0, 1) := by decide +kernel
theorem dX4_way_43 : decode cX4_way 43 = .ok (.if_icmp .ne 6, 3) := by decide +kernel
theorem dX4_way_46 : decode cX4_way 46 = .ok (.bipush (-2), 2) := by decide +kernel
theorem dX4_way_48 : decode cX4_way 48 = .ok (.ireturn, 1) := by decide +kernel
theorem dX4_way_49 : decode cX4_way 49 = .ok (.aload_n 0, 1) := by decide +kernel
theorem dX4_way_50 : decode cX4_way 50 = .ok (.invokevirtual 54, 3) := by decide +kernel
theorem dX4_way_53 : decode cX4_way 53 = .ok (.aload_n 0, 1) := by decide +kernel
theorem dX4_way_54 : decode cX4_way 54 = .ok (.getfield 7, 3) := by decide +kernel
theorem dX4_way_57 : decode cX4_way 57 = .ok (.bipush 25, 2) := by decide +kernel
theorem dX4_way_59 : decode cX4_way 59 = .ok (.iload_n 1, 1) := by decide +kernel
theorem dX4_way_60 : decode cX4_way 60 = .ok (.iadd, 1) := by decide +kernel
theorem dX4_way_61 : decode cX4_way 61 = .ok (.dup2, 1) := by decide +kernel
theorem dX4_way_62 : decode cX4_way 62 = .ok (.iaload, 1) := by decide +kernel
theorem dX4_way_63 : decode cX4_way 63 = .ok (.iconst 1, 1) := by decide +kernel
theorem dX4_way_64 : decode cX4_way 64 = .ok (.iload_n 2, 1) := by decide +kernel
theorem dX4_way_65 : decode cX4_way 65 = .ok (.ishl, 1) := by decide +kernel
theorem dX4_way_66 : decode cX4_way 66 = .ok (.ixor, 1) := by decide +kernel
theorem dX4_way_67 : decode cX4_way 67 = .ok (.iastore, 1) := by decide +kernel
theorem dX4_way_68 : decode cX4_way 68 = .ok (.aload_n 0, 1) := by decide +kernel
theorem dX4_way_69 : decode cX4_way 69 = .ok (.getfield 7, 3) := by decide +kernel
theorem dX4_way_72 : decode cX4_way 72 = .ok (.bipush 25, 2) := by decide +kernel
theorem dX4_way_74 : decode cX4_way 74 = .ok (.iload_n 1, 1) := by decide +kernel
theorem dX4_way_75 : decode cX4_way 75 = .ok (.iadd, 1) := by decide +kernel
theorem dX4_way_76 : decode cX4_way 76 = .ok (.iaload, 1) := by decide +kernel
theorem dX4_way_77 : decode cX4_way 77 = .ok (.invokestatic 65, 3) := by decide +kernel
theorem dX4_way_80 : decode cX4_way 80 = .ok (.ireturn, 1) := by decide +kernel
theorem dX4_drop_0 : decode cX4_drop 0 = .ok (.aload_n 0, 1) := by decide +kernel
theorem dX4_drop_1 : decode cX4_drop 1 = .ok (.iload_n 1, 1) := by decide +kernel
theorem dX4_drop_2 : decode cX4_drop 2 = .ok (.invokevirtual 57, 3) := by decide +kernel
theorem dX4_drop_5 : decode cX4_drop 5 = .ok (.ifCond .ne 5, 3) := by decide +kernel
theorem dX4_drop_8 : decode cX4_drop 8 = .ok (.iconst (-1), 1) := by decide +kernel
theorem dX4_drop_9 : decode cX4_drop 9 = .ok (.ireturn, 1) := by decide +kernel
theorem dX4_drop_10 : decode cX4_drop 10 = .ok (.aload_n 0, 1) := by decide +kernel
theorem dX4_drop_11 : decode cX4_drop 11 = .ok (.invokevirtual 54, 3) := by decide +kernel
theorem dX4_drop_14 : decode cX4_drop 14 = .ok (.aload_n 0, 1) := by decide +kernel
theorem dX4_drop_15 : decode cX4_drop 15 = .ok (.getfield 7, 3) := by decide +kernel
theorem dX4_drop_18 : decode cX4_drop 18 = .ok (.iconst 0, 1) := by decide +kernel
theorem dX4_drop_19 : decode cX4_drop 19 = .ok (.dup2, 1) := by decide +kernel
theorem dX4_drop_20 : decode cX4_drop 20 = .ok (.iaload, 1) := by decide +kernel
theorem dX4_drop_21 : decode cX4_drop 21 = .ok (.iconst 1, 1) := by decide +kernel
theorem dX4_drop_22 : decode cX4_drop 22 = .ok (.isub, 1) := by decide +kernel
theorem dX4_drop_23 : decode cX4_drop 23 = .ok (.iastore, 1) := by decide +kernel
theorem dX4_drop_24 : decode cX4_drop 24 = .ok (.iconst 1, 1) := by decide +kernel
theorem dX4_drop_25 : decode cX4_drop 25 = .ok (.iload_n 1, 1) := by decide +kernel
theorem dX4_drop_26 : decode cX4_drop 26 = .ok (.ishl, 1) := by decide +kernel
theorem dX4_drop_27 : decode cX4_drop 27 = .ok (.iconst 1, 1) := by decide +kernel
theorem dX4_drop_28 : decode cX4_drop 28 = .ok (.isub, 1) := by decide +kernel
theorem dX4_drop_29 : decode cX4_drop 29 = .ok (.istore_n 2, 1) := by decide +kernel
theorem dX4_drop_30 : decode cX4_drop 30 = .ok (.iconst 0, 1) := by decide +kernel
theorem dX4_drop_31 : decode cX4_drop 31 = .ok (.istore_n 3, 1) := by decide +kernel
theorem dX4_drop_32 : decode cX4_drop 32 = .ok (.iload_n 3, 1) := by decide +kernel
theorem dX4_drop_33 : decode cX4_drop 33 = .ok (.aload_n 0, 1) := by decide +kernel
theorem dX4_drop_34 : decode cX4_drop 34 = .ok (.getfield 7, 3) := by decide +kernel
theorem dX4_drop_37 : decode cX4_drop 37 = .ok (.iconst 0, 1) := by decide +kernel
theorem dX4_drop_38 : decode cX4_drop 38 = .ok (.iaload, 1) := by decide +kernel
theorem dX4_drop_39 : decode cX4_drop 39 = .ok (.if_icmp .ge 93, 3) := by decide +kernel
theorem dX4_drop_42 : decode cX4_drop 42 = .ok (.iload_n 3, 1) := by decide +kernel
theorem dX4_drop_43 : decode cX4_drop 43 = .ok (.iload_n 1, 1) := by decide +kernel
theorem dX4_drop_44 : decode cX4_drop 44 = .ok (.if_icmp .ge 7, 3) := by decide +kernel
theorem dX4_drop_47 : decode cX4_drop 47 = .ok (.iload_n 3, 1) := by decide +kernel
theorem dX4_drop_48 : decode cX4_drop 48 = .ok (.goto 6, 3) := by decide +kernel
theorem dX4_drop_51 : decode cX4_drop 51 = .ok (.iload_n 3, 1) := by decide +kernel
theorem dX4_drop_52 : decode cX4_drop 52 = .ok (.iconst 1, 1) := by decide +kernel
theorem dX4_drop_53 : decode cX4_drop 53 = .ok (.iadd, 1) := by decide +kernel
theorem dX4_drop_54 : decode cX4_drop 54 = .ok (.istore 4, 2) := by decide +kernel
theorem dX4_drop_56 : decode cX4_drop 56 = .ok (.aload_n 0, 1) := by decide +kernel
theorem dX4_drop_57 : decode cX4_drop 57 = .ok (.getfield 7, 3) := by decide +kernel
theorem dX4_drop_60 : decode cX4_drop 60 = .ok (.bipush 25, 2) := by decide +kernel
theorem dX4_drop_62 : decode cX4_drop 62 = .ok (.iload 4, 2) := by decide +kernel
theorem dX4_drop_64 : decode cX4_drop 64 = .ok (.iadd, 1) := by decide +kernel
theorem dX4_drop_65 : decode cX4_drop 65 = .ok (.iaload, 1) := by decide +kernel
theorem dX4_drop_66 : decode cX4_drop 66 = .ok (.istore 5, 2) := by decide +kernel
theorem dX4_drop_68 : decode cX4_drop 68 = .ok (.aload_n 0, 1) := by decide +kernel
theorem dX4_drop_69 : decode cX4_drop 69 = .ok (.getfield 7, 3) := by decide +kernel
theorem dX4_drop_72 : decode cX4_drop 72 = .ok (.iconst 1, 1) := by decide +kernel
theorem dX4_drop_73 : decode cX4_drop 73 = .ok (.iload_n 3, 1) := by decide +kernel
theorem dX4_drop_74 : decode cX4_drop 74 = .ok (.iadd, 1) := by decide +kernel
theorem dX4_drop_75 : decode cX4_drop 75 = .ok (.aload_n 0, 1) := by decide +kernel
theorem dX4_drop_76 : decode cX4_drop 76 = .ok (.getfield 7, 3) := by decide +kernel
theorem dX4_drop_79 : decode cX4_drop 79 = .ok (.iconst 1, 1) := by decide +kernel
theorem dX4_drop_80 : decode cX4_drop 80 = .ok (.iload 4, 2) := by decide +kernel
theorem dX4_drop_82 : decode cX4_drop 82 = .ok (.iadd, 1) := by decide +kernel
theorem dX4_drop_83 : decode cX4_drop 83 = .ok (.iaload, 1) := by decide +kernel
theorem dX4_drop_84 : decode cX4_drop 84 = .ok (.iastore, 1) := by decide +kernel
theorem dX4_drop_85 : decode cX4_drop 85 = .ok (.aload_n 0, 1) := by decide +kernel
theorem dX4_drop_86 : decode cX4_drop 86 = .ok (.getfield 7, 3) := by decide +kernel
theorem dX4_drop_89 : decode cX4_drop 89 = .ok (.bipush 13, 2) := by decide +kernel
theorem dX4_drop_91 : decode cX4_drop 91 = .ok (.iload_n 3, 1) := by decide +kernel
theorem dX4_drop_92 : decode cX4_drop 92 = .ok (.iadd, 1) := by decide +kernel
theorem dX4_drop_93 : decode cX4_drop 93 = .ok (.aload_n 0, 1) := by decide +kernel
theorem dX4_drop_94 : decode cX4_drop 94 = .ok (.getfield 7, 3) := by decide +kernel
theorem dX4_drop_97 : decode cX4_drop 97 = .ok (.bipush 13, 2) := by decide +kernel
theorem dX4_drop_99 : decode cX4_drop 99 = .ok (.iload 4, 2) := by decide +kernel
theorem dX4_drop_101 : decode cX4_drop 101 = .ok (.iadd, 1) := by decide +kernel
theorem dX4_drop_102 : decode cX4_drop 102 = .ok (.iaload, 1) := by decide +kernel
theorem dX4_drop_103 : decode cX4_drop 103 = .ok (.iastore, 1) := by decide +kernel
theorem dX4_drop_104 : decode cX4_drop 104 = .ok (.aload_n 0, 1) := by decide +kernel
theorem dX4_drop_105 : decode cX4_drop 105 = .ok (.getfield 7, 3) := by decide +kernel
theorem dX4_drop_108 : decode cX4_drop 108 = .ok (.bipush 25, 2) := by decide +kernel
theorem dX4_drop_110 : decode cX4_drop 110 = .ok (.iload_n 3, 1) := by decide +kernel
theorem dX4_drop_111 : decode cX4_drop 111 = .ok (.iadd, 1) := by decide +kernel
theorem dX4_drop_112 : decode cX4_drop 112 = .ok (.iload 5, 2) := by decide +kernel
theorem dX4_drop_114 : decode cX4_drop 114 = .ok (.iload_n 2, 1) := by decide +kernel
theorem dX4_drop_115 : decode cX4_drop 115 = .ok (.iand, 1) := by decide +kernel
theorem dX4_drop_116 : decode cX4_drop 116 = .ok (.iload 5, 2) := by decide +kernel
theorem dX4_drop_118 : decode cX4_drop 118 = .ok (.iconst 1, 1) := by decide +kernel
theorem dX4_drop_119 : decode cX4_drop 119 = .ok (.ishr, 1) := by decide +kernel
theorem dX4_drop_120 : decode cX4_drop 120 = .ok (.iload_n 2, 1) := by decide +kernel
theorem dX4_drop_121 : decode cX4_drop 121 = .ok (.iconst (-1), 1) := by decide +kernel
theorem dX4_drop_122 : decode cX4_drop 122 = .ok (.ixor, 1) := by decide +kernel
theorem dX4_drop_123 : decode cX4_drop 123 = .ok (.iand, 1) := by decide +kernel
theorem dX4_drop_124 : decode cX4_drop 124 = .ok (.ior, 1) := by decide +kernel
theorem dX4_drop_125 : decode cX4_drop 125 = .ok (.iastore, 1) := by decide +kernel
theorem dX4_drop_126 : decode cX4_drop 126 = .ok (.iinc 3 1, 3) := by decide +kernel
theorem dX4_drop_129 : decode cX4_drop 129 = .ok (.goto (-97), 3) := by decide +kernel
theorem dX4_drop_132 : decode cX4_drop 132 = .ok (.aload_n 0, 1) := by decide +kernel
theorem dX4_drop_133 : decode cX4_drop 133 = .ok (.getfield 7, 3) := by decide +kernel
theorem dX4_drop_136 : decode cX4_drop 136 = .ok (.iconst 0, 1) := by decide +kernel
theorem dX4_drop_137 : decode cX4_drop 137 = .ok (.iaload, 1) := by decide +kernel
theorem dX4_drop_138 : decode cX4_drop 138 = .ok (.ireturn, 1) := by decide +kernel
theorem dX4_withRank_0 : decode cX4_withRank 0 = .ok (.iconst 0, 1) := by decide +kernel
theorem dX4_withRank_1 : decode cX4_withRank 1 = .ok (.istore_n 2, 1) := by decide +kernel
theorem dX4_withRank_2 : decode cX4_withRank 2 = .ok (.iconst 0, 1) := by decide +kernel
theorem dX4_withRank_3 : decode cX4_withRank 3 = .ok (.istore_n 3, 1) := by decide +kernel
theorem dX4_withRank_4 : decode cX4_withRank 4 = .ok (.iload_n 3, 1) := by decide +kernel
theorem dX4_withRank_5 : decode cX4_withRank 5 = .ok (.aload_n 0, 1) := by decide +kernel
theorem dX4_withRank_6 : decode cX4_withRank 6 = .ok (.getfield 7, 3) := by decide +kernel
theorem dX4_withRank_9 : decode cX4_withRank 9 = .ok (.iconst 0, 1) := by decide +kernel
theorem dX4_withRank_10 : decode cX4_withRank 10 = .ok (.iaload, 1) := by decide +kernel
theorem dX4_withRank_11 : decode cX4_withRank 11 = .ok (.if_icmp .ge 30, 3) := by decide +kernel
theorem dX4_withRank_14 : decode cX4_withRank 14 = .ok (.iload_n 2, 1) := by decide +kernel
theorem dX4_withRank_15 : decode cX4_withRank 15 = .ok (.aload_n 0, 1) := by decide +kernel
theorem dX4_withRank_16 : decode cX4_withRank 16 = .ok (.getfield 7, 3) := by decide +kernel
theorem dX4_withRank_19 : decode cX4_withRank 19 = .ok (.bipush 13, 2) := by decide +kernel
theorem dX4_withRank_21 : decode cX4_withRank 21 = .ok (.iload_n 3, 1) := by decide +kernel
theorem dX4_withRank_22 : decode cX4_withRank 22 = .ok (.iadd, 1) := by decide +kernel
theorem dX4_withRank_23 : decode cX4_withRank 23 = .ok (.iaload, 1) := by decide +kernel
theorem dX4_withRank_24 : decode cX4_withRank 24 = .ok (.iload_n 1, 1) := by decide +kernel
theorem dX4_withRank_25 : decode cX4_withRank 25 = .ok (.if_icmp .ne 7, 3) := by decide +kernel
theorem dX4_withRank_28 : decode cX4_withRank 28 = .ok (.iconst 1, 1) := by decide +kernel
theorem dX4_withRank_29 : decode cX4_withRank 29 = .ok (.goto 4, 3) := by decide +kernel
theorem dX4_withRank_32 : decode cX4_withRank 32 = .ok (.iconst 0, 1) := by decide +kernel
theorem dX4_withRank_33 : decode cX4_withRank 33 = .ok (.iadd, 1) := by decide +kernel
theorem dX4_withRank_34 : decode cX4_withRank 34 = .ok (.istore_n 2, 1) := by decide +kernel
theorem dX4_withRank_35 : decode cX4_withRank 35 = .ok (.iinc 3 1, 3) := by decide +kernel
theorem dX4_withRank_38 : decode cX4_withRank 38 = .ok (.goto (-34), 3) := by decide +kernel
theorem dX4_withRank_41 : decode cX4_withRank 41 = .ok (.iload_n 2, 1) := by decide +kernel
theorem dX4_withRank_42 : decode cX4_withRank 42 = .ok (.ireturn, 1) := by decide +kernel
theorem dX4_ahead_0 : decode cX4_ahead 0 = .ok (.iload_n 2, 1) := by decide +kernel
theorem dX4_ahead_1 : decode cX4_ahead 1 = .ok (.ldc 69, 2) := by decide +kernel
theorem dX4_ahead_3 : decode cX4_ahead 3 = .ok (.if_icmp .ne 6, 3) := by decide +kernel
theorem dX4_ahead_6 : decode cX4_ahead 6 = .ok (.ldc 69, 2) := by decide +kernel
theorem dX4_ahead_8 : decode cX4_ahead 8 = .ok (.ireturn, 1) := by decide +kernel
theorem dX4_ahead_9 : decode cX4_ahead 9 = .ok (.iload_n 2, 1) := by decide +kernel
theorem dX4_ahead_10 : decode cX4_ahead 10 = .ok (.sipush 169, 3) := by decide +kernel
theorem dX4_ahead_13 : decode cX4_ahead 13 = .ok (.idiv, 1) := by decide +kernel
theorem dX4_ahead_14 : decode cX4_ahead 14 = .ok (.istore_n 3, 1) := by decide +kernel
theorem dX4_ahead_15 : decode cX4_ahead 15 = .ok (.iload_n 1, 1) := by decide +kernel
theorem dX4_ahead_16 : decode cX4_ahead 16 = .ok (.iconst 4, 1) := by decide +kernel
theorem dX4_ahead_17 : decode cX4_ahead 17 = .ok (.if_icmp .ge 13, 3) := by decide +kernel
theorem dX4_ahead_20 : decode cX4_ahead 20 = .ok (.iload_n 2, 1) := by decide +kernel
theorem dX4_ahead_21 : decode cX4_ahead 21 = .ok (.bipush 13, 2) := by decide +kernel
theorem dX4_ahead_23 : decode cX4_ahead 23 = .ok (.idiv, 1) := by decide +kernel
theorem dX4_ahead_24 : decode cX4_ahead 24 = .ok (.bipush 13, 2) := by decide +kernel
theorem dX4_ahead_26 : decode cX4_ahead 26 = .ok (.irem, 1) := by decide +kernel
theorem dX4_ahead_27 : decode cX4_ahead 27 = .ok (.goto 4, 3) := by decide +kernel
theorem dX4_ahead_30 : decode cX4_ahead 30 = .ok (.iconst 0, 1) := by decide +kernel
theorem dX4_ahead_31 : decode cX4_ahead 31 = .ok (.istore 4, 2) := by decide +kernel
theorem dX4_ahead_33 : decode cX4_ahead 33 = .ok (.iload_n 1, 1) := by decide +kernel
theorem dX4_ahead_34 : decode cX4_ahead 34 = .ok (.iconst 2, 1) := by decide +kernel
theorem dX4_ahead_35 : decode cX4_ahead 35 = .ok (.if_icmp .ge 10, 3) := by decide +kernel
theorem dX4_ahead_38 : decode cX4_ahead 38 = .ok (.iload_n 2, 1) := by decide +kernel
theorem dX4_ahead_39 : decode cX4_ahead 39 = .ok (.bipush 13, 2) := by decide +kernel
theorem dX4_ahead_41 : decode cX4_ahead 41 = .ok (.irem, 1) := by decide +kernel
theorem dX4_ahead_42 : decode cX4_ahead 42 = .ok (.goto 4, 3) := by decide +kernel
theorem dX4_ahead_45 : decode cX4_ahead 45 = .ok (.iconst 0, 1) := by decide +kernel
theorem dX4_ahead_46 : decode cX4_ahead 46 = .ok (.istore 5, 2) := by decide +kernel
theorem dX4_ahead_48 : decode cX4_ahead 48 = .ok (.iload_n 1, 1) := by decide +kernel
theorem dX4_ahead_49 : decode cX4_ahead 49 = .ok (.iconst 2, 1) := by decide +kernel
theorem dX4_ahead_50 : decode cX4_ahead 50 = .ok (.irem, 1) := by decide +kernel
theorem dX4_ahead_51 : decode cX4_ahead 51 = .ok (.istore 6, 2) := by decide +kernel
theorem dX4_ahead_53 : decode cX4_ahead 53 = .ok (.iload_n 1, 1) := by decide +kernel
theorem dX4_ahead_54 : decode cX4_ahead 54 = .ok (.iconst 1, 1) := by decide +kernel
theorem dX4_ahead_55 : decode cX4_ahead 55 = .ok (.if_icmp .ne 21, 3) := by decide +kernel
theorem dX4_ahead_58 : decode cX4_ahead 58 = .ok (.iload 5, 2) := by decide +kernel
theorem dX4_ahead_60 : decode cX4_ahead 60 = .ok (.aload_n 0, 1) := by decide +kernel
theorem dX4_ahead_61 : decode cX4_ahead 61 = .ok (.getfield 70, 3) := by decide +kernel
theorem dX4_ahead_64 : decode cX4_ahead 64 = .ok (.if_icmp .ge 12, 3) := by decide +kernel
theorem dX4_ahead_67 : decode cX4_ahead 67 = .ok (.iinc 5 1, 3) := by decide +kernel
theorem dX4_ahead_70 : decode cX4_ahead 70 = .ok (.iconst 0, 1) := by decide +kernel
theorem dX4_ahead_71 : decode cX4_ahead 71 = .ok (.istore 6, 2) := by decide +kernel
theorem dX4_ahead_73 : decode cX4_ahead 73 = .ok (.goto 11, 3) := by decide +kernel
theorem dX4_ahead_76 : decode cX4_ahead 76 = .ok (.iload_n 1, 1) := by decide +kernel
theorem dX4_ahead_77 : decode cX4_ahead 77 = .ok (.iconst 1, 1) := by decide +kernel
theorem dX4_ahead_78 : decode cX4_ahead 78 = .ok (.if_icmp .ne 6, 3) := by decide +kernel
theorem dX4_ahead_81 : decode cX4_ahead 81 = .ok (.iconst 0, 1) := by decide +kernel
theorem dX4_ahead_82 : decode cX4_ahead 82 = .ok (.istore 5, 2) := by decide +kernel
theorem dX4_ahead_84 : decode cX4_ahead 84 = .ok (.iload_n 1, 1) := by decide +kernel
theorem dX4_ahead_85 : decode cX4_ahead 85 = .ok (.iconst 4, 1) := by decide +kernel
theorem dX4_ahead_86 : decode cX4_ahead 86 = .ok (.if_icmp .ge 27, 3) := by decide +kernel
theorem dX4_ahead_89 : decode cX4_ahead 89 = .ok (.iload 6, 2) := by decide +kernel
theorem dX4_ahead_91 : decode cX4_ahead 91 = .ok (.iconst 1, 1) := by decide +kernel
theorem dX4_ahead_92 : decode cX4_ahead 92 = .ok (.if_icmp .ne 21, 3) := by decide +kernel
theorem dX4_ahead_95 : decode cX4_ahead 95 = .ok (.iload 4, 2) := by decide +kernel
theorem dX4_ahead_97 : decode cX4_ahead 97 = .ok (.aload_n 0, 1) := by decide +kernel
theorem dX4_ahead_98 : decode cX4_ahead 98 = .ok (.getfield 73, 3) := by decide +kernel
theorem dX4_ahead_101 : decode cX4_ahead 101 = .ok (.if_icmp .ge 12, 3) := by decide +kernel
theorem dX4_ahead_104 : decode cX4_ahead 104 = .ok (.iinc 4 1, 3) := by decide +kernel
theorem dX4_ahead_107 : decode cX4_ahead 107 = .ok (.iconst 0, 1) := by decide +kernel
theorem dX4_ahead_108 : decode cX4_ahead 108 = .ok (.istore 6, 2) := by decide +kernel
theorem dX4_ahead_110 : decode cX4_ahead 110 = .ok (.goto 17, 3) := by decide +kernel
theorem dX4_ahead_113 : decode cX4_ahead 113 = .ok (.iload_n 1, 1) := by decide +kernel
theorem dX4_ahead_114 : decode cX4_ahead 114 = .ok (.iconst 4, 1) := by decide +kernel
theorem dX4_ahead_115 : decode cX4_ahead 115 = .ok (.if_icmp .ge 12, 3) := by decide +kernel
theorem dX4_ahead_118 : decode cX4_ahead 118 = .ok (.iload 6, 2) := by decide +kernel
theorem dX4_ahead_120 : decode cX4_ahead 120 = .ok (.iconst 1, 1) := by decide +kernel
theorem dX4_ahead_121 : decode cX4_ahead 121 = .ok (.if_icmp .ne 6, 3) := by decide +kernel
theorem dX4_ahead_124 : decode cX4_ahead 124 = .ok (.iconst 0, 1) := by decide +kernel
theorem dX4_ahead_125 : decode cX4_ahead 125 = .ok (.istore 4, 2) := by decide +kernel
theorem dX4_ahead_127 : decode cX4_ahead 127 = .ok (.iload_n 3, 1) := by decide +kernel
theorem dX4_ahead_128 : decode cX4_ahead 128 = .ok (.iload 6, 2) := by decide +kernel
theorem dX4_ahead_130 : decode cX4_ahead 130 = .ok (.iadd, 1) := by decide +kernel
theorem dX4_ahead_131 : decode cX4_ahead 131 = .ok (.istore_n 3, 1) := by decide +kernel
theorem dX4_ahead_132 : decode cX4_ahead 132 = .ok (.iload_n 3, 1) := by decide +kernel
theorem dX4_ahead_133 : decode cX4_ahead 133 = .ok (.aload_n 0, 1) := by decide +kernel
theorem dX4_ahead_134 : decode cX4_ahead 134 = .ok (.getfield 76, 3) := by decide +kernel
theorem dX4_ahead_137 : decode cX4_ahead 137 = .ok (.if_icmp .le 8, 3) := by decide +kernel
theorem dX4_ahead_140 : decode cX4_ahead 140 = .ok (.ldc 69, 2) := by decide +kernel
theorem dX4_ahead_142 : decode cX4_ahead 142 = .ok (.goto 17, 3) := by decide +kernel
theorem dX4_ahead_145 : decode cX4_ahead 145 = .ok (.sipush 169, 3) := by decide +kernel
theorem dX4_ahead_148 : decode cX4_ahead 148 = .ok (.iload_n 3, 1) := by decide +kernel
theorem dX4_ahead_149 : decode cX4_ahead 149 = .ok (.imul, 1) := by decide +kernel
theorem dX4_ahead_150 : decode cX4_ahead 150 = .ok (.bipush 13, 2) := by decide +kernel
theorem dX4_ahead_152 : decode cX4_ahead 152 = .ok (.iload 4, 2) := by decide +kernel
theorem dX4_ahead_154 : decode cX4_ahead 154 = .ok (.imul, 1) := by decide +kernel
theorem dX4_ahead_155 : decode cX4_ahead 155 = .ok (.iadd, 1) := by decide +kernel
theorem dX4_ahead_156 : decode cX4_ahead 156 = .ok (.iload 5, 2) := by decide +kernel
theorem dX4_ahead_158 : decode cX4_ahead 158 = .ok (.iadd, 1) := by decide +kernel
theorem dX4_ahead_159 : decode cX4_ahead 159 = .ok (.ireturn, 1) := by decide +kernel
theorem dX4_lifted_0 : decode cX4_lifted 0 = .ok (.aload_n 0, 1) := by decide +kernel
theorem dX4_lifted_1 : decode cX4_lifted 1 = .ok (.getfield 7, 3) := by decide +kernel
theorem dX4_lifted_4 : decode cX4_lifted 4 = .ok (.iconst 1, 1) := by decide +kernel
theorem dX4_lifted_5 : decode cX4_lifted 5 = .ok (.iload_n 1, 1) := by decide +kernel
theorem dX4_lifted_6 : decode cX4_lifted 6 = .ok (.iadd, 1) := by decide +kernel
theorem dX4_lifted_7 : decode cX4_lifted 7 = .ok (.iaload, 1) := by decide +kernel
theorem dX4_lifted_8 : decode cX4_lifted 8 = .ok (.ifCond .ne 7, 3) := by decide +kernel
theorem dX4_lifted_11 : decode cX4_lifted 11 = .ok (.iconst 1, 1) := by decide +kernel
theorem dX4_lifted_12 : decode cX4_lifted 12 = .ok (.goto 4, 3) := by decide +kernel
theorem dX4_lifted_15 : decode cX4_lifted 15 = .ok (.iconst 0, 1) := by decide +kernel
theorem dX4_lifted_16 : decode cX4_lifted 16 = .ok (.istore_n 2, 1) := by decide +kernel
theorem dX4_lifted_17 : decode cX4_lifted 17 = .ok (.iload_n 2, 1) := by decide +kernel
theorem dX4_lifted_18 : decode cX4_lifted 18 = .ok (.ifCond .eq 8, 3) := by decide +kernel
theorem dX4_lifted_21 : decode cX4_lifted 21 = .ok (.ldc 69, 2) := by decide +kernel
theorem dX4_lifted_23 : decode cX4_lifted 23 = .ok (.goto 4, 3) := by decide +kernel
theorem dX4_lifted_26 : decode cX4_lifted 26 = .ok (.iconst 0, 1) := by decide +kernel
theorem dX4_lifted_27 : decode cX4_lifted 27 = .ok (.istore_n 3, 1) := by decide +kernel
theorem dX4_lifted_28 : decode cX4_lifted 28 = .ok (.iconst 0, 1) := by decide +kernel
theorem dX4_lifted_29 : decode cX4_lifted 29 = .ok (.istore 4, 2) := by decide +kernel
theorem dX4_lifted_31 : decode cX4_lifted 31 = .ok (.iload 4, 2) := by decide +kernel
theorem dX4_lifted_33 : decode cX4_lifted 33 = .ok (.aload_n 0, 1) := by decide +kernel
theorem dX4_lifted_34 : decode cX4_lifted 34 = .ok (.getfield 7, 3) := by decide +kernel
theorem dX4_lifted_37 : decode cX4_lifted 37 = .ok (.iconst 0, 1) := by decide +kernel
theorem dX4_lifted_38 : decode cX4_lifted 38 = .ok (.iaload, 1) := by decide +kernel
theorem dX4_lifted_39 : decode cX4_lifted 39 = .ok (.if_icmp .ge 73, 3) := by decide +kernel
theorem dX4_lifted_42 : decode cX4_lifted 42 = .ok (.aload_n 0, 1) := by decide +kernel
theorem dX4_lifted_43 : decode cX4_lifted 43 = .ok (.iload_n 1, 1) := by decide +kernel
theorem dX4_lifted_44 : decode cX4_lifted 44 = .ok (.iload 4, 2) := by decide +kernel
theorem dX4_lifted_46 : decode cX4_lifted 46 = .ok (.invokevirtual 61, 3) := by decide +kernel
theorem dX4_lifted_49 : decode cX4_lifted 49 = .ok (.ifCond .eq 57, 3) := by decide +kernel
theorem dX4_lifted_52 : decode cX4_lifted 52 = .ok (.aload_n 0, 1) := by decide +kernel
theorem dX4_lifted_53 : decode cX4_lifted 53 = .ok (.aload_n 0, 1) := by decide +kernel
theorem dX4_lifted_54 : decode cX4_lifted 54 = .ok (.getfield 7, 3) := by decide +kernel
theorem dX4_lifted_57 : decode cX4_lifted 57 = .ok (.bipush 13, 2) := by decide +kernel
theorem dX4_lifted_59 : decode cX4_lifted 59 = .ok (.iload_n 1, 1) := by decide +kernel
theorem dX4_lifted_60 : decode cX4_lifted 60 = .ok (.iadd, 1) := by decide +kernel
theorem dX4_lifted_61 : decode cX4_lifted 61 = .ok (.iaload, 1) := by decide +kernel
theorem dX4_lifted_62 : decode cX4_lifted 62 = .ok (.aload_n 0, 1) := by decide +kernel
theorem dX4_lifted_63 : decode cX4_lifted 63 = .ok (.getfield 22, 3) := by decide +kernel
theorem dX4_lifted_66 : decode cX4_lifted 66 = .ok (.iload 4, 2) := by decide +kernel
theorem dX4_lifted_68 : decode cX4_lifted 68 = .ok (.iaload, 1) := by decide +kernel
theorem dX4_lifted_69 : decode cX4_lifted 69 = .ok (.invokevirtual 79, 3) := by decide +kernel
theorem dX4_lifted_72 : decode cX4_lifted 72 = .ok (.istore 5, 2) := by decide +kernel
theorem dX4_lifted_74 : decode cX4_lifted 74 = .ok (.iload_n 2, 1) := by decide +kernel
theorem dX4_lifted_75 : decode cX4_lifted 75 = .ok (.ifCond .eq 18, 3) := by decide +kernel
theorem dX4_lifted_78 : decode cX4_lifted 78 = .ok (.iload 5, 2) := by decide +kernel
theorem dX4_lifted_80 : decode cX4_lifted 80 = .ok (.iload_n 3, 1) := by decide +kernel
theorem dX4_lifted_81 : decode cX4_lifted 81 = .ok (.if_icmp .ge 8, 3) := by decide +kernel
theorem dX4_lifted_84 : decode cX4_lifted 84 = .ok (.iload 5, 2) := by decide +kernel
theorem dX4_lifted_86 : decode cX4_lifted 86 = .ok (.goto 19, 3) := by decide +kernel
theorem dX4_lifted_89 : decode cX4_lifted 89 = .ok (.iload_n 3, 1) := by decide +kernel
theorem dX4_lifted_90 : decode cX4_lifted 90 = .ok (.goto 15, 3) := by decide +kernel
theorem dX4_lifted_93 : decode cX4_lifted 93 = .ok (.iload 5, 2) := by decide +kernel
theorem dX4_lifted_95 : decode cX4_lifted 95 = .ok (.iload_n 3, 1) := by decide +kernel
theorem dX4_lifted_96 : decode cX4_lifted 96 = .ok (.if_icmp .le 8, 3) := by decide +kernel
theorem dX4_lifted_99 : decode cX4_lifted 99 = .ok (.iload 5, 2) := by decide +kernel
theorem dX4_lifted_101 : decode cX4_lifted 101 = .ok (.goto 4, 3) := by decide +kernel
theorem dX4_lifted_104 : decode cX4_lifted 104 = .ok (.iload_n 3, 1) := by decide +kernel
theorem dX4_lifted_105 : decode cX4_lifted 105 = .ok (.istore_n 3, 1) := by decide +kernel
theorem dX4_lifted_106 : decode cX4_lifted 106 = .ok (.iinc 4 1, 3) := by decide +kernel
theorem dX4_lifted_109 : decode cX4_lifted 109 = .ok (.goto (-78), 3) := by decide +kernel
theorem dX4_lifted_112 : decode cX4_lifted 112 = .ok (.iload_n 3, 1) := by decide +kernel
theorem dX4_lifted_113 : decode cX4_lifted 113 = .ok (.ireturn, 1) := by decide +kernel
theorem dX4_won_0 : decode cX4_won 0 = .ok (.aload_n 0, 1) := by decide +kernel
theorem dX4_won_1 : decode cX4_won 1 = .ok (.aload_n 0, 1) := by decide +kernel
theorem dX4_won_2 : decode cX4_won 2 = .ok (.iconst 1, 1) := by decide +kernel
theorem dX4_won_3 : decode cX4_won 3 = .ok (.invokevirtual 83, 3) := by decide +kernel
theorem dX4_won_6 : decode cX4_won 6 = .ok (.putfield 70, 3) := by decide +kernel
theorem dX4_won_9 : decode cX4_won 9 = .ok (.aload_n 0, 1) := by decide +kernel
theorem dX4_won_10 : decode cX4_won 10 = .ok (.aload_n 0, 1) := by decide +kernel
theorem dX4_won_11 : decode cX4_won 11 = .ok (.iconst 3, 1) := by decide +kernel
theorem dX4_won_12 : decode cX4_won 12 = .ok (.invokevirtual 83, 3) := by decide +kernel
theorem dX4_won_15 : decode cX4_won 15 = .ok (.putfield 73, 3) := by decide +kernel
theorem dX4_won_18 : decode cX4_won 18 = .ok (.aload_n 0, 1) := by decide +kernel
theorem dX4_won_19 : decode cX4_won 19 = .ok (.aload_n 0, 1) := by decide +kernel
theorem dX4_won_20 : decode cX4_won 20 = .ok (.iconst 5, 1) := by decide +kernel
theorem dX4_won_21 : decode cX4_won 21 = .ok (.invokevirtual 83, 3) := by decide +kernel
theorem dX4_won_24 : decode cX4_won 24 = .ok (.putfield 76, 3) := by decide +kernel
theorem dX4_won_27 : decode cX4_won 27 = .ok (.iconst 0, 1) := by decide +kernel
theorem dX4_won_28 : decode cX4_won 28 = .ok (.istore_n 1, 1) := by decide +kernel
theorem dX4_won_29 : decode cX4_won 29 = .ok (.iload_n 1, 1) := by decide +kernel
theorem dX4_won_30 : decode cX4_won 30 = .ok (.bipush 12, 2) := by decide +kernel
theorem dX4_won_32 : decode cX4_won 32 = .ok (.if_icmp .ge 16, 3) := by decide +kernel
theorem dX4_won_35 : decode cX4_won 35 = .ok (.aload_n 0, 1) := by decide +kernel
theorem dX4_won_36 : decode cX4_won 36 = .ok (.getfield 22, 3) := by decide +kernel
theorem dX4_won_39 : decode cX4_won 39 = .ok (.iload_n 1, 1) := by decide +kernel
theorem dX4_won_40 : decode cX4_won 40 = .ok (.iconst 0, 1) := by decide +kernel
theorem dX4_won_41 : decode cX4_won 41 = .ok (.iastore, 1) := by decide +kernel
theorem dX4_won_42 : decode cX4_won 42 = .ok (.iinc 1 1, 3) := by decide +kernel
theorem dX4_won_45 : decode cX4_won 45 = .ok (.goto (-16), 3) := by decide +kernel
theorem dX4_won_48 : decode cX4_won 48 = .ok (.iconst 1, 1) := by decide +kernel
theorem dX4_won_49 : decode cX4_won 49 = .ok (.istore_n 1, 1) := by decide +kernel
theorem dX4_won_50 : decode cX4_won 50 = .ok (.iload_n 1, 1) := by decide +kernel
theorem dX4_won_51 : decode cX4_won 51 = .ok (.ifCond .eq 78, 3) := by decide +kernel
theorem dX4_won_54 : decode cX4_won 54 = .ok (.iconst 0, 1) := by decide +kernel
theorem dX4_won_55 : decode cX4_won 55 = .ok (.istore_n 1, 1) := by decide +kernel
theorem dX4_won_56 : decode cX4_won 56 = .ok (.iconst 0, 1) := by decide +kernel
theorem dX4_won_57 : decode cX4_won 57 = .ok (.istore_n 2, 1) := by decide +kernel
theorem dX4_won_58 : decode cX4_won 58 = .ok (.iload_n 2, 1) := by decide +kernel
theorem dX4_won_59 : decode cX4_won 59 = .ok (.aload_n 0, 1) := by decide +kernel
theorem dX4_won_60 : decode cX4_won 60 = .ok (.getfield 7, 3) := by decide +kernel
theorem dX4_won_63 : decode cX4_won 63 = .ok (.iconst 0, 1) := by decide +kernel
theorem dX4_won_64 : decode cX4_won 64 = .ok (.iaload, 1) := by decide +kernel
theorem dX4_won_65 : decode cX4_won 65 = .ok (.if_icmp .ge 61, 3) := by decide +kernel
theorem dX4_won_68 : decode cX4_won 68 = .ok (.aload_n 0, 1) := by decide +kernel
theorem dX4_won_69 : decode cX4_won 69 = .ok (.iload_n 2, 1) := by decide +kernel
theorem dX4_won_70 : decode cX4_won 70 = .ok (.invokevirtual 86, 3) := by decide +kernel
theorem dX4_won_73 : decode cX4_won 73 = .ok (.istore_n 3, 1) := by decide +kernel
theorem dX4_won_74 : decode cX4_won 74 = .ok (.iload_n 1, 1) := by decide +kernel
theorem dX4_won_75 : decode cX4_won 75 = .ok (.ifCond .ne 13, 3) := by decide +kernel
theorem dX4_won_78 : decode cX4_won 78 = .ok (.iload_n 3, 1) := by decide +kernel
theorem dX4_won_79 : decode cX4_won 79 = .ok (.aload_n 0, 1) := by decide +kernel
theorem dX4_won_80 : decode cX4_won 80 = .ok (.getfield 22, 3) := by decide +kernel
theorem dX4_won_83 : decode cX4_won 83 = .ok (.iload_n 2, 1) := by decide +kernel
theorem dX4_won_84 : decode cX4_won 84 = .ok (.iaload, 1) := by decide +kernel
theorem dX4_won_85 : decode cX4_won 85 = .ok (.if_icmp .le 7, 3) := by decide +kernel
theorem dX4_won_88 : decode cX4_won 88 = .ok (.iconst 1, 1) := by decide +kernel
theorem dX4_won_89 : decode cX4_won 89 = .ok (.goto 4, 3) := by decide +kernel
theorem dX4_won_92 : decode cX4_won 92 = .ok (.iconst 0, 1) := by decide +kernel
theorem dX4_won_93 : decode cX4_won 93 = .ok (.istore_n 1, 1) := by decide +kernel
theorem dX4_won_94 : decode cX4_won 94 = .ok (.aload_n 0, 1) := by decide +kernel
theorem dX4_won_95 : decode cX4_won 95 = .ok (.getfield 22, 3) := by decide +kernel
theorem dX4_won_98 : decode cX4_won 98 = .ok (.iload_n 2, 1) := by decide +kernel
theorem dX4_won_99 : decode cX4_won 99 = .ok (.iload_n 3, 1) := by decide +kernel
theorem dX4_won_100 : decode cX4_won 100 = .ok (.aload_n 0, 1) := by decide +kernel
theorem dX4_won_101 : decode cX4_won 101 = .ok (.getfield 22, 3) := by decide +kernel
theorem dX4_won_104 : decode cX4_won 104 = .ok (.iload_n 2, 1) := by decide +kernel
theorem dX4_won_105 : decode cX4_won 105 = .ok (.iaload, 1) := by decide +kernel
theorem dX4_won_106 : decode cX4_won 106 = .ok (.if_icmp .le 7, 3) := by decide +kernel
theorem dX4_won_109 : decode cX4_won 109 = .ok (.iload_n 3, 1) := by decide +kernel
theorem dX4_won_110 : decode cX4_won 110 = .ok (.goto 9, 3) := by decide +kernel
theorem dX4_won_113 : decode cX4_won 113 = .ok (.aload_n 0, 1) := by decide +kernel
theorem dX4_won_114 : decode cX4_won 114 = .ok (.getfield 22, 3) := by decide +kernel
theorem dX4_won_117 : decode cX4_won 117 = .ok (.iload_n 2, 1) := by decide +kernel
theorem dX4_won_118 : decode cX4_won 118 = .ok (.iaload, 1) := by decide +kernel
theorem dX4_won_119 : decode cX4_won 119 = .ok (.iastore, 1) := by decide +kernel
theorem dX4_won_120 : decode cX4_won 120 = .ok (.iinc 2 1, 3) := by decide +kernel
theorem dX4_won_123 : decode cX4_won 123 = .ok (.goto (-65), 3) := by decide +kernel
theorem dX4_won_126 : decode cX4_won 126 = .ok (.goto (-76), 3) := by decide +kernel
theorem dX4_won_129 : decode cX4_won 129 = .ok (.iconst 0, 1) := by decide +kernel
theorem dX4_won_130 : decode cX4_won 130 = .ok (.istore_n 2, 1) := by decide +kernel
theorem dX4_won_131 : decode cX4_won 131 = .ok (.iconst 0, 1) := by decide +kernel
theorem dX4_won_132 : decode cX4_won 132 = .ok (.istore_n 3, 1) := by decide +kernel
theorem dX4_won_133 : decode cX4_won 133 = .ok (.iload_n 3, 1) := by decide +kernel
theorem dX4_won_134 : decode cX4_won 134 = .ok (.aload_n 0, 1) := by decide +kernel
theorem dX4_won_135 : decode cX4_won 135 = .ok (.getfield 7, 3) := by decide +kernel
theorem dX4_won_138 : decode cX4_won 138 = .ok (.iconst 0, 1) := by decide +kernel
theorem dX4_won_139 : decode cX4_won 139 = .ok (.iaload, 1) := by decide +kernel
theorem dX4_won_140 : decode cX4_won 140 = .ok (.if_icmp .ge 30, 3) := by decide +kernel
theorem dX4_won_143 : decode cX4_won 143 = .ok (.iload_n 2, 1) := by decide +kernel
theorem dX4_won_144 : decode cX4_won 144 = .ok (.aload_n 0, 1) := by decide +kernel
theorem dX4_won_145 : decode cX4_won 145 = .ok (.getfield 22, 3) := by decide +kernel
theorem dX4_won_148 : decode cX4_won 148 = .ok (.iload_n 3, 1) := by decide +kernel
theorem dX4_won_149 : decode cX4_won 149 = .ok (.iaload, 1) := by decide +kernel
theorem dX4_won_150 : decode cX4_won 150 = .ok (.ldc 69, 2) := by decide +kernel
theorem dX4_won_152 : decode cX4_won 152 = .ok (.if_icmp .ge 9, 3) := by decide +kernel
theorem dX4_won_155 : decode cX4_won 155 = .ok (.iconst 1, 1) := by decide +kernel
theorem dX4_won_156 : decode cX4_won 156 = .ok (.iload_n 3, 1) := by decide +kernel
theorem dX4_won_157 : decode cX4_won 157 = .ok (.ishl, 1) := by decide +kernel
theorem dX4_won_158 : decode cX4_won 158 = .ok (.goto 4, 3) := by decide +kernel
theorem dX4_won_161 : decode cX4_won 161 = .ok (.iconst 0, 1) := by decide +kernel
theorem dX4_won_162 : decode cX4_won 162 = .ok (.ior, 1) := by decide +kernel
theorem dX4_won_163 : decode cX4_won 163 = .ok (.istore_n 2, 1) := by decide +kernel
theorem dX4_won_164 : decode cX4_won 164 = .ok (.iinc 3 1, 3) := by decide +kernel
theorem dX4_won_167 : decode cX4_won 167 = .ok (.goto (-34), 3) := by decide +kernel
theorem dX4_won_170 : decode cX4_won 170 = .ok (.iload_n 2, 1) := by decide +kernel
theorem dX4_won_171 : decode cX4_won 171 = .ok (.ireturn, 1) := by decide +kernel
theorem dX4_winner_0 : decode cX4_winner 0 = .ok (.iconst 1, 1) := by decide +kernel
theorem dX4_winner_1 : decode cX4_winner 1 = .ok (.iload_n 0, 1) := by decide +kernel
theorem dX4_winner_2 : decode cX4_winner 2 = .ok (.iload_n 1, 1) := by decide +kernel
theorem dX4_winner_3 : decode cX4_winner 3 = .ok (.ishr, 1) := by decide +kernel
theorem dX4_winner_4 : decode cX4_winner 4 = .ok (.iconst 1, 1) := by decide +kernel
theorem dX4_winner_5 : decode cX4_winner 5 = .ok (.iand, 1) := by decide +kernel
theorem dX4_winner_6 : decode cX4_winner 6 = .ok (.isub, 1) := by decide +kernel
theorem dX4_winner_7 : decode cX4_winner 7 = .ok (.ireturn, 1) := by decide +kernel
theorem dX4_chooses_0 : decode cX4_chooses 0 = .ok (.aload_n 0, 1) := by decide +kernel
theorem dX4_chooses_1 : decode cX4_chooses 1 = .ok (.invokevirtual 89, 3) := by decide +kernel
theorem dX4_chooses_4 : decode cX4_chooses 4 = .ok (.istore_n 1, 1) := by decide +kernel
theorem dX4_chooses_5 : decode cX4_chooses 5 = .ok (.iconst 0, 1) := by decide +kernel
theorem dX4_chooses_6 : decode cX4_chooses 6 = .ok (.istore_n 2, 1) := by decide +kernel
theorem dX4_chooses_7 : decode cX4_chooses 7 = .ok (.iload_n 2, 1) := by decide +kernel
theorem dX4_chooses_8 : decode cX4_chooses 8 = .ok (.aload_n 0, 1) := by decide +kernel
theorem dX4_chooses_9 : decode cX4_chooses 9 = .ok (.getfield 7, 3) := by decide +kernel
theorem dX4_chooses_12 : decode cX4_chooses 12 = .ok (.iconst 0, 1) := by decide +kernel
theorem dX4_chooses_13 : decode cX4_chooses 13 = .ok (.iaload, 1) := by decide +kernel
theorem dX4_chooses_14 : decode cX4_chooses 14 = .ok (.if_icmp .ge 39, 3) := by decide +kernel
theorem dX4_chooses_17 : decode cX4_chooses 17 = .ok (.aload_n 0, 1) := by decide +kernel
theorem dX4_chooses_18 : decode cX4_chooses 18 = .ok (.getfield 28, 3) := by decide +kernel
theorem dX4_chooses_21 : decode cX4_chooses 21 = .ok (.iload_n 2, 1) := by decide +kernel
theorem dX4_chooses_22 : decode cX4_chooses 22 = .ok (.aload_n 0, 1) := by decide +kernel
theorem dX4_chooses_23 : decode cX4_chooses 23 = .ok (.getfield 7, 3) := by decide +kernel
theorem dX4_chooses_26 : decode cX4_chooses 26 = .ok (.bipush 25, 2) := by decide +kernel
theorem dX4_chooses_28 : decode cX4_chooses 28 = .ok (.iload_n 2, 1) := by decide +kernel
theorem dX4_chooses_29 : decode cX4_chooses 29 = .ok (.iadd, 1) := by decide +kernel
theorem dX4_chooses_30 : decode cX4_chooses 30 = .ok (.iaload, 1) := by decide +kernel
theorem dX4_chooses_31 : decode cX4_chooses 31 = .ok (.iastore, 1) := by decide +kernel
theorem dX4_chooses_32 : decode cX4_chooses 32 = .ok (.aload_n 0, 1) := by decide +kernel
theorem dX4_chooses_33 : decode cX4_chooses 33 = .ok (.getfield 25, 3) := by decide +kernel
theorem dX4_chooses_36 : decode cX4_chooses 36 = .ok (.iload_n 2, 1) := by decide +kernel
theorem dX4_chooses_37 : decode cX4_chooses 37 = .ok (.aload_n 0, 1) := by decide +kernel
theorem dX4_chooses_38 : decode cX4_chooses 38 = .ok (.getfield 28, 3) := by decide +kernel
theorem dX4_chooses_41 : decode cX4_chooses 41 = .ok (.iload_n 2, 1) := by decide +kernel
theorem dX4_chooses_42 : decode cX4_chooses 42 = .ok (.iaload, 1) := by decide +kernel
theorem dX4_chooses_43 : decode cX4_chooses 43 = .ok (.invokestatic 93, 3) := by decide +kernel
theorem dX4_chooses_46 : decode cX4_chooses 46 = .ok (.iastore, 1) := by decide +kernel
theorem dX4_chooses_47 : decode cX4_chooses 47 = .ok (.iinc 2 1, 3) := by decide +kernel
theorem dX4_chooses_50 : decode cX4_chooses 50 = .ok (.goto (-43), 3) := by decide +kernel
theorem dX4_chooses_53 : decode cX4_chooses 53 = .ok (.iconst 0, 1) := by decide +kernel
theorem dX4_chooses_54 : decode cX4_chooses 54 = .ok (.istore_n 2, 1) := by decide +kernel
theorem dX4_chooses_55 : decode cX4_chooses 55 = .ok (.iload_n 2, 1) := by decide +kernel
theorem dX4_chooses_56 : decode cX4_chooses 56 = .ok (.aload_n 0, 1) := by decide +kernel
theorem dX4_chooses_57 : decode cX4_chooses 57 = .ok (.getfield 7, 3) := by decide +kernel
theorem dX4_chooses_60 : decode cX4_chooses 60 = .ok (.iconst 0, 1) := by decide +kernel
theorem dX4_chooses_61 : decode cX4_chooses 61 = .ok (.iaload, 1) := by decide +kernel
theorem dX4_chooses_62 : decode cX4_chooses 62 = .ok (.if_icmp .ge 114, 3) := by decide +kernel
theorem dX4_chooses_65 : decode cX4_chooses 65 = .ok (.aload_n 0, 1) := by decide +kernel
theorem dX4_chooses_66 : decode cX4_chooses 66 = .ok (.getfield 7, 3) := by decide +kernel
theorem dX4_chooses_69 : decode cX4_chooses 69 = .ok (.iconst 1, 1) := by decide +kernel
theorem dX4_chooses_70 : decode cX4_chooses 70 = .ok (.iload_n 2, 1) := by decide +kernel
theorem dX4_chooses_71 : decode cX4_chooses 71 = .ok (.iadd, 1) := by decide +kernel
theorem dX4_chooses_72 : decode cX4_chooses 72 = .ok (.iaload, 1) := by decide +kernel
theorem dX4_chooses_73 : decode cX4_chooses 73 = .ok (.iload_n 1, 1) := by decide +kernel
theorem dX4_chooses_74 : decode cX4_chooses 74 = .ok (.iload_n 2, 1) := by decide +kernel
theorem dX4_chooses_75 : decode cX4_chooses 75 = .ok (.invokestatic 96, 3) := by decide +kernel
theorem dX4_chooses_78 : decode cX4_chooses 78 = .ok (.if_icmp .ne 12, 3) := by decide +kernel
theorem dX4_chooses_81 : decode cX4_chooses 81 = .ok (.aload_n 0, 1) := by decide +kernel
theorem dX4_chooses_82 : decode cX4_chooses 82 = .ok (.getfield 28, 3) := by decide +kernel
theorem dX4_chooses_85 : decode cX4_chooses 85 = .ok (.iload_n 2, 1) := by decide +kernel
theorem dX4_chooses_86 : decode cX4_chooses 86 = .ok (.iaload, 1) := by decide +kernel
theorem dX4_chooses_87 : decode cX4_chooses 87 = .ok (.ifCond .ne 7, 3) := by decide +kernel
theorem dX4_chooses_90 : decode cX4_chooses 90 = .ok (.iconst 1, 1) := by decide +kernel
theorem dX4_chooses_91 : decode cX4_chooses 91 = .ok (.goto 4, 3) := by decide +kernel
theorem dX4_chooses_94 : decode cX4_chooses 94 = .ok (.iconst 0, 1) := by decide +kernel
theorem dX4_chooses_95 : decode cX4_chooses 95 = .ok (.istore_n 3, 1) := by decide +kernel
theorem dX4_chooses_96 : decode cX4_chooses 96 = .ok (.iconst 0, 1) := by decide +kernel
theorem dX4_chooses_97 : decode cX4_chooses 97 = .ok (.istore 4, 2) := by decide +kernel
theorem dX4_chooses_99 : decode cX4_chooses 99 = .ok (.iload 4, 2) := by decide +kernel
theorem dX4_chooses_101 : decode cX4_chooses 101 = .ok (.aload_n 0, 1) := by decide +kernel
theorem dX4_chooses_102 : decode cX4_chooses 102 = .ok (.getfield 7, 3) := by decide +kernel
theorem dX4_chooses_105 : decode cX4_chooses 105 = .ok (.iconst 0, 1) := by decide +kernel
theorem dX4_chooses_106 : decode cX4_chooses 106 = .ok (.iaload, 1) := by decide +kernel
theorem dX4_chooses_107 : decode cX4_chooses 107 = .ok (.if_icmp .ge 63, 3) := by decide +kernel
theorem dX4_chooses_110 : decode cX4_chooses 110 = .ok (.iload_n 3, 1) := by decide +kernel
theorem dX4_chooses_111 : decode cX4_chooses 111 = .ok (.ifCond .ne 59, 3) := by decide +kernel
theorem dX4_chooses_114 : decode cX4_chooses 114 = .ok (.aload_n 0, 1) := by decide +kernel
theorem dX4_chooses_115 : decode cX4_chooses 115 = .ok (.getfield 28, 3) := by decide +kernel
theorem dX4_chooses_118 : decode cX4_chooses 118 = .ok (.iload_n 2, 1) := by decide +kernel
theorem dX4_chooses_119 : decode cX4_chooses 119 = .ok (.iaload, 1) := by decide +kernel
theorem dX4_chooses_120 : decode cX4_chooses 120 = .ok (.iload 4, 2) := by decide +kernel
theorem dX4_chooses_122 : decode cX4_chooses 122 = .ok (.ishr, 1) := by decide +kernel
theorem dX4_chooses_123 : decode cX4_chooses 123 = .ok (.iconst 1, 1) := by decide +kernel
theorem dX4_chooses_124 : decode cX4_chooses 124 = .ok (.iand, 1) := by decide +kernel
theorem dX4_chooses_125 : decode cX4_chooses 125 = .ok (.iconst 1, 1) := by decide +kernel
theorem dX4_chooses_126 : decode cX4_chooses 126 = .ok (.if_icmp .ne 38, 3) := by decide +kernel
theorem dX4_chooses_129 : decode cX4_chooses 129 = .ok (.aload_n 0, 1) := by decide +kernel
theorem dX4_chooses_130 : decode cX4_chooses 130 = .ok (.getfield 7, 3) := by decide +kernel
theorem dX4_chooses_133 : decode cX4_chooses 133 = .ok (.bipush 25, 2) := by decide +kernel
theorem dX4_chooses_135 : decode cX4_chooses 135 = .ok (.iload_n 2, 1) := by decide +kernel
theorem dX4_chooses_136 : decode cX4_chooses 136 = .ok (.iadd, 1) := by decide +kernel
theorem dX4_chooses_137 : decode cX4_chooses 137 = .ok (.iconst 1, 1) := by decide +kernel
theorem dX4_chooses_138 : decode cX4_chooses 138 = .ok (.iload 4, 2) := by decide +kernel
theorem dX4_chooses_140 : decode cX4_chooses 140 = .ok (.ishl, 1) := by decide +kernel
theorem dX4_chooses_141 : decode cX4_chooses 141 = .ok (.iastore, 1) := by decide +kernel
theorem dX4_chooses_142 : decode cX4_chooses 142 = .ok (.aload_n 0, 1) := by decide +kernel
theorem dX4_chooses_143 : decode cX4_chooses 143 = .ok (.invokevirtual 89, 3) := by decide +kernel
theorem dX4_chooses_146 : decode cX4_chooses 146 = .ok (.iload_n 1, 1) := by decide +kernel
theorem dX4_chooses_147 : decode cX4_chooses 147 = .ok (.if_icmp .ne 7, 3) := by decide +kernel
theorem dX4_chooses_150 : decode cX4_chooses 150 = .ok (.iconst 1, 1) := by decide +kernel
theorem dX4_chooses_151 : decode cX4_chooses 151 = .ok (.goto 4, 3) := by decide +kernel
theorem dX4_chooses_154 : decode cX4_chooses 154 = .ok (.iconst 0, 1) := by decide +kernel
theorem dX4_chooses_155 : decode cX4_chooses 155 = .ok (.istore_n 3, 1) := by decide +kernel
theorem dX4_chooses_156 : decode cX4_chooses 156 = .ok (.aload_n 0, 1) := by decide +kernel
theorem dX4_chooses_157 : decode cX4_chooses 157 = .ok (.getfield 25, 3) := by decide +kernel
theorem dX4_chooses_160 : decode cX4_chooses 160 = .ok (.iload_n 2, 1) := by decide +kernel
theorem dX4_chooses_161 : decode cX4_chooses 161 = .ok (.iload 4, 2) := by decide +kernel
theorem dX4_chooses_163 : decode cX4_chooses 163 = .ok (.iastore, 1) := by decide +kernel
theorem dX4_chooses_164 : decode cX4_chooses 164 = .ok (.iinc 4 1, 3) := by decide +kernel
theorem dX4_chooses_167 : decode cX4_chooses 167 = .ok (.goto (-68), 3) := by decide +kernel
theorem dX4_chooses_170 : decode cX4_chooses 170 = .ok (.iinc 2 1, 3) := by decide +kernel
theorem dX4_chooses_173 : decode cX4_chooses 173 = .ok (.goto (-118), 3) := by decide +kernel
theorem dX4_chooses_176 : decode cX4_chooses 176 = .ok (.iconst 0, 1) := by decide +kernel
theorem dX4_chooses_177 : decode cX4_chooses 177 = .ok (.istore_n 2, 1) := by decide +kernel
theorem dX4_chooses_178 : decode cX4_chooses 178 = .ok (.iload_n 2, 1) := by decide +kernel
theorem dX4_chooses_179 : decode cX4_chooses 179 = .ok (.aload_n 0, 1) := by decide +kernel
theorem dX4_chooses_180 : decode cX4_chooses 180 = .ok (.getfield 7, 3) := by decide +kernel
theorem dX4_chooses_183 : decode cX4_chooses 183 = .ok (.iconst 0, 1) := by decide +kernel
theorem dX4_chooses_184 : decode cX4_chooses 184 = .ok (.iaload, 1) := by decide +kernel
theorem dX4_chooses_185 : decode cX4_chooses 185 = .ok (.if_icmp .ge 24, 3) := by decide +kernel
theorem dX4_chooses_188 : decode cX4_chooses 188 = .ok (.aload_n 0, 1) := by decide +kernel
theorem dX4_chooses_189 : decode cX4_chooses 189 = .ok (.getfield 7, 3) := by decide +kernel
theorem dX4_chooses_192 : decode cX4_chooses 192 = .ok (.bipush 25, 2) := by decide +kernel
theorem dX4_chooses_194 : decode cX4_chooses 194 = .ok (.iload_n 2, 1) := by decide +kernel
theorem dX4_chooses_195 : decode cX4_chooses 195 = .ok (.iadd, 1) := by decide +kernel
theorem dX4_chooses_196 : decode cX4_chooses 196 = .ok (.aload_n 0, 1) := by decide +kernel
theorem dX4_chooses_197 : decode cX4_chooses 197 = .ok (.getfield 28, 3) := by decide +kernel
theorem dX4_chooses_200 : decode cX4_chooses 200 = .ok (.iload_n 2, 1) := by decide +kernel
theorem dX4_chooses_201 : decode cX4_chooses 201 = .ok (.iaload, 1) := by decide +kernel
theorem dX4_chooses_202 : decode cX4_chooses 202 = .ok (.iastore, 1) := by decide +kernel
theorem dX4_chooses_203 : decode cX4_chooses 203 = .ok (.iinc 2 1, 3) := by decide +kernel
theorem dX4_chooses_206 : decode cX4_chooses 206 = .ok (.goto (-28), 3) := by decide +kernel
theorem dX4_chooses_209 : decode cX4_chooses 209 = .ok (.iload_n 1, 1) := by decide +kernel
theorem dX4_chooses_210 : decode cX4_chooses 210 = .ok (.ireturn, 1) := by decide +kernel
theorem dX4_into_0 : decode cX4_into 0 = .ok (.iconst 0, 1) := by decide +kernel
theorem dX4_into_1 : decode cX4_into 1 = .ok (.istore_n 2, 1) := by decide +kernel
theorem dX4_into_2 : decode cX4_into 2 = .ok (.iconst 0, 1) := by decide +kernel
theorem dX4_into_3 : decode cX4_into 3 = .ok (.istore_n 3, 1) := by decide +kernel
theorem dX4_into_4 : decode cX4_into 4 = .ok (.iload_n 3, 1) := by decide +kernel
theorem dX4_into_5 : decode cX4_into 5 = .ok (.aload_n 0, 1) := by decide +kernel
theorem dX4_into_6 : decode cX4_into 6 = .ok (.getfield 7, 3) := by decide +kernel
theorem dX4_into_9 : decode cX4_into 9 = .ok (.iconst 0, 1) := by decide +kernel
theorem dX4_into_10 : decode cX4_into 10 = .ok (.iaload, 1) := by decide +kernel
theorem dX4_into_11 : decode cX4_into 11 = .ok (.if_icmp .ge 28, 3) := by decide +kernel
theorem dX4_into_14 : decode cX4_into 14 = .ok (.iload_n 2, 1) := by decide +kernel
theorem dX4_into_15 : decode cX4_into 15 = .ok (.aload_n 0, 1) := by decide +kernel
theorem dX4_into_16 : decode cX4_into 16 = .ok (.iload_n 3, 1) := by decide +kernel
theorem dX4_into_17 : decode cX4_into 17 = .ok (.iload_n 1, 1) := by decide +kernel
theorem dX4_into_18 : decode cX4_into 18 = .ok (.invokevirtual 61, 3) := by decide +kernel
theorem dX4_into_21 : decode cX4_into 21 = .ok (.ifCond .eq 9, 3) := by decide +kernel
theorem dX4_into_24 : decode cX4_into 24 = .ok (.iconst 1, 1) := by decide +kernel
theorem dX4_into_25 : decode cX4_into 25 = .ok (.iload_n 3, 1) := by decide +kernel
theorem dX4_into_26 : decode cX4_into 26 = .ok (.ishl, 1) := by decide +kernel
theorem dX4_into_27 : decode cX4_into 27 = .ok (.goto 4, 3) := by decide +kernel
theorem dX4_into_30 : decode cX4_into 30 = .ok (.iconst 0, 1) := by decide +kernel
theorem dX4_into_31 : decode cX4_into 31 = .ok (.ior, 1) := by decide +kernel
theorem dX4_into_32 : decode cX4_into 32 = .ok (.istore_n 2, 1) := by decide +kernel
theorem dX4_into_33 : decode cX4_into 33 = .ok (.iinc 3 1, 3) := by decide +kernel
theorem dX4_into_36 : decode cX4_into 36 = .ok (.goto (-32), 3) := by decide +kernel
theorem dX4_into_39 : decode cX4_into 39 = .ok (.iload_n 2, 1) := by decide +kernel
theorem dX4_into_40 : decode cX4_into 40 = .ok (.ireturn, 1) := by decide +kernel
theorem dX4_choiceAt_0 : decode cX4_choiceAt 0 = .ok (.aload_n 0, 1) := by decide +kernel
theorem dX4_choiceAt_1 : decode cX4_choiceAt 1 = .ok (.invokevirtual 99, 3) := by decide +kernel
theorem dX4_choiceAt_4 : decode cX4_choiceAt 4 = .ok (.ifCond .ge 8, 3) := by decide +kernel
theorem dX4_choiceAt_7 : decode cX4_choiceAt 7 = .ok (.bipush (-4), 2) := by decide +kernel
theorem dX4_choiceAt_9 : decode cX4_choiceAt 9 = .ok (.goto 9, 3) := by decide +kernel
theorem dX4_choiceAt_12 : decode cX4_choiceAt 12 = .ok (.aload_n 0, 1) := by decide +kernel
theorem dX4_choiceAt_13 : decode cX4_choiceAt 13 = .ok (.getfield 25, 3) := by decide +kernel
theorem dX4_choiceAt_16 : decode cX4_choiceAt 16 = .ok (.iload_n 1, 1) := by decide +kernel
theorem dX4_choiceAt_17 : decode cX4_choiceAt 17 = .ok (.iaload, 1) := by decide +kernel
theorem dX4_choiceAt_18 : decode cX4_choiceAt 18 = .ok (.ireturn, 1) := by decide +kernel
theorem dX4_placeOf_0 : decode cX4_placeOf 0 = .ok (.aload_n 0, 1) := by decide +kernel
theorem dX4_placeOf_1 : decode cX4_placeOf 1 = .ok (.iload_n 1, 1) := by decide +kernel
theorem dX4_placeOf_2 : decode cX4_placeOf 2 = .ok (.invokevirtual 57, 3) := by decide +kernel
theorem dX4_placeOf_5 : decode cX4_placeOf 5 = .ok (.ifCond .eq 12, 3) := by decide +kernel
theorem dX4_placeOf_8 : decode cX4_placeOf 8 = .ok (.iload_n 2, 1) := by decide +kernel
theorem dX4_placeOf_9 : decode cX4_placeOf 9 = .ok (.iconst 0, 1) := by decide +kernel
theorem dX4_placeOf_10 : decode cX4_placeOf 10 = .ok (.iconst 5, 1) := by decide +kernel
theorem dX4_placeOf_11 : decode cX4_placeOf 11 = .ok (.invokestatic 50, 3) := by decide +kernel
theorem dX4_placeOf_14 : decode cX4_placeOf 14 = .ok (.ifCond .ne 5, 3) := by decide +kernel
theorem dX4_placeOf_17 : decode cX4_placeOf 17 = .ok (.iconst (-1), 1) := by decide +kernel
theorem dX4_placeOf_18 : decode cX4_placeOf 18 = .ok (.ireturn, 1) := by decide +kernel
theorem dX4_placeOf_19 : decode cX4_placeOf 19 = .ok (.iload_n 2, 1) := by decide +kernel
theorem dX4_placeOf_20 : decode cX4_placeOf 20 = .ok (.tableswitch 80 0 4 #[36, 45, 55, 65, 71], 36) := by decide +kernel
theorem dX4_placeOf_56 : decode cX4_placeOf 56 = .ok (.aload_n 0, 1) := by decide +kernel
theorem dX4_placeOf_57 : decode cX4_placeOf 57 = .ok (.getfield 7, 3) := by decide +kernel
theorem dX4_placeOf_60 : decode cX4_placeOf 60 = .ok (.iconst 1, 1) := by decide +kernel
theorem dX4_placeOf_61 : decode cX4_placeOf 61 = .ok (.iload_n 1, 1) := by decide +kernel
theorem dX4_placeOf_62 : decode cX4_placeOf 62 = .ok (.iadd, 1) := by decide +kernel
theorem dX4_placeOf_63 : decode cX4_placeOf 63 = .ok (.iaload, 1) := by decide +kernel
theorem dX4_placeOf_64 : decode cX4_placeOf 64 = .ok (.ireturn, 1) := by decide +kernel
theorem dX4_placeOf_65 : decode cX4_placeOf 65 = .ok (.aload_n 0, 1) := by decide +kernel
theorem dX4_placeOf_66 : decode cX4_placeOf 66 = .ok (.getfield 7, 3) := by decide +kernel
theorem dX4_placeOf_69 : decode cX4_placeOf 69 = .ok (.bipush 13, 2) := by decide +kernel
theorem dX4_placeOf_71 : decode cX4_placeOf 71 = .ok (.iload_n 1, 1) := by decide +kernel
theorem dX4_placeOf_72 : decode cX4_placeOf 72 = .ok (.iadd, 1) := by decide +kernel
theorem dX4_placeOf_73 : decode cX4_placeOf 73 = .ok (.iaload, 1) := by decide +kernel
theorem dX4_placeOf_74 : decode cX4_placeOf 74 = .ok (.ireturn, 1) := by decide +kernel
theorem dX4_placeOf_75 : decode cX4_placeOf 75 = .ok (.aload_n 0, 1) := by decide +kernel
theorem dX4_placeOf_76 : decode cX4_placeOf 76 = .ok (.getfield 7, 3) := by decide +kernel
theorem dX4_placeOf_79 : decode cX4_placeOf 79 = .ok (.bipush 25, 2) := by decide +kernel
theorem dX4_placeOf_81 : decode cX4_placeOf 81 = .ok (.iload_n 1, 1) := by decide +kernel
theorem dX4_placeOf_82 : decode cX4_placeOf 82 = .ok (.iadd, 1) := by decide +kernel
theorem dX4_placeOf_83 : decode cX4_placeOf 83 = .ok (.iaload, 1) := by decide +kernel
theorem dX4_placeOf_84 : decode cX4_placeOf 84 = .ok (.ireturn, 1) := by decide +kernel
theorem dX4_placeOf_85 : decode cX4_placeOf 85 = .ok (.aload_n 0, 1) := by decide +kernel
theorem dX4_placeOf_86 : decode cX4_placeOf 86 = .ok (.iload_n 1, 1) := by decide +kernel
theorem dX4_placeOf_87 : decode cX4_placeOf 87 = .ok (.invokevirtual 102, 3) := by decide +kernel
theorem dX4_placeOf_90 : decode cX4_placeOf 90 = .ok (.ireturn, 1) := by decide +kernel
theorem dX4_placeOf_91 : decode cX4_placeOf 91 = .ok (.aload_n 0, 1) := by decide +kernel
theorem dX4_placeOf_92 : decode cX4_placeOf 92 = .ok (.invokevirtual 89, 3) := by decide +kernel
theorem dX4_placeOf_95 : decode cX4_placeOf 95 = .ok (.iload_n 1, 1) := by decide +kernel
theorem dX4_placeOf_96 : decode cX4_placeOf 96 = .ok (.invokestatic 96, 3) := by decide +kernel
theorem dX4_placeOf_99 : decode cX4_placeOf 99 = .ok (.ireturn, 1) := by decide +kernel
theorem dX4_placeOf_100 : decode cX4_placeOf 100 = .ok (.aload_n 0, 1) := by decide +kernel
theorem dX4_placeOf_101 : decode cX4_placeOf 101 = .ok (.iload_n 1, 1) := by decide +kernel
theorem dX4_placeOf_102 : decode cX4_placeOf 102 = .ok (.invokevirtual 105, 3) := by decide +kernel
theorem dX4_placeOf_105 : decode cX4_placeOf 105 = .ok (.ireturn, 1) := by decide +kernel
theorem dX4_manyWays_0 : decode cX4_manyWays 0 = .ok (.iconst 0, 1) := by decide +kernel
theorem dX4_manyWays_1 : decode cX4_manyWays 1 = .ok (.istore_n 1, 1) := by decide +kernel
theorem dX4_manyWays_2 : decode cX4_manyWays 2 = .ok (.iconst 0, 1) := by decide +kernel
theorem dX4_manyWays_3 : decode cX4_manyWays 3 = .ok (.istore_n 2, 1) := by decide +kernel
theorem dX4_manyWays_4 : decode cX4_manyWays 4 = .ok (.iload_n 2, 1) := by decide +kernel
theorem dX4_manyWays_5 : decode cX4_manyWays 5 = .ok (.aload_n 0, 1) := by decide +kernel
theorem dX4_manyWays_6 : decode cX4_manyWays 6 = .ok (.getfield 7, 3) := by decide +kernel
theorem dX4_manyWays_9 : decode cX4_manyWays 9 = .ok (.iconst 0, 1) := by decide +kernel
theorem dX4_manyWays_10 : decode cX4_manyWays 10 = .ok (.iaload, 1) := by decide +kernel
theorem dX4_manyWays_11 : decode cX4_manyWays 11 = .ok (.if_icmp .ge 24, 3) := by decide +kernel
theorem dX4_manyWays_14 : decode cX4_manyWays 14 = .ok (.iload_n 1, 1) := by decide +kernel
theorem dX4_manyWays_15 : decode cX4_manyWays 15 = .ok (.aload_n 0, 1) := by decide +kernel
theorem dX4_manyWays_16 : decode cX4_manyWays 16 = .ok (.getfield 7, 3) := by decide +kernel
theorem dX4_manyWays_19 : decode cX4_manyWays 19 = .ok (.bipush 25, 2) := by decide +kernel
theorem dX4_manyWays_21 : decode cX4_manyWays 21 = .ok (.iload_n 2, 1) := by decide +kernel
theorem dX4_manyWays_22 : decode cX4_manyWays 22 = .ok (.iadd, 1) := by decide +kernel
theorem dX4_manyWays_23 : decode cX4_manyWays 23 = .ok (.iaload, 1) := by decide +kernel
theorem dX4_manyWays_24 : decode cX4_manyWays 24 = .ok (.invokestatic 65, 3) := by decide +kernel
theorem dX4_manyWays_27 : decode cX4_manyWays 27 = .ok (.iadd, 1) := by decide +kernel
theorem dX4_manyWays_28 : decode cX4_manyWays 28 = .ok (.istore_n 1, 1) := by decide +kernel
theorem dX4_manyWays_29 : decode cX4_manyWays 29 = .ok (.iinc 2 1, 3) := by decide +kernel
theorem dX4_manyWays_32 : decode cX4_manyWays 32 = .ok (.goto (-28), 3) := by decide +kernel
theorem dX4_manyWays_35 : decode cX4_manyWays 35 = .ok (.iload_n 1, 1) := by decide +kernel
theorem dX4_manyWays_36 : decode cX4_manyWays 36 = .ok (.ireturn, 1) := by decide +kernel
theorem dX4_dead_0 : decode cX4_dead 0 = .ok (.iconst 0, 1) := by decide +kernel
theorem dX4_dead_1 : decode cX4_dead 1 = .ok (.istore_n 1, 1) := by decide +kernel
theorem dX4_dead_2 : decode cX4_dead 2 = .ok (.iconst 0, 1) := by decide +kernel
theorem dX4_dead_3 : decode cX4_dead 3 = .ok (.istore_n 2, 1) := by decide +kernel
theorem dX4_dead_4 : decode cX4_dead 4 = .ok (.iload_n 2, 1) := by decide +kernel
theorem dX4_dead_5 : decode cX4_dead 5 = .ok (.aload_n 0, 1) := by decide +kernel
theorem dX4_dead_6 : decode cX4_dead 6 = .ok (.getfield 7, 3) := by decide +kernel
theorem dX4_dead_9 : decode cX4_dead 9 = .ok (.iconst 0, 1) := by decide +kernel
theorem dX4_dead_10 : decode cX4_dead 10 = .ok (.iaload, 1) := by decide +kernel
theorem dX4_dead_11 : decode cX4_dead 11 = .ok (.if_icmp .ge 31, 3) := by decide +kernel
theorem dX4_dead_14 : decode cX4_dead 14 = .ok (.iload_n 1, 1) := by decide +kernel
theorem dX4_dead_15 : decode cX4_dead 15 = .ok (.aload_n 0, 1) := by decide +kernel
theorem dX4_dead_16 : decode cX4_dead 16 = .ok (.getfield 7, 3) := by decide +kernel
theorem dX4_dead_19 : decode cX4_dead 19 = .ok (.bipush 25, 2) := by decide +kernel
theorem dX4_dead_21 : decode cX4_dead 21 = .ok (.iload_n 2, 1) := by decide +kernel
theorem dX4_dead_22 : decode cX4_dead 22 = .ok (.iadd, 1) := by decide +kernel
theorem dX4_dead_23 : decode cX4_dead 23 = .ok (.iaload, 1) := by decide +kernel
theorem dX4_dead_24 : decode cX4_dead 24 = .ok (.ifCond .ne 9, 3) := by decide +kernel
theorem dX4_dead_27 : decode cX4_dead 27 = .ok (.iconst 1, 1) := by decide +kernel
theorem dX4_dead_28 : decode cX4_dead 28 = .ok (.iload_n 2, 1) := by decide +kernel
theorem dX4_dead_29 : decode cX4_dead 29 = .ok (.ishl, 1) := by decide +kernel
theorem dX4_dead_30 : decode cX4_dead 30 = .ok (.goto 4, 3) := by decide +kernel
theorem dX4_dead_33 : decode cX4_dead 33 = .ok (.iconst 0, 1) := by decide +kernel
theorem dX4_dead_34 : decode cX4_dead 34 = .ok (.ior, 1) := by decide +kernel
theorem dX4_dead_35 : decode cX4_dead 35 = .ok (.istore_n 1, 1) := by decide +kernel
theorem dX4_dead_36 : decode cX4_dead 36 = .ok (.iinc 2 1, 3) := by decide +kernel
theorem dX4_dead_39 : decode cX4_dead 39 = .ok (.goto (-35), 3) := by decide +kernel
theorem dX4_dead_42 : decode cX4_dead 42 = .ok (.iload_n 1, 1) := by decide +kernel
theorem dX4_dead_43 : decode cX4_dead 43 = .ok (.ireturn, 1) := by decide +kernel
theorem dX4_greatest_0 : decode cX4_greatest 0 = .ok (.bipush (-4), 2) := by decide +kernel
theorem dX4_greatest_2 : decode cX4_greatest 2 = .ok (.istore_n 1, 1) := by decide +kernel
theorem dX4_greatest_3 : decode cX4_greatest 3 = .ok (.iconst 0, 1) := by decide +kernel
theorem dX4_greatest_4 : decode cX4_greatest 4 = .ok (.istore_n 2, 1) := by decide +kernel
theorem dX4_greatest_5 : decode cX4_greatest 5 = .ok (.iload_n 2, 1) := by decide +kernel
theorem dX4_greatest_6 : decode cX4_greatest 6 = .ok (.aload_n 0, 1) := by decide +kernel
theorem dX4_greatest_7 : decode cX4_greatest 7 = .ok (.getfield 7, 3) := by decide +kernel
theorem dX4_greatest_10 : decode cX4_greatest 10 = .ok (.iconst 0, 1) := by decide +kernel
theorem dX4_greatest_11 : decode cX4_greatest 11 = .ok (.iaload, 1) := by decide +kernel
theorem dX4_greatest_12 : decode cX4_greatest 12 = .ok (.if_icmp .ge 36, 3) := by decide +kernel
theorem dX4_greatest_15 : decode cX4_greatest 15 = .ok (.aload_n 0, 1) := by decide +kernel
theorem dX4_greatest_16 : decode cX4_greatest 16 = .ok (.getfield 7, 3) := by decide +kernel
theorem dX4_greatest_19 : decode cX4_greatest 19 = .ok (.bipush 13, 2) := by decide +kernel
theorem dX4_greatest_21 : decode cX4_greatest 21 = .ok (.iload_n 2, 1) := by decide +kernel
theorem dX4_greatest_22 : decode cX4_greatest 22 = .ok (.iadd, 1) := by decide +kernel
theorem dX4_greatest_23 : decode cX4_greatest 23 = .ok (.iaload, 1) := by decide +kernel
theorem dX4_greatest_24 : decode cX4_greatest 24 = .ok (.iload_n 1, 1) := by decide +kernel
theorem dX4_greatest_25 : decode cX4_greatest 25 = .ok (.if_icmp .le 15, 3) := by decide +kernel
theorem dX4_greatest_28 : decode cX4_greatest 28 = .ok (.aload_n 0, 1) := by decide +kernel
theorem dX4_greatest_29 : decode cX4_greatest 29 = .ok (.getfield 7, 3) := by decide +kernel
theorem dX4_greatest_32 : decode cX4_greatest 32 = .ok (.bipush 13, 2) := by decide +kernel
theorem dX4_greatest_34 : decode cX4_greatest 34 = .ok (.iload_n 2, 1) := by decide +kernel
theorem dX4_greatest_35 : decode cX4_greatest 35 = .ok (.iadd, 1) := by decide +kernel
theorem dX4_greatest_36 : decode cX4_greatest 36 = .ok (.iaload, 1) := by decide +kernel
theorem dX4_greatest_37 : decode cX4_greatest 37 = .ok (.goto 4, 3) := by decide +kernel
theorem dX4_greatest_40 : decode cX4_greatest 40 = .ok (.iload_n 1, 1) := by decide +kernel
theorem dX4_greatest_41 : decode cX4_greatest 41 = .ok (.istore_n 1, 1) := by decide +kernel
theorem dX4_greatest_42 : decode cX4_greatest 42 = .ok (.iinc 2 1, 3) := by decide +kernel
theorem dX4_greatest_45 : decode cX4_greatest 45 = .ok (.goto (-40), 3) := by decide +kernel
theorem dX4_greatest_48 : decode cX4_greatest 48 = .ok (.iload_n 1, 1) := by decide +kernel
theorem dX4_greatest_49 : decode cX4_greatest 49 = .ok (.ireturn, 1) := by decide +kernel
theorem dX4_count_0 : decode cX4_count 0 = .ok (.iload_n 1, 1) := by decide +kernel
theorem dX4_count_1 : decode cX4_count 1 = .ok (.tableswitch 111 0 8 #[51, 58, 63, 68, 78, 83, 88, 93, 98], 51) := by decide +kernel
theorem dX4_count_52 : decode cX4_count 52 = .ok (.aload_n 0, 1) := by decide +kernel
theorem dX4_count_53 : decode cX4_count 53 = .ok (.getfield 7, 3) := by decide +kernel
theorem dX4_count_56 : decode cX4_count 56 = .ok (.iconst 0, 1) := by decide +kernel
theorem dX4_count_57 : decode cX4_count 57 = .ok (.iaload, 1) := by decide +kernel
theorem dX4_count_58 : decode cX4_count 58 = .ok (.ireturn, 1) := by decide +kernel
theorem dX4_count_59 : decode cX4_count 59 = .ok (.aload_n 0, 1) := by decide +kernel
theorem dX4_count_60 : decode cX4_count 60 = .ok (.invokevirtual 108, 3) := by decide +kernel
theorem dX4_count_63 : decode cX4_count 63 = .ok (.ireturn, 1) := by decide +kernel
theorem dX4_count_64 : decode cX4_count 64 = .ok (.aload_n 0, 1) := by decide +kernel
theorem dX4_count_65 : decode cX4_count 65 = .ok (.invokevirtual 89, 3) := by decide +kernel
theorem dX4_count_68 : decode cX4_count 68 = .ok (.ireturn, 1) := by decide +kernel
theorem dX4_count_69 : decode cX4_count 69 = .ok (.aload_n 0, 1) := by decide +kernel
theorem dX4_count_70 : decode cX4_count 70 = .ok (.invokevirtual 111, 3) := by decide +kernel
theorem dX4_count_73 : decode cX4_count 73 = .ok (.aload_n 0, 1) := by decide +kernel
theorem dX4_count_74 : decode cX4_count 74 = .ok (.invokevirtual 89, 3) := by decide +kernel
theorem dX4_count_77 : decode cX4_count 77 = .ok (.isub, 1) := by decide +kernel
theorem dX4_count_78 : decode cX4_count 78 = .ok (.ireturn, 1) := by decide +kernel
theorem dX4_count_79 : decode cX4_count 79 = .ok (.aload_n 0, 1) := by decide +kernel
theorem dX4_count_80 : decode cX4_count 80 = .ok (.invokevirtual 114, 3) := by decide +kernel
theorem dX4_count_83 : decode cX4_count 83 = .ok (.ireturn, 1) := by decide +kernel
theorem dX4_count_84 : decode cX4_count 84 = .ok (.aload_n 0, 1) := by decide +kernel
theorem dX4_count_85 : decode cX4_count 85 = .ok (.invokevirtual 117, 3) := by decide +kernel
theorem dX4_count_88 : decode cX4_count 88 = .ok (.ireturn, 1) := by decide +kernel
theorem dX4_count_89 : decode cX4_count 89 = .ok (.aload_n 0, 1) := by decide +kernel
theorem dX4_count_90 : decode cX4_count 90 = .ok (.getfield 46, 3) := by decide +kernel
theorem dX4_count_93 : decode cX4_count 93 = .ok (.ireturn, 1) := by decide +kernel
theorem dX4_count_94 : decode cX4_count 94 = .ok (.aload_n 0, 1) := by decide +kernel
theorem dX4_count_95 : decode cX4_count 95 = .ok (.getfield 120, 3) := by decide +kernel
theorem dX4_count_98 : decode cX4_count 98 = .ok (.ireturn, 1) := by decide +kernel
theorem dX4_count_99 : decode cX4_count 99 = .ok (.aload_n 0, 1) := by decide +kernel
theorem dX4_count_100 : decode cX4_count 100 = .ok (.getfield 123, 3) := by decide +kernel
theorem dX4_count_103 : decode cX4_count 103 = .ok (.ifCond .eq 7, 3) := by decide +kernel
theorem dX4_count_106 : decode cX4_count 106 = .ok (.iconst 1, 1) := by decide +kernel
theorem dX4_count_107 : decode cX4_count 107 = .ok (.goto 4, 3) := by decide +kernel
theorem dX4_count_110 : decode cX4_count 110 = .ok (.iconst 0, 1) := by decide +kernel
theorem dX4_count_111 : decode cX4_count 111 = .ok (.ireturn, 1) := by decide +kernel
theorem dX4_count_112 : decode cX4_count 112 = .ok (.iconst (-1), 1) := by decide +kernel
theorem dX4_count_113 : decode cX4_count 113 = .ok (.ireturn, 1) := by decide +kernel
theorem dX4_isSet_0 : decode cX4_isSet 0 = .ok (.iload_n 1, 1) := by decide +kernel
theorem dX4_isSet_1 : decode cX4_isSet 1 = .ok (.iconst 0, 1) := by decide +kernel
theorem dX4_isSet_2 : decode cX4_isSet 2 = .ok (.iconst 1, 1) := by decide +kernel
theorem dX4_isSet_3 : decode cX4_isSet 3 = .ok (.invokestatic 50, 3) := by decide +kernel
theorem dX4_isSet_6 : decode cX4_isSet 6 = .ok (.ifCond .eq 19, 3) := by decide +kernel
theorem dX4_isSet_9 : decode cX4_isSet 9 = .ok (.iload_n 2, 1) := by decide +kernel
theorem dX4_isSet_10 : decode cX4_isSet 10 = .ok (.iconst 0, 1) := by decide +kernel
theorem dX4_isSet_11 : decode cX4_isSet 11 = .ok (.aload_n 0, 1) := by decide +kernel
theorem dX4_isSet_12 : decode cX4_isSet 12 = .ok (.invokevirtual 111, 3) := by decide +kernel
theorem dX4_isSet_15 : decode cX4_isSet 15 = .ok (.invokestatic 50, 3) := by decide +kernel
theorem dX4_isSet_18 : decode cX4_isSet 18 = .ok (.ifCond .eq 7, 3) := by decide +kernel
theorem dX4_isSet_21 : decode cX4_isSet 21 = .ok (.iconst 1, 1) := by decide +kernel
theorem dX4_isSet_22 : decode cX4_isSet 22 = .ok (.goto 4, 3) := by decide +kernel
theorem dX4_isSet_25 : decode cX4_isSet 25 = .ok (.iconst 0, 1) := by decide +kernel
theorem dX4_isSet_26 : decode cX4_isSet 26 = .ok (.ireturn, 1) := by decide +kernel
theorem dX4_pulls_0 : decode cX4_pulls 0 = .ok (.iload_n 2, 1) := by decide +kernel
theorem dX4_pulls_1 : decode cX4_pulls 1 = .ok (.istore_n 3, 1) := by decide +kernel
theorem dX4_pulls_2 : decode cX4_pulls 2 = .ok (.iconst 0, 1) := by decide +kernel
theorem dX4_pulls_3 : decode cX4_pulls 3 = .ok (.istore 4, 2) := by decide +kernel
theorem dX4_pulls_5 : decode cX4_pulls 5 = .ok (.iload 4, 2) := by decide +kernel
theorem dX4_pulls_7 : decode cX4_pulls 7 = .ok (.aload_n 0, 1) := by decide +kernel
theorem dX4_pulls_8 : decode cX4_pulls 8 = .ok (.getfield 7, 3) := by decide +kernel
theorem dX4_pulls_11 : decode cX4_pulls 11 = .ok (.iconst 0, 1) := by decide +kernel
theorem dX4_pulls_12 : decode cX4_pulls 12 = .ok (.iaload, 1) := by decide +kernel
theorem dX4_pulls_13 : decode cX4_pulls 13 = .ok (.if_icmp .ge 86, 3) := by decide +kernel
theorem dX4_pulls_16 : decode cX4_pulls 16 = .ok (.aload_n 0, 1) := by decide +kernel
theorem dX4_pulls_17 : decode cX4_pulls 17 = .ok (.getfield 7, 3) := by decide +kernel
theorem dX4_pulls_20 : decode cX4_pulls 20 = .ok (.bipush 25, 2) := by decide +kernel
theorem dX4_pulls_22 : decode cX4_pulls 22 = .ok (.iload 4, 2) := by decide +kernel
theorem dX4_pulls_24 : decode cX4_pulls 24 = .ok (.iadd, 1) := by decide +kernel
theorem dX4_pulls_25 : decode cX4_pulls 25 = .ok (.iaload, 1) := by decide +kernel
theorem dX4_pulls_26 : decode cX4_pulls 26 = .ok (.istore 5, 2) := by decide +kernel
theorem dX4_pulls_28 : decode cX4_pulls 28 = .ok (.aload_n 0, 1) := by decide +kernel
theorem dX4_pulls_29 : decode cX4_pulls 29 = .ok (.getfield 7, 3) := by decide +kernel
theorem dX4_pulls_32 : decode cX4_pulls 32 = .ok (.iconst 1, 1) := by decide +kernel
theorem dX4_pulls_33 : decode cX4_pulls 33 = .ok (.iload 4, 2) := by decide +kernel
theorem dX4_pulls_35 : decode cX4_pulls 35 = .ok (.iadd, 1) := by decide +kernel
theorem dX4_pulls_36 : decode cX4_pulls 36 = .ok (.iaload, 1) := by decide +kernel
theorem dX4_pulls_37 : decode cX4_pulls 37 = .ok (.iload_n 1, 1) := by decide +kernel
theorem dX4_pulls_38 : decode cX4_pulls 38 = .ok (.if_icmp .ne 18, 3) := by decide +kernel
theorem dX4_pulls_41 : decode cX4_pulls 41 = .ok (.iload 5, 2) := by decide +kernel
theorem dX4_pulls_43 : decode cX4_pulls 43 = .ok (.iload_n 2, 1) := by decide +kernel
theorem dX4_pulls_44 : decode cX4_pulls 44 = .ok (.iand, 1) := by decide +kernel
theorem dX4_pulls_45 : decode cX4_pulls 45 = .ok (.ifCond .eq 7, 3) := by decide +kernel
theorem dX4_pulls_48 : decode cX4_pulls 48 = .ok (.iconst 1, 1) := by decide +kernel
theorem dX4_pulls_49 : decode cX4_pulls 49 = .ok (.goto 26, 3) := by decide +kernel
theorem dX4_pulls_52 : decode cX4_pulls 52 = .ok (.iconst 0, 1) := by decide +kernel
theorem dX4_pulls_53 : decode cX4_pulls 53 = .ok (.goto 22, 3) := by decide +kernel
theorem dX4_pulls_56 : decode cX4_pulls 56 = .ok (.iload 5, 2) := by decide +kernel
theorem dX4_pulls_58 : decode cX4_pulls 58 = .ok (.ifCond .eq 16, 3) := by decide +kernel
theorem dX4_pulls_61 : decode cX4_pulls 61 = .ok (.iload 5, 2) := by decide +kernel
theorem dX4_pulls_63 : decode cX4_pulls 63 = .ok (.iload_n 2, 1) := by decide +kernel
theorem dX4_pulls_64 : decode cX4_pulls 64 = .ok (.iconst (-1), 1) := by decide +kernel
theorem dX4_pulls_65 : decode cX4_pulls 65 = .ok (.ixor, 1) := by decide +kernel
theorem dX4_pulls_66 : decode cX4_pulls 66 = .ok (.iand, 1) := by decide +kernel
theorem dX4_pulls_67 : decode cX4_pulls 67 = .ok (.ifCond .ne 7, 3) := by decide +kernel
theorem dX4_pulls_70 : decode cX4_pulls 70 = .ok (.iconst 1, 1) := by decide +kernel
theorem dX4_pulls_71 : decode cX4_pulls 71 = .ok (.goto 4, 3) := by decide +kernel
theorem dX4_pulls_74 : decode cX4_pulls 74 = .ok (.iconst 0, 1) := by decide +kernel
theorem dX4_pulls_75 : decode cX4_pulls 75 = .ok (.istore 6, 2) := by decide +kernel
theorem dX4_pulls_77 : decode cX4_pulls 77 = .ok (.iload_n 3, 1) := by decide +kernel
theorem dX4_pulls_78 : decode cX4_pulls 78 = .ok (.iload 6, 2) := by decide +kernel
theorem dX4_pulls_80 : decode cX4_pulls 80 = .ok (.ifCond .eq 10, 3) := by decide +kernel
theorem dX4_pulls_83 : decode cX4_pulls 83 = .ok (.iconst 1, 1) := by decide +kernel
theorem dX4_pulls_84 : decode cX4_pulls 84 = .ok (.iload 4, 2) := by decide +kernel
theorem dX4_pulls_86 : decode cX4_pulls 86 = .ok (.ishl, 1) := by decide +kernel
theorem dX4_pulls_87 : decode cX4_pulls 87 = .ok (.goto 4, 3) := by decide +kernel
theorem dX4_pulls_90 : decode cX4_pulls 90 = .ok (.iconst 0, 1) := by decide +kernel
theorem dX4_pulls_91 : decode cX4_pulls 91 = .ok (.ior, 1) := by decide +kernel
theorem dX4_pulls_92 : decode cX4_pulls 92 = .ok (.istore_n 3, 1) := by decide +kernel
theorem dX4_pulls_93 : decode cX4_pulls 93 = .ok (.iinc 4 1, 3) := by decide +kernel
theorem dX4_pulls_96 : decode cX4_pulls 96 = .ok (.goto (-91), 3) := by decide +kernel
theorem dX4_pulls_99 : decode cX4_pulls 99 = .ok (.iload_n 3, 1) := by decide +kernel
theorem dX4_pulls_100 : decode cX4_pulls 100 = .ok (.ireturn, 1) := by decide +kernel
theorem dX4_pulled_0 : decode cX4_pulled 0 = .ok (.aload_n 0, 1) := by decide +kernel
theorem dX4_pulled_1 : decode cX4_pulled 1 = .ok (.iload_n 1, 1) := by decide +kernel
theorem dX4_pulled_2 : decode cX4_pulled 2 = .ok (.iload_n 2, 1) := by decide +kernel
theorem dX4_pulled_3 : decode cX4_pulled 3 = .ok (.invokevirtual 127, 3) := by decide +kernel
theorem dX4_pulled_6 : decode cX4_pulled 6 = .ok (.ifCond .ne 5, 3) := by decide +kernel
theorem dX4_pulled_9 : decode cX4_pulled 9 = .ok (.iconst (-1), 1) := by decide +kernel
theorem dX4_pulled_10 : decode cX4_pulled 10 = .ok (.ireturn, 1) := by decide +kernel
theorem dX4_pulled_11 : decode cX4_pulled 11 = .ok (.iload_n 2, 1) := by decide +kernel
theorem dX4_pulled_12 : decode cX4_pulled 12 = .ok (.istore_n 3, 1) := by decide +kernel
theorem dX4_pulled_13 : decode cX4_pulled 13 = .ok (.iconst 0, 1) := by decide +kernel
theorem dX4_pulled_14 : decode cX4_pulled 14 = .ok (.istore 4, 2) := by decide +kernel
theorem dX4_pulled_16 : decode cX4_pulled 16 = .ok (.iload 4, 2) := by decide +kernel
theorem dX4_pulled_18 : decode cX4_pulled 18 = .ok (.bipush 12, 2) := by decide +kernel
theorem dX4_pulled_20 : decode cX4_pulled 20 = .ok (.if_icmp .ge 16, 3) := by decide +kernel
theorem dX4_pulled_23 : decode cX4_pulled 23 = .ok (.aload_n 0, 1) := by decide +kernel
theorem dX4_pulled_24 : decode cX4_pulled 24 = .ok (.iload_n 1, 1) := by decide +kernel
theorem dX4_pulled_25 : decode cX4_pulled 25 = .ok (.iload_n 3, 1) := by decide +kernel
theorem dX4_pulled_26 : decode cX4_pulled 26 = .ok (.invokevirtual 130, 3) := by decide +kernel
theorem dX4_pulled_29 : decode cX4_pulled 29 = .ok (.istore_n 3, 1) := by decide +kernel
theorem dX4_pulled_30 : decode cX4_pulled 30 = .ok (.iinc 4 1, 3) := by decide +kernel
theorem dX4_pulled_33 : decode cX4_pulled 33 = .ok (.goto (-17), 3) := by decide +kernel
theorem dX4_pulled_36 : decode cX4_pulled 36 = .ok (.iload_n 3, 1) := by decide +kernel
theorem dX4_pulled_37 : decode cX4_pulled 37 = .ok (.ireturn, 1) := by decide +kernel
theorem dX4_steps_0 : decode cX4_steps 0 = .ok (.aload_n 0, 1) := by decide +kernel
theorem dX4_steps_1 : decode cX4_steps 1 = .ok (.iload_n 1, 1) := by decide +kernel
theorem dX4_steps_2 : decode cX4_steps 2 = .ok (.iload_n 2, 1) := by decide +kernel
theorem dX4_steps_3 : decode cX4_steps 3 = .ok (.invokevirtual 127, 3) := by decide +kernel
theorem dX4_steps_6 : decode cX4_steps 6 = .ok (.ifCond .eq 11, 3) := by decide +kernel
theorem dX4_steps_9 : decode cX4_steps 9 = .ok (.aload_n 0, 1) := by decide +kernel
theorem dX4_steps_10 : decode cX4_steps 10 = .ok (.iload_n 3, 1) := by decide +kernel
theorem dX4_steps_11 : decode cX4_steps 11 = .ok (.invokevirtual 57, 3) := by decide +kernel
theorem dX4_steps_14 : decode cX4_steps 14 = .ok (.ifCond .ne 5, 3) := by decide +kernel
theorem dX4_steps_17 : decode cX4_steps 17 = .ok (.iconst (-1), 1) := by decide +kernel
theorem dX4_steps_18 : decode cX4_steps 18 = .ok (.ireturn, 1) := by decide +kernel
theorem dX4_steps_19 : decode cX4_steps 19 = .ok (.iload_n 2, 1) := by decide +kernel
theorem dX4_steps_20 : decode cX4_steps 20 = .ok (.istore 4, 2) := by decide +kernel
theorem dX4_steps_22 : decode cX4_steps 22 = .ok (.iconst 0, 1) := by decide +kernel
theorem dX4_steps_23 : decode cX4_steps 23 = .ok (.istore 5, 2) := by decide +kernel
theorem dX4_steps_25 : decode cX4_steps 25 = .ok (.iload 5, 2) := by decide +kernel
theorem dX4_steps_27 : decode cX4_steps 27 = .ok (.bipush 12, 2) := by decide +kernel
theorem dX4_steps_29 : decode cX4_steps 29 = .ok (.if_icmp .gt 31, 3) := by decide +kernel
theorem dX4_steps_32 : decode cX4_steps 32 = .ok (.iload 4, 2) := by decide +kernel
theorem dX4_steps_34 : decode cX4_steps 34 = .ok (.iload_n 3, 1) := by decide +kernel
theorem dX4_steps_35 : decode cX4_steps 35 = .ok (.ishr, 1) := by decide +kernel
theorem dX4_steps_36 : decode cX4_steps 36 = .ok (.iconst 1, 1) := by decide +kernel
theorem dX4_steps_37 : decode cX4_steps 37 = .ok (.iand, 1) := by decide +kernel
theorem dX4_steps_38 : decode cX4_steps 38 = .ok (.iconst 1, 1) := by decide +kernel
theorem dX4_steps_39 : decode cX4_steps 39 = .ok (.if_icmp .ne 6, 3) := by decide +kernel
theorem dX4_steps_42 : decode cX4_steps 42 = .ok (.iload 5, 2) := by decide +kernel
theorem dX4_steps_44 : decode cX4_steps 44 = .ok (.ireturn, 1) := by decide +kernel
theorem dX4_steps_45 : decode cX4_steps 45 = .ok (.aload_n 0, 1) := by decide +kernel
theorem dX4_steps_46 : decode cX4_steps 46 = .ok (.iload_n 1, 1) := by decide +kernel
theorem dX4_steps_47 : decode cX4_steps 47 = .ok (.iload 4, 2) := by decide +kernel
theorem dX4_steps_49 : decode cX4_steps 49 = .ok (.invokevirtual 130, 3) := by decide +kernel
theorem dX4_steps_52 : decode cX4_steps 52 = .ok (.istore 4, 2) := by decide +kernel
theorem dX4_steps_54 : decode cX4_steps 54 = .ok (.iinc 5 1, 3) := by decide +kernel
theorem dX4_steps_57 : decode cX4_steps 57 = .ok (.goto (-32), 3) := by decide +kernel
theorem dX4_steps_60 : decode cX4_steps 60 = .ok (.bipush (-4), 2) := by decide +kernel
theorem dX4_steps_62 : decode cX4_steps 62 = .ok (.ireturn, 1) := by decide +kernel
theorem dX4_holding_0 : decode cX4_holding 0 = .ok (.iconst 0, 1) := by decide +kernel
theorem dX4_holding_1 : decode cX4_holding 1 = .ok (.istore_n 3, 1) := by decide +kernel
theorem dX4_holding_2 : decode cX4_holding 2 = .ok (.iconst 0, 1) := by decide +kernel
theorem dX4_holding_3 : decode cX4_holding 3 = .ok (.istore 4, 2) := by decide +kernel
theorem dX4_holding_5 : decode cX4_holding 5 = .ok (.iload 4, 2) := by decide +kernel
theorem dX4_holding_7 : decode cX4_holding 7 = .ok (.aload_n 0, 1) := by decide +kernel
theorem dX4_holding_8 : decode cX4_holding 8 = .ok (.getfield 7, 3) := by decide +kernel
theorem dX4_holding_11 : decode cX4_holding 11 = .ok (.iconst 0, 1) := by decide +kernel
theorem dX4_holding_12 : decode cX4_holding 12 = .ok (.iaload, 1) := by decide +kernel
theorem dX4_holding_13 : decode cX4_holding 13 = .ok (.if_icmp .ge 96, 3) := by decide +kernel
theorem dX4_holding_16 : decode cX4_holding 16 = .ok (.aload_n 0, 1) := by decide +kernel
theorem dX4_holding_17 : decode cX4_holding 17 = .ok (.getfield 7, 3) := by decide +kernel
theorem dX4_holding_20 : decode cX4_holding 20 = .ok (.bipush 25, 2) := by decide +kernel
theorem dX4_holding_22 : decode cX4_holding 22 = .ok (.iload 4, 2) := by decide +kernel
theorem dX4_holding_24 : decode cX4_holding 24 = .ok (.iadd, 1) := by decide +kernel
theorem dX4_holding_25 : decode cX4_holding 25 = .ok (.iaload, 1) := by decide +kernel
theorem dX4_holding_26 : decode cX4_holding 26 = .ok (.istore 5, 2) := by decide +kernel
theorem dX4_holding_28 : decode cX4_holding 28 = .ok (.aload_n 0, 1) := by decide +kernel
theorem dX4_holding_29 : decode cX4_holding 29 = .ok (.getfield 7, 3) := by decide +kernel
theorem dX4_holding_32 : decode cX4_holding 32 = .ok (.iconst 1, 1) := by decide +kernel
theorem dX4_holding_33 : decode cX4_holding 33 = .ok (.iload 4, 2) := by decide +kernel
theorem dX4_holding_35 : decode cX4_holding 35 = .ok (.iadd, 1) := by decide +kernel
theorem dX4_holding_36 : decode cX4_holding 36 = .ok (.iaload, 1) := by decide +kernel
theorem dX4_holding_37 : decode cX4_holding 37 = .ok (.iload_n 1, 1) := by decide +kernel
theorem dX4_holding_38 : decode cX4_holding 38 = .ok (.if_icmp .ne 20, 3) := by decide +kernel
theorem dX4_holding_41 : decode cX4_holding 41 = .ok (.iload 5, 2) := by decide +kernel
theorem dX4_holding_43 : decode cX4_holding 43 = .ok (.iload_n 2, 1) := by decide +kernel
theorem dX4_holding_44 : decode cX4_holding 44 = .ok (.iconst (-1), 1) := by decide +kernel
theorem dX4_holding_45 : decode cX4_holding 45 = .ok (.ixor, 1) := by decide +kernel
theorem dX4_holding_46 : decode cX4_holding 46 = .ok (.iand, 1) := by decide +kernel
theorem dX4_holding_47 : decode cX4_holding 47 = .ok (.ifCond .ne 7, 3) := by decide +kernel
theorem dX4_holding_50 : decode cX4_holding 50 = .ok (.iconst 1, 1) := by decide +kernel
theorem dX4_holding_51 : decode cX4_holding 51 = .ok (.goto 24, 3) := by decide +kernel
theorem dX4_holding_54 : decode cX4_holding 54 = .ok (.iconst 0, 1) := by decide +kernel
theorem dX4_holding_55 : decode cX4_holding 55 = .ok (.goto 20, 3) := by decide +kernel
theorem dX4_holding_58 : decode cX4_holding 58 = .ok (.iload 5, 2) := by decide +kernel
theorem dX4_holding_60 : decode cX4_holding 60 = .ok (.ifCond .eq 10, 3) := by decide +kernel
theorem dX4_holding_63 : decode cX4_holding 63 = .ok (.iload 5, 2) := by decide +kernel
theorem dX4_holding_65 : decode cX4_holding 65 = .ok (.iload_n 2, 1) := by decide +kernel
theorem dX4_holding_66 : decode cX4_holding 66 = .ok (.iand, 1) := by decide +kernel
theorem dX4_holding_67 : decode cX4_holding 67 = .ok (.ifCond .eq 7, 3) := by decide +kernel
theorem dX4_holding_70 : decode cX4_holding 70 = .ok (.iconst 1, 1) := by decide +kernel
theorem dX4_holding_71 : decode cX4_holding 71 = .ok (.goto 4, 3) := by decide +kernel
theorem dX4_holding_74 : decode cX4_holding 74 = .ok (.iconst 0, 1) := by decide +kernel
theorem dX4_holding_75 : decode cX4_holding 75 = .ok (.istore 6, 2) := by decide +kernel
theorem dX4_holding_77 : decode cX4_holding 77 = .ok (.iload_n 3, 1) := by decide +kernel
theorem dX4_holding_78 : decode cX4_holding 78 = .ok (.iload_n 2, 1) := by decide +kernel
theorem dX4_holding_79 : decode cX4_holding 79 = .ok (.iload 4, 2) := by decide +kernel
theorem dX4_holding_81 : decode cX4_holding 81 = .ok (.ishr, 1) := by decide +kernel
theorem dX4_holding_82 : decode cX4_holding 82 = .ok (.iconst 1, 1) := by decide +kernel
theorem dX4_holding_83 : decode cX4_holding 83 = .ok (.iand, 1) := by decide +kernel
theorem dX4_holding_84 : decode cX4_holding 84 = .ok (.iconst 1, 1) := by decide +kernel
theorem dX4_holding_85 : decode cX4_holding 85 = .ok (.if_icmp .ne 15, 3) := by decide +kernel
theorem dX4_holding_88 : decode cX4_holding 88 = .ok (.iload 6, 2) := by decide +kernel
theorem dX4_holding_90 : decode cX4_holding 90 = .ok (.ifCond .eq 10, 3) := by decide +kernel
theorem dX4_holding_93 : decode cX4_holding 93 = .ok (.iconst 1, 1) := by decide +kernel
theorem dX4_holding_94 : decode cX4_holding 94 = .ok (.iload 4, 2) := by decide +kernel
theorem dX4_holding_96 : decode cX4_holding 96 = .ok (.ishl, 1) := by decide +kernel
theorem dX4_holding_97 : decode cX4_holding 97 = .ok (.goto 4, 3) := by decide +kernel
theorem dX4_holding_100 : decode cX4_holding 100 = .ok (.iconst 0, 1) := by decide +kernel
theorem dX4_holding_101 : decode cX4_holding 101 = .ok (.ior, 1) := by decide +kernel
theorem dX4_holding_102 : decode cX4_holding 102 = .ok (.istore_n 3, 1) := by decide +kernel
theorem dX4_holding_103 : decode cX4_holding 103 = .ok (.iinc 4 1, 3) := by decide +kernel
theorem dX4_holding_106 : decode cX4_holding 106 = .ok (.goto (-101), 3) := by decide +kernel
theorem dX4_holding_109 : decode cX4_holding 109 = .ok (.iload_n 3, 1) := by decide +kernel
theorem dX4_holding_110 : decode cX4_holding 110 = .ok (.ireturn, 1) := by decide +kernel
theorem dX4_trap_0 : decode cX4_trap 0 = .ok (.aload_n 0, 1) := by decide +kernel
theorem dX4_trap_1 : decode cX4_trap 1 = .ok (.iload_n 1, 1) := by decide +kernel
theorem dX4_trap_2 : decode cX4_trap 2 = .ok (.iload_n 2, 1) := by decide +kernel
theorem dX4_trap_3 : decode cX4_trap 3 = .ok (.invokevirtual 127, 3) := by decide +kernel
theorem dX4_trap_6 : decode cX4_trap 6 = .ok (.ifCond .ne 5, 3) := by decide +kernel
theorem dX4_trap_9 : decode cX4_trap 9 = .ok (.iconst (-1), 1) := by decide +kernel
theorem dX4_trap_10 : decode cX4_trap 10 = .ok (.ireturn, 1) := by decide +kernel
theorem dX4_trap_11 : decode cX4_trap 11 = .ok (.aload_n 0, 1) := by decide +kernel
theorem dX4_trap_12 : decode cX4_trap 12 = .ok (.iload_n 1, 1) := by decide +kernel
theorem dX4_trap_13 : decode cX4_trap 13 = .ok (.iload_n 2, 1) := by decide +kernel
theorem dX4_trap_14 : decode cX4_trap 14 = .ok (.invokevirtual 133, 3) := by decide +kernel
theorem dX4_trap_17 : decode cX4_trap 17 = .ok (.iload_n 2, 1) := by decide +kernel
theorem dX4_trap_18 : decode cX4_trap 18 = .ok (.if_icmp .ne 7, 3) := by decide +kernel
theorem dX4_trap_21 : decode cX4_trap 21 = .ok (.iconst 1, 1) := by decide +kernel
theorem dX4_trap_22 : decode cX4_trap 22 = .ok (.goto 4, 3) := by decide +kernel
theorem dX4_trap_25 : decode cX4_trap 25 = .ok (.iconst 0, 1) := by decide +kernel
theorem dX4_trap_26 : decode cX4_trap 26 = .ok (.ireturn, 1) := by decide +kernel
theorem dX4_greatestTrap_0 : decode cX4_greatestTrap 0 = .ok (.aload_n 0, 1) := by decide +kernel
theorem dX4_greatestTrap_1 : decode cX4_greatestTrap 1 = .ok (.iload_n 1, 1) := by decide +kernel
theorem dX4_greatestTrap_2 : decode cX4_greatestTrap 2 = .ok (.iload_n 2, 1) := by decide +kernel
theorem dX4_greatestTrap_3 : decode cX4_greatestTrap 3 = .ok (.invokevirtual 127, 3) := by decide +kernel
theorem dX4_greatestTrap_6 : decode cX4_greatestTrap 6 = .ok (.ifCond .ne 5, 3) := by decide +kernel
theorem dX4_greatestTrap_9 : decode cX4_greatestTrap 9 = .ok (.iconst (-1), 1) := by decide +kernel
theorem dX4_greatestTrap_10 : decode cX4_greatestTrap 10 = .ok (.ireturn, 1) := by decide +kernel
theorem dX4_greatestTrap_11 : decode cX4_greatestTrap 11 = .ok (.iload_n 2, 1) := by decide +kernel
theorem dX4_greatestTrap_12 : decode cX4_greatestTrap 12 = .ok (.istore_n 3, 1) := by decide +kernel
theorem dX4_greatestTrap_13 : decode cX4_greatestTrap 13 = .ok (.iconst 0, 1) := by decide +kernel
theorem dX4_greatestTrap_14 : decode cX4_greatestTrap 14 = .ok (.istore 4, 2) := by decide +kernel
theorem dX4_greatestTrap_16 : decode cX4_greatestTrap 16 = .ok (.iload 4, 2) := by decide +kernel
theorem dX4_greatestTrap_18 : decode cX4_greatestTrap 18 = .ok (.bipush 12, 2) := by decide +kernel
theorem dX4_greatestTrap_20 : decode cX4_greatestTrap 20 = .ok (.if_icmp .ge 16, 3) := by decide +kernel
theorem dX4_greatestTrap_23 : decode cX4_greatestTrap 23 = .ok (.aload_n 0, 1) := by decide +kernel
theorem dX4_greatestTrap_24 : decode cX4_greatestTrap 24 = .ok (.iload_n 1, 1) := by decide +kernel
theorem dX4_greatestTrap_25 : decode cX4_greatestTrap 25 = .ok (.iload_n 3, 1) := by decide +kernel
theorem dX4_greatestTrap_26 : decode cX4_greatestTrap 26 = .ok (.invokevirtual 133, 3) := by decide +kernel
theorem dX4_greatestTrap_29 : decode cX4_greatestTrap 29 = .ok (.istore_n 3, 1) := by decide +kernel
theorem dX4_greatestTrap_30 : decode cX4_greatestTrap 30 = .ok (.iinc 4 1, 3) := by decide +kernel
theorem dX4_greatestTrap_33 : decode cX4_greatestTrap 33 = .ok (.goto (-17), 3) := by decide +kernel
theorem dX4_greatestTrap_36 : decode cX4_greatestTrap 36 = .ok (.iload_n 3, 1) := by decide +kernel
theorem dX4_greatestTrap_37 : decode cX4_greatestTrap 37 = .ok (.ireturn, 1) := by decide +kernel
theorem dX4_play_0 : decode cX4_play 0 = .ok (.aload_n 0, 1) := by decide +kernel
theorem dX4_play_1 : decode cX4_play 1 = .ok (.iload_n 1, 1) := by decide +kernel
theorem dX4_play_2 : decode cX4_play 2 = .ok (.invokevirtual 57, 3) := by decide +kernel
theorem dX4_play_5 : decode cX4_play 5 = .ok (.ifCond .eq 12, 3) := by decide +kernel
theorem dX4_play_8 : decode cX4_play 8 = .ok (.iload_n 2, 1) := by decide +kernel
theorem dX4_play_9 : decode cX4_play 9 = .ok (.iconst 0, 1) := by decide +kernel
theorem dX4_play_10 : decode cX4_play 10 = .ok (.iconst 3, 1) := by decide +kernel
theorem dX4_play_11 : decode cX4_play 11 = .ok (.invokestatic 50, 3) := by decide +kernel
theorem dX4_play_14 : decode cX4_play 14 = .ok (.ifCond .ne 5, 3) := by decide +kernel
theorem dX4_play_17 : decode cX4_play 17 = .ok (.iconst (-1), 1) := by decide +kernel
theorem dX4_play_18 : decode cX4_play 18 = .ok (.ireturn, 1) := by decide +kernel
theorem dX4_play_19 : decode cX4_play 19 = .ok (.aload_n 0, 1) := by decide +kernel
theorem dX4_play_20 : decode cX4_play 20 = .ok (.invokevirtual 99, 3) := by decide +kernel
theorem dX4_play_23 : decode cX4_play 23 = .ok (.istore_n 3, 1) := by decide +kernel
theorem dX4_play_24 : decode cX4_play 24 = .ok (.iconst 0, 1) := by decide +kernel
theorem dX4_play_25 : decode cX4_play 25 = .ok (.istore 4, 2) := by decide +kernel
theorem dX4_play_27 : decode cX4_play 27 = .ok (.iload_n 1, 1) := by decide +kernel
theorem dX4_play_28 : decode cX4_play 28 = .ok (.istore 5, 2) := by decide +kernel
theorem dX4_play_30 : decode cX4_play 30 = .ok (.iload_n 1, 1) := by decide +kernel
theorem dX4_play_31 : decode cX4_play 31 = .ok (.istore 6, 2) := by decide +kernel
theorem dX4_play_33 : decode cX4_play 33 = .ok (.iload 6, 2) := by decide +kernel
theorem dX4_play_35 : decode cX4_play 35 = .ok (.ifCond .lt 38, 3) := by decide +kernel
theorem dX4_play_38 : decode cX4_play 38 = .ok (.iload 4, 2) := by decide +kernel
theorem dX4_play_40 : decode cX4_play 40 = .ok (.iload 6, 2) := by decide +kernel
theorem dX4_play_42 : decode cX4_play 42 = .ok (.ishr, 1) := by decide +kernel
theorem dX4_play_43 : decode cX4_play 43 = .ok (.iconst 1, 1) := by decide +kernel
theorem dX4_play_44 : decode cX4_play 44 = .ok (.iand, 1) := by decide +kernel
theorem dX4_play_45 : decode cX4_play 45 = .ok (.ifCond .ne 28, 3) := by decide +kernel
theorem dX4_play_48 : decode cX4_play 48 = .ok (.iload 4, 2) := by decide +kernel
theorem dX4_play_50 : decode cX4_play 50 = .ok (.iconst 1, 1) := by decide +kernel
theorem dX4_play_51 : decode cX4_play 51 = .ok (.iload 6, 2) := by decide +kernel
theorem dX4_play_53 : decode cX4_play 53 = .ok (.ishl, 1) := by decide +kernel
theorem dX4_play_54 : decode cX4_play 54 = .ok (.ior, 1) := by decide +kernel
theorem dX4_play_55 : decode cX4_play 55 = .ok (.istore 4, 2) := by decide +kernel
theorem dX4_play_57 : decode cX4_play 57 = .ok (.iload 6, 2) := by decide +kernel
theorem dX4_play_59 : decode cX4_play 59 = .ok (.istore 5, 2) := by decide +kernel
theorem dX4_play_61 : decode cX4_play 61 = .ok (.aload_n 0, 1) := by decide +kernel
theorem dX4_play_62 : decode cX4_play 62 = .ok (.getfield 25, 3) := by decide +kernel
theorem dX4_play_65 : decode cX4_play 65 = .ok (.iload 6, 2) := by decide +kernel
theorem dX4_play_67 : decode cX4_play 67 = .ok (.iaload, 1) := by decide +kernel
theorem dX4_play_68 : decode cX4_play 68 = .ok (.istore 6, 2) := by decide +kernel
theorem dX4_play_70 : decode cX4_play 70 = .ok (.goto (-37), 3) := by decide +kernel
theorem dX4_play_73 : decode cX4_play 73 = .ok (.iload_n 2, 1) := by decide +kernel
theorem dX4_play_74 : decode cX4_play 74 = .ok (.ifCond .eq 7, 3) := by decide +kernel
theorem dX4_play_77 : decode cX4_play 77 = .ok (.iload_n 3, 1) := by decide +kernel
theorem dX4_play_78 : decode cX4_play 78 = .ok (.ifCond .ge 9, 3) := by decide +kernel
theorem dX4_play_81 : decode cX4_play 81 = .ok (.iload 4, 2) := by decide +kernel
theorem dX4_play_83 : decode cX4_play 83 = .ok (.invokestatic 65, 3) := by decide +kernel
theorem dX4_play_86 : decode cX4_play 86 = .ok (.ireturn, 1) := by decide +kernel
theorem dX4_play_87 : decode cX4_play 87 = .ok (.iload 6, 2) := by decide +kernel
theorem dX4_play_89 : decode cX4_play 89 = .ok (.ifCond .ge 25, 3) := by decide +kernel
theorem dX4_play_92 : decode cX4_play 92 = .ok (.iload_n 2, 1) := by decide +kernel
theorem dX4_play_93 : decode cX4_play 93 = .ok (.iconst 3, 1) := by decide +kernel
theorem dX4_play_94 : decode cX4_play 94 = .ok (.if_icmp .ne 17, 3) := by decide +kernel
theorem dX4_play_97 : decode cX4_play 97 = .ok (.iconst 1, 1) := by decide +kernel
theorem dX4_play_98 : decode cX4_play 98 = .ok (.aload_n 0, 1) := by decide +kernel
theorem dX4_play_99 : decode cX4_play 99 = .ok (.getfield 7, 3) := by decide +kernel
theorem dX4_play_102 : decode cX4_play 102 = .ok (.iconst 1, 1) := by decide +kernel
theorem dX4_play_103 : decode cX4_play 103 = .ok (.iload 5, 2) := by decide +kernel
theorem dX4_play_105 : decode cX4_play 105 = .ok (.iadd, 1) := by decide +kernel
theorem dX4_play_106 : decode cX4_play 106 = .ok (.iaload, 1) := by decide +kernel
theorem dX4_play_107 : decode cX4_play 107 = .ok (.isub, 1) := by decide +kernel
theorem dX4_play_108 : decode cX4_play 108 = .ok (.goto 5, 3) := by decide +kernel
theorem dX4_play_111 : decode cX4_play 111 = .ok (.bipush (-4), 2) := by decide +kernel
theorem dX4_play_113 : decode cX4_play 113 = .ok (.ireturn, 1) := by decide +kernel
theorem dX4_play_114 : decode cX4_play 114 = .ok (.iconst 0, 1) := by decide +kernel
theorem dX4_play_115 : decode cX4_play 115 = .ok (.istore 7, 2) := by decide +kernel
theorem dX4_play_117 : decode cX4_play 117 = .ok (.iload 6, 2) := by decide +kernel
theorem dX4_play_119 : decode cX4_play 119 = .ok (.istore 8, 2) := by decide +kernel
theorem dX4_play_121 : decode cX4_play 121 = .ok (.iconst 0, 1) := by decide +kernel
theorem dX4_play_122 : decode cX4_play 122 = .ok (.istore 9, 2) := by decide +kernel
theorem dX4_play_124 : decode cX4_play 124 = .ok (.iload 9, 2) := by decide +kernel
theorem dX4_play_126 : decode cX4_play 126 = .ok (.bipush 12, 2) := by decide +kernel
theorem dX4_play_128 : decode cX4_play 128 = .ok (.if_icmp .ge 50, 3) := by decide +kernel
theorem dX4_play_131 : decode cX4_play 131 = .ok (.aload_n 0, 1) := by decide +kernel
theorem dX4_play_132 : decode cX4_play 132 = .ok (.getfield 7, 3) := by decide +kernel
theorem dX4_play_135 : decode cX4_play 135 = .ok (.bipush 13, 2) := by decide +kernel
theorem dX4_play_137 : decode cX4_play 137 = .ok (.iload 8, 2) := by decide +kernel
theorem dX4_play_139 : decode cX4_play 139 = .ok (.iadd, 1) := by decide +kernel
theorem dX4_play_140 : decode cX4_play 140 = .ok (.iaload, 1) := by decide +kernel
theorem dX4_play_141 : decode cX4_play 141 = .ok (.iload 7, 2) := by decide +kernel
theorem dX4_play_143 : decode cX4_play 143 = .ok (.if_icmp .le 16, 3) := by decide +kernel
theorem dX4_play_146 : decode cX4_play 146 = .ok (.aload_n 0, 1) := by decide +kernel
theorem dX4_play_147 : decode cX4_play 147 = .ok (.getfield 7, 3) := by decide +kernel
theorem dX4_play_150 : decode cX4_play 150 = .ok (.bipush 13, 2) := by decide +kernel
theorem dX4_play_152 : decode cX4_play 152 = .ok (.iload 8, 2) := by decide +kernel
theorem dX4_play_154 : decode cX4_play 154 = .ok (.iadd, 1) := by decide +kernel
theorem dX4_play_155 : decode cX4_play 155 = .ok (.iaload, 1) := by decide +kernel
theorem dX4_play_156 : decode cX4_play 156 = .ok (.goto 5, 3) := by decide +kernel
theorem dX4_play_159 : decode cX4_play 159 = .ok (.iload 7, 2) := by decide +kernel
theorem dX4_play_161 : decode cX4_play 161 = .ok (.istore 7, 2) := by decide +kernel
theorem dX4_play_163 : decode cX4_play 163 = .ok (.aload_n 0, 1) := by decide +kernel
theorem dX4_play_164 : decode cX4_play 164 = .ok (.getfield 25, 3) := by decide +kernel
theorem dX4_play_167 : decode cX4_play 167 = .ok (.iload 8, 2) := by decide +kernel
theorem dX4_play_169 : decode cX4_play 169 = .ok (.iaload, 1) := by decide +kernel
theorem dX4_play_170 : decode cX4_play 170 = .ok (.istore 8, 2) := by decide +kernel
theorem dX4_play_172 : decode cX4_play 172 = .ok (.iinc 9 1, 3) := by decide +kernel
theorem dX4_play_175 : decode cX4_play 175 = .ok (.goto (-51), 3) := by decide +kernel
theorem dX4_play_178 : decode cX4_play 178 = .ok (.iload_n 2, 1) := by decide +kernel
theorem dX4_play_179 : decode cX4_play 179 = .ok (.iconst 1, 1) := by decide +kernel
theorem dX4_play_180 : decode cX4_play 180 = .ok (.if_icmp .ne 8, 3) := by decide +kernel
theorem dX4_play_183 : decode cX4_play 183 = .ok (.iload 6, 2) := by decide +kernel
theorem dX4_play_185 : decode cX4_play 185 = .ok (.goto 17, 3) := by decide +kernel
theorem dX4_play_188 : decode cX4_play 188 = .ok (.iload_n 2, 1) := by decide +kernel
theorem dX4_play_189 : decode cX4_play 189 = .ok (.iconst 2, 1) := by decide +kernel
theorem dX4_play_190 : decode cX4_play 190 = .ok (.if_icmp .ne 8, 3) := by decide +kernel
theorem dX4_play_193 : decode cX4_play 193 = .ok (.iload 7, 2) := by decide +kernel
theorem dX4_play_195 : decode cX4_play 195 = .ok (.goto 7, 3) := by decide +kernel
theorem dX4_play_198 : decode cX4_play 198 = .ok (.iload 7, 2) := by decide +kernel
theorem dX4_play_200 : decode cX4_play 200 = .ok (.iconst 2, 1) := by decide +kernel
theorem dX4_play_201 : decode cX4_play 201 = .ok (.irem, 1) := by decide +kernel
theorem dX4_play_202 : decode cX4_play 202 = .ok (.ireturn, 1) := by decide +kernel
theorem dX4_proves_0 : decode cX4_proves 0 = .ok (.iload_n 1, 1) := by decide +kernel
theorem dX4_proves_1 : decode cX4_proves 1 = .ok (.iconst 0, 1) := by decide +kernel
theorem dX4_proves_2 : decode cX4_proves 2 = .ok (.iconst 1, 1) := by decide +kernel
theorem dX4_proves_3 : decode cX4_proves 3 = .ok (.invokestatic 50, 3) := by decide +kernel
theorem dX4_proves_6 : decode cX4_proves 6 = .ok (.ifCond .ne 5, 3) := by decide +kernel
theorem dX4_proves_9 : decode cX4_proves 9 = .ok (.iconst (-1), 1) := by decide +kernel
theorem dX4_proves_10 : decode cX4_proves 10 = .ok (.ireturn, 1) := by decide +kernel
theorem dX4_proves_11 : decode cX4_proves 11 = .ok (.aload_n 0, 1) := by decide +kernel
theorem dX4_proves_12 : decode cX4_proves 12 = .ok (.invokevirtual 99, 3) := by decide +kernel
theorem dX4_proves_15 : decode cX4_proves 15 = .ok (.istore_n 2, 1) := by decide +kernel
theorem dX4_proves_16 : decode cX4_proves 16 = .ok (.iload_n 1, 1) := by decide +kernel
theorem dX4_proves_17 : decode cX4_proves 17 = .ok (.ifCond .ne 7, 3) := by decide +kernel
theorem dX4_proves_20 : decode cX4_proves 20 = .ok (.iload_n 2, 1) := by decide +kernel
theorem dX4_proves_21 : decode cX4_proves 21 = .ok (.goto 9, 3) := by decide +kernel
theorem dX4_proves_24 : decode cX4_proves 24 = .ok (.aload_n 0, 1) := by decide +kernel
theorem dX4_proves_25 : decode cX4_proves 25 = .ok (.invokevirtual 111, 3) := by decide +kernel
theorem dX4_proves_28 : decode cX4_proves 28 = .ok (.iload_n 2, 1) := by decide +kernel
theorem dX4_proves_29 : decode cX4_proves 29 = .ok (.isub, 1) := by decide +kernel
theorem dX4_proves_30 : decode cX4_proves 30 = .ok (.istore_n 3, 1) := by decide +kernel
theorem dX4_proves_31 : decode cX4_proves 31 = .ok (.iconst 1, 1) := by decide +kernel
theorem dX4_proves_32 : decode cX4_proves 32 = .ok (.istore 4, 2) := by decide +kernel
theorem dX4_proves_34 : decode cX4_proves 34 = .ok (.iconst 0, 1) := by decide +kernel
theorem dX4_proves_35 : decode cX4_proves 35 = .ok (.istore 5, 2) := by decide +kernel
theorem dX4_proves_37 : decode cX4_proves 37 = .ok (.iload 5, 2) := by decide +kernel
theorem dX4_proves_39 : decode cX4_proves 39 = .ok (.aload_n 0, 1) := by decide +kernel
theorem dX4_proves_40 : decode cX4_proves 40 = .ok (.getfield 7, 3) := by decide +kernel
theorem dX4_proves_43 : decode cX4_proves 43 = .ok (.iconst 0, 1) := by decide +kernel
theorem dX4_proves_44 : decode cX4_proves 44 = .ok (.iaload, 1) := by decide +kernel
theorem dX4_proves_45 : decode cX4_proves 45 = .ok (.if_icmp .ge 132, 3) := by decide +kernel
theorem dX4_proves_48 : decode cX4_proves 48 = .ok (.iload_n 3, 1) := by decide +kernel
theorem dX4_proves_49 : decode cX4_proves 49 = .ok (.iload 5, 2) := by decide +kernel
theorem dX4_proves_51 : decode cX4_proves 51 = .ok (.ishr, 1) := by decide +kernel
theorem dX4_proves_52 : decode cX4_proves 52 = .ok (.iconst 1, 1) := by decide +kernel
theorem dX4_proves_53 : decode cX4_proves 53 = .ok (.iand, 1) := by decide +kernel
theorem dX4_proves_54 : decode cX4_proves 54 = .ok (.iconst 1, 1) := by decide +kernel
theorem dX4_proves_55 : decode cX4_proves 55 = .ok (.if_icmp .ne 7, 3) := by decide +kernel
theorem dX4_proves_58 : decode cX4_proves 58 = .ok (.iconst 1, 1) := by decide +kernel
theorem dX4_proves_59 : decode cX4_proves 59 = .ok (.goto 4, 3) := by decide +kernel
theorem dX4_proves_62 : decode cX4_proves 62 = .ok (.iconst 0, 1) := by decide +kernel
theorem dX4_proves_63 : decode cX4_proves 63 = .ok (.istore 6, 2) := by decide +kernel
theorem dX4_proves_65 : decode cX4_proves 65 = .ok (.iload 6, 2) := by decide +kernel
theorem dX4_proves_67 : decode cX4_proves 67 = .ok (.ifCond .eq 20, 3) := by decide +kernel
theorem dX4_proves_70 : decode cX4_proves 70 = .ok (.aload_n 0, 1) := by decide +kernel
theorem dX4_proves_71 : decode cX4_proves 71 = .ok (.getfield 7, 3) := by decide +kernel
theorem dX4_proves_74 : decode cX4_proves 74 = .ok (.iconst 1, 1) := by decide +kernel
theorem dX4_proves_75 : decode cX4_proves 75 = .ok (.iload 5, 2) := by decide +kernel
theorem dX4_proves_77 : decode cX4_proves 77 = .ok (.iadd, 1) := by decide +kernel
theorem dX4_proves_78 : decode cX4_proves 78 = .ok (.iaload, 1) := by decide +kernel
theorem dX4_proves_79 : decode cX4_proves 79 = .ok (.iload_n 1, 1) := by decide +kernel
theorem dX4_proves_80 : decode cX4_proves 80 = .ok (.if_icmp .ne 7, 3) := by decide +kernel
theorem dX4_proves_83 : decode cX4_proves 83 = .ok (.iconst 1, 1) := by decide +kernel
theorem dX4_proves_84 : decode cX4_proves 84 = .ok (.goto 4, 3) := by decide +kernel
theorem dX4_proves_87 : decode cX4_proves 87 = .ok (.iconst 0, 1) := by decide +kernel
theorem dX4_proves_88 : decode cX4_proves 88 = .ok (.istore 7, 2) := by decide +kernel
theorem dX4_proves_90 : decode cX4_proves 90 = .ok (.aload_n 0, 1) := by decide +kernel
theorem dX4_proves_91 : decode cX4_proves 91 = .ok (.getfield 7, 3) := by decide +kernel
theorem dX4_proves_94 : decode cX4_proves 94 = .ok (.bipush 25, 2) := by decide +kernel
theorem dX4_proves_96 : decode cX4_proves 96 = .ok (.iload 5, 2) := by decide +kernel
theorem dX4_proves_98 : decode cX4_proves 98 = .ok (.iadd, 1) := by decide +kernel
theorem dX4_proves_99 : decode cX4_proves 99 = .ok (.iload 7, 2) := by decide +kernel
theorem dX4_proves_101 : decode cX4_proves 101 = .ok (.ifCond .eq 25, 3) := by decide +kernel
theorem dX4_proves_104 : decode cX4_proves 104 = .ok (.aload_n 0, 1) := by decide +kernel
theorem dX4_proves_105 : decode cX4_proves 105 = .ok (.getfield 25, 3) := by decide +kernel
theorem dX4_proves_108 : decode cX4_proves 108 = .ok (.iload 5, 2) := by decide +kernel
theorem dX4_proves_110 : decode cX4_proves 110 = .ok (.iaload, 1) := by decide +kernel
theorem dX4_proves_111 : decode cX4_proves 111 = .ok (.ifCond .lt 15, 3) := by decide +kernel
theorem dX4_proves_114 : decode cX4_proves 114 = .ok (.iconst 1, 1) := by decide +kernel
theorem dX4_proves_115 : decode cX4_proves 115 = .ok (.aload_n 0, 1) := by decide +kernel
theorem dX4_proves_116 : decode cX4_proves 116 = .ok (.getfield 25, 3) := by decide +kernel
theorem dX4_proves_119 : decode cX4_proves 119 = .ok (.iload 5, 2) := by decide +kernel
theorem dX4_proves_121 : decode cX4_proves 121 = .ok (.iaload, 1) := by decide +kernel
theorem dX4_proves_122 : decode cX4_proves 122 = .ok (.ishl, 1) := by decide +kernel
theorem dX4_proves_123 : decode cX4_proves 123 = .ok (.goto 13, 3) := by decide +kernel
theorem dX4_proves_126 : decode cX4_proves 126 = .ok (.aload_n 0, 1) := by decide +kernel
theorem dX4_proves_127 : decode cX4_proves 127 = .ok (.getfield 7, 3) := by decide +kernel
theorem dX4_proves_130 : decode cX4_proves 130 = .ok (.bipush 25, 2) := by decide +kernel
theorem dX4_proves_132 : decode cX4_proves 132 = .ok (.iload 5, 2) := by decide +kernel
theorem dX4_proves_134 : decode cX4_proves 134 = .ok (.iadd, 1) := by decide +kernel
theorem dX4_proves_135 : decode cX4_proves 135 = .ok (.iaload, 1) := by decide +kernel
theorem dX4_proves_136 : decode cX4_proves 136 = .ok (.iastore, 1) := by decide +kernel
theorem dX4_proves_137 : decode cX4_proves 137 = .ok (.iload 4, 2) := by decide +kernel
theorem dX4_proves_139 : decode cX4_proves 139 = .ok (.ifCond .eq 29, 3) := by decide +kernel
theorem dX4_proves_142 : decode cX4_proves 142 = .ok (.iload 6, 2) := by decide +kernel
theorem dX4_proves_144 : decode cX4_proves 144 = .ok (.ifCond .eq 20, 3) := by decide +kernel
theorem dX4_proves_147 : decode cX4_proves 147 = .ok (.aload_n 0, 1) := by decide +kernel
theorem dX4_proves_148 : decode cX4_proves 148 = .ok (.getfield 7, 3) := by decide +kernel
theorem dX4_proves_151 : decode cX4_proves 151 = .ok (.bipush 25, 2) := by decide +kernel
theorem dX4_proves_153 : decode cX4_proves 153 = .ok (.iload 5, 2) := by decide +kernel
theorem dX4_proves_155 : decode cX4_proves 155 = .ok (.iadd, 1) := by decide +kernel
theorem dX4_proves_156 : decode cX4_proves 156 = .ok (.iaload, 1) := by decide +kernel
theorem dX4_proves_157 : decode cX4_proves 157 = .ok (.iload_n 3, 1) := by decide +kernel
theorem dX4_proves_158 : decode cX4_proves 158 = .ok (.iconst (-1), 1) := by decide +kernel
theorem dX4_proves_159 : decode cX4_proves 159 = .ok (.ixor, 1) := by decide +kernel
theorem dX4_proves_160 : decode cX4_proves 160 = .ok (.iand, 1) := by decide +kernel
theorem dX4_proves_161 : decode cX4_proves 161 = .ok (.ifCond .ne 7, 3) := by decide +kernel
theorem dX4_proves_164 : decode cX4_proves 164 = .ok (.iconst 1, 1) := by decide +kernel
theorem dX4_proves_165 : decode cX4_proves 165 = .ok (.goto 4, 3) := by decide +kernel
theorem dX4_proves_168 : decode cX4_proves 168 = .ok (.iconst 0, 1) := by decide +kernel
theorem dX4_proves_169 : decode cX4_proves 169 = .ok (.istore 4, 2) := by decide +kernel
theorem dX4_proves_171 : decode cX4_proves 171 = .ok (.iinc 5 1, 3) := by decide +kernel
theorem dX4_proves_174 : decode cX4_proves 174 = .ok (.goto (-137), 3) := by decide +kernel
theorem dX4_proves_177 : decode cX4_proves 177 = .ok (.aload_n 0, 1) := by decide +kernel
theorem dX4_proves_178 : decode cX4_proves 178 = .ok (.invokevirtual 89, 3) := by decide +kernel
theorem dX4_proves_181 : decode cX4_proves 181 = .ok (.istore 5, 2) := by decide +kernel
theorem dX4_proves_183 : decode cX4_proves 183 = .ok (.iload_n 1, 1) := by decide +kernel
theorem dX4_proves_184 : decode cX4_proves 184 = .ok (.ifCond .ne 8, 3) := by decide +kernel
theorem dX4_proves_187 : decode cX4_proves 187 = .ok (.iload 5, 2) := by decide +kernel
theorem dX4_proves_189 : decode cX4_proves 189 = .ok (.goto 10, 3) := by decide +kernel
theorem dX4_proves_192 : decode cX4_proves 192 = .ok (.aload_n 0, 1) := by decide +kernel
theorem dX4_proves_193 : decode cX4_proves 193 = .ok (.invokevirtual 111, 3) := by decide +kernel
theorem dX4_proves_196 : decode cX4_proves 196 = .ok (.iload 5, 2) := by decide +kernel
theorem dX4_proves_198 : decode cX4_proves 198 = .ok (.isub, 1) := by decide +kernel
theorem dX4_proves_199 : decode cX4_proves 199 = .ok (.istore 6, 2) := by decide +kernel
theorem dX4_proves_201 : decode cX4_proves 201 = .ok (.iconst 0, 1) := by decide +kernel
theorem dX4_proves_202 : decode cX4_proves 202 = .ok (.istore 7, 2) := by decide +kernel
theorem dX4_proves_204 : decode cX4_proves 204 = .ok (.iload 7, 2) := by decide +kernel
theorem dX4_proves_206 : decode cX4_proves 206 = .ok (.aload_n 0, 1) := by decide +kernel
theorem dX4_proves_207 : decode cX4_proves 207 = .ok (.getfield 7, 3) := by decide +kernel
theorem dX4_proves_210 : decode cX4_proves 210 = .ok (.iconst 0, 1) := by decide +kernel
theorem dX4_proves_211 : decode cX4_proves 211 = .ok (.iaload, 1) := by decide +kernel
theorem dX4_proves_212 : decode cX4_proves 212 = .ok (.if_icmp .ge 26, 3) := by decide +kernel
theorem dX4_proves_215 : decode cX4_proves 215 = .ok (.aload_n 0, 1) := by decide +kernel
theorem dX4_proves_216 : decode cX4_proves 216 = .ok (.getfield 7, 3) := by decide +kernel
theorem dX4_proves_219 : decode cX4_proves 219 = .ok (.bipush 25, 2) := by decide +kernel
theorem dX4_proves_221 : decode cX4_proves 221 = .ok (.iload 7, 2) := by decide +kernel
theorem dX4_proves_223 : decode cX4_proves 223 = .ok (.iadd, 1) := by decide +kernel
theorem dX4_proves_224 : decode cX4_proves 224 = .ok (.aload_n 0, 1) := by decide +kernel
theorem dX4_proves_225 : decode cX4_proves 225 = .ok (.getfield 28, 3) := by decide +kernel
theorem dX4_proves_228 : decode cX4_proves 228 = .ok (.iload 7, 2) := by decide +kernel
theorem dX4_proves_230 : decode cX4_proves 230 = .ok (.iaload, 1) := by decide +kernel
theorem dX4_proves_231 : decode cX4_proves 231 = .ok (.iastore, 1) := by decide +kernel
theorem dX4_proves_232 : decode cX4_proves 232 = .ok (.iinc 7 1, 3) := by decide +kernel
theorem dX4_proves_235 : decode cX4_proves 235 = .ok (.goto (-31), 3) := by decide +kernel
theorem dX4_proves_238 : decode cX4_proves 238 = .ok (.iload 4, 2) := by decide +kernel
theorem dX4_proves_240 : decode cX4_proves 240 = .ok (.ifCond .eq 16, 3) := by decide +kernel
theorem dX4_proves_243 : decode cX4_proves 243 = .ok (.iload_n 3, 1) := by decide +kernel
theorem dX4_proves_244 : decode cX4_proves 244 = .ok (.iload 6, 2) := by decide +kernel
theorem dX4_proves_246 : decode cX4_proves 246 = .ok (.iconst (-1), 1) := by decide +kernel
theorem dX4_proves_247 : decode cX4_proves 247 = .ok (.ixor, 1) := by decide +kernel
theorem dX4_proves_248 : decode cX4_proves 248 = .ok (.iand, 1) := by decide +kernel
theorem dX4_proves_249 : decode cX4_proves 249 = .ok (.ifCond .ne 7, 3) := by decide +kernel
theorem dX4_proves_252 : decode cX4_proves 252 = .ok (.iconst 1, 1) := by decide +kernel
theorem dX4_proves_253 : decode cX4_proves 253 = .ok (.goto 4, 3) := by decide +kernel
theorem dX4_proves_256 : decode cX4_proves 256 = .ok (.iconst 0, 1) := by decide +kernel
theorem dX4_proves_257 : decode cX4_proves 257 = .ok (.ireturn, 1) := by decide +kernel
theorem dX4_only_0 : decode cX4_only 0 = .ok (.aload_n 0, 1) := by decide +kernel
theorem dX4_only_1 : decode cX4_only 1 = .ok (.iload_n 1, 1) := by decide +kernel
theorem dX4_only_2 : decode cX4_only 2 = .ok (.invokevirtual 57, 3) := by decide +kernel
theorem dX4_only_5 : decode cX4_only 5 = .ok (.ifCond .eq 11, 3) := by decide +kernel
theorem dX4_only_8 : decode cX4_only 8 = .ok (.aload_n 0, 1) := by decide +kernel
theorem dX4_only_9 : decode cX4_only 9 = .ok (.iload_n 2, 1) := by decide +kernel
theorem dX4_only_10 : decode cX4_only 10 = .ok (.invokevirtual 57, 3) := by decide +kernel
theorem dX4_only_13 : decode cX4_only 13 = .ok (.ifCond .ne 5, 3) := by decide +kernel
theorem dX4_only_16 : decode cX4_only 16 = .ok (.iconst (-1), 1) := by decide +kernel
theorem dX4_only_17 : decode cX4_only 17 = .ok (.ireturn, 1) := by decide +kernel
theorem dX4_only_18 : decode cX4_only 18 = .ok (.aload_n 0, 1) := by decide +kernel
theorem dX4_only_19 : decode cX4_only 19 = .ok (.iload_n 1, 1) := by decide +kernel
theorem dX4_only_20 : decode cX4_only 20 = .ok (.iload_n 2, 1) := by decide +kernel
theorem dX4_only_21 : decode cX4_only 21 = .ok (.invokevirtual 61, 3) := by decide +kernel
theorem dX4_only_24 : decode cX4_only 24 = .ok (.ifCond .ne 6, 3) := by decide +kernel
theorem dX4_only_27 : decode cX4_only 27 = .ok (.bipush (-2), 2) := by decide +kernel
theorem dX4_only_29 : decode cX4_only 29 = .ok (.ireturn, 1) := by decide +kernel
theorem dX4_only_30 : decode cX4_only 30 = .ok (.aload_n 0, 1) := by decide +kernel
theorem dX4_only_31 : decode cX4_only 31 = .ok (.getfield 7, 3) := by decide +kernel
theorem dX4_only_34 : decode cX4_only 34 = .ok (.bipush 25, 2) := by decide +kernel
theorem dX4_only_36 : decode cX4_only 36 = .ok (.iload_n 1, 1) := by decide +kernel
theorem dX4_only_37 : decode cX4_only 37 = .ok (.iadd, 1) := by decide +kernel
theorem dX4_only_38 : decode cX4_only 38 = .ok (.iaload, 1) := by decide +kernel
theorem dX4_only_39 : decode cX4_only 39 = .ok (.istore_n 3, 1) := by decide +kernel
theorem dX4_only_40 : decode cX4_only 40 = .ok (.aload_n 0, 1) := by decide +kernel
theorem dX4_only_41 : decode cX4_only 41 = .ok (.getfield 7, 3) := by decide +kernel
theorem dX4_only_44 : decode cX4_only 44 = .ok (.bipush 25, 2) := by decide +kernel
theorem dX4_only_46 : decode cX4_only 46 = .ok (.iload_n 1, 1) := by decide +kernel
theorem dX4_only_47 : decode cX4_only 47 = .ok (.iadd, 1) := by decide +kernel
theorem dX4_only_48 : decode cX4_only 48 = .ok (.iconst 1, 1) := by decide +kernel
theorem dX4_only_49 : decode cX4_only 49 = .ok (.iload_n 2, 1) := by decide +kernel
theorem dX4_only_50 : decode cX4_only 50 = .ok (.ishl, 1) := by decide +kernel
theorem dX4_only_51 : decode cX4_only 51 = .ok (.iastore, 1) := by decide +kernel
theorem dX4_only_52 : decode cX4_only 52 = .ok (.aload_n 0, 1) := by decide +kernel
theorem dX4_only_53 : decode cX4_only 53 = .ok (.invokevirtual 89, 3) := by decide +kernel
theorem dX4_only_56 : decode cX4_only 56 = .ok (.istore 4, 2) := by decide +kernel
theorem dX4_only_58 : decode cX4_only 58 = .ok (.aload_n 0, 1) := by decide +kernel
theorem dX4_only_59 : decode cX4_only 59 = .ok (.getfield 7, 3) := by decide +kernel
theorem dX4_only_62 : decode cX4_only 62 = .ok (.bipush 25, 2) := by decide +kernel
theorem dX4_only_64 : decode cX4_only 64 = .ok (.iload_n 1, 1) := by decide +kernel
theorem dX4_only_65 : decode cX4_only 65 = .ok (.iadd, 1) := by decide +kernel
theorem dX4_only_66 : decode cX4_only 66 = .ok (.iload_n 3, 1) := by decide +kernel
theorem dX4_only_67 : decode cX4_only 67 = .ok (.iastore, 1) := by decide +kernel
theorem dX4_only_68 : decode cX4_only 68 = .ok (.iload 4, 2) := by decide +kernel
theorem dX4_only_70 : decode cX4_only 70 = .ok (.ireturn, 1) := by decide +kernel
theorem dX4_turns_0 : decode cX4_turns 0 = .ok (.aload_n 0, 1) := by decide +kernel
theorem dX4_turns_1 : decode cX4_turns 1 = .ok (.getfield 7, 3) := by decide +kernel
theorem dX4_turns_4 : decode cX4_turns 4 = .ok (.bipush 13, 2) := by decide +kernel
theorem dX4_turns_6 : decode cX4_turns 6 = .ok (.iload_n 3, 1) := by decide +kernel
theorem dX4_turns_7 : decode cX4_turns 7 = .ok (.iadd, 1) := by decide +kernel
theorem dX4_turns_8 : decode cX4_turns 8 = .ok (.iaload, 1) := by decide +kernel
theorem dX4_turns_9 : decode cX4_turns 9 = .ok (.istore 5, 2) := by decide +kernel
theorem dX4_turns_11 : decode cX4_turns 11 = .ok (.aload_n 0, 1) := by decide +kernel
theorem dX4_turns_12 : decode cX4_turns 12 = .ok (.getfield 7, 3) := by decide +kernel
theorem dX4_turns_15 : decode cX4_turns 15 = .ok (.bipush 13, 2) := by decide +kernel
theorem dX4_turns_17 : decode cX4_turns 17 = .ok (.iload_n 3, 1) := by decide +kernel
theorem dX4_turns_18 : decode cX4_turns 18 = .ok (.iadd, 1) := by decide +kernel
theorem dX4_turns_19 : decode cX4_turns 19 = .ok (.iload 4, 2) := by decide +kernel
theorem dX4_turns_21 : decode cX4_turns 21 = .ok (.iastore, 1) := by decide +kernel
theorem dX4_turns_22 : decode cX4_turns 22 = .ok (.aload_n 0, 1) := by decide +kernel
theorem dX4_turns_23 : decode cX4_turns 23 = .ok (.invokevirtual 89, 3) := by decide +kernel
theorem dX4_turns_26 : decode cX4_turns 26 = .ok (.iload_n 1, 1) := by decide +kernel
theorem dX4_turns_27 : decode cX4_turns 27 = .ok (.invokestatic 96, 3) := by decide +kernel
theorem dX4_turns_30 : decode cX4_turns 30 = .ok (.iload_n 2, 1) := by decide +kernel
theorem dX4_turns_31 : decode cX4_turns 31 = .ok (.if_icmp .eq 7, 3) := by decide +kernel
theorem dX4_turns_34 : decode cX4_turns 34 = .ok (.iconst 1, 1) := by decide +kernel
theorem dX4_turns_35 : decode cX4_turns 35 = .ok (.goto 4, 3) := by decide +kernel
theorem dX4_turns_38 : decode cX4_turns 38 = .ok (.iconst 0, 1) := by decide +kernel
theorem dX4_turns_39 : decode cX4_turns 39 = .ok (.istore 6, 2) := by decide +kernel
theorem dX4_turns_41 : decode cX4_turns 41 = .ok (.aload_n 0, 1) := by decide +kernel
theorem dX4_turns_42 : decode cX4_turns 42 = .ok (.getfield 7, 3) := by decide +kernel
theorem dX4_turns_45 : decode cX4_turns 45 = .ok (.bipush 13, 2) := by decide +kernel
theorem dX4_turns_47 : decode cX4_turns 47 = .ok (.iload_n 3, 1) := by decide +kernel
theorem dX4_turns_48 : decode cX4_turns 48 = .ok (.iadd, 1) := by decide +kernel
theorem dX4_turns_49 : decode cX4_turns 49 = .ok (.iload 5, 2) := by decide +kernel
theorem dX4_turns_51 : decode cX4_turns 51 = .ok (.iastore, 1) := by decide +kernel
theorem dX4_turns_52 : decode cX4_turns 52 = .ok (.iload 6, 2) := by decide +kernel
theorem dX4_turns_54 : decode cX4_turns 54 = .ok (.ireturn, 1) := by decide +kernel
theorem dX4_littleChange_0 : decode cX4_littleChange 0 = .ok (.aload_n 0, 1) := by decide +kernel
theorem dX4_littleChange_1 : decode cX4_littleChange 1 = .ok (.iload_n 1, 1) := by decide +kernel
theorem dX4_littleChange_2 : decode cX4_littleChange 2 = .ok (.invokevirtual 57, 3) := by decide +kernel
theorem dX4_littleChange_5 : decode cX4_littleChange 5 = .ok (.ifCond .eq 12, 3) := by decide +kernel
theorem dX4_littleChange_8 : decode cX4_littleChange 8 = .ok (.iload_n 2, 1) := by decide +kernel
theorem dX4_littleChange_9 : decode cX4_littleChange 9 = .ok (.iconst 0, 1) := by decide +kernel
theorem dX4_littleChange_10 : decode cX4_littleChange 10 = .ok (.iconst 1, 1) := by decide +kernel
theorem dX4_littleChange_11 : decode cX4_littleChange 11 = .ok (.invokestatic 50, 3) := by decide +kernel
theorem dX4_littleChange_14 : decode cX4_littleChange 14 = .ok (.ifCond .ne 5, 3) := by decide +kernel
theorem dX4_littleChange_17 : decode cX4_littleChange 17 = .ok (.iconst (-1), 1) := by decide +kernel
theorem dX4_littleChange_18 : decode cX4_littleChange 18 = .ok (.ireturn, 1) := by decide +kernel
theorem dX4_littleChange_19 : decode cX4_littleChange 19 = .ok (.aload_n 0, 1) := by decide +kernel
theorem dX4_littleChange_20 : decode cX4_littleChange 20 = .ok (.invokevirtual 89, 3) := by decide +kernel
theorem dX4_littleChange_23 : decode cX4_littleChange 23 = .ok (.iload_n 1, 1) := by decide +kernel
theorem dX4_littleChange_24 : decode cX4_littleChange 24 = .ok (.invokestatic 96, 3) := by decide +kernel
theorem dX4_littleChange_27 : decode cX4_littleChange 27 = .ok (.istore_n 3, 1) := by decide +kernel
theorem dX4_littleChange_28 : decode cX4_littleChange 28 = .ok (.iconst 1, 1) := by decide +kernel
theorem dX4_littleChange_29 : decode cX4_littleChange 29 = .ok (.istore 4, 2) := by decide +kernel
theorem dX4_littleChange_31 : decode cX4_littleChange 31 = .ok (.iload 4, 2) := by decide +kernel
theorem dX4_littleChange_33 : decode cX4_littleChange 33 = .ok (.bipush 6, 2) := by decide +kernel
theorem dX4_littleChange_35 : decode cX4_littleChange 35 = .ok (.if_icmp .ge 120, 3) := by decide +kernel
theorem dX4_littleChange_38 : decode cX4_littleChange 38 = .ok (.iconst 0, 1) := by decide +kernel
theorem dX4_littleChange_39 : decode cX4_littleChange 39 = .ok (.istore 5, 2) := by decide +kernel
theorem dX4_littleChange_41 : decode cX4_littleChange 41 = .ok (.iload 5, 2) := by decide +kernel
theorem dX4_littleChange_43 : decode cX4_littleChange 43 = .ok (.aload_n 0, 1) := by decide +kernel
theorem dX4_littleChange_44 : decode cX4_littleChange 44 = .ok (.getfield 7, 3) := by decide +kernel
theorem dX4_littleChange_47 : decode cX4_littleChange 47 = .ok (.iconst 0, 1) := by decide +kernel
theorem dX4_littleChange_48 : decode cX4_littleChange 48 = .ok (.iaload, 1) := by decide +kernel
theorem dX4_littleChange_49 : decode cX4_littleChange 49 = .ok (.if_icmp .ge 100, 3) := by decide +kernel
theorem dX4_littleChange_52 : decode cX4_littleChange 52 = .ok (.aload_n 0, 1) := by decide +kernel
theorem dX4_littleChange_53 : decode cX4_littleChange 53 = .ok (.getfield 7, 3) := by decide +kernel
theorem dX4_littleChange_56 : decode cX4_littleChange 56 = .ok (.bipush 13, 2) := by decide +kernel
theorem dX4_littleChange_58 : decode cX4_littleChange 58 = .ok (.iload 5, 2) := by decide +kernel
theorem dX4_littleChange_60 : decode cX4_littleChange 60 = .ok (.iadd, 1) := by decide +kernel
theorem dX4_littleChange_61 : decode cX4_littleChange 61 = .ok (.iaload, 1) := by decide +kernel
theorem dX4_littleChange_62 : decode cX4_littleChange 62 = .ok (.istore 6, 2) := by decide +kernel
theorem dX4_littleChange_64 : decode cX4_littleChange 64 = .ok (.iload 6, 2) := by decide +kernel
theorem dX4_littleChange_66 : decode cX4_littleChange 66 = .ok (.iload 4, 2) := by decide +kernel
theorem dX4_littleChange_68 : decode cX4_littleChange 68 = .ok (.if_icmp .lt 34, 3) := by decide +kernel
theorem dX4_littleChange_71 : decode cX4_littleChange 71 = .ok (.aload_n 0, 1) := by decide +kernel
theorem dX4_littleChange_72 : decode cX4_littleChange 72 = .ok (.iload_n 1, 1) := by decide +kernel
theorem dX4_littleChange_73 : decode cX4_littleChange 73 = .ok (.iload_n 3, 1) := by decide +kernel
theorem dX4_littleChange_74 : decode cX4_littleChange 74 = .ok (.iload 5, 2) := by decide +kernel
theorem dX4_littleChange_76 : decode cX4_littleChange 76 = .ok (.iload 6, 2) := by decide +kernel
theorem dX4_littleChange_78 : decode cX4_littleChange 78 = .ok (.iload 4, 2) := by decide +kernel
theorem dX4_littleChange_80 : decode cX4_littleChange 80 = .ok (.isub, 1) := by decide +kernel
theorem dX4_littleChange_81 : decode cX4_littleChange 81 = .ok (.invokevirtual 136, 3) := by decide +kernel
theorem dX4_littleChange_84 : decode cX4_littleChange 84 = .ok (.ifCond .eq 18, 3) := by decide +kernel
theorem dX4_littleChange_87 : decode cX4_littleChange 87 = .ok (.iload_n 2, 1) := by decide +kernel
theorem dX4_littleChange_88 : decode cX4_littleChange 88 = .ok (.ifCond .ne 8, 3) := by decide +kernel
theorem dX4_littleChange_91 : decode cX4_littleChange 91 = .ok (.iload 5, 2) := by decide +kernel
theorem dX4_littleChange_93 : decode cX4_littleChange 93 = .ok (.goto 8, 3) := by decide +kernel
theorem dX4_littleChange_96 : decode cX4_littleChange 96 = .ok (.iload 6, 2) := by decide +kernel
theorem dX4_littleChange_98 : decode cX4_littleChange 98 = .ok (.iload 4, 2) := by decide +kernel
theorem dX4_littleChange_100 : decode cX4_littleChange 100 = .ok (.isub, 1) := by decide +kernel
theorem dX4_littleChange_101 : decode cX4_littleChange 101 = .ok (.ireturn, 1) := by decide +kernel
theorem dX4_littleChange_102 : decode cX4_littleChange 102 = .ok (.iload 6, 2) := by decide +kernel
theorem dX4_littleChange_104 : decode cX4_littleChange 104 = .ok (.iload 4, 2) := by decide +kernel
theorem dX4_littleChange_106 : decode cX4_littleChange 106 = .ok (.iadd, 1) := by decide +kernel
theorem dX4_littleChange_107 : decode cX4_littleChange 107 = .ok (.bipush 6, 2) := by decide +kernel
theorem dX4_littleChange_109 : decode cX4_littleChange 109 = .ok (.if_icmp .ge 34, 3) := by decide +kernel
theorem dX4_littleChange_112 : decode cX4_littleChange 112 = .ok (.aload_n 0, 1) := by decide +kernel
theorem dX4_littleChange_113 : decode cX4_littleChange 113 = .ok (.iload_n 1, 1) := by decide +kernel
theorem dX4_littleChange_114 : decode cX4_littleChange 114 = .ok (.iload_n 3, 1) := by decide +kernel
theorem dX4_littleChange_115 : decode cX4_littleChange 115 = .ok (.iload 5, 2) := by decide +kernel
theorem dX4_littleChange_117 : decode cX4_littleChange 117 = .ok (.iload 6, 2) := by decide +kernel
theorem dX4_littleChange_119 : decode cX4_littleChange 119 = .ok (.iload 4, 2) := by decide +kernel
theorem dX4_littleChange_121 : decode cX4_littleChange 121 = .ok (.iadd, 1) := by decide +kernel
theorem dX4_littleChange_122 : decode cX4_littleChange 122 = .ok (.invokevirtual 136, 3) := by decide +kernel
theorem dX4_littleChange_125 : decode cX4_littleChange 125 = .ok (.ifCond .eq 18, 3) := by decide +kernel
theorem dX4_littleChange_128 : decode cX4_littleChange 128 = .ok (.iload_n 2, 1) := by decide +kernel
theorem dX4_littleChange_129 : decode cX4_littleChange 129 = .ok (.ifCond .ne 8, 3) := by decide +kernel
theorem dX4_littleChange_132 : decode cX4_littleChange 132 = .ok (.iload 5, 2) := by decide +kernel
theorem dX4_littleChange_134 : decode cX4_littleChange 134 = .ok (.goto 8, 3) := by decide +kernel
theorem dX4_littleChange_137 : decode cX4_littleChange 137 = .ok (.iload 6, 2) := by decide +kernel
theorem dX4_littleChange_139 : decode cX4_littleChange 139 = .ok (.iload 4, 2) := by decide +kernel
theorem dX4_littleChange_141 : decode cX4_littleChange 141 = .ok (.iadd, 1) := by decide +kernel
theorem dX4_littleChange_142 : decode cX4_littleChange 142 = .ok (.ireturn, 1) := by decide +kernel
theorem dX4_littleChange_143 : decode cX4_littleChange 143 = .ok (.iinc 5 1, 3) := by decide +kernel
theorem dX4_littleChange_146 : decode cX4_littleChange 146 = .ok (.goto (-105), 3) := by decide +kernel
theorem dX4_littleChange_149 : decode cX4_littleChange 149 = .ok (.iinc 4 1, 3) := by decide +kernel
theorem dX4_littleChange_152 : decode cX4_littleChange 152 = .ok (.goto (-121), 3) := by decide +kernel
theorem dX4_littleChange_155 : decode cX4_littleChange 155 = .ok (.bipush (-4), 2) := by decide +kernel
theorem dX4_littleChange_157 : decode cX4_littleChange 157 = .ok (.ireturn, 1) := by decide +kernel
theorem dX4_keep_0 : decode cX4_keep 0 = .ok (.aload_n 0, 1) := by decide +kernel
theorem dX4_keep_1 : decode cX4_keep 1 = .ok (.getfield 7, 3) := by decide +kernel
theorem dX4_keep_4 : decode cX4_keep 4 = .ok (.aload_n 0, 1) := by decide +kernel
theorem dX4_keep_5 : decode cX4_keep 5 = .ok (.getfield 16, 3) := by decide +kernel
theorem dX4_keep_8 : decode cX4_keep 8 = .ok (.invokestatic 140, 3) := by decide +kernel
theorem dX4_keep_11 : decode cX4_keep 11 = .ok (.aload_n 0, 1) := by decide +kernel
theorem dX4_keep_12 : decode cX4_keep 12 = .ok (.iconst 1, 1) := by decide +kernel
theorem dX4_keep_13 : decode cX4_keep 13 = .ok (.putfield 123, 3) := by decide +kernel
theorem dX4_keep_16 : decode cX4_keep 16 = .ok (.aload_n 0, 1) := by decide +kernel
theorem dX4_keep_17 : decode cX4_keep 17 = .ok (.getfield 7, 3) := by decide +kernel
theorem dX4_keep_20 : decode cX4_keep 20 = .ok (.iconst 0, 1) := by decide +kernel
theorem dX4_keep_21 : decode cX4_keep 21 = .ok (.iaload, 1) := by decide +kernel
theorem dX4_keep_22 : decode cX4_keep 22 = .ok (.ireturn, 1) := by decide +kernel
theorem dX4_restore_0 : decode cX4_restore 0 = .ok (.aload_n 0, 1) := by decide +kernel
theorem dX4_restore_1 : decode cX4_restore 1 = .ok (.getfield 123, 3) := by decide +kernel
theorem dX4_restore_4 : decode cX4_restore 4 = .ok (.ifCond .ne 6, 3) := by decide +kernel
theorem dX4_restore_7 : decode cX4_restore 7 = .ok (.bipush (-2), 2) := by decide +kernel
theorem dX4_restore_9 : decode cX4_restore 9 = .ok (.ireturn, 1) := by decide +kernel
theorem dX4_restore_10 : decode cX4_restore 10 = .ok (.aload_n 0, 1) := by decide +kernel
theorem dX4_restore_11 : decode cX4_restore 11 = .ok (.invokevirtual 54, 3) := by decide +kernel
theorem dX4_restore_14 : decode cX4_restore 14 = .ok (.aload_n 0, 1) := by decide +kernel
theorem dX4_restore_15 : decode cX4_restore 15 = .ok (.getfield 16, 3) := by decide +kernel
theorem dX4_restore_18 : decode cX4_restore 18 = .ok (.aload_n 0, 1) := by decide +kernel
theorem dX4_restore_19 : decode cX4_restore 19 = .ok (.getfield 7, 3) := by decide +kernel
theorem dX4_restore_22 : decode cX4_restore 22 = .ok (.invokestatic 140, 3) := by decide +kernel
theorem dX4_restore_25 : decode cX4_restore 25 = .ok (.aload_n 0, 1) := by decide +kernel
theorem dX4_restore_26 : decode cX4_restore 26 = .ok (.getfield 7, 3) := by decide +kernel
theorem dX4_restore_29 : decode cX4_restore 29 = .ok (.iconst 0, 1) := by decide +kernel
theorem dX4_restore_30 : decode cX4_restore 30 = .ok (.iaload, 1) := by decide +kernel
theorem dX4_restore_31 : decode cX4_restore 31 = .ok (.ireturn, 1) := by decide +kernel
theorem dX4_undo_0 : decode cX4_undo 0 = .ok (.aload_n 0, 1) := by decide +kernel
theorem dX4_undo_1 : decode cX4_undo 1 = .ok (.getfield 46, 3) := by decide +kernel
theorem dX4_undo_4 : decode cX4_undo 4 = .ok (.ifCond .ne 6, 3) := by decide +kernel
theorem dX4_undo_7 : decode cX4_undo 7 = .ok (.bipush (-2), 2) := by decide +kernel
theorem dX4_undo_9 : decode cX4_undo 9 = .ok (.ireturn, 1) := by decide +kernel
theorem dX4_undo_10 : decode cX4_undo 10 = .ok (.aload_n 0, 1) := by decide +kernel
theorem dX4_undo_11 : decode cX4_undo 11 = .ok (.dup, 1) := by decide +kernel
theorem dX4_undo_12 : decode cX4_undo 12 = .ok (.getfield 46, 3) := by decide +kernel
theorem dX4_undo_15 : decode cX4_undo 15 = .ok (.iconst 1, 1) := by decide +kernel
theorem dX4_undo_16 : decode cX4_undo 16 = .ok (.isub, 1) := by decide +kernel
theorem dX4_undo_17 : decode cX4_undo 17 = .ok (.putfield 46, 3) := by decide +kernel
theorem dX4_undo_20 : decode cX4_undo 20 = .ok (.iconst 0, 1) := by decide +kernel
theorem dX4_undo_21 : decode cX4_undo 21 = .ok (.istore_n 1, 1) := by decide +kernel
theorem dX4_undo_22 : decode cX4_undo 22 = .ok (.iload_n 1, 1) := by decide +kernel
theorem dX4_undo_23 : decode cX4_undo 23 = .ok (.bipush 37, 2) := by decide +kernel
theorem dX4_undo_25 : decode cX4_undo 25 = .ok (.if_icmp .ge 29, 3) := by decide +kernel
theorem dX4_undo_28 : decode cX4_undo 28 = .ok (.aload_n 0, 1) := by decide +kernel
theorem dX4_undo_29 : decode cX4_undo 29 = .ok (.getfield 7, 3) := by decide +kernel
theorem dX4_undo_32 : decode cX4_undo 32 = .ok (.iload_n 1, 1) := by decide +kernel
theorem dX4_undo_33 : decode cX4_undo 33 = .ok (.aload_n 0, 1) := by decide +kernel
theorem dX4_undo_34 : decode cX4_undo 34 = .ok (.getfield 13, 3) := by decide +kernel
theorem dX4_undo_37 : decode cX4_undo 37 = .ok (.bipush 37, 2) := by decide +kernel
theorem dX4_undo_39 : decode cX4_undo 39 = .ok (.aload_n 0, 1) := by decide +kernel
theorem dX4_undo_40 : decode cX4_undo 40 = .ok (.getfield 46, 3) := by decide +kernel
theorem dX4_undo_43 : decode cX4_undo 43 = .ok (.imul, 1) := by decide +kernel
theorem dX4_undo_44 : decode cX4_undo 44 = .ok (.iload_n 1, 1) := by decide +kernel
theorem dX4_undo_45 : decode cX4_undo 45 = .ok (.iadd, 1) := by decide +kernel
theorem dX4_undo_46 : decode cX4_undo 46 = .ok (.iaload, 1) := by decide +kernel
theorem dX4_undo_47 : decode cX4_undo 47 = .ok (.iastore, 1) := by decide +kernel
theorem dX4_undo_48 : decode cX4_undo 48 = .ok (.iinc 1 1, 3) := by decide +kernel
theorem dX4_undo_51 : decode cX4_undo 51 = .ok (.goto (-29), 3) := by decide +kernel
theorem dX4_undo_54 : decode cX4_undo 54 = .ok (.aload_n 0, 1) := by decide +kernel
theorem dX4_undo_55 : decode cX4_undo 55 = .ok (.getfield 46, 3) := by decide +kernel
theorem dX4_undo_58 : decode cX4_undo 58 = .ok (.ireturn, 1) := by decide +kernel
theorem dX4_type_0 : decode cX4_type 0 = .ok (.iload_n 1, 1) := by decide +kernel
theorem dX4_type_1 : decode cX4_type 1 = .ok (.bipush 32, 2) := by decide +kernel
theorem dX4_type_3 : decode cX4_type 3 = .ok (.bipush 126, 2) := by decide +kernel
theorem dX4_type_5 : decode cX4_type 5 = .ok (.invokestatic 50, 3) := by decide +kernel
theorem dX4_type_8 : decode cX4_type 8 = .ok (.ifCond .ne 5, 3) := by decide +kernel
theorem dX4_type_11 : decode cX4_type 11 = .ok (.iconst (-1), 1) := by decide +kernel
theorem dX4_type_12 : decode cX4_type 12 = .ok (.ireturn, 1) := by decide +kernel
theorem dX4_type_13 : decode cX4_type 13 = .ok (.aload_n 0, 1) := by decide +kernel
theorem dX4_type_14 : decode cX4_type 14 = .ok (.getfield 120, 3) := by decide +kernel
theorem dX4_type_17 : decode cX4_type 17 = .ok (.bipush 80, 2) := by decide +kernel
theorem dX4_type_19 : decode cX4_type 19 = .ok (.if_icmp .ne 6, 3) := by decide +kernel
theorem dX4_type_22 : decode cX4_type 22 = .ok (.bipush (-3), 2) := by decide +kernel
theorem dX4_type_24 : decode cX4_type 24 = .ok (.ireturn, 1) := by decide +kernel
theorem dX4_type_25 : decode cX4_type 25 = .ok (.aload_n 0, 1) := by decide +kernel
theorem dX4_type_26 : decode cX4_type 26 = .ok (.getfield 19, 3) := by decide +kernel
theorem dX4_type_29 : decode cX4_type 29 = .ok (.aload_n 0, 1) := by decide +kernel
theorem dX4_type_30 : decode cX4_type 30 = .ok (.getfield 120, 3) := by decide +kernel
theorem dX4_type_33 : decode cX4_type 33 = .ok (.iload_n 1, 1) := by decide +kernel
theorem dX4_type_34 : decode cX4_type 34 = .ok (.iastore, 1) := by decide +kernel
theorem dX4_type_35 : decode cX4_type 35 = .ok (.aload_n 0, 1) := by decide +kernel
theorem dX4_type_36 : decode cX4_type 36 = .ok (.dup, 1) := by decide +kernel
theorem dX4_type_37 : decode cX4_type 37 = .ok (.getfield 120, 3) := by decide +kernel
theorem dX4_type_40 : decode cX4_type 40 = .ok (.iconst 1, 1) := by decide +kernel
theorem dX4_type_41 : decode cX4_type 41 = .ok (.iadd, 1) := by decide +kernel
theorem dX4_type_42 : decode cX4_type 42 = .ok (.putfield 120, 3) := by decide +kernel
theorem dX4_type_45 : decode cX4_type 45 = .ok (.aload_n 0, 1) := by decide +kernel
theorem dX4_type_46 : decode cX4_type 46 = .ok (.getfield 120, 3) := by decide +kernel
theorem dX4_type_49 : decode cX4_type 49 = .ok (.ireturn, 1) := by decide +kernel
theorem dX4_clearText_0 : decode cX4_clearText 0 = .ok (.aload_n 0, 1) := by decide +kernel
theorem dX4_clearText_1 : decode cX4_clearText 1 = .ok (.getfield 120, 3) := by decide +kernel
theorem dX4_clearText_4 : decode cX4_clearText 4 = .ok (.istore_n 1, 1) := by decide +kernel
theorem dX4_clearText_5 : decode cX4_clearText 5 = .ok (.aload_n 0, 1) := by decide +kernel
theorem dX4_clearText_6 : decode cX4_clearText 6 = .ok (.iconst 0, 1) := by decide +kernel
theorem dX4_clearText_7 : decode cX4_clearText 7 = .ok (.putfield 120, 3) := by decide +kernel
theorem dX4_clearText_10 : decode cX4_clearText 10 = .ok (.iload_n 1, 1) := by decide +kernel
theorem dX4_clearText_11 : decode cX4_clearText 11 = .ok (.ireturn, 1) := by decide +kernel
theorem dX4_isAt_0 : decode cX4_isAt 0 = .ok (.aload_n 0, 1) := by decide +kernel
theorem dX4_isAt_1 : decode cX4_isAt 1 = .ok (.getfield 144, 3) := by decide +kernel
theorem dX4_isAt_4 : decode cX4_isAt 4 = .ok (.aload_n 0, 1) := by decide +kernel
theorem dX4_isAt_5 : decode cX4_isAt 5 = .ok (.getfield 120, 3) := by decide +kernel
theorem dX4_isAt_8 : decode cX4_isAt 8 = .ok (.if_icmp .ge 24, 3) := by decide +kernel
theorem dX4_isAt_11 : decode cX4_isAt 11 = .ok (.aload_n 0, 1) := by decide +kernel
theorem dX4_isAt_12 : decode cX4_isAt 12 = .ok (.getfield 19, 3) := by decide +kernel
theorem dX4_isAt_15 : decode cX4_isAt 15 = .ok (.aload_n 0, 1) := by decide +kernel
theorem dX4_isAt_16 : decode cX4_isAt 16 = .ok (.getfield 144, 3) := by decide +kernel
theorem dX4_isAt_19 : decode cX4_isAt 19 = .ok (.iaload, 1) := by decide +kernel
theorem dX4_isAt_20 : decode cX4_isAt 20 = .ok (.iload_n 1, 1) := by decide +kernel
theorem dX4_isAt_21 : decode cX4_isAt 21 = .ok (.iload_n 2, 1) := by decide +kernel
theorem dX4_isAt_22 : decode cX4_isAt 22 = .ok (.invokestatic 50, 3) := by decide +kernel
theorem dX4_isAt_25 : decode cX4_isAt 25 = .ok (.ifCond .eq 7, 3) := by decide +kernel
theorem dX4_isAt_28 : decode cX4_isAt 28 = .ok (.iconst 1, 1) := by decide +kernel
theorem dX4_isAt_29 : decode cX4_isAt 29 = .ok (.goto 4, 3) := by decide +kernel
theorem dX4_isAt_32 : decode cX4_isAt 32 = .ok (.iconst 0, 1) := by decide +kernel
theorem dX4_isAt_33 : decode cX4_isAt 33 = .ok (.ireturn, 1) := by decide +kernel
theorem dX4_fails_0 : decode cX4_fails 0 = .ok (.aload_n 0, 1) := by decide +kernel
theorem dX4_fails_1 : decode cX4_fails 1 = .ok (.iload_n 1, 1) := by decide +kernel
theorem dX4_fails_2 : decode cX4_fails 2 = .ok (.putfield 147, 3) := by decide +kernel
theorem dX4_fails_5 : decode cX4_fails 5 = .ok (.iconst 0, 1) := by decide +kernel
theorem dX4_fails_6 : decode cX4_fails 6 = .ok (.ireturn, 1) := by decide +kernel
theorem dX4_readsWay_0 : decode cX4_readsWay 0 = .ok (.aload_n 0, 1) := by decide +kernel
theorem dX4_readsWay_1 : decode cX4_readsWay 1 = .ok (.getfield 144, 3) := by decide +kernel
theorem dX4_readsWay_4 : decode cX4_readsWay 4 = .ok (.istore_n 1, 1) := by decide +kernel
theorem dX4_readsWay_5 : decode cX4_readsWay 5 = .ok (.aload_n 0, 1) := by decide +kernel
theorem dX4_readsWay_6 : decode cX4_readsWay 6 = .ok (.bipush 48, 2) := by decide +kernel
theorem dX4_readsWay_8 : decode cX4_readsWay 8 = .ok (.bipush 57, 2) := by decide +kernel
theorem dX4_readsWay_10 : decode cX4_readsWay 10 = .ok (.invokevirtual 150, 3) := by decide +kernel
theorem dX4_readsWay_13 : decode cX4_readsWay 13 = .ok (.ifCond .ne 9, 3) := by decide +kernel
theorem dX4_readsWay_16 : decode cX4_readsWay 16 = .ok (.aload_n 0, 1) := by decide +kernel
theorem dX4_readsWay_17 : decode cX4_readsWay 17 = .ok (.iconst 1, 1) := by decide +kernel
theorem dX4_readsWay_18 : decode cX4_readsWay 18 = .ok (.invokevirtual 153, 3) := by decide +kernel
theorem dX4_readsWay_21 : decode cX4_readsWay 21 = .ok (.ireturn, 1) := by decide +kernel
theorem dX4_readsWay_22 : decode cX4_readsWay 22 = .ok (.aload_n 0, 1) := by decide +kernel
theorem dX4_readsWay_23 : decode cX4_readsWay 23 = .ok (.getfield 19, 3) := by decide +kernel
theorem dX4_readsWay_26 : decode cX4_readsWay 26 = .ok (.aload_n 0, 1) := by decide +kernel
theorem dX4_readsWay_27 : decode cX4_readsWay 27 = .ok (.getfield 144, 3) := by decide +kernel
theorem dX4_readsWay_30 : decode cX4_readsWay 30 = .ok (.iaload, 1) := by decide +kernel
theorem dX4_readsWay_31 : decode cX4_readsWay 31 = .ok (.bipush 48, 2) := by decide +kernel
theorem dX4_readsWay_33 : decode cX4_readsWay 33 = .ok (.isub, 1) := by decide +kernel
theorem dX4_readsWay_34 : decode cX4_readsWay 34 = .ok (.istore_n 2, 1) := by decide +kernel
theorem dX4_readsWay_35 : decode cX4_readsWay 35 = .ok (.aload_n 0, 1) := by decide +kernel
theorem dX4_readsWay_36 : decode cX4_readsWay 36 = .ok (.dup, 1) := by decide +kernel
theorem dX4_readsWay_37 : decode cX4_readsWay 37 = .ok (.getfield 144, 3) := by decide +kernel
theorem dX4_readsWay_40 : decode cX4_readsWay 40 = .ok (.iconst 1, 1) := by decide +kernel
theorem dX4_readsWay_41 : decode cX4_readsWay 41 = .ok (.iadd, 1) := by decide +kernel
theorem dX4_readsWay_42 : decode cX4_readsWay 42 = .ok (.putfield 144, 3) := by decide +kernel
theorem dX4_readsWay_45 : decode cX4_readsWay 45 = .ok (.iload_n 2, 1) := by decide +kernel
theorem dX4_readsWay_46 : decode cX4_readsWay 46 = .ok (.ifCond .le 42, 3) := by decide +kernel
theorem dX4_readsWay_49 : decode cX4_readsWay 49 = .ok (.aload_n 0, 1) := by decide +kernel
theorem dX4_readsWay_50 : decode cX4_readsWay 50 = .ok (.bipush 48, 2) := by decide +kernel
theorem dX4_readsWay_52 : decode cX4_readsWay 52 = .ok (.bipush 57, 2) := by decide +kernel
theorem dX4_readsWay_54 : decode cX4_readsWay 54 = .ok (.invokevirtual 150, 3) := by decide +kernel
theorem dX4_readsWay_57 : decode cX4_readsWay 57 = .ok (.ifCond .eq 31, 3) := by decide +kernel
theorem dX4_readsWay_60 : decode cX4_readsWay 60 = .ok (.bipush 10, 2) := by decide +kernel
theorem dX4_readsWay_62 : decode cX4_readsWay 62 = .ok (.iload_n 2, 1) := by decide +kernel
theorem dX4_readsWay_63 : decode cX4_readsWay 63 = .ok (.imul, 1) := by decide +kernel
theorem dX4_readsWay_64 : decode cX4_readsWay 64 = .ok (.aload_n 0, 1) := by decide +kernel
theorem dX4_readsWay_65 : decode cX4_readsWay 65 = .ok (.getfield 19, 3) := by decide +kernel
theorem dX4_readsWay_68 : decode cX4_readsWay 68 = .ok (.aload_n 0, 1) := by decide +kernel
theorem dX4_readsWay_69 : decode cX4_readsWay 69 = .ok (.getfield 144, 3) := by decide +kernel
theorem dX4_readsWay_72 : decode cX4_readsWay 72 = .ok (.iaload, 1) := by decide +kernel
theorem dX4_readsWay_73 : decode cX4_readsWay 73 = .ok (.iadd, 1) := by decide +kernel
theorem dX4_readsWay_74 : decode cX4_readsWay 74 = .ok (.bipush 48, 2) := by decide +kernel
theorem dX4_readsWay_76 : decode cX4_readsWay 76 = .ok (.isub, 1) := by decide +kernel
theorem dX4_readsWay_77 : decode cX4_readsWay 77 = .ok (.istore_n 2, 1) := by decide +kernel
theorem dX4_readsWay_78 : decode cX4_readsWay 78 = .ok (.aload_n 0, 1) := by decide +kernel
theorem dX4_readsWay_79 : decode cX4_readsWay 79 = .ok (.dup, 1) := by decide +kernel
theorem dX4_readsWay_80 : decode cX4_readsWay 80 = .ok (.getfield 144, 3) := by decide +kernel
theorem dX4_readsWay_83 : decode cX4_readsWay 83 = .ok (.iconst 1, 1) := by decide +kernel
theorem dX4_readsWay_84 : decode cX4_readsWay 84 = .ok (.iadd, 1) := by decide +kernel
theorem dX4_readsWay_85 : decode cX4_readsWay 85 = .ok (.putfield 144, 3) := by decide +kernel
theorem dX4_readsWay_88 : decode cX4_readsWay 88 = .ok (.aload_n 0, 1) := by decide +kernel
theorem dX4_readsWay_89 : decode cX4_readsWay 89 = .ok (.getfield 43, 3) := by decide +kernel
theorem dX4_readsWay_92 : decode cX4_readsWay 92 = .ok (.iload_n 2, 1) := by decide +kernel
theorem dX4_readsWay_93 : decode cX4_readsWay 93 = .ok (.iaload, 1) := by decide +kernel
theorem dX4_readsWay_94 : decode cX4_readsWay 94 = .ok (.aload_n 0, 1) := by decide +kernel
theorem dX4_readsWay_95 : decode cX4_readsWay 95 = .ok (.getfield 156, 3) := by decide +kernel
theorem dX4_readsWay_98 : decode cX4_readsWay 98 = .ok (.iconst 1, 1) := by decide +kernel
theorem dX4_readsWay_99 : decode cX4_readsWay 99 = .ok (.iadd, 1) := by decide +kernel
theorem dX4_readsWay_100 : decode cX4_readsWay 100 = .ok (.if_icmp .ne 14, 3) := by decide +kernel
theorem dX4_readsWay_103 : decode cX4_readsWay 103 = .ok (.aload_n 0, 1) := by decide +kernel
theorem dX4_readsWay_104 : decode cX4_readsWay 104 = .ok (.iload_n 1, 1) := by decide +kernel
theorem dX4_readsWay_105 : decode cX4_readsWay 105 = .ok (.putfield 144, 3) := by decide +kernel
theorem dX4_readsWay_108 : decode cX4_readsWay 108 = .ok (.aload_n 0, 1) := by decide +kernel
theorem dX4_readsWay_109 : decode cX4_readsWay 109 = .ok (.iconst 3, 1) := by decide +kernel
theorem dX4_readsWay_110 : decode cX4_readsWay 110 = .ok (.invokevirtual 153, 3) := by decide +kernel
theorem dX4_readsWay_113 : decode cX4_readsWay 113 = .ok (.ireturn, 1) := by decide +kernel
theorem dX4_readsWay_114 : decode cX4_readsWay 114 = .ok (.aload_n 0, 1) := by decide +kernel
theorem dX4_readsWay_115 : decode cX4_readsWay 115 = .ok (.getfield 43, 3) := by decide +kernel
theorem dX4_readsWay_118 : decode cX4_readsWay 118 = .ok (.iload_n 2, 1) := by decide +kernel
theorem dX4_readsWay_119 : decode cX4_readsWay 119 = .ok (.aload_n 0, 1) := by decide +kernel
theorem dX4_readsWay_120 : decode cX4_readsWay 120 = .ok (.getfield 156, 3) := by decide +kernel
theorem dX4_readsWay_123 : decode cX4_readsWay 123 = .ok (.iconst 1, 1) := by decide +kernel
theorem dX4_readsWay_124 : decode cX4_readsWay 124 = .ok (.iadd, 1) := by decide +kernel
theorem dX4_readsWay_125 : decode cX4_readsWay 125 = .ok (.iastore, 1) := by decide +kernel
theorem dX4_readsWay_126 : decode cX4_readsWay 126 = .ok (.aload_n 0, 1) := by decide +kernel
theorem dX4_readsWay_127 : decode cX4_readsWay 127 = .ok (.getfield 40, 3) := by decide +kernel
theorem dX4_readsWay_130 : decode cX4_readsWay 130 = .ok (.iload_n 2, 1) := by decide +kernel
theorem dX4_readsWay_131 : decode cX4_readsWay 131 = .ok (.aload_n 0, 1) := by decide +kernel
theorem dX4_readsWay_132 : decode cX4_readsWay 132 = .ok (.getfield 40, 3) := by decide +kernel
theorem dX4_readsWay_135 : decode cX4_readsWay 135 = .ok (.iload_n 2, 1) := by decide +kernel
theorem dX4_readsWay_136 : decode cX4_readsWay 136 = .ok (.iaload, 1) := by decide +kernel
theorem dX4_readsWay_137 : decode cX4_readsWay 137 = .ok (.ifCond .ge 7, 3) := by decide +kernel
theorem dX4_readsWay_140 : decode cX4_readsWay 140 = .ok (.iload_n 1, 1) := by decide +kernel
theorem dX4_readsWay_141 : decode cX4_readsWay 141 = .ok (.goto 9, 3) := by decide +kernel
theorem dX4_readsWay_144 : decode cX4_readsWay 144 = .ok (.aload_n 0, 1) := by decide +kernel
theorem dX4_readsWay_145 : decode cX4_readsWay 145 = .ok (.getfield 40, 3) := by decide +kernel
theorem dX4_readsWay_148 : decode cX4_readsWay 148 = .ok (.iload_n 2, 1) := by decide +kernel
theorem dX4_readsWay_149 : decode cX4_readsWay 149 = .ok (.iaload, 1) := by decide +kernel
theorem dX4_readsWay_150 : decode cX4_readsWay 150 = .ok (.iastore, 1) := by decide +kernel
theorem dX4_readsWay_151 : decode cX4_readsWay 151 = .ok (.aload_n 0, 1) := by decide +kernel
theorem dX4_readsWay_152 : decode cX4_readsWay 152 = .ok (.getfield 37, 3) := by decide +kernel
theorem dX4_readsWay_155 : decode cX4_readsWay 155 = .ok (.aload_n 0, 1) := by decide +kernel
theorem dX4_readsWay_156 : decode cX4_readsWay 156 = .ok (.getfield 156, 3) := by decide +kernel
theorem dX4_readsWay_159 : decode cX4_readsWay 159 = .ok (.dup2, 1) := by decide +kernel
theorem dX4_readsWay_160 : decode cX4_readsWay 160 = .ok (.iaload, 1) := by decide +kernel
theorem dX4_readsWay_161 : decode cX4_readsWay 161 = .ok (.iload_n 2, 1) := by decide +kernel
theorem dX4_readsWay_162 : decode cX4_readsWay 162 = .ok (.bipush 12, 2) := by decide +kernel
theorem dX4_readsWay_164 : decode cX4_readsWay 164 = .ok (.if_icmp .ge 9, 3) := by decide +kernel
theorem dX4_readsWay_167 : decode cX4_readsWay 167 = .ok (.iconst 1, 1) := by decide +kernel
theorem dX4_readsWay_168 : decode cX4_readsWay 168 = .ok (.iload_n 2, 1) := by decide +kernel
theorem dX4_readsWay_169 : decode cX4_readsWay 169 = .ok (.ishl, 1) := by decide +kernel
theorem dX4_readsWay_170 : decode cX4_readsWay 170 = .ok (.goto 4, 3) := by decide +kernel
theorem dX4_readsWay_173 : decode cX4_readsWay 173 = .ok (.iconst 0, 1) := by decide +kernel
theorem dX4_readsWay_174 : decode cX4_readsWay 174 = .ok (.ior, 1) := by decide +kernel
theorem dX4_readsWay_175 : decode cX4_readsWay 175 = .ok (.iastore, 1) := by decide +kernel
theorem dX4_readsWay_176 : decode cX4_readsWay 176 = .ok (.iconst 1, 1) := by decide +kernel
theorem dX4_readsWay_177 : decode cX4_readsWay 177 = .ok (.ireturn, 1) := by decide +kernel
theorem dX4_readsPlace_0 : decode cX4_readsPlace 0 = .ok (.aload_n 0, 1) := by decide +kernel
theorem dX4_readsPlace_1 : decode cX4_readsPlace 1 = .ok (.bipush 101, 2) := by decide +kernel
theorem dX4_readsPlace_3 : decode cX4_readsPlace 3 = .ok (.bipush 101, 2) := by decide +kernel
theorem dX4_readsPlace_5 : decode cX4_readsPlace 5 = .ok (.invokevirtual 150, 3) := by decide +kernel
theorem dX4_readsPlace_8 : decode cX4_readsPlace 8 = .ok (.ifCond .ne 20, 3) := by decide +kernel
theorem dX4_readsPlace_11 : decode cX4_readsPlace 11 = .ok (.aload_n 0, 1) := by decide +kernel
theorem dX4_readsPlace_12 : decode cX4_readsPlace 12 = .ok (.bipush 111, 2) := by decide +kernel
theorem dX4_readsPlace_14 : decode cX4_readsPlace 14 = .ok (.bipush 111, 2) := by decide +kernel
theorem dX4_readsPlace_16 : decode cX4_readsPlace 16 = .ok (.invokevirtual 150, 3) := by decide +kernel
theorem dX4_readsPlace_19 : decode cX4_readsPlace 19 = .ok (.ifCond .ne 9, 3) := by decide +kernel
theorem dX4_readsPlace_22 : decode cX4_readsPlace 22 = .ok (.aload_n 0, 1) := by decide +kernel
theorem dX4_readsPlace_23 : decode cX4_readsPlace 23 = .ok (.iconst 1, 1) := by decide +kernel
theorem dX4_readsPlace_24 : decode cX4_readsPlace 24 = .ok (.invokevirtual 153, 3) := by decide +kernel
theorem dX4_readsPlace_27 : decode cX4_readsPlace 27 = .ok (.ireturn, 1) := by decide +kernel
theorem dX4_readsPlace_28 : decode cX4_readsPlace 28 = .ok (.aload_n 0, 1) := by decide +kernel
theorem dX4_readsPlace_29 : decode cX4_readsPlace 29 = .ok (.getfield 31, 3) := by decide +kernel
theorem dX4_readsPlace_32 : decode cX4_readsPlace 32 = .ok (.aload_n 0, 1) := by decide +kernel
theorem dX4_readsPlace_33 : decode cX4_readsPlace 33 = .ok (.getfield 156, 3) := by decide +kernel
theorem dX4_readsPlace_36 : decode cX4_readsPlace 36 = .ok (.aload_n 0, 1) := by decide +kernel
theorem dX4_readsPlace_37 : decode cX4_readsPlace 37 = .ok (.getfield 19, 3) := by decide +kernel
theorem dX4_readsPlace_40 : decode cX4_readsPlace 40 = .ok (.aload_n 0, 1) := by decide +kernel
theorem dX4_readsPlace_41 : decode cX4_readsPlace 41 = .ok (.getfield 144, 3) := by decide +kernel
theorem dX4_readsPlace_44 : decode cX4_readsPlace 44 = .ok (.iaload, 1) := by decide +kernel
theorem dX4_readsPlace_45 : decode cX4_readsPlace 45 = .ok (.bipush 111, 2) := by decide +kernel
theorem dX4_readsPlace_47 : decode cX4_readsPlace 47 = .ok (.if_icmp .ne 7, 3) := by decide +kernel
theorem dX4_readsPlace_50 : decode cX4_readsPlace 50 = .ok (.iconst 1, 1) := by decide +kernel
theorem dX4_readsPlace_51 : decode cX4_readsPlace 51 = .ok (.goto 4, 3) := by decide +kernel
theorem dX4_readsPlace_54 : decode cX4_readsPlace 54 = .ok (.iconst 0, 1) := by decide +kernel
theorem dX4_readsPlace_55 : decode cX4_readsPlace 55 = .ok (.iastore, 1) := by decide +kernel
theorem dX4_readsPlace_56 : decode cX4_readsPlace 56 = .ok (.aload_n 0, 1) := by decide +kernel
theorem dX4_readsPlace_57 : decode cX4_readsPlace 57 = .ok (.dup, 1) := by decide +kernel
theorem dX4_readsPlace_58 : decode cX4_readsPlace 58 = .ok (.getfield 144, 3) := by decide +kernel
theorem dX4_readsPlace_61 : decode cX4_readsPlace 61 = .ok (.iconst 1, 1) := by decide +kernel
theorem dX4_readsPlace_62 : decode cX4_readsPlace 62 = .ok (.iadd, 1) := by decide +kernel
theorem dX4_readsPlace_63 : decode cX4_readsPlace 63 = .ok (.putfield 144, 3) := by decide +kernel
theorem dX4_readsPlace_66 : decode cX4_readsPlace 66 = .ok (.aload_n 0, 1) := by decide +kernel
theorem dX4_readsPlace_67 : decode cX4_readsPlace 67 = .ok (.bipush 48, 2) := by decide +kernel
theorem dX4_readsPlace_69 : decode cX4_readsPlace 69 = .ok (.bipush 57, 2) := by decide +kernel
theorem dX4_readsPlace_71 : decode cX4_readsPlace 71 = .ok (.invokevirtual 150, 3) := by decide +kernel
theorem dX4_readsPlace_74 : decode cX4_readsPlace 74 = .ok (.ifCond .ne 9, 3) := by decide +kernel
theorem dX4_readsPlace_77 : decode cX4_readsPlace 77 = .ok (.aload_n 0, 1) := by decide +kernel
theorem dX4_readsPlace_78 : decode cX4_readsPlace 78 = .ok (.iconst 1, 1) := by decide +kernel
theorem dX4_readsPlace_79 : decode cX4_readsPlace 79 = .ok (.invokevirtual 153, 3) := by decide +kernel
theorem dX4_readsPlace_82 : decode cX4_readsPlace 82 = .ok (.ireturn, 1) := by decide +kernel
theorem dX4_readsPlace_83 : decode cX4_readsPlace 83 = .ok (.aload_n 0, 1) := by decide +kernel
theorem dX4_readsPlace_84 : decode cX4_readsPlace 84 = .ok (.getfield 34, 3) := by decide +kernel
theorem dX4_readsPlace_87 : decode cX4_readsPlace 87 = .ok (.aload_n 0, 1) := by decide +kernel
theorem dX4_readsPlace_88 : decode cX4_readsPlace 88 = .ok (.getfield 156, 3) := by decide +kernel
theorem dX4_readsPlace_91 : decode cX4_readsPlace 91 = .ok (.aload_n 0, 1) := by decide +kernel
theorem dX4_readsPlace_92 : decode cX4_readsPlace 92 = .ok (.getfield 19, 3) := by decide +kernel
theorem dX4_readsPlace_95 : decode cX4_readsPlace 95 = .ok (.aload_n 0, 1) := by decide +kernel
theorem dX4_readsPlace_96 : decode cX4_readsPlace 96 = .ok (.getfield 144, 3) := by decide +kernel
theorem dX4_readsPlace_99 : decode cX4_readsPlace 99 = .ok (.iaload, 1) := by decide +kernel
theorem dX4_readsPlace_100 : decode cX4_readsPlace 100 = .ok (.bipush 48, 2) := by decide +kernel
theorem dX4_readsPlace_102 : decode cX4_readsPlace 102 = .ok (.isub, 1) := by decide +kernel
theorem dX4_readsPlace_103 : decode cX4_readsPlace 103 = .ok (.iastore, 1) := by decide +kernel
theorem dX4_readsPlace_104 : decode cX4_readsPlace 104 = .ok (.aload_n 0, 1) := by decide +kernel
theorem dX4_readsPlace_105 : decode cX4_readsPlace 105 = .ok (.getfield 34, 3) := by decide +kernel
theorem dX4_readsPlace_108 : decode cX4_readsPlace 108 = .ok (.aload_n 0, 1) := by decide +kernel
theorem dX4_readsPlace_109 : decode cX4_readsPlace 109 = .ok (.getfield 156, 3) := by decide +kernel
theorem dX4_readsPlace_112 : decode cX4_readsPlace 112 = .ok (.iaload, 1) := by decide +kernel
theorem dX4_readsPlace_113 : decode cX4_readsPlace 113 = .ok (.bipush 6, 2) := by decide +kernel
theorem dX4_readsPlace_115 : decode cX4_readsPlace 115 = .ok (.if_icmp .lt 9, 3) := by decide +kernel
theorem dX4_readsPlace_118 : decode cX4_readsPlace 118 = .ok (.aload_n 0, 1) := by decide +kernel
theorem dX4_readsPlace_119 : decode cX4_readsPlace 119 = .ok (.iconst 2, 1) := by decide +kernel
theorem dX4_readsPlace_120 : decode cX4_readsPlace 120 = .ok (.invokevirtual 153, 3) := by decide +kernel
theorem dX4_readsPlace_123 : decode cX4_readsPlace 123 = .ok (.ireturn, 1) := by decide +kernel
theorem dX4_readsPlace_124 : decode cX4_readsPlace 124 = .ok (.aload_n 0, 1) := by decide +kernel
theorem dX4_readsPlace_125 : decode cX4_readsPlace 125 = .ok (.dup, 1) := by decide +kernel
theorem dX4_readsPlace_126 : decode cX4_readsPlace 126 = .ok (.getfield 144, 3) := by decide +kernel
theorem dX4_readsPlace_129 : decode cX4_readsPlace 129 = .ok (.iconst 1, 1) := by decide +kernel
theorem dX4_readsPlace_130 : decode cX4_readsPlace 130 = .ok (.iadd, 1) := by decide +kernel
theorem dX4_readsPlace_131 : decode cX4_readsPlace 131 = .ok (.putfield 144, 3) := by decide +kernel
theorem dX4_readsPlace_134 : decode cX4_readsPlace 134 = .ok (.aload_n 0, 1) := by decide +kernel
theorem dX4_readsPlace_135 : decode cX4_readsPlace 135 = .ok (.getfield 37, 3) := by decide +kernel
theorem dX4_readsPlace_138 : decode cX4_readsPlace 138 = .ok (.aload_n 0, 1) := by decide +kernel
theorem dX4_readsPlace_139 : decode cX4_readsPlace 139 = .ok (.getfield 156, 3) := by decide +kernel
theorem dX4_readsPlace_142 : decode cX4_readsPlace 142 = .ok (.iconst 0, 1) := by decide +kernel
theorem dX4_readsPlace_143 : decode cX4_readsPlace 143 = .ok (.iastore, 1) := by decide +kernel
theorem dX4_readsPlace_144 : decode cX4_readsPlace 144 = .ok (.iconst 1, 1) := by decide +kernel
theorem dX4_readsPlace_145 : decode cX4_readsPlace 145 = .ok (.istore_n 1, 1) := by decide +kernel
theorem dX4_readsPlace_146 : decode cX4_readsPlace 146 = .ok (.aload_n 0, 1) := by decide +kernel
theorem dX4_readsPlace_147 : decode cX4_readsPlace 147 = .ok (.bipush 58, 2) := by decide +kernel
theorem dX4_readsPlace_149 : decode cX4_readsPlace 149 = .ok (.bipush 58, 2) := by decide +kernel
theorem dX4_readsPlace_151 : decode cX4_readsPlace 151 = .ok (.invokevirtual 150, 3) := by decide +kernel
theorem dX4_readsPlace_154 : decode cX4_readsPlace 154 = .ok (.istore_n 2, 1) := by decide +kernel
theorem dX4_readsPlace_155 : decode cX4_readsPlace 155 = .ok (.iload_n 2, 1) := by decide +kernel
theorem dX4_readsPlace_156 : decode cX4_readsPlace 156 = .ok (.ifCond .eq 34, 3) := by decide +kernel
theorem dX4_readsPlace_159 : decode cX4_readsPlace 159 = .ok (.iload_n 1, 1) := by decide +kernel
theorem dX4_readsPlace_160 : decode cX4_readsPlace 160 = .ok (.ifCond .eq 30, 3) := by decide +kernel
theorem dX4_readsPlace_163 : decode cX4_readsPlace 163 = .ok (.aload_n 0, 1) := by decide +kernel
theorem dX4_readsPlace_164 : decode cX4_readsPlace 164 = .ok (.dup, 1) := by decide +kernel
theorem dX4_readsPlace_165 : decode cX4_readsPlace 165 = .ok (.getfield 144, 3) := by decide +kernel
theorem dX4_readsPlace_168 : decode cX4_readsPlace 168 = .ok (.iconst 1, 1) := by decide +kernel
theorem dX4_readsPlace_169 : decode cX4_readsPlace 169 = .ok (.iadd, 1) := by decide +kernel
theorem dX4_readsPlace_170 : decode cX4_readsPlace 170 = .ok (.putfield 144, 3) := by decide +kernel
theorem dX4_readsPlace_173 : decode cX4_readsPlace 173 = .ok (.aload_n 0, 1) := by decide +kernel
theorem dX4_readsPlace_174 : decode cX4_readsPlace 174 = .ok (.invokevirtual 159, 3) := by decide +kernel
theorem dX4_readsPlace_177 : decode cX4_readsPlace 177 = .ok (.istore_n 1, 1) := by decide +kernel
theorem dX4_readsPlace_178 : decode cX4_readsPlace 178 = .ok (.aload_n 0, 1) := by decide +kernel
theorem dX4_readsPlace_179 : decode cX4_readsPlace 179 = .ok (.bipush 44, 2) := by decide +kernel
theorem dX4_readsPlace_181 : decode cX4_readsPlace 181 = .ok (.bipush 44, 2) := by decide +kernel
theorem dX4_readsPlace_183 : decode cX4_readsPlace 183 = .ok (.invokevirtual 150, 3) := by decide +kernel
theorem dX4_readsPlace_186 : decode cX4_readsPlace 186 = .ok (.istore_n 2, 1) := by decide +kernel
theorem dX4_readsPlace_187 : decode cX4_readsPlace 187 = .ok (.goto (-32), 3) := by decide +kernel
theorem dX4_readsPlace_190 : decode cX4_readsPlace 190 = .ok (.aload_n 0, 1) := by decide +kernel
theorem dX4_readsPlace_191 : decode cX4_readsPlace 191 = .ok (.dup, 1) := by decide +kernel
theorem dX4_readsPlace_192 : decode cX4_readsPlace 192 = .ok (.getfield 156, 3) := by decide +kernel
theorem dX4_readsPlace_195 : decode cX4_readsPlace 195 = .ok (.iload_n 1, 1) := by decide +kernel
theorem dX4_readsPlace_196 : decode cX4_readsPlace 196 = .ok (.ifCond .eq 7, 3) := by decide +kernel
theorem dX4_readsPlace_199 : decode cX4_readsPlace 199 = .ok (.iconst 1, 1) := by decide +kernel
theorem dX4_readsPlace_200 : decode cX4_readsPlace 200 = .ok (.goto 4, 3) := by decide +kernel
theorem dX4_readsPlace_203 : decode cX4_readsPlace 203 = .ok (.iconst 0, 1) := by decide +kernel
theorem dX4_readsPlace_204 : decode cX4_readsPlace 204 = .ok (.iadd, 1) := by decide +kernel
theorem dX4_readsPlace_205 : decode cX4_readsPlace 205 = .ok (.putfield 156, 3) := by decide +kernel
theorem dX4_readsPlace_208 : decode cX4_readsPlace 208 = .ok (.iload_n 1, 1) := by decide +kernel
theorem dX4_readsPlace_209 : decode cX4_readsPlace 209 = .ok (.ireturn, 1) := by decide +kernel
theorem dX4_areThere_0 : decode cX4_areThere 0 = .ok (.bipush 80, 2) := by decide +kernel
theorem dX4_areThere_2 : decode cX4_areThere 2 = .ok (.istore_n 1, 1) := by decide +kernel
theorem dX4_areThere_3 : decode cX4_areThere 3 = .ok (.aload_n 0, 1) := by decide +kernel
theorem dX4_areThere_4 : decode cX4_areThere 4 = .ok (.getfield 156, 3) := by decide +kernel
theorem dX4_areThere_7 : decode cX4_areThere 7 = .ok (.istore_n 2, 1) := by decide +kernel
theorem dX4_areThere_8 : decode cX4_areThere 8 = .ok (.iload_n 2, 1) := by decide +kernel
theorem dX4_areThere_9 : decode cX4_areThere 9 = .ok (.bipush 100, 2) := by decide +kernel
theorem dX4_areThere_11 : decode cX4_areThere 11 = .ok (.if_icmp .ge 39, 3) := by decide +kernel
theorem dX4_areThere_14 : decode cX4_areThere 14 = .ok (.aload_n 0, 1) := by decide +kernel
theorem dX4_areThere_15 : decode cX4_areThere 15 = .ok (.getfield 40, 3) := by decide +kernel
theorem dX4_areThere_18 : decode cX4_areThere 18 = .ok (.iload_n 2, 1) := by decide +kernel
theorem dX4_areThere_19 : decode cX4_areThere 19 = .ok (.iaload, 1) := by decide +kernel
theorem dX4_areThere_20 : decode cX4_areThere 20 = .ok (.ifCond .lt 22, 3) := by decide +kernel
theorem dX4_areThere_23 : decode cX4_areThere 23 = .ok (.aload_n 0, 1) := by decide +kernel
theorem dX4_areThere_24 : decode cX4_areThere 24 = .ok (.getfield 40, 3) := by decide +kernel
theorem dX4_areThere_27 : decode cX4_areThere 27 = .ok (.iload_n 2, 1) := by decide +kernel
theorem dX4_areThere_28 : decode cX4_areThere 28 = .ok (.iaload, 1) := by decide +kernel
theorem dX4_areThere_29 : decode cX4_areThere 29 = .ok (.iload_n 1, 1) := by decide +kernel
theorem dX4_areThere_30 : decode cX4_areThere 30 = .ok (.if_icmp .ge 12, 3) := by decide +kernel
theorem dX4_areThere_33 : decode cX4_areThere 33 = .ok (.aload_n 0, 1) := by decide +kernel
theorem dX4_areThere_34 : decode cX4_areThere 34 = .ok (.getfield 40, 3) := by decide +kernel
theorem dX4_areThere_37 : decode cX4_areThere 37 = .ok (.iload_n 2, 1) := by decide +kernel
theorem dX4_areThere_38 : decode cX4_areThere 38 = .ok (.iaload, 1) := by decide +kernel
theorem dX4_areThere_39 : decode cX4_areThere 39 = .ok (.goto 4, 3) := by decide +kernel
theorem dX4_areThere_42 : decode cX4_areThere 42 = .ok (.iload_n 1, 1) := by decide +kernel
theorem dX4_areThere_43 : decode cX4_areThere 43 = .ok (.istore_n 1, 1) := by decide +kernel
theorem dX4_areThere_44 : decode cX4_areThere 44 = .ok (.iinc 2 1, 3) := by decide +kernel
theorem dX4_areThere_47 : decode cX4_areThere 47 = .ok (.goto (-39), 3) := by decide +kernel
theorem dX4_areThere_50 : decode cX4_areThere 50 = .ok (.aload_n 0, 1) := by decide +kernel
theorem dX4_areThere_51 : decode cX4_areThere 51 = .ok (.iload_n 1, 1) := by decide +kernel
theorem dX4_areThere_52 : decode cX4_areThere 52 = .ok (.putfield 144, 3) := by decide +kernel
theorem dX4_areThere_55 : decode cX4_areThere 55 = .ok (.iload_n 1, 1) := by decide +kernel
theorem dX4_areThere_56 : decode cX4_areThere 56 = .ok (.bipush 80, 2) := by decide +kernel
theorem dX4_areThere_58 : decode cX4_areThere 58 = .ok (.if_icmp .eq 11, 3) := by decide +kernel
theorem dX4_areThere_61 : decode cX4_areThere 61 = .ok (.aload_n 0, 1) := by decide +kernel
theorem dX4_areThere_62 : decode cX4_areThere 62 = .ok (.iconst 5, 1) := by decide +kernel
theorem dX4_areThere_63 : decode cX4_areThere 63 = .ok (.invokevirtual 153, 3) := by decide +kernel
theorem dX4_areThere_66 : decode cX4_areThere 66 = .ok (.ifCond .eq 7, 3) := by decide +kernel
theorem dX4_areThere_69 : decode cX4_areThere 69 = .ok (.iconst 1, 1) := by decide +kernel
theorem dX4_areThere_70 : decode cX4_areThere 70 = .ok (.goto 4, 3) := by decide +kernel
theorem dX4_areThere_73 : decode cX4_areThere 73 = .ok (.iconst 0, 1) := by decide +kernel
theorem dX4_areThere_74 : decode cX4_areThere 74 = .ok (.ireturn, 1) := by decide +kernel
theorem dX4_isRight_0 : decode cX4_isRight 0 = .ok (.aload_n 0, 1) := by decide +kernel
theorem dX4_isRight_1 : decode cX4_isRight 1 = .ok (.iconst 0, 1) := by decide +kernel
theorem dX4_isRight_2 : decode cX4_isRight 2 = .ok (.putfield 144, 3) := by decide +kernel
theorem dX4_isRight_5 : decode cX4_isRight 5 = .ok (.aload_n 0, 1) := by decide +kernel
theorem dX4_isRight_6 : decode cX4_isRight 6 = .ok (.iconst 0, 1) := by decide +kernel
theorem dX4_isRight_7 : decode cX4_isRight 7 = .ok (.putfield 156, 3) := by decide +kernel
theorem dX4_isRight_10 : decode cX4_isRight 10 = .ok (.iconst 0, 1) := by decide +kernel
theorem dX4_isRight_11 : decode cX4_isRight 11 = .ok (.istore_n 1, 1) := by decide +kernel
theorem dX4_isRight_12 : decode cX4_isRight 12 = .ok (.iload_n 1, 1) := by decide +kernel
theorem dX4_isRight_13 : decode cX4_isRight 13 = .ok (.bipush 100, 2) := by decide +kernel
theorem dX4_isRight_15 : decode cX4_isRight 15 = .ok (.if_icmp .ge 23, 3) := by decide +kernel
theorem dX4_isRight_18 : decode cX4_isRight 18 = .ok (.aload_n 0, 1) := by decide +kernel
theorem dX4_isRight_19 : decode cX4_isRight 19 = .ok (.getfield 40, 3) := by decide +kernel
theorem dX4_isRight_22 : decode cX4_isRight 22 = .ok (.iload_n 1, 1) := by decide +kernel
theorem dX4_isRight_23 : decode cX4_isRight 23 = .ok (.iconst (-1), 1) := by decide +kernel
theorem dX4_isRight_24 : decode cX4_isRight 24 = .ok (.iastore, 1) := by decide +kernel
theorem dX4_isRight_25 : decode cX4_isRight 25 = .ok (.aload_n 0, 1) := by decide +kernel
theorem dX4_isRight_26 : decode cX4_isRight 26 = .ok (.getfield 43, 3) := by decide +kernel
theorem dX4_isRight_29 : decode cX4_isRight 29 = .ok (.iload_n 1, 1) := by decide +kernel
theorem dX4_isRight_30 : decode cX4_isRight 30 = .ok (.iconst 0, 1) := by decide +kernel
theorem dX4_isRight_31 : decode cX4_isRight 31 = .ok (.iastore, 1) := by decide +kernel
theorem dX4_isRight_32 : decode cX4_isRight 32 = .ok (.iinc 1 1, 3) := by decide +kernel
theorem dX4_isRight_35 : decode cX4_isRight 35 = .ok (.goto (-23), 3) := by decide +kernel
theorem dX4_isRight_38 : decode cX4_isRight 38 = .ok (.aload_n 0, 1) := by decide +kernel
theorem dX4_isRight_39 : decode cX4_isRight 39 = .ok (.invokevirtual 163, 3) := by decide +kernel
theorem dX4_isRight_42 : decode cX4_isRight 42 = .ok (.istore_n 1, 1) := by decide +kernel
theorem dX4_isRight_43 : decode cX4_isRight 43 = .ok (.iload_n 1, 1) := by decide +kernel
theorem dX4_isRight_44 : decode cX4_isRight 44 = .ok (.ifCond .eq 64, 3) := by decide +kernel
theorem dX4_isRight_47 : decode cX4_isRight 47 = .ok (.aload_n 0, 1) := by decide +kernel
theorem dX4_isRight_48 : decode cX4_isRight 48 = .ok (.getfield 144, 3) := by decide +kernel
theorem dX4_isRight_51 : decode cX4_isRight 51 = .ok (.aload_n 0, 1) := by decide +kernel
theorem dX4_isRight_52 : decode cX4_isRight 52 = .ok (.getfield 120, 3) := by decide +kernel
theorem dX4_isRight_55 : decode cX4_isRight 55 = .ok (.if_icmp .ge 53, 3) := by decide +kernel
theorem dX4_isRight_58 : decode cX4_isRight 58 = .ok (.aload_n 0, 1) := by decide +kernel
theorem dX4_isRight_59 : decode cX4_isRight 59 = .ok (.bipush 59, 2) := by decide +kernel
theorem dX4_isRight_61 : decode cX4_isRight 61 = .ok (.bipush 59, 2) := by decide +kernel
theorem dX4_isRight_63 : decode cX4_isRight 63 = .ok (.invokevirtual 150, 3) := by decide +kernel
theorem dX4_isRight_66 : decode cX4_isRight 66 = .ok (.ifCond .ne 9, 3) := by decide +kernel
theorem dX4_isRight_69 : decode cX4_isRight 69 = .ok (.aload_n 0, 1) := by decide +kernel
theorem dX4_isRight_70 : decode cX4_isRight 70 = .ok (.iconst 1, 1) := by decide +kernel
theorem dX4_isRight_71 : decode cX4_isRight 71 = .ok (.invokevirtual 153, 3) := by decide +kernel
theorem dX4_isRight_74 : decode cX4_isRight 74 = .ok (.ireturn, 1) := by decide +kernel
theorem dX4_isRight_75 : decode cX4_isRight 75 = .ok (.aload_n 0, 1) := by decide +kernel
theorem dX4_isRight_76 : decode cX4_isRight 76 = .ok (.getfield 156, 3) := by decide +kernel
theorem dX4_isRight_79 : decode cX4_isRight 79 = .ok (.bipush 12, 2) := by decide +kernel
theorem dX4_isRight_81 : decode cX4_isRight 81 = .ok (.if_icmp .ne 9, 3) := by decide +kernel
theorem dX4_isRight_84 : decode cX4_isRight 84 = .ok (.aload_n 0, 1) := by decide +kernel
theorem dX4_isRight_85 : decode cX4_isRight 85 = .ok (.iconst 4, 1) := by decide +kernel
theorem dX4_isRight_86 : decode cX4_isRight 86 = .ok (.invokevirtual 153, 3) := by decide +kernel
theorem dX4_isRight_89 : decode cX4_isRight 89 = .ok (.ireturn, 1) := by decide +kernel
theorem dX4_isRight_90 : decode cX4_isRight 90 = .ok (.aload_n 0, 1) := by decide +kernel
theorem dX4_isRight_91 : decode cX4_isRight 91 = .ok (.dup, 1) := by decide +kernel
theorem dX4_isRight_92 : decode cX4_isRight 92 = .ok (.getfield 144, 3) := by decide +kernel
theorem dX4_isRight_95 : decode cX4_isRight 95 = .ok (.iconst 1, 1) := by decide +kernel
theorem dX4_isRight_96 : decode cX4_isRight 96 = .ok (.iadd, 1) := by decide +kernel
theorem dX4_isRight_97 : decode cX4_isRight 97 = .ok (.putfield 144, 3) := by decide +kernel
theorem dX4_isRight_100 : decode cX4_isRight 100 = .ok (.aload_n 0, 1) := by decide +kernel
theorem dX4_isRight_101 : decode cX4_isRight 101 = .ok (.invokevirtual 163, 3) := by decide +kernel
theorem dX4_isRight_104 : decode cX4_isRight 104 = .ok (.istore_n 1, 1) := by decide +kernel
theorem dX4_isRight_105 : decode cX4_isRight 105 = .ok (.goto (-62), 3) := by decide +kernel
theorem dX4_isRight_108 : decode cX4_isRight 108 = .ok (.iload_n 1, 1) := by decide +kernel
theorem dX4_isRight_109 : decode cX4_isRight 109 = .ok (.ifCond .eq 14, 3) := by decide +kernel
theorem dX4_isRight_112 : decode cX4_isRight 112 = .ok (.aload_n 0, 1) := by decide +kernel
theorem dX4_isRight_113 : decode cX4_isRight 113 = .ok (.invokevirtual 166, 3) := by decide +kernel
theorem dX4_isRight_116 : decode cX4_isRight 116 = .ok (.ifCond .eq 7, 3) := by decide +kernel
theorem dX4_isRight_119 : decode cX4_isRight 119 = .ok (.iconst 1, 1) := by decide +kernel
theorem dX4_isRight_120 : decode cX4_isRight 120 = .ok (.goto 4, 3) := by decide +kernel
theorem dX4_isRight_123 : decode cX4_isRight 123 = .ok (.iconst 0, 1) := by decide +kernel
theorem dX4_isRight_124 : decode cX4_isRight 124 = .ok (.ireturn, 1) := by decide +kernel
theorem dX4_fault_0 : decode cX4_fault 0 = .ok (.iload_n 1, 1) := by decide +kernel
theorem dX4_fault_1 : decode cX4_fault 1 = .ok (.iconst 0, 1) := by decide +kernel
theorem dX4_fault_2 : decode cX4_fault 2 = .ok (.iconst 1, 1) := by decide +kernel
theorem dX4_fault_3 : decode cX4_fault 3 = .ok (.invokestatic 50, 3) := by decide +kernel
theorem dX4_fault_6 : decode cX4_fault 6 = .ok (.ifCond .ne 5, 3) := by decide +kernel
theorem dX4_fault_9 : decode cX4_fault 9 = .ok (.iconst (-1), 1) := by decide +kernel
theorem dX4_fault_10 : decode cX4_fault 10 = .ok (.ireturn, 1) := by decide +kernel
theorem dX4_fault_11 : decode cX4_fault 11 = .ok (.aload_n 0, 1) := by decide +kernel
theorem dX4_fault_12 : decode cX4_fault 12 = .ok (.invokevirtual 169, 3) := by decide +kernel
theorem dX4_fault_15 : decode cX4_fault 15 = .ok (.ifCond .eq 8, 3) := by decide +kernel
theorem dX4_fault_18 : decode cX4_fault 18 = .ok (.bipush (-4), 2) := by decide +kernel
theorem dX4_fault_20 : decode cX4_fault 20 = .ok (.goto 18, 3) := by decide +kernel
theorem dX4_fault_23 : decode cX4_fault 23 = .ok (.iload_n 1, 1) := by decide +kernel
theorem dX4_fault_24 : decode cX4_fault 24 = .ok (.ifCond .ne 10, 3) := by decide +kernel
theorem dX4_fault_27 : decode cX4_fault 27 = .ok (.aload_n 0, 1) := by decide +kernel
theorem dX4_fault_28 : decode cX4_fault 28 = .ok (.getfield 144, 3) := by decide +kernel
theorem dX4_fault_31 : decode cX4_fault 31 = .ok (.goto 7, 3) := by decide +kernel
theorem dX4_fault_34 : decode cX4_fault 34 = .ok (.aload_n 0, 1) := by decide +kernel
theorem dX4_fault_35 : decode cX4_fault 35 = .ok (.getfield 147, 3) := by decide +kernel
theorem dX4_fault_38 : decode cX4_fault 38 = .ok (.ireturn, 1) := by decide +kernel
theorem dX4_read_0 : decode cX4_read 0 = .ok (.aload_n 0, 1) := by decide +kernel
theorem dX4_read_1 : decode cX4_read 1 = .ok (.invokevirtual 169, 3) := by decide +kernel
theorem dX4_read_4 : decode cX4_read 4 = .ok (.ifCond .ne 6, 3) := by decide +kernel
theorem dX4_read_7 : decode cX4_read 7 = .ok (.bipush (-2), 2) := by decide +kernel
theorem dX4_read_9 : decode cX4_read 9 = .ok (.ireturn, 1) := by decide +kernel
theorem dX4_read_10 : decode cX4_read 10 = .ok (.aload_n 0, 1) := by decide +kernel
theorem dX4_read_11 : decode cX4_read 11 = .ok (.invokevirtual 54, 3) := by decide +kernel
theorem dX4_read_14 : decode cX4_read 14 = .ok (.aload_n 0, 1) := by decide +kernel
theorem dX4_read_15 : decode cX4_read 15 = .ok (.getfield 7, 3) := by decide +kernel
theorem dX4_read_18 : decode cX4_read 18 = .ok (.iconst 0, 1) := by decide +kernel
theorem dX4_read_19 : decode cX4_read 19 = .ok (.aload_n 0, 1) := by decide +kernel
theorem dX4_read_20 : decode cX4_read 20 = .ok (.getfield 156, 3) := by decide +kernel
theorem dX4_read_23 : decode cX4_read 23 = .ok (.iastore, 1) := by decide +kernel
theorem dX4_read_24 : decode cX4_read 24 = .ok (.iconst 0, 1) := by decide +kernel
theorem dX4_read_25 : decode cX4_read 25 = .ok (.istore_n 1, 1) := by decide +kernel
theorem dX4_read_26 : decode cX4_read 26 = .ok (.iload_n 1, 1) := by decide +kernel
theorem dX4_read_27 : decode cX4_read 27 = .ok (.aload_n 0, 1) := by decide +kernel
theorem dX4_read_28 : decode cX4_read 28 = .ok (.getfield 156, 3) := by decide +kernel
theorem dX4_read_31 : decode cX4_read 31 = .ok (.if_icmp .ge 53, 3) := by decide +kernel
theorem dX4_read_34 : decode cX4_read 34 = .ok (.aload_n 0, 1) := by decide +kernel
theorem dX4_read_35 : decode cX4_read 35 = .ok (.getfield 7, 3) := by decide +kernel
theorem dX4_read_38 : decode cX4_read 38 = .ok (.iconst 1, 1) := by decide +kernel
theorem dX4_read_39 : decode cX4_read 39 = .ok (.iload_n 1, 1) := by decide +kernel
theorem dX4_read_40 : decode cX4_read 40 = .ok (.iadd, 1) := by decide +kernel
theorem dX4_read_41 : decode cX4_read 41 = .ok (.aload_n 0, 1) := by decide +kernel
theorem dX4_read_42 : decode cX4_read 42 = .ok (.getfield 31, 3) := by decide +kernel
theorem dX4_read_45 : decode cX4_read 45 = .ok (.iload_n 1, 1) := by decide +kernel
theorem dX4_read_46 : decode cX4_read 46 = .ok (.iaload, 1) := by decide +kernel
theorem dX4_read_47 : decode cX4_read 47 = .ok (.iastore, 1) := by decide +kernel
theorem dX4_read_48 : decode cX4_read 48 = .ok (.aload_n 0, 1) := by decide +kernel
theorem dX4_read_49 : decode cX4_read 49 = .ok (.getfield 7, 3) := by decide +kernel
theorem dX4_read_52 : decode cX4_read 52 = .ok (.bipush 13, 2) := by decide +kernel
theorem dX4_read_54 : decode cX4_read 54 = .ok (.iload_n 1, 1) := by decide +kernel
theorem dX4_read_55 : decode cX4_read 55 = .ok (.iadd, 1) := by decide +kernel
theorem dX4_read_56 : decode cX4_read 56 = .ok (.aload_n 0, 1) := by decide +kernel
theorem dX4_read_57 : decode cX4_read 57 = .ok (.getfield 34, 3) := by decide +kernel
theorem dX4_read_60 : decode cX4_read 60 = .ok (.iload_n 1, 1) := by decide +kernel
theorem dX4_read_61 : decode cX4_read 61 = .ok (.iaload, 1) := by decide +kernel
theorem dX4_read_62 : decode cX4_read 62 = .ok (.iastore, 1) := by decide +kernel
theorem dX4_read_63 : decode cX4_read 63 = .ok (.aload_n 0, 1) := by decide +kernel
theorem dX4_read_64 : decode cX4_read 64 = .ok (.getfield 7, 3) := by decide +kernel
theorem dX4_read_67 : decode cX4_read 67 = .ok (.bipush 25, 2) := by decide +kernel
theorem dX4_read_69 : decode cX4_read 69 = .ok (.iload_n 1, 1) := by decide +kernel
theorem dX4_read_70 : decode cX4_read 70 = .ok (.iadd, 1) := by decide +kernel
theorem dX4_read_71 : decode cX4_read 71 = .ok (.aload_n 0, 1) := by decide +kernel
theorem dX4_read_72 : decode cX4_read 72 = .ok (.getfield 37, 3) := by decide +kernel
theorem dX4_read_75 : decode cX4_read 75 = .ok (.iload_n 1, 1) := by decide +kernel
theorem dX4_read_76 : decode cX4_read 76 = .ok (.iaload, 1) := by decide +kernel
theorem dX4_read_77 : decode cX4_read 77 = .ok (.iastore, 1) := by decide +kernel
theorem dX4_read_78 : decode cX4_read 78 = .ok (.iinc 1 1, 3) := by decide +kernel
theorem dX4_read_81 : decode cX4_read 81 = .ok (.goto (-55), 3) := by decide +kernel
theorem dX4_read_84 : decode cX4_read 84 = .ok (.aload_n 0, 1) := by decide +kernel
theorem dX4_read_85 : decode cX4_read 85 = .ok (.getfield 156, 3) := by decide +kernel
theorem dX4_read_88 : decode cX4_read 88 = .ok (.ireturn, 1) := by decide +kernel
theorem dL_law_0 : decode cL_law 0 = .ok (.new 7, 3) := by decide +kernel
theorem dL_law_3 : decode cL_law 3 = .ok (.dup, 1) := by decide +kernel
theorem dL_law_4 : decode cL_law 4 = .ok (.invokespecial 9, 3) := by decide +kernel
theorem dL_law_7 : decode cL_law 7 = .ok (.astore_n 1, 1) := by decide +kernel
theorem dL_law_8 : decode cL_law 8 = .ok (.new 10, 3) := by decide +kernel
theorem dL_law_11 : decode cL_law 11 = .ok (.dup, 1) := by decide +kernel
theorem dL_law_12 : decode cL_law 12 = .ok (.invokespecial 12, 3) := by decide +kernel
theorem dL_law_15 : decode cL_law 15 = .ok (.astore_n 2, 1) := by decide +kernel
theorem dL_law_16 : decode cL_law 16 = .ok (.iconst 0, 1) := by decide +kernel
theorem dL_law_17 : decode cL_law 17 = .ok (.istore_n 3, 1) := by decide +kernel
theorem dL_law_18 : decode cL_law 18 = .ok (.iload_n 3, 1) := by decide +kernel
theorem dL_law_19 : decode cL_law 19 = .ok (.aload_n 0, 1) := by decide +kernel
theorem dL_law_20 : decode cL_law 20 = .ok (.arraylength, 1) := by decide +kernel
theorem dL_law_21 : decode cL_law 21 = .ok (.iconst 4, 1) := by decide +kernel
theorem dL_law_22 : decode cL_law 22 = .ok (.isub, 1) := by decide +kernel
theorem dL_law_23 : decode cL_law 23 = .ok (.if_icmp .gt 715, 3) := by decide +kernel
theorem dL_law_26 : decode cL_law 26 = .ok (.aload_n 0, 1) := by decide +kernel
theorem dL_law_27 : decode cL_law 27 = .ok (.iload_n 3, 1) := by decide +kernel
theorem dL_law_28 : decode cL_law 28 = .ok (.iaload, 1) := by decide +kernel
theorem dL_law_29 : decode cL_law 29 = .ok (.bipush 31, 2) := by decide +kernel
theorem dL_law_31 : decode cL_law 31 = .ok (.iand, 1) := by decide +kernel
theorem dL_law_32 : decode cL_law 32 = .ok (.tableswitch 700 0 21 #[104, 137, 170, 203, 246, 269, 302, 325, 358, 401, 434, 467, 500, 523, 556, 589, 602, 615, 628, 651, 664, 687], 104) := by decide +kernel
theorem dL_law_136 : decode cL_law 136 = .ok (.aload_n 1, 1) := by decide +kernel
theorem dL_law_137 : decode cL_law 137 = .ok (.aload_n 0, 1) := by decide +kernel
theorem dL_law_138 : decode cL_law 138 = .ok (.iload_n 3, 1) := by decide +kernel
theorem dL_law_139 : decode cL_law 139 = .ok (.iconst 1, 1) := by decide +kernel
theorem dL_law_140 : decode cL_law 140 = .ok (.iadd, 1) := by decide +kernel
theorem dL_law_141 : decode cL_law 141 = .ok (.iaload, 1) := by decide +kernel
theorem dL_law_142 : decode cL_law 142 = .ok (.aload_n 0, 1) := by decide +kernel
theorem dL_law_143 : decode cL_law 143 = .ok (.iload_n 3, 1) := by decide +kernel
theorem dL_law_144 : decode cL_law 144 = .ok (.iconst 2, 1) := by decide +kernel
theorem dL_law_145 : decode cL_law 145 = .ok (.iadd, 1) := by decide +kernel
theorem dL_law_146 : decode cL_law 146 = .ok (.iaload, 1) := by decide +kernel
theorem dL_law_147 : decode cL_law 147 = .ok (.invokevirtual 13, 3) := by decide +kernel
theorem dL_law_150 : decode cL_law 150 = .ok (.aload_n 2, 1) := by decide +kernel
theorem dL_law_151 : decode cL_law 151 = .ok (.aload_n 0, 1) := by decide +kernel
theorem dL_law_152 : decode cL_law 152 = .ok (.iload_n 3, 1) := by decide +kernel
theorem dL_law_153 : decode cL_law 153 = .ok (.iconst 1, 1) := by decide +kernel
theorem dL_law_154 : decode cL_law 154 = .ok (.iadd, 1) := by decide +kernel
theorem dL_law_155 : decode cL_law 155 = .ok (.iaload, 1) := by decide +kernel
theorem dL_law_156 : decode cL_law 156 = .ok (.aload_n 0, 1) := by decide +kernel
theorem dL_law_157 : decode cL_law 157 = .ok (.iload_n 3, 1) := by decide +kernel
theorem dL_law_158 : decode cL_law 158 = .ok (.iconst 2, 1) := by decide +kernel
theorem dL_law_159 : decode cL_law 159 = .ok (.iadd, 1) := by decide +kernel
theorem dL_law_160 : decode cL_law 160 = .ok (.iaload, 1) := by decide +kernel
theorem dL_law_161 : decode cL_law 161 = .ok (.invokevirtual 17, 3) := by decide +kernel
theorem dL_law_164 : decode cL_law 164 = .ok (.if_icmp .eq 568, 3) := by decide +kernel
theorem dL_law_167 : decode cL_law 167 = .ok (.iconst 0, 1) := by decide +kernel
theorem dL_law_168 : decode cL_law 168 = .ok (.ireturn, 1) := by decide +kernel
theorem dL_law_169 : decode cL_law 169 = .ok (.aload_n 1, 1) := by decide +kernel
theorem dL_law_170 : decode cL_law 170 = .ok (.aload_n 0, 1) := by decide +kernel
theorem dL_law_171 : decode cL_law 171 = .ok (.iload_n 3, 1) := by decide +kernel
theorem dL_law_172 : decode cL_law 172 = .ok (.iconst 1, 1) := by decide +kernel
theorem dL_law_173 : decode cL_law 173 = .ok (.iadd, 1) := by decide +kernel
theorem dL_law_174 : decode cL_law 174 = .ok (.iaload, 1) := by decide +kernel
theorem dL_law_175 : decode cL_law 175 = .ok (.aload_n 0, 1) := by decide +kernel
theorem dL_law_176 : decode cL_law 176 = .ok (.iload_n 3, 1) := by decide +kernel
theorem dL_law_177 : decode cL_law 177 = .ok (.iconst 2, 1) := by decide +kernel
theorem dL_law_178 : decode cL_law 178 = .ok (.iadd, 1) := by decide +kernel
theorem dL_law_179 : decode cL_law 179 = .ok (.iaload, 1) := by decide +kernel
theorem dL_law_180 : decode cL_law 180 = .ok (.invokevirtual 18, 3) := by decide +kernel
theorem dL_law_183 : decode cL_law 183 = .ok (.aload_n 2, 1) := by decide +kernel
theorem dL_law_184 : decode cL_law 184 = .ok (.aload_n 0, 1) := by decide +kernel
theorem dL_law_185 : decode cL_law 185 = .ok (.iload_n 3, 1) := by decide +kernel
theorem dL_law_186 : decode cL_law 186 = .ok (.iconst 1, 1) := by decide +kernel
theorem dL_law_187 : decode cL_law 187 = .ok (.iadd, 1) := by decide +kernel
theorem dL_law_188 : decode cL_law 188 = .ok (.iaload, 1) := by decide +kernel
theorem dL_law_189 : decode cL_law 189 = .ok (.aload_n 0, 1) := by decide +kernel
theorem dL_law_190 : decode cL_law 190 = .ok (.iload_n 3, 1) := by decide +kernel
theorem dL_law_191 : decode cL_law 191 = .ok (.iconst 2, 1) := by decide +kernel
theorem dL_law_192 : decode cL_law 192 = .ok (.iadd, 1) := by decide +kernel
theorem dL_law_193 : decode cL_law 193 = .ok (.iaload, 1) := by decide +kernel
theorem dL_law_194 : decode cL_law 194 = .ok (.invokevirtual 21, 3) := by decide +kernel
theorem dL_law_197 : decode cL_law 197 = .ok (.if_icmp .eq 535, 3) := by decide +kernel
theorem dL_law_200 : decode cL_law 200 = .ok (.iconst 0, 1) := by decide +kernel
theorem dL_law_201 : decode cL_law 201 = .ok (.ireturn, 1) := by decide +kernel
theorem dL_law_202 : decode cL_law 202 = .ok (.aload_n 1, 1) := by decide +kernel
theorem dL_law_203 : decode cL_law 203 = .ok (.aload_n 0, 1) := by decide +kernel
theorem dL_law_204 : decode cL_law 204 = .ok (.iload_n 3, 1) := by decide +kernel
theorem dL_law_205 : decode cL_law 205 = .ok (.iconst 1, 1) := by decide +kernel
theorem dL_law_206 : decode cL_law 206 = .ok (.iadd, 1) := by decide +kernel
theorem dL_law_207 : decode cL_law 207 = .ok (.iaload, 1) := by decide +kernel
theorem dL_law_208 : decode cL_law 208 = .ok (.aload_n 0, 1) := by decide +kernel
theorem dL_law_209 : decode cL_law 209 = .ok (.iload_n 3, 1) := by decide +kernel
theorem dL_law_210 : decode cL_law 210 = .ok (.iconst 2, 1) := by decide +kernel
theorem dL_law_211 : decode cL_law 211 = .ok (.iadd, 1) := by decide +kernel
theorem dL_law_212 : decode cL_law 212 = .ok (.iaload, 1) := by decide +kernel
theorem dL_law_213 : decode cL_law 213 = .ok (.invokevirtual 22, 3) := by decide +kernel
theorem dL_law_216 : decode cL_law 216 = .ok (.aload_n 2, 1) := by decide +kernel
theorem dL_law_217 : decode cL_law 217 = .ok (.aload_n 0, 1) := by decide +kernel
theorem dL_law_218 : decode cL_law 218 = .ok (.iload_n 3, 1) := by decide +kernel
theorem dL_law_219 : decode cL_law 219 = .ok (.iconst 1, 1) := by decide +kernel
theorem dL_law_220 : decode cL_law 220 = .ok (.iadd, 1) := by decide +kernel
theorem dL_law_221 : decode cL_law 221 = .ok (.iaload, 1) := by decide +kernel
theorem dL_law_222 : decode cL_law 222 = .ok (.aload_n 0, 1) := by decide +kernel
theorem dL_law_223 : decode cL_law 223 = .ok (.iload_n 3, 1) := by decide +kernel
theorem dL_law_224 : decode cL_law 224 = .ok (.iconst 2, 1) := by decide +kernel
theorem dL_law_225 : decode cL_law 225 = .ok (.iadd, 1) := by decide +kernel
theorem dL_law_226 : decode cL_law 226 = .ok (.iaload, 1) := by decide +kernel
theorem dL_law_227 : decode cL_law 227 = .ok (.invokevirtual 25, 3) := by decide +kernel
theorem dL_law_230 : decode cL_law 230 = .ok (.if_icmp .eq 502, 3) := by decide +kernel
theorem dL_law_233 : decode cL_law 233 = .ok (.iconst 0, 1) := by decide +kernel
theorem dL_law_234 : decode cL_law 234 = .ok (.ireturn, 1) := by decide +kernel
theorem dL_law_235 : decode cL_law 235 = .ok (.aload_n 1, 1) := by decide +kernel
theorem dL_law_236 : decode cL_law 236 = .ok (.aload_n 0, 1) := by decide +kernel
theorem dL_law_237 : decode cL_law 237 = .ok (.iload_n 3, 1) := by decide +kernel
theorem dL_law_238 : decode cL_law 238 = .ok (.iconst 1, 1) := by decide +kernel
theorem dL_law_239 : decode cL_law 239 = .ok (.iadd, 1) := by decide +kernel
theorem dL_law_240 : decode cL_law 240 = .ok (.iaload, 1) := by decide +kernel
theorem dL_law_241 : decode cL_law 241 = .ok (.aload_n 0, 1) := by decide +kernel
theorem dL_law_242 : decode cL_law 242 = .ok (.iload_n 3, 1) := by decide +kernel
theorem dL_law_243 : decode cL_law 243 = .ok (.iconst 2, 1) := by decide +kernel
theorem dL_law_244 : decode cL_law 244 = .ok (.iadd, 1) := by decide +kernel
theorem dL_law_245 : decode cL_law 245 = .ok (.iaload, 1) := by decide +kernel
theorem dL_law_246 : decode cL_law 246 = .ok (.aload_n 0, 1) := by decide +kernel
theorem dL_law_247 : decode cL_law 247 = .ok (.iload_n 3, 1) := by decide +kernel
theorem dL_law_248 : decode cL_law 248 = .ok (.iconst 3, 1) := by decide +kernel
theorem dL_law_249 : decode cL_law 249 = .ok (.iadd, 1) := by decide +kernel
theorem dL_law_250 : decode cL_law 250 = .ok (.iaload, 1) := by decide +kernel
theorem dL_law_251 : decode cL_law 251 = .ok (.invokevirtual 26, 3) := by decide +kernel
theorem dL_law_254 : decode cL_law 254 = .ok (.aload_n 2, 1) := by decide +kernel
theorem dL_law_255 : decode cL_law 255 = .ok (.aload_n 0, 1) := by decide +kernel
theorem dL_law_256 : decode cL_law 256 = .ok (.iload_n 3, 1) := by decide +kernel
theorem dL_law_257 : decode cL_law 257 = .ok (.iconst 1, 1) := by decide +kernel
theorem dL_law_258 : decode cL_law 258 = .ok (.iadd, 1) := by decide +kernel
theorem dL_law_259 : decode cL_law 259 = .ok (.iaload, 1) := by decide +kernel
theorem dL_law_260 : decode cL_law 260 = .ok (.aload_n 0, 1) := by decide +kernel
theorem dL_law_261 : decode cL_law 261 = .ok (.iload_n 3, 1) := by decide +kernel
theorem dL_law_262 : decode cL_law 262 = .ok (.iconst 2, 1) := by decide +kernel
theorem dL_law_263 : decode cL_law 263 = .ok (.iadd, 1) := by decide +kernel
theorem dL_law_264 : decode cL_law 264 = .ok (.iaload, 1) := by decide +kernel
theorem dL_law_265 : decode cL_law 265 = .ok (.aload_n 0, 1) := by decide +kernel
theorem dL_law_266 : decode cL_law 266 = .ok (.iload_n 3, 1) := by decide +kernel
theorem dL_law_267 : decode cL_law 267 = .ok (.iconst 3, 1) := by decide +kernel
theorem dL_law_268 : decode cL_law 268 = .ok (.iadd, 1) := by decide +kernel
theorem dL_law_269 : decode cL_law 269 = .ok (.iaload, 1) := by decide +kernel
theorem dL_law_270 : decode cL_law 270 = .ok (.invokevirtual 30, 3) := by decide +kernel
theorem dL_law_273 : decode cL_law 273 = .ok (.if_icmp .eq 459, 3) := by decide +kernel
theorem dL_law_276 : decode cL_law 276 = .ok (.iconst 0, 1) := by decide +kernel
theorem dL_law_277 : decode cL_law 277 = .ok (.ireturn, 1) := by decide +kernel
theorem dL_law_278 : decode cL_law 278 = .ok (.aload_n 1, 1) := by decide +kernel
theorem dL_law_279 : decode cL_law 279 = .ok (.aload_n 0, 1) := by decide +kernel
theorem dL_law_280 : decode cL_law 280 = .ok (.iload_n 3, 1) := by decide +kernel
theorem dL_law_281 : decode cL_law 281 = .ok (.iconst 1, 1) := by decide +kernel
theorem dL_law_282 : decode cL_law 282 = .ok (.iadd, 1) := by decide +kernel
theorem dL_law_283 : decode cL_law 283 = .ok (.iaload, 1) := by decide +kernel
theorem dL_law_284 : decode cL_law 284 = .ok (.invokevirtual 31, 3) := by decide +kernel
theorem dL_law_287 : decode cL_law 287 = .ok (.aload_n 2, 1) := by decide +kernel
theorem dL_law_288 : decode cL_law 288 = .ok (.aload_n 0, 1) := by decide +kernel
theorem dL_law_289 : decode cL_law 289 = .ok (.iload_n 3, 1) := by decide +kernel
theorem dL_law_290 : decode cL_law 290 = .ok (.iconst 1, 1) := by decide +kernel
theorem dL_law_291 : decode cL_law 291 = .ok (.iadd, 1) := by decide +kernel
theorem dL_law_292 : decode cL_law 292 = .ok (.iaload, 1) := by decide +kernel
theorem dL_law_293 : decode cL_law 293 = .ok (.invokevirtual 35, 3) := by decide +kernel
theorem dL_law_296 : decode cL_law 296 = .ok (.if_icmp .eq 436, 3) := by decide +kernel
theorem dL_law_299 : decode cL_law 299 = .ok (.iconst 0, 1) := by decide +kernel
theorem dL_law_300 : decode cL_law 300 = .ok (.ireturn, 1) := by decide +kernel
theorem dL_law_301 : decode cL_law 301 = .ok (.aload_n 1, 1) := by decide +kernel
theorem dL_law_302 : decode cL_law 302 = .ok (.aload_n 0, 1) := by decide +kernel
theorem dL_law_303 : decode cL_law 303 = .ok (.iload_n 3, 1) := by decide +kernel
theorem dL_law_304 : decode cL_law 304 = .ok (.iconst 1, 1) := by decide +kernel
theorem dL_law_305 : decode cL_law 305 = .ok (.iadd, 1) := by decide +kernel
theorem dL_law_306 : decode cL_law 306 = .ok (.iaload, 1) := by decide +kernel
theorem dL_law_307 : decode cL_law 307 = .ok (.aload_n 0, 1) := by decide +kernel
theorem dL_law_308 : decode cL_law 308 = .ok (.iload_n 3, 1) := by decide +kernel
theorem dL_law_309 : decode cL_law 309 = .ok (.iconst 2, 1) := by decide +kernel
theorem dL_law_310 : decode cL_law 310 = .ok (.iadd, 1) := by decide +kernel
theorem dL_law_311 : decode cL_law 311 = .ok (.iaload, 1) := by decide +kernel
theorem dL_law_312 : decode cL_law 312 = .ok (.invokevirtual 36, 3) := by decide +kernel
theorem dL_law_315 : decode cL_law 315 = .ok (.aload_n 2, 1) := by decide +kernel
theorem dL_law_316 : decode cL_law 316 = .ok (.aload_n 0, 1) := by decide +kernel
theorem dL_law_317 : decode cL_law 317 = .ok (.iload_n 3, 1) := by decide +kernel
theorem dL_law_318 : decode cL_law 318 = .ok (.iconst 1, 1) := by decide +kernel
theorem dL_law_319 : decode cL_law 319 = .ok (.iadd, 1) := by decide +kernel
theorem dL_law_320 : decode cL_law 320 = .ok (.iaload, 1) := by decide +kernel
theorem dL_law_321 : decode cL_law 321 = .ok (.aload_n 0, 1) := by decide +kernel
theorem dL_law_322 : decode cL_law 322 = .ok (.iload_n 3, 1) := by decide +kernel
theorem dL_law_323 : decode cL_law 323 = .ok (.iconst 2, 1) := by decide +kernel
theorem dL_law_324 : decode cL_law 324 = .ok (.iadd, 1) := by decide +kernel
theorem dL_law_325 : decode cL_law 325 = .ok (.iaload, 1) := by decide +kernel
theorem dL_law_326 : decode cL_law 326 = .ok (.invokevirtual 39, 3) := by decide +kernel
theorem dL_law_329 : decode cL_law 329 = .ok (.if_icmp .eq 403, 3) := by decide +kernel
theorem dL_law_332 : decode cL_law 332 = .ok (.iconst 0, 1) := by decide +kernel
theorem dL_law_333 : decode cL_law 333 = .ok (.ireturn, 1) := by decide +kernel
theorem dL_law_334 : decode cL_law 334 = .ok (.aload_n 1, 1) := by decide +kernel
theorem dL_law_335 : decode cL_law 335 = .ok (.aload_n 0, 1) := by decide +kernel
theorem dL_law_336 : decode cL_law 336 = .ok (.iload_n 3, 1) := by decide +kernel
theorem dL_law_337 : decode cL_law 337 = .ok (.iconst 1, 1) := by decide +kernel
theorem dL_law_338 : decode cL_law 338 = .ok (.iadd, 1) := by decide +kernel
theorem dL_law_339 : decode cL_law 339 = .ok (.iaload, 1) := by decide +kernel
theorem dL_law_340 : decode cL_law 340 = .ok (.invokevirtual 40, 3) := by decide +kernel
theorem dL_law_343 : decode cL_law 343 = .ok (.aload_n 2, 1) := by decide +kernel
theorem dL_law_344 : decode cL_law 344 = .ok (.aload_n 0, 1) := by decide +kernel
theorem dL_law_345 : decode cL_law 345 = .ok (.iload_n 3, 1) := by decide +kernel
theorem dL_law_346 : decode cL_law 346 = .ok (.iconst 1, 1) := by decide +kernel
theorem dL_law_347 : decode cL_law 347 = .ok (.iadd, 1) := by decide +kernel
theorem dL_law_348 : decode cL_law 348 = .ok (.iaload, 1) := by decide +kernel
theorem dL_law_349 : decode cL_law 349 = .ok (.invokevirtual 43, 3) := by decide +kernel
theorem dL_law_352 : decode cL_law 352 = .ok (.if_icmp .eq 380, 3) := by decide +kernel
theorem dL_law_355 : decode cL_law 355 = .ok (.iconst 0, 1) := by decide +kernel
theorem dL_law_356 : decode cL_law 356 = .ok (.ireturn, 1) := by decide +kernel
theorem dL_law_357 : decode cL_law 357 = .ok (.aload_n 1, 1) := by decide +kernel
theorem dL_law_358 : decode cL_law 358 = .ok (.aload_n 0, 1) := by decide +kernel
theorem dL_law_359 : decode cL_law 359 = .ok (.iload_n 3, 1) := by decide +kernel
theorem dL_law_360 : decode cL_law 360 = .ok (.iconst 1, 1) := by decide +kernel
theorem dL_law_361 : decode cL_law 361 = .ok (.iadd, 1) := by decide +kernel
theorem dL_law_362 : decode cL_law 362 = .ok (.iaload, 1) := by decide +kernel
theorem dL_law_363 : decode cL_law 363 = .ok (.aload_n 0, 1) := by decide +kernel
theorem dL_law_364 : decode cL_law 364 = .ok (.iload_n 3, 1) := by decide +kernel
theorem dL_law_365 : decode cL_law 365 = .ok (.iconst 2, 1) := by decide +kernel
theorem dL_law_366 : decode cL_law 366 = .ok (.iadd, 1) := by decide +kernel
theorem dL_law_367 : decode cL_law 367 = .ok (.iaload, 1) := by decide +kernel
theorem dL_law_368 : decode cL_law 368 = .ok (.invokevirtual 44, 3) := by decide +kernel
theorem dL_law_371 : decode cL_law 371 = .ok (.aload_n 2, 1) := by decide +kernel
theorem dL_law_372 : decode cL_law 372 = .ok (.aload_n 0, 1) := by decide +kernel
theorem dL_law_373 : decode cL_law 373 = .ok (.iload_n 3, 1) := by decide +kernel
theorem dL_law_374 : decode cL_law 374 = .ok (.iconst 1, 1) := by decide +kernel
theorem dL_law_375 : decode cL_law 375 = .ok (.iadd, 1) := by decide +kernel
theorem dL_law_376 : decode cL_law 376 = .ok (.iaload, 1) := by decide +kernel
theorem dL_law_377 : decode cL_law 377 = .ok (.aload_n 0, 1) := by decide +kernel
theorem dL_law_378 : decode cL_law 378 = .ok (.iload_n 3, 1) := by decide +kernel
theorem dL_law_379 : decode cL_law 379 = .ok (.iconst 2, 1) := by decide +kernel
theorem dL_law_380 : decode cL_law 380 = .ok (.iadd, 1) := by decide +kernel
theorem dL_law_381 : decode cL_law 381 = .ok (.iaload, 1) := by decide +kernel
theorem dL_law_382 : decode cL_law 382 = .ok (.invokevirtual 47, 3) := by decide +kernel
theorem dL_law_385 : decode cL_law 385 = .ok (.if_icmp .eq 347, 3) := by decide +kernel
theorem dL_law_388 : decode cL_law 388 = .ok (.iconst 0, 1) := by decide +kernel
theorem dL_law_389 : decode cL_law 389 = .ok (.ireturn, 1) := by decide +kernel
theorem dL_law_390 : decode cL_law 390 = .ok (.aload_n 1, 1) := by decide +kernel
theorem dL_law_391 : decode cL_law 391 = .ok (.aload_n 0, 1) := by decide +kernel
theorem dL_law_392 : decode cL_law 392 = .ok (.iload_n 3, 1) := by decide +kernel
theorem dL_law_393 : decode cL_law 393 = .ok (.iconst 1, 1) := by decide +kernel
theorem dL_law_394 : decode cL_law 394 = .ok (.iadd, 1) := by decide +kernel
theorem dL_law_395 : decode cL_law 395 = .ok (.iaload, 1) := by decide +kernel
theorem dL_law_396 : decode cL_law 396 = .ok (.aload_n 0, 1) := by decide +kernel
theorem dL_law_397 : decode cL_law 397 = .ok (.iload_n 3, 1) := by decide +kernel
theorem dL_law_398 : decode cL_law 398 = .ok (.iconst 2, 1) := by decide +kernel
theorem dL_law_399 : decode cL_law 399 = .ok (.iadd, 1) := by decide +kernel
theorem dL_law_400 : decode cL_law 400 = .ok (.iaload, 1) := by decide +kernel
theorem dL_law_401 : decode cL_law 401 = .ok (.aload_n 0, 1) := by decide +kernel
theorem dL_law_402 : decode cL_law 402 = .ok (.iload_n 3, 1) := by decide +kernel
theorem dL_law_403 : decode cL_law 403 = .ok (.iconst 3, 1) := by decide +kernel
theorem dL_law_404 : decode cL_law 404 = .ok (.iadd, 1) := by decide +kernel
theorem dL_law_405 : decode cL_law 405 = .ok (.iaload, 1) := by decide +kernel
theorem dL_law_406 : decode cL_law 406 = .ok (.invokevirtual 48, 3) := by decide +kernel
theorem dL_law_409 : decode cL_law 409 = .ok (.aload_n 2, 1) := by decide +kernel
theorem dL_law_410 : decode cL_law 410 = .ok (.aload_n 0, 1) := by decide +kernel
theorem dL_law_411 : decode cL_law 411 = .ok (.iload_n 3, 1) := by decide +kernel
theorem dL_law_412 : decode cL_law 412 = .ok (.iconst 1, 1) := by decide +kernel
theorem dL_law_413 : decode cL_law 413 = .ok (.iadd, 1) := by decide +kernel
theorem dL_law_414 : decode cL_law 414 = .ok (.iaload, 1) := by decide +kernel
theorem dL_law_415 : decode cL_law 415 = .ok (.aload_n 0, 1) := by decide +kernel
theorem dL_law_416 : decode cL_law 416 = .ok (.iload_n 3, 1) := by decide +kernel
theorem dL_law_417 : decode cL_law 417 = .ok (.iconst 2, 1) := by decide +kernel
theorem dL_law_418 : decode cL_law 418 = .ok (.iadd, 1) := by decide +kernel
theorem dL_law_419 : decode cL_law 419 = .ok (.iaload, 1) := by decide +kernel
theorem dL_law_420 : decode cL_law 420 = .ok (.aload_n 0, 1) := by decide +kernel
theorem dL_law_421 : decode cL_law 421 = .ok (.iload_n 3, 1) := by decide +kernel
theorem dL_law_422 : decode cL_law 422 = .ok (.iconst 3, 1) := by decide +kernel
theorem dL_law_423 : decode cL_law 423 = .ok (.iadd, 1) := by decide +kernel
theorem dL_law_424 : decode cL_law 424 = .ok (.iaload, 1) := by decide +kernel
theorem dL_law_425 : decode cL_law 425 = .ok (.invokevirtual 51, 3) := by decide +kernel
theorem dL_law_428 : decode cL_law 428 = .ok (.if_icmp .eq 304, 3) := by decide +kernel
theorem dL_law_431 : decode cL_law 431 = .ok (.iconst 0, 1) := by decide +kernel
theorem dL_law_432 : decode cL_law 432 = .ok (.ireturn, 1) := by decide +kernel
theorem dL_law_433 : decode cL_law 433 = .ok (.aload_n 1, 1) := by decide +kernel
theorem dL_law_434 : decode cL_law 434 = .ok (.aload_n 0, 1) := by decide +kernel
theorem dL_law_435 : decode cL_law 435 = .ok (.iload_n 3, 1) := by decide +kernel
theorem dL_law_436 : decode cL_law 436 = .ok (.iconst 1, 1) := by decide +kernel
theorem dL_law_437 : decode cL_law 437 = .ok (.iadd, 1) := by decide +kernel
theorem dL_law_438 : decode cL_law 438 = .ok (.iaload, 1) := by decide +kernel
theorem dL_law_439 : decode cL_law 439 = .ok (.aload_n 0, 1) := by decide +kernel
theorem dL_law_440 : decode cL_law 440 = .ok (.iload_n 3, 1) := by decide +kernel
theorem dL_law_441 : decode cL_law 441 = .ok (.iconst 2, 1) := by decide +kernel
theorem dL_law_442 : decode cL_law 442 = .ok (.iadd, 1) := by decide +kernel
theorem dL_law_443 : decode cL_law 443 = .ok (.iaload, 1) := by decide +kernel
theorem dL_law_444 : decode cL_law 444 = .ok (.invokevirtual 52, 3) := by decide +kernel
theorem dL_law_447 : decode cL_law 447 = .ok (.aload_n 2, 1) := by decide +kernel
theorem dL_law_448 : decode cL_law 448 = .ok (.aload_n 0, 1) := by decide +kernel
theorem dL_law_449 : decode cL_law 449 = .ok (.iload_n 3, 1) := by decide +kernel
theorem dL_law_450 : decode cL_law 450 = .ok (.iconst 1, 1) := by decide +kernel
theorem dL_law_451 : decode cL_law 451 = .ok (.iadd, 1) := by decide +kernel
theorem dL_law_452 : decode cL_law 452 = .ok (.iaload, 1) := by decide +kernel
theorem dL_law_453 : decode cL_law 453 = .ok (.aload_n 0, 1) := by decide +kernel
theorem dL_law_454 : decode cL_law 454 = .ok (.iload_n 3, 1) := by decide +kernel
theorem dL_law_455 : decode cL_law 455 = .ok (.iconst 2, 1) := by decide +kernel
theorem dL_law_456 : decode cL_law 456 = .ok (.iadd, 1) := by decide +kernel
theorem dL_law_457 : decode cL_law 457 = .ok (.iaload, 1) := by decide +kernel
theorem dL_law_458 : decode cL_law 458 = .ok (.invokevirtual 55, 3) := by decide +kernel
theorem dL_law_461 : decode cL_law 461 = .ok (.if_icmp .eq 271, 3) := by decide +kernel
theorem dL_law_464 : decode cL_law 464 = .ok (.iconst 0, 1) := by decide +kernel
theorem dL_law_465 : decode cL_law 465 = .ok (.ireturn, 1) := by decide +kernel
theorem dL_law_466 : decode cL_law 466 = .ok (.aload_n 1, 1) := by decide +kernel
theorem dL_law_467 : decode cL_law 467 = .ok (.aload_n 0, 1) := by decide +kernel
theorem dL_law_468 : decode cL_law 468 = .ok (.iload_n 3, 1) := by decide +kernel
theorem dL_law_469 : decode cL_law 469 = .ok (.iconst 1, 1) := by decide +kernel
theorem dL_law_470 : decode cL_law 470 = .ok (.iadd, 1) := by decide +kernel
theorem dL_law_471 : decode cL_law 471 = .ok (.iaload, 1) := by decide +kernel
theorem dL_law_472 : decode cL_law 472 = .ok (.aload_n 0, 1) := by decide +kernel
theorem dL_law_473 : decode cL_law 473 = .ok (.iload_n 3, 1) := by decide +kernel
theorem dL_law_474 : decode cL_law 474 = .ok (.iconst 2, 1) := by decide +kernel
theorem dL_law_475 : decode cL_law 475 = .ok (.iadd, 1) := by decide +kernel
theorem dL_law_476 : decode cL_law 476 = .ok (.iaload, 1) := by decide +kernel
theorem dL_law_477 : decode cL_law 477 = .ok (.invokevirtual 56, 3) := by decide +kernel
theorem dL_law_480 : decode cL_law 480 = .ok (.aload_n 2, 1) := by decide +kernel
theorem dL_law_481 : decode cL_law 481 = .ok (.aload_n 0, 1) := by decide +kernel
theorem dL_law_482 : decode cL_law 482 = .ok (.iload_n 3, 1) := by decide +kernel
theorem dL_law_483 : decode cL_law 483 = .ok (.iconst 1, 1) := by decide +kernel
theorem dL_law_484 : decode cL_law 484 = .ok (.iadd, 1) := by decide +kernel
theorem dL_law_485 : decode cL_law 485 = .ok (.iaload, 1) := by decide +kernel
theorem dL_law_486 : decode cL_law 486 = .ok (.aload_n 0, 1) := by decide +kernel
theorem dL_law_487 : decode cL_law 487 = .ok (.iload_n 3, 1) := by decide +kernel
theorem dL_law_488 : decode cL_law 488 = .ok (.iconst 2, 1) := by decide +kernel
theorem dL_law_489 : decode cL_law 489 = .ok (.iadd, 1) := by decide +kernel
theorem dL_law_490 : decode cL_law 490 = .ok (.iaload, 1) := by decide +kernel
theorem dL_law_491 : decode cL_law 491 = .ok (.invokevirtual 59, 3) := by decide +kernel
theorem dL_law_494 : decode cL_law 494 = .ok (.if_icmp .eq 238, 3) := by decide +kernel
theorem dL_law_497 : decode cL_law 497 = .ok (.iconst 0, 1) := by decide +kernel
theorem dL_law_498 : decode cL_law 498 = .ok (.ireturn, 1) := by decide +kernel
theorem dL_law_499 : decode cL_law 499 = .ok (.aload_n 1, 1) := by decide +kernel
theorem dL_law_500 : decode cL_law 500 = .ok (.aload_n 0, 1) := by decide +kernel
theorem dL_law_501 : decode cL_law 501 = .ok (.iload_n 3, 1) := by decide +kernel
theorem dL_law_502 : decode cL_law 502 = .ok (.iconst 1, 1) := by decide +kernel
theorem dL_law_503 : decode cL_law 503 = .ok (.iadd, 1) := by decide +kernel
theorem dL_law_504 : decode cL_law 504 = .ok (.iaload, 1) := by decide +kernel
theorem dL_law_505 : decode cL_law 505 = .ok (.aload_n 0, 1) := by decide +kernel
theorem dL_law_506 : decode cL_law 506 = .ok (.iload_n 3, 1) := by decide +kernel
theorem dL_law_507 : decode cL_law 507 = .ok (.iconst 2, 1) := by decide +kernel
theorem dL_law_508 : decode cL_law 508 = .ok (.iadd, 1) := by decide +kernel
theorem dL_law_509 : decode cL_law 509 = .ok (.iaload, 1) := by decide +kernel
theorem dL_law_510 : decode cL_law 510 = .ok (.invokevirtual 60, 3) := by decide +kernel
theorem dL_law_513 : decode cL_law 513 = .ok (.aload_n 2, 1) := by decide +kernel
theorem dL_law_514 : decode cL_law 514 = .ok (.aload_n 0, 1) := by decide +kernel
theorem dL_law_515 : decode cL_law 515 = .ok (.iload_n 3, 1) := by decide +kernel
theorem dL_law_516 : decode cL_law 516 = .ok (.iconst 1, 1) := by decide +kernel
theorem dL_law_517 : decode cL_law 517 = .ok (.iadd, 1) := by decide +kernel
theorem dL_law_518 : decode cL_law 518 = .ok (.iaload, 1) := by decide +kernel
theorem dL_law_519 : decode cL_law 519 = .ok (.aload_n 0, 1) := by decide +kernel
theorem dL_law_520 : decode cL_law 520 = .ok (.iload_n 3, 1) := by decide +kernel
theorem dL_law_521 : decode cL_law 521 = .ok (.iconst 2, 1) := by decide +kernel
theorem dL_law_522 : decode cL_law 522 = .ok (.iadd, 1) := by decide +kernel
theorem dL_law_523 : decode cL_law 523 = .ok (.iaload, 1) := by decide +kernel
theorem dL_law_524 : decode cL_law 524 = .ok (.invokevirtual 63, 3) := by decide +kernel
theorem dL_law_527 : decode cL_law 527 = .ok (.if_icmp .eq 205, 3) := by decide +kernel
theorem dL_law_530 : decode cL_law 530 = .ok (.iconst 0, 1) := by decide +kernel
theorem dL_law_531 : decode cL_law 531 = .ok (.ireturn, 1) := by decide +kernel
theorem dL_law_532 : decode cL_law 532 = .ok (.aload_n 1, 1) := by decide +kernel
theorem dL_law_533 : decode cL_law 533 = .ok (.aload_n 0, 1) := by decide +kernel
theorem dL_law_534 : decode cL_law 534 = .ok (.iload_n 3, 1) := by decide +kernel
theorem dL_law_535 : decode cL_law 535 = .ok (.iconst 1, 1) := by decide +kernel
theorem dL_law_536 : decode cL_law 536 = .ok (.iadd, 1) := by decide +kernel
theorem dL_law_537 : decode cL_law 537 = .ok (.iaload, 1) := by decide +kernel
theorem dL_law_538 : decode cL_law 538 = .ok (.invokevirtual 64, 3) := by decide +kernel
theorem dL_law_541 : decode cL_law 541 = .ok (.aload_n 2, 1) := by decide +kernel
theorem dL_law_542 : decode cL_law 542 = .ok (.aload_n 0, 1) := by decide +kernel
theorem dL_law_543 : decode cL_law 543 = .ok (.iload_n 3, 1) := by decide +kernel
theorem dL_law_544 : decode cL_law 544 = .ok (.iconst 1, 1) := by decide +kernel
theorem dL_law_545 : decode cL_law 545 = .ok (.iadd, 1) := by decide +kernel
theorem dL_law_546 : decode cL_law 546 = .ok (.iaload, 1) := by decide +kernel
theorem dL_law_547 : decode cL_law 547 = .ok (.invokevirtual 67, 3) := by decide +kernel
theorem dL_law_550 : decode cL_law 550 = .ok (.if_icmp .eq 182, 3) := by decide +kernel
theorem dL_law_553 : decode cL_law 553 = .ok (.iconst 0, 1) := by decide +kernel
theorem dL_law_554 : decode cL_law 554 = .ok (.ireturn, 1) := by decide +kernel
theorem dL_law_555 : decode cL_law 555 = .ok (.aload_n 1, 1) := by decide +kernel
theorem dL_law_556 : decode cL_law 556 = .ok (.aload_n 0, 1) := by decide +kernel
theorem dL_law_557 : decode cL_law 557 = .ok (.iload_n 3, 1) := by decide +kernel
theorem dL_law_558 : decode cL_law 558 = .ok (.iconst 1, 1) := by decide +kernel
theorem dL_law_559 : decode cL_law 559 = .ok (.iadd, 1) := by decide +kernel
theorem dL_law_560 : decode cL_law 560 = .ok (.iaload, 1) := by decide +kernel
theorem dL_law_561 : decode cL_law 561 = .ok (.aload_n 0, 1) := by decide +kernel
theorem dL_law_562 : decode cL_law 562 = .ok (.iload_n 3, 1) := by decide +kernel
theorem dL_law_563 : decode cL_law 563 = .ok (.iconst 2, 1) := by decide +kernel
theorem dL_law_564 : decode cL_law 564 = .ok (.iadd, 1) := by decide +kernel
theorem dL_law_565 : decode cL_law 565 = .ok (.iaload, 1) := by decide +kernel
theorem dL_law_566 : decode cL_law 566 = .ok (.invokevirtual 68, 3) := by decide +kernel
theorem dL_law_569 : decode cL_law 569 = .ok (.aload_n 2, 1) := by decide +kernel
theorem dL_law_570 : decode cL_law 570 = .ok (.aload_n 0, 1) := by decide +kernel
theorem dL_law_571 : decode cL_law 571 = .ok (.iload_n 3, 1) := by decide +kernel
theorem dL_law_572 : decode cL_law 572 = .ok (.iconst 1, 1) := by decide +kernel
theorem dL_law_573 : decode cL_law 573 = .ok (.iadd, 1) := by decide +kernel
theorem dL_law_574 : decode cL_law 574 = .ok (.iaload, 1) := by decide +kernel
theorem dL_law_575 : decode cL_law 575 = .ok (.aload_n 0, 1) := by decide +kernel
theorem dL_law_576 : decode cL_law 576 = .ok (.iload_n 3, 1) := by decide +kernel
theorem dL_law_577 : decode cL_law 577 = .ok (.iconst 2, 1) := by decide +kernel
theorem dL_law_578 : decode cL_law 578 = .ok (.iadd, 1) := by decide +kernel
theorem dL_law_579 : decode cL_law 579 = .ok (.iaload, 1) := by decide +kernel
theorem dL_law_580 : decode cL_law 580 = .ok (.invokevirtual 71, 3) := by decide +kernel
theorem dL_law_583 : decode cL_law 583 = .ok (.if_icmp .eq 149, 3) := by decide +kernel
theorem dL_law_586 : decode cL_law 586 = .ok (.iconst 0, 1) := by decide +kernel
theorem dL_law_587 : decode cL_law 587 = .ok (.ireturn, 1) := by decide +kernel
theorem dL_law_588 : decode cL_law 588 = .ok (.aload_n 1, 1) := by decide +kernel
theorem dL_law_589 : decode cL_law 589 = .ok (.aload_n 0, 1) := by decide +kernel
theorem dL_law_590 : decode cL_law 590 = .ok (.iload_n 3, 1) := by decide +kernel
theorem dL_law_591 : decode cL_law 591 = .ok (.iconst 1, 1) := by decide +kernel
theorem dL_law_592 : decode cL_law 592 = .ok (.iadd, 1) := by decide +kernel
theorem dL_law_593 : decode cL_law 593 = .ok (.iaload, 1) := by decide +kernel
theorem dL_law_594 : decode cL_law 594 = .ok (.aload_n 0, 1) := by decide +kernel
theorem dL_law_595 : decode cL_law 595 = .ok (.iload_n 3, 1) := by decide +kernel
theorem dL_law_596 : decode cL_law 596 = .ok (.iconst 2, 1) := by decide +kernel
theorem dL_law_597 : decode cL_law 597 = .ok (.iadd, 1) := by decide +kernel
theorem dL_law_598 : decode cL_law 598 = .ok (.iaload, 1) := by decide +kernel
theorem dL_law_599 : decode cL_law 599 = .ok (.invokevirtual 72, 3) := by decide +kernel
theorem dL_law_602 : decode cL_law 602 = .ok (.aload_n 2, 1) := by decide +kernel
theorem dL_law_603 : decode cL_law 603 = .ok (.aload_n 0, 1) := by decide +kernel
theorem dL_law_604 : decode cL_law 604 = .ok (.iload_n 3, 1) := by decide +kernel
theorem dL_law_605 : decode cL_law 605 = .ok (.iconst 1, 1) := by decide +kernel
theorem dL_law_606 : decode cL_law 606 = .ok (.iadd, 1) := by decide +kernel
theorem dL_law_607 : decode cL_law 607 = .ok (.iaload, 1) := by decide +kernel
theorem dL_law_608 : decode cL_law 608 = .ok (.aload_n 0, 1) := by decide +kernel
theorem dL_law_609 : decode cL_law 609 = .ok (.iload_n 3, 1) := by decide +kernel
theorem dL_law_610 : decode cL_law 610 = .ok (.iconst 2, 1) := by decide +kernel
theorem dL_law_611 : decode cL_law 611 = .ok (.iadd, 1) := by decide +kernel
theorem dL_law_612 : decode cL_law 612 = .ok (.iaload, 1) := by decide +kernel
theorem dL_law_613 : decode cL_law 613 = .ok (.invokevirtual 75, 3) := by decide +kernel
theorem dL_law_616 : decode cL_law 616 = .ok (.if_icmp .eq 116, 3) := by decide +kernel
theorem dL_law_619 : decode cL_law 619 = .ok (.iconst 0, 1) := by decide +kernel
theorem dL_law_620 : decode cL_law 620 = .ok (.ireturn, 1) := by decide +kernel
theorem dL_law_621 : decode cL_law 621 = .ok (.aload_n 1, 1) := by decide +kernel
theorem dL_law_622 : decode cL_law 622 = .ok (.invokevirtual 76, 3) := by decide +kernel
theorem dL_law_625 : decode cL_law 625 = .ok (.aload_n 2, 1) := by decide +kernel
theorem dL_law_626 : decode cL_law 626 = .ok (.invokevirtual 80, 3) := by decide +kernel
theorem dL_law_629 : decode cL_law 629 = .ok (.if_icmp .eq 103, 3) := by decide +kernel
theorem dL_law_632 : decode cL_law 632 = .ok (.iconst 0, 1) := by decide +kernel
theorem dL_law_633 : decode cL_law 633 = .ok (.ireturn, 1) := by decide +kernel
theorem dL_law_634 : decode cL_law 634 = .ok (.aload_n 1, 1) := by decide +kernel
theorem dL_law_635 : decode cL_law 635 = .ok (.invokevirtual 81, 3) := by decide +kernel
theorem dL_law_638 : decode cL_law 638 = .ok (.aload_n 2, 1) := by decide +kernel
theorem dL_law_639 : decode cL_law 639 = .ok (.invokevirtual 84, 3) := by decide +kernel
theorem dL_law_642 : decode cL_law 642 = .ok (.if_icmp .eq 90, 3) := by decide +kernel
theorem dL_law_645 : decode cL_law 645 = .ok (.iconst 0, 1) := by decide +kernel
theorem dL_law_646 : decode cL_law 646 = .ok (.ireturn, 1) := by decide +kernel
theorem dL_law_647 : decode cL_law 647 = .ok (.aload_n 1, 1) := by decide +kernel
theorem dL_law_648 : decode cL_law 648 = .ok (.invokevirtual 85, 3) := by decide +kernel
theorem dL_law_651 : decode cL_law 651 = .ok (.aload_n 2, 1) := by decide +kernel
theorem dL_law_652 : decode cL_law 652 = .ok (.invokevirtual 88, 3) := by decide +kernel
theorem dL_law_655 : decode cL_law 655 = .ok (.if_icmp .eq 77, 3) := by decide +kernel
theorem dL_law_658 : decode cL_law 658 = .ok (.iconst 0, 1) := by decide +kernel
theorem dL_law_659 : decode cL_law 659 = .ok (.ireturn, 1) := by decide +kernel
theorem dL_law_660 : decode cL_law 660 = .ok (.aload_n 1, 1) := by decide +kernel
theorem dL_law_661 : decode cL_law 661 = .ok (.aload_n 0, 1) := by decide +kernel
theorem dL_law_662 : decode cL_law 662 = .ok (.iload_n 3, 1) := by decide +kernel
theorem dL_law_663 : decode cL_law 663 = .ok (.iconst 1, 1) := by decide +kernel
theorem dL_law_664 : decode cL_law 664 = .ok (.iadd, 1) := by decide +kernel
theorem dL_law_665 : decode cL_law 665 = .ok (.iaload, 1) := by decide +kernel
theorem dL_law_666 : decode cL_law 666 = .ok (.invokevirtual 89, 3) := by decide +kernel
theorem dL_law_669 : decode cL_law 669 = .ok (.aload_n 2, 1) := by decide +kernel
theorem dL_law_670 : decode cL_law 670 = .ok (.aload_n 0, 1) := by decide +kernel
theorem dL_law_671 : decode cL_law 671 = .ok (.iload_n 3, 1) := by decide +kernel
theorem dL_law_672 : decode cL_law 672 = .ok (.iconst 1, 1) := by decide +kernel
theorem dL_law_673 : decode cL_law 673 = .ok (.iadd, 1) := by decide +kernel
theorem dL_law_674 : decode cL_law 674 = .ok (.iaload, 1) := by decide +kernel
theorem dL_law_675 : decode cL_law 675 = .ok (.invokevirtual 92, 3) := by decide +kernel
theorem dL_law_678 : decode cL_law 678 = .ok (.if_icmp .eq 54, 3) := by decide +kernel
theorem dL_law_681 : decode cL_law 681 = .ok (.iconst 0, 1) := by decide +kernel
theorem dL_law_682 : decode cL_law 682 = .ok (.ireturn, 1) := by decide +kernel
theorem dL_law_683 : decode cL_law 683 = .ok (.aload_n 1, 1) := by decide +kernel
theorem dL_law_684 : decode cL_law 684 = .ok (.invokevirtual 93, 3) := by decide +kernel
theorem dL_law_687 : decode cL_law 687 = .ok (.aload_n 2, 1) := by decide +kernel
theorem dL_law_688 : decode cL_law 688 = .ok (.invokevirtual 96, 3) := by decide +kernel
theorem dL_law_691 : decode cL_law 691 = .ok (.if_icmp .eq 41, 3) := by decide +kernel
theorem dL_law_694 : decode cL_law 694 = .ok (.iconst 0, 1) := by decide +kernel
theorem dL_law_695 : decode cL_law 695 = .ok (.ireturn, 1) := by decide +kernel
theorem dL_law_696 : decode cL_law 696 = .ok (.aload_n 1, 1) := by decide +kernel
theorem dL_law_697 : decode cL_law 697 = .ok (.aload_n 0, 1) := by decide +kernel
theorem dL_law_698 : decode cL_law 698 = .ok (.iload_n 3, 1) := by decide +kernel
theorem dL_law_699 : decode cL_law 699 = .ok (.iconst 1, 1) := by decide +kernel
theorem dL_law_700 : decode cL_law 700 = .ok (.iadd, 1) := by decide +kernel
theorem dL_law_701 : decode cL_law 701 = .ok (.iaload, 1) := by decide +kernel
theorem dL_law_702 : decode cL_law 702 = .ok (.invokevirtual 97, 3) := by decide +kernel
theorem dL_law_705 : decode cL_law 705 = .ok (.aload_n 2, 1) := by decide +kernel
theorem dL_law_706 : decode cL_law 706 = .ok (.aload_n 0, 1) := by decide +kernel
theorem dL_law_707 : decode cL_law 707 = .ok (.iload_n 3, 1) := by decide +kernel
theorem dL_law_708 : decode cL_law 708 = .ok (.iconst 1, 1) := by decide +kernel
theorem dL_law_709 : decode cL_law 709 = .ok (.iadd, 1) := by decide +kernel
theorem dL_law_710 : decode cL_law 710 = .ok (.iaload, 1) := by decide +kernel
theorem dL_law_711 : decode cL_law 711 = .ok (.invokevirtual 100, 3) := by decide +kernel
theorem dL_law_714 : decode cL_law 714 = .ok (.if_icmp .eq 18, 3) := by decide +kernel
theorem dL_law_717 : decode cL_law 717 = .ok (.iconst 0, 1) := by decide +kernel
theorem dL_law_718 : decode cL_law 718 = .ok (.ireturn, 1) := by decide +kernel
theorem dL_law_719 : decode cL_law 719 = .ok (.aload_n 1, 1) := by decide +kernel
theorem dL_law_720 : decode cL_law 720 = .ok (.invokevirtual 101, 3) := by decide +kernel
theorem dL_law_723 : decode cL_law 723 = .ok (.aload_n 2, 1) := by decide +kernel
theorem dL_law_724 : decode cL_law 724 = .ok (.invokevirtual 104, 3) := by decide +kernel
theorem dL_law_727 : decode cL_law 727 = .ok (.if_icmp .eq 5, 3) := by decide +kernel
theorem dL_law_730 : decode cL_law 730 = .ok (.iconst 0, 1) := by decide +kernel
theorem dL_law_731 : decode cL_law 731 = .ok (.ireturn, 1) := by decide +kernel
theorem dL_law_732 : decode cL_law 732 = .ok (.iinc 3 4, 3) := by decide +kernel
theorem dL_law_735 : decode cL_law 735 = .ok (.goto (-717), 3) := by decide +kernel
theorem dL_law_738 : decode cL_law 738 = .ok (.iconst 1, 1) := by decide +kernel
theorem dL_law_739 : decode cL_law 739 = .ok (.ireturn, 1) := by decide +kernel
