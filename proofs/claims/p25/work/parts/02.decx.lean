theorem dX0_init_0 : decode cX0_init 0 = .ok (.aload_n 0, 1) := by decide +kernel
theorem dX0_init_1 : decode cX0_init 1 = .ok (.invokespecial 3, 3) := by decide +kernel
theorem dX0_init_4 : decode cX0_init 4 = .ok (.aload_n 0, 1) := by decide +kernel
theorem dX0_init_5 : decode cX0_init 5 = .ok (.bipush 12, 2) := by decide +kernel
theorem dX0_init_7 : decode cX0_init 7 = .ok (.newarray .int, 2) := by decide +kernel
theorem dX0_init_9 : decode cX0_init 9 = .ok (.putfield 9, 3) := by decide +kernel
theorem dX0_init_12 : decode cX0_init 12 = .ok (.aload_n 0, 1) := by decide +kernel
theorem dX0_init_13 : decode cX0_init 13 = .ok (.bipush 12, 2) := by decide +kernel
theorem dX0_init_15 : decode cX0_init 15 = .ok (.newarray .int, 2) := by decide +kernel
theorem dX0_init_17 : decode cX0_init 17 = .ok (.putfield 15, 3) := by decide +kernel
theorem dX0_init_20 : decode cX0_init 20 = .ok (.aload_n 0, 1) := by decide +kernel
theorem dX0_init_21 : decode cX0_init 21 = .ok (.bipush 12, 2) := by decide +kernel
theorem dX0_init_23 : decode cX0_init 23 = .ok (.newarray .int, 2) := by decide +kernel
theorem dX0_init_25 : decode cX0_init 25 = .ok (.putfield 18, 3) := by decide +kernel
theorem dX0_init_28 : decode cX0_init 28 = .ok (.return_, 1) := by decide +kernel
theorem dX0_has_0 : decode cX0_has 0 = .ok (.iload_n 1, 1) := by decide +kernel
theorem dX0_has_1 : decode cX0_has 1 = .ok (.ifCond .lt 21, 3) := by decide +kernel
theorem dX0_has_4 : decode cX0_has 4 = .ok (.iload_n 1, 1) := by decide +kernel
theorem dX0_has_5 : decode cX0_has 5 = .ok (.aload_n 0, 1) := by decide +kernel
theorem dX0_has_6 : decode cX0_has 6 = .ok (.getfield 21, 3) := by decide +kernel
theorem dX0_has_9 : decode cX0_has 9 = .ok (.if_icmp .ge 13, 3) := by decide +kernel
theorem dX0_has_12 : decode cX0_has 12 = .ok (.iload_n 1, 1) := by decide +kernel
theorem dX0_has_13 : decode cX0_has 13 = .ok (.bipush 12, 2) := by decide +kernel
theorem dX0_has_15 : decode cX0_has 15 = .ok (.if_icmp .ge 7, 3) := by decide +kernel
theorem dX0_has_18 : decode cX0_has 18 = .ok (.iconst 1, 1) := by decide +kernel
theorem dX0_has_19 : decode cX0_has 19 = .ok (.goto 4, 3) := by decide +kernel
theorem dX0_has_22 : decode cX0_has 22 = .ok (.iconst 0, 1) := by decide +kernel
theorem dX0_has_23 : decode cX0_has 23 = .ok (.ireturn, 1) := by decide +kernel
theorem dX0_all_0 : decode cX0_all 0 = .ok (.iconst 1, 1) := by decide +kernel
theorem dX0_all_1 : decode cX0_all 1 = .ok (.aload_n 0, 1) := by decide +kernel
theorem dX0_all_2 : decode cX0_all 2 = .ok (.getfield 21, 3) := by decide +kernel
theorem dX0_all_5 : decode cX0_all 5 = .ok (.ishl, 1) := by decide +kernel
theorem dX0_all_6 : decode cX0_all 6 = .ok (.iconst 1, 1) := by decide +kernel
theorem dX0_all_7 : decode cX0_all 7 = .ok (.isub, 1) := by decide +kernel
theorem dX0_all_8 : decode cX0_all 8 = .ok (.ireturn, 1) := by decide +kernel
theorem dX0_waysTo_0 : decode cX0_waysTo 0 = .ok (.iconst 0, 1) := by decide +kernel
theorem dX0_waysTo_1 : decode cX0_waysTo 1 = .ok (.istore_n 2, 1) := by decide +kernel
theorem dX0_waysTo_2 : decode cX0_waysTo 2 = .ok (.iconst 0, 1) := by decide +kernel
theorem dX0_waysTo_3 : decode cX0_waysTo 3 = .ok (.istore_n 3, 1) := by decide +kernel
theorem dX0_waysTo_4 : decode cX0_waysTo 4 = .ok (.iload_n 3, 1) := by decide +kernel
theorem dX0_waysTo_5 : decode cX0_waysTo 5 = .ok (.aload_n 0, 1) := by decide +kernel
theorem dX0_waysTo_6 : decode cX0_waysTo 6 = .ok (.getfield 21, 3) := by decide +kernel
theorem dX0_waysTo_9 : decode cX0_waysTo 9 = .ok (.if_icmp .ge 28, 3) := by decide +kernel
theorem dX0_waysTo_12 : decode cX0_waysTo 12 = .ok (.aload_n 0, 1) := by decide +kernel
theorem dX0_waysTo_13 : decode cX0_waysTo 13 = .ok (.getfield 18, 3) := by decide +kernel
theorem dX0_waysTo_16 : decode cX0_waysTo 16 = .ok (.iload_n 3, 1) := by decide +kernel
theorem dX0_waysTo_17 : decode cX0_waysTo 17 = .ok (.iaload, 1) := by decide +kernel
theorem dX0_waysTo_18 : decode cX0_waysTo 18 = .ok (.iload_n 1, 1) := by decide +kernel
theorem dX0_waysTo_19 : decode cX0_waysTo 19 = .ok (.invokestatic 29, 3) := by decide +kernel
theorem dX0_waysTo_22 : decode cX0_waysTo 22 = .ok (.ifCond .eq 9, 3) := by decide +kernel
theorem dX0_waysTo_25 : decode cX0_waysTo 25 = .ok (.iload_n 2, 1) := by decide +kernel
theorem dX0_waysTo_26 : decode cX0_waysTo 26 = .ok (.iconst 1, 1) := by decide +kernel
theorem dX0_waysTo_27 : decode cX0_waysTo 27 = .ok (.iload_n 3, 1) := by decide +kernel
theorem dX0_waysTo_28 : decode cX0_waysTo 28 = .ok (.ishl, 1) := by decide +kernel
theorem dX0_waysTo_29 : decode cX0_waysTo 29 = .ok (.ior, 1) := by decide +kernel
theorem dX0_waysTo_30 : decode cX0_waysTo 30 = .ok (.istore_n 2, 1) := by decide +kernel
theorem dX0_waysTo_31 : decode cX0_waysTo 31 = .ok (.iinc 3 1, 3) := by decide +kernel
theorem dX0_waysTo_34 : decode cX0_waysTo 34 = .ok (.goto (-30), 3) := by decide +kernel
theorem dX0_waysTo_37 : decode cX0_waysTo 37 = .ok (.iload_n 2, 1) := by decide +kernel
theorem dX0_waysTo_38 : decode cX0_waysTo 38 = .ok (.ireturn, 1) := by decide +kernel
theorem dX0_numberOfWays_0 : decode cX0_numberOfWays 0 = .ok (.iconst 0, 1) := by decide +kernel
theorem dX0_numberOfWays_1 : decode cX0_numberOfWays 1 = .ok (.istore_n 1, 1) := by decide +kernel
theorem dX0_numberOfWays_2 : decode cX0_numberOfWays 2 = .ok (.iconst 0, 1) := by decide +kernel
theorem dX0_numberOfWays_3 : decode cX0_numberOfWays 3 = .ok (.istore_n 2, 1) := by decide +kernel
theorem dX0_numberOfWays_4 : decode cX0_numberOfWays 4 = .ok (.iload_n 2, 1) := by decide +kernel
theorem dX0_numberOfWays_5 : decode cX0_numberOfWays 5 = .ok (.aload_n 0, 1) := by decide +kernel
theorem dX0_numberOfWays_6 : decode cX0_numberOfWays 6 = .ok (.getfield 21, 3) := by decide +kernel
theorem dX0_numberOfWays_9 : decode cX0_numberOfWays 9 = .ok (.if_icmp .ge 21, 3) := by decide +kernel
theorem dX0_numberOfWays_12 : decode cX0_numberOfWays 12 = .ok (.iload_n 1, 1) := by decide +kernel
theorem dX0_numberOfWays_13 : decode cX0_numberOfWays 13 = .ok (.aload_n 0, 1) := by decide +kernel
theorem dX0_numberOfWays_14 : decode cX0_numberOfWays 14 = .ok (.getfield 18, 3) := by decide +kernel
theorem dX0_numberOfWays_17 : decode cX0_numberOfWays 17 = .ok (.iload_n 2, 1) := by decide +kernel
theorem dX0_numberOfWays_18 : decode cX0_numberOfWays 18 = .ok (.iaload, 1) := by decide +kernel
theorem dX0_numberOfWays_19 : decode cX0_numberOfWays 19 = .ok (.invokestatic 33, 3) := by decide +kernel
theorem dX0_numberOfWays_22 : decode cX0_numberOfWays 22 = .ok (.iadd, 1) := by decide +kernel
theorem dX0_numberOfWays_23 : decode cX0_numberOfWays 23 = .ok (.istore_n 1, 1) := by decide +kernel
theorem dX0_numberOfWays_24 : decode cX0_numberOfWays 24 = .ok (.iinc 2 1, 3) := by decide +kernel
theorem dX0_numberOfWays_27 : decode cX0_numberOfWays 27 = .ok (.goto (-23), 3) := by decide +kernel
theorem dX0_numberOfWays_30 : decode cX0_numberOfWays 30 = .ok (.iload_n 1, 1) := by decide +kernel
theorem dX0_numberOfWays_31 : decode cX0_numberOfWays 31 = .ok (.ireturn, 1) := by decide +kernel
theorem dX0_greatestRank_0 : decode cX0_greatestRank 0 = .ok (.iconst 0, 1) := by decide +kernel
theorem dX0_greatestRank_1 : decode cX0_greatestRank 1 = .ok (.istore_n 1, 1) := by decide +kernel
theorem dX0_greatestRank_2 : decode cX0_greatestRank 2 = .ok (.iconst 0, 1) := by decide +kernel
theorem dX0_greatestRank_3 : decode cX0_greatestRank 3 = .ok (.istore_n 2, 1) := by decide +kernel
theorem dX0_greatestRank_4 : decode cX0_greatestRank 4 = .ok (.iload_n 2, 1) := by decide +kernel
theorem dX0_greatestRank_5 : decode cX0_greatestRank 5 = .ok (.aload_n 0, 1) := by decide +kernel
theorem dX0_greatestRank_6 : decode cX0_greatestRank 6 = .ok (.getfield 21, 3) := by decide +kernel
theorem dX0_greatestRank_9 : decode cX0_greatestRank 9 = .ok (.if_icmp .ge 20, 3) := by decide +kernel
theorem dX0_greatestRank_12 : decode cX0_greatestRank 12 = .ok (.iload_n 1, 1) := by decide +kernel
theorem dX0_greatestRank_13 : decode cX0_greatestRank 13 = .ok (.aload_n 0, 1) := by decide +kernel
theorem dX0_greatestRank_14 : decode cX0_greatestRank 14 = .ok (.getfield 15, 3) := by decide +kernel
theorem dX0_greatestRank_17 : decode cX0_greatestRank 17 = .ok (.iload_n 2, 1) := by decide +kernel
theorem dX0_greatestRank_18 : decode cX0_greatestRank 18 = .ok (.iaload, 1) := by decide +kernel
theorem dX0_greatestRank_19 : decode cX0_greatestRank 19 = .ok (.invokestatic 39, 3) := by decide +kernel
theorem dX0_greatestRank_22 : decode cX0_greatestRank 22 = .ok (.istore_n 1, 1) := by decide +kernel
theorem dX0_greatestRank_23 : decode cX0_greatestRank 23 = .ok (.iinc 2 1, 3) := by decide +kernel
theorem dX0_greatestRank_26 : decode cX0_greatestRank 26 = .ok (.goto (-22), 3) := by decide +kernel
theorem dX0_greatestRank_29 : decode cX0_greatestRank 29 = .ok (.iload_n 1, 1) := by decide +kernel
theorem dX0_greatestRank_30 : decode cX0_greatestRank 30 = .ok (.ireturn, 1) := by decide +kernel
theorem dX0_endsOf_0 : decode cX0_endsOf 0 = .ok (.iconst 0, 1) := by decide +kernel
theorem dX0_endsOf_1 : decode cX0_endsOf 1 = .ok (.istore_n 2, 1) := by decide +kernel
theorem dX0_endsOf_2 : decode cX0_endsOf 2 = .ok (.iconst 0, 1) := by decide +kernel
theorem dX0_endsOf_3 : decode cX0_endsOf 3 = .ok (.istore_n 3, 1) := by decide +kernel
theorem dX0_endsOf_4 : decode cX0_endsOf 4 = .ok (.iload_n 3, 1) := by decide +kernel
theorem dX0_endsOf_5 : decode cX0_endsOf 5 = .ok (.aload_n 0, 1) := by decide +kernel
theorem dX0_endsOf_6 : decode cX0_endsOf 6 = .ok (.getfield 21, 3) := by decide +kernel
theorem dX0_endsOf_9 : decode cX0_endsOf 9 = .ok (.if_icmp .ge 34, 3) := by decide +kernel
theorem dX0_endsOf_12 : decode cX0_endsOf 12 = .ok (.aload_n 0, 1) := by decide +kernel
theorem dX0_endsOf_13 : decode cX0_endsOf 13 = .ok (.getfield 18, 3) := by decide +kernel
theorem dX0_endsOf_16 : decode cX0_endsOf 16 = .ok (.iload_n 3, 1) := by decide +kernel
theorem dX0_endsOf_17 : decode cX0_endsOf 17 = .ok (.iaload, 1) := by decide +kernel
theorem dX0_endsOf_18 : decode cX0_endsOf 18 = .ok (.ifCond .ne 19, 3) := by decide +kernel
theorem dX0_endsOf_21 : decode cX0_endsOf 21 = .ok (.aload_n 0, 1) := by decide +kernel
theorem dX0_endsOf_22 : decode cX0_endsOf 22 = .ok (.getfield 9, 3) := by decide +kernel
theorem dX0_endsOf_25 : decode cX0_endsOf 25 = .ok (.iload_n 3, 1) := by decide +kernel
theorem dX0_endsOf_26 : decode cX0_endsOf 26 = .ok (.iaload, 1) := by decide +kernel
theorem dX0_endsOf_27 : decode cX0_endsOf 27 = .ok (.iload_n 1, 1) := by decide +kernel
theorem dX0_endsOf_28 : decode cX0_endsOf 28 = .ok (.if_icmp .ne 9, 3) := by decide +kernel
theorem dX0_endsOf_31 : decode cX0_endsOf 31 = .ok (.iload_n 2, 1) := by decide +kernel
theorem dX0_endsOf_32 : decode cX0_endsOf 32 = .ok (.iconst 1, 1) := by decide +kernel
theorem dX0_endsOf_33 : decode cX0_endsOf 33 = .ok (.iload_n 3, 1) := by decide +kernel
theorem dX0_endsOf_34 : decode cX0_endsOf 34 = .ok (.ishl, 1) := by decide +kernel
theorem dX0_endsOf_35 : decode cX0_endsOf 35 = .ok (.ior, 1) := by decide +kernel
theorem dX0_endsOf_36 : decode cX0_endsOf 36 = .ok (.istore_n 2, 1) := by decide +kernel
theorem dX0_endsOf_37 : decode cX0_endsOf 37 = .ok (.iinc 3 1, 3) := by decide +kernel
theorem dX0_endsOf_40 : decode cX0_endsOf 40 = .ok (.goto (-36), 3) := by decide +kernel
theorem dX0_endsOf_43 : decode cX0_endsOf 43 = .ok (.iload_n 2, 1) := by decide +kernel
theorem dX0_endsOf_44 : decode cX0_endsOf 44 = .ok (.ireturn, 1) := by decide +kernel
theorem dX0_ranked_0 : decode cX0_ranked 0 = .ok (.iconst 0, 1) := by decide +kernel
theorem dX0_ranked_1 : decode cX0_ranked 1 = .ok (.istore_n 2, 1) := by decide +kernel
theorem dX0_ranked_2 : decode cX0_ranked 2 = .ok (.iconst 0, 1) := by decide +kernel
theorem dX0_ranked_3 : decode cX0_ranked 3 = .ok (.istore_n 3, 1) := by decide +kernel
theorem dX0_ranked_4 : decode cX0_ranked 4 = .ok (.iload_n 3, 1) := by decide +kernel
theorem dX0_ranked_5 : decode cX0_ranked 5 = .ok (.aload_n 0, 1) := by decide +kernel
theorem dX0_ranked_6 : decode cX0_ranked 6 = .ok (.getfield 21, 3) := by decide +kernel
theorem dX0_ranked_9 : decode cX0_ranked 9 = .ok (.if_icmp .ge 25, 3) := by decide +kernel
theorem dX0_ranked_12 : decode cX0_ranked 12 = .ok (.aload_n 0, 1) := by decide +kernel
theorem dX0_ranked_13 : decode cX0_ranked 13 = .ok (.getfield 15, 3) := by decide +kernel
theorem dX0_ranked_16 : decode cX0_ranked 16 = .ok (.iload_n 3, 1) := by decide +kernel
theorem dX0_ranked_17 : decode cX0_ranked 17 = .ok (.iaload, 1) := by decide +kernel
theorem dX0_ranked_18 : decode cX0_ranked 18 = .ok (.iload_n 1, 1) := by decide +kernel
theorem dX0_ranked_19 : decode cX0_ranked 19 = .ok (.if_icmp .ne 9, 3) := by decide +kernel
theorem dX0_ranked_22 : decode cX0_ranked 22 = .ok (.iload_n 2, 1) := by decide +kernel
theorem dX0_ranked_23 : decode cX0_ranked 23 = .ok (.iconst 1, 1) := by decide +kernel
theorem dX0_ranked_24 : decode cX0_ranked 24 = .ok (.iload_n 3, 1) := by decide +kernel
theorem dX0_ranked_25 : decode cX0_ranked 25 = .ok (.ishl, 1) := by decide +kernel
theorem dX0_ranked_26 : decode cX0_ranked 26 = .ok (.ior, 1) := by decide +kernel
theorem dX0_ranked_27 : decode cX0_ranked 27 = .ok (.istore_n 2, 1) := by decide +kernel
theorem dX0_ranked_28 : decode cX0_ranked 28 = .ok (.iinc 3 1, 3) := by decide +kernel
theorem dX0_ranked_31 : decode cX0_ranked 31 = .ok (.goto (-27), 3) := by decide +kernel
theorem dX0_ranked_34 : decode cX0_ranked 34 = .ok (.iload_n 2, 1) := by decide +kernel
theorem dX0_ranked_35 : decode cX0_ranked 35 = .ok (.ireturn, 1) := by decide +kernel
theorem dX0_append_0 : decode cX0_append 0 = .ok (.aload_n 0, 1) := by decide +kernel
theorem dX0_append_1 : decode cX0_append 1 = .ok (.getfield 21, 3) := by decide +kernel
theorem dX0_append_4 : decode cX0_append 4 = .ok (.bipush 12, 2) := by decide +kernel
theorem dX0_append_6 : decode cX0_append 6 = .ok (.if_icmp .ge 43, 3) := by decide +kernel
theorem dX0_append_9 : decode cX0_append 9 = .ok (.aload_n 0, 1) := by decide +kernel
theorem dX0_append_10 : decode cX0_append 10 = .ok (.getfield 9, 3) := by decide +kernel
theorem dX0_append_13 : decode cX0_append 13 = .ok (.aload_n 0, 1) := by decide +kernel
theorem dX0_append_14 : decode cX0_append 14 = .ok (.getfield 21, 3) := by decide +kernel
theorem dX0_append_17 : decode cX0_append 17 = .ok (.iload_n 1, 1) := by decide +kernel
theorem dX0_append_18 : decode cX0_append 18 = .ok (.iastore, 1) := by decide +kernel
theorem dX0_append_19 : decode cX0_append 19 = .ok (.aload_n 0, 1) := by decide +kernel
theorem dX0_append_20 : decode cX0_append 20 = .ok (.getfield 15, 3) := by decide +kernel
theorem dX0_append_23 : decode cX0_append 23 = .ok (.aload_n 0, 1) := by decide +kernel
theorem dX0_append_24 : decode cX0_append 24 = .ok (.getfield 21, 3) := by decide +kernel
theorem dX0_append_27 : decode cX0_append 27 = .ok (.iload_n 2, 1) := by decide +kernel
theorem dX0_append_28 : decode cX0_append 28 = .ok (.iastore, 1) := by decide +kernel
theorem dX0_append_29 : decode cX0_append 29 = .ok (.aload_n 0, 1) := by decide +kernel
theorem dX0_append_30 : decode cX0_append 30 = .ok (.getfield 18, 3) := by decide +kernel
theorem dX0_append_33 : decode cX0_append 33 = .ok (.aload_n 0, 1) := by decide +kernel
theorem dX0_append_34 : decode cX0_append 34 = .ok (.getfield 21, 3) := by decide +kernel
theorem dX0_append_37 : decode cX0_append 37 = .ok (.iconst 0, 1) := by decide +kernel
theorem dX0_append_38 : decode cX0_append 38 = .ok (.iastore, 1) := by decide +kernel
theorem dX0_append_39 : decode cX0_append 39 = .ok (.aload_n 0, 1) := by decide +kernel
theorem dX0_append_40 : decode cX0_append 40 = .ok (.dup, 1) := by decide +kernel
theorem dX0_append_41 : decode cX0_append 41 = .ok (.getfield 21, 3) := by decide +kernel
theorem dX0_append_44 : decode cX0_append 44 = .ok (.iconst 1, 1) := by decide +kernel
theorem dX0_append_45 : decode cX0_append 45 = .ok (.iadd, 1) := by decide +kernel
theorem dX0_append_46 : decode cX0_append 46 = .ok (.putfield 21, 3) := by decide +kernel
theorem dX0_append_49 : decode cX0_append 49 = .ok (.return_, 1) := by decide +kernel
theorem dX0_remove_0 : decode cX0_remove 0 = .ok (.iload_n 1, 1) := by decide +kernel
theorem dX0_remove_1 : decode cX0_remove 1 = .ok (.istore_n 2, 1) := by decide +kernel
theorem dX0_remove_2 : decode cX0_remove 2 = .ok (.iload_n 2, 1) := by decide +kernel
theorem dX0_remove_3 : decode cX0_remove 3 = .ok (.iconst 1, 1) := by decide +kernel
theorem dX0_remove_4 : decode cX0_remove 4 = .ok (.iadd, 1) := by decide +kernel
theorem dX0_remove_5 : decode cX0_remove 5 = .ok (.aload_n 0, 1) := by decide +kernel
theorem dX0_remove_6 : decode cX0_remove 6 = .ok (.getfield 21, 3) := by decide +kernel
theorem dX0_remove_9 : decode cX0_remove 9 = .ok (.if_icmp .ge 51, 3) := by decide +kernel
theorem dX0_remove_12 : decode cX0_remove 12 = .ok (.aload_n 0, 1) := by decide +kernel
theorem dX0_remove_13 : decode cX0_remove 13 = .ok (.getfield 9, 3) := by decide +kernel
theorem dX0_remove_16 : decode cX0_remove 16 = .ok (.iload_n 2, 1) := by decide +kernel
theorem dX0_remove_17 : decode cX0_remove 17 = .ok (.aload_n 0, 1) := by decide +kernel
theorem dX0_remove_18 : decode cX0_remove 18 = .ok (.getfield 9, 3) := by decide +kernel
theorem dX0_remove_21 : decode cX0_remove 21 = .ok (.iload_n 2, 1) := by decide +kernel
theorem dX0_remove_22 : decode cX0_remove 22 = .ok (.iconst 1, 1) := by decide +kernel
theorem dX0_remove_23 : decode cX0_remove 23 = .ok (.iadd, 1) := by decide +kernel
theorem dX0_remove_24 : decode cX0_remove 24 = .ok (.iaload, 1) := by decide +kernel
theorem dX0_remove_25 : decode cX0_remove 25 = .ok (.iastore, 1) := by decide +kernel
theorem dX0_remove_26 : decode cX0_remove 26 = .ok (.aload_n 0, 1) := by decide +kernel
theorem dX0_remove_27 : decode cX0_remove 27 = .ok (.getfield 15, 3) := by decide +kernel
theorem dX0_remove_30 : decode cX0_remove 30 = .ok (.iload_n 2, 1) := by decide +kernel
theorem dX0_remove_31 : decode cX0_remove 31 = .ok (.aload_n 0, 1) := by decide +kernel
theorem dX0_remove_32 : decode cX0_remove 32 = .ok (.getfield 15, 3) := by decide +kernel
theorem dX0_remove_35 : decode cX0_remove 35 = .ok (.iload_n 2, 1) := by decide +kernel
theorem dX0_remove_36 : decode cX0_remove 36 = .ok (.iconst 1, 1) := by decide +kernel
theorem dX0_remove_37 : decode cX0_remove 37 = .ok (.iadd, 1) := by decide +kernel
theorem dX0_remove_38 : decode cX0_remove 38 = .ok (.iaload, 1) := by decide +kernel
theorem dX0_remove_39 : decode cX0_remove 39 = .ok (.iastore, 1) := by decide +kernel
theorem dX0_remove_40 : decode cX0_remove 40 = .ok (.aload_n 0, 1) := by decide +kernel
theorem dX0_remove_41 : decode cX0_remove 41 = .ok (.getfield 18, 3) := by decide +kernel
theorem dX0_remove_44 : decode cX0_remove 44 = .ok (.iload_n 2, 1) := by decide +kernel
theorem dX0_remove_45 : decode cX0_remove 45 = .ok (.aload_n 0, 1) := by decide +kernel
theorem dX0_remove_46 : decode cX0_remove 46 = .ok (.getfield 18, 3) := by decide +kernel
theorem dX0_remove_49 : decode cX0_remove 49 = .ok (.iload_n 2, 1) := by decide +kernel
theorem dX0_remove_50 : decode cX0_remove 50 = .ok (.iconst 1, 1) := by decide +kernel
theorem dX0_remove_51 : decode cX0_remove 51 = .ok (.iadd, 1) := by decide +kernel
theorem dX0_remove_52 : decode cX0_remove 52 = .ok (.iaload, 1) := by decide +kernel
theorem dX0_remove_53 : decode cX0_remove 53 = .ok (.iastore, 1) := by decide +kernel
theorem dX0_remove_54 : decode cX0_remove 54 = .ok (.iinc 2 1, 3) := by decide +kernel
theorem dX0_remove_57 : decode cX0_remove 57 = .ok (.goto (-55), 3) := by decide +kernel
theorem dX0_remove_60 : decode cX0_remove 60 = .ok (.aload_n 0, 1) := by decide +kernel
theorem dX0_remove_61 : decode cX0_remove 61 = .ok (.dup, 1) := by decide +kernel
theorem dX0_remove_62 : decode cX0_remove 62 = .ok (.getfield 21, 3) := by decide +kernel
theorem dX0_remove_65 : decode cX0_remove 65 = .ok (.iconst 1, 1) := by decide +kernel
theorem dX0_remove_66 : decode cX0_remove 66 = .ok (.isub, 1) := by decide +kernel
theorem dX0_remove_67 : decode cX0_remove 67 = .ok (.putfield 21, 3) := by decide +kernel
theorem dX0_remove_70 : decode cX0_remove 70 = .ok (.iconst 1, 1) := by decide +kernel
theorem dX0_remove_71 : decode cX0_remove 71 = .ok (.iload_n 1, 1) := by decide +kernel
theorem dX0_remove_72 : decode cX0_remove 72 = .ok (.ishl, 1) := by decide +kernel
theorem dX0_remove_73 : decode cX0_remove 73 = .ok (.iconst 1, 1) := by decide +kernel
theorem dX0_remove_74 : decode cX0_remove 74 = .ok (.isub, 1) := by decide +kernel
theorem dX0_remove_75 : decode cX0_remove 75 = .ok (.istore_n 2, 1) := by decide +kernel
theorem dX0_remove_76 : decode cX0_remove 76 = .ok (.iconst 0, 1) := by decide +kernel
theorem dX0_remove_77 : decode cX0_remove 77 = .ok (.istore_n 3, 1) := by decide +kernel
theorem dX0_remove_78 : decode cX0_remove 78 = .ok (.iload_n 3, 1) := by decide +kernel
theorem dX0_remove_79 : decode cX0_remove 79 = .ok (.aload_n 0, 1) := by decide +kernel
theorem dX0_remove_80 : decode cX0_remove 80 = .ok (.getfield 21, 3) := by decide +kernel
theorem dX0_remove_83 : decode cX0_remove 83 = .ok (.if_icmp .ge 36, 3) := by decide +kernel
theorem dX0_remove_86 : decode cX0_remove 86 = .ok (.aload_n 0, 1) := by decide +kernel
theorem dX0_remove_87 : decode cX0_remove 87 = .ok (.getfield 18, 3) := by decide +kernel
theorem dX0_remove_90 : decode cX0_remove 90 = .ok (.iload_n 3, 1) := by decide +kernel
theorem dX0_remove_91 : decode cX0_remove 91 = .ok (.aload_n 0, 1) := by decide +kernel
theorem dX0_remove_92 : decode cX0_remove 92 = .ok (.getfield 18, 3) := by decide +kernel
theorem dX0_remove_95 : decode cX0_remove 95 = .ok (.iload_n 3, 1) := by decide +kernel
theorem dX0_remove_96 : decode cX0_remove 96 = .ok (.iaload, 1) := by decide +kernel
theorem dX0_remove_97 : decode cX0_remove 97 = .ok (.iload_n 2, 1) := by decide +kernel
theorem dX0_remove_98 : decode cX0_remove 98 = .ok (.iand, 1) := by decide +kernel
theorem dX0_remove_99 : decode cX0_remove 99 = .ok (.aload_n 0, 1) := by decide +kernel
theorem dX0_remove_100 : decode cX0_remove 100 = .ok (.getfield 18, 3) := by decide +kernel
theorem dX0_remove_103 : decode cX0_remove 103 = .ok (.iload_n 3, 1) := by decide +kernel
theorem dX0_remove_104 : decode cX0_remove 104 = .ok (.iaload, 1) := by decide +kernel
theorem dX0_remove_105 : decode cX0_remove 105 = .ok (.iconst 1, 1) := by decide +kernel
theorem dX0_remove_106 : decode cX0_remove 106 = .ok (.ishr, 1) := by decide +kernel
theorem dX0_remove_107 : decode cX0_remove 107 = .ok (.iload_n 2, 1) := by decide +kernel
theorem dX0_remove_108 : decode cX0_remove 108 = .ok (.iconst (-1), 1) := by decide +kernel
theorem dX0_remove_109 : decode cX0_remove 109 = .ok (.ixor, 1) := by decide +kernel
theorem dX0_remove_110 : decode cX0_remove 110 = .ok (.iand, 1) := by decide +kernel
theorem dX0_remove_111 : decode cX0_remove 111 = .ok (.ior, 1) := by decide +kernel
theorem dX0_remove_112 : decode cX0_remove 112 = .ok (.iastore, 1) := by decide +kernel
theorem dX0_remove_113 : decode cX0_remove 113 = .ok (.iinc 3 1, 3) := by decide +kernel
theorem dX0_remove_116 : decode cX0_remove 116 = .ok (.goto (-38), 3) := by decide +kernel
theorem dX0_remove_119 : decode cX0_remove 119 = .ok (.return_, 1) := by decide +kernel
theorem dX0_copyFrom_0 : decode cX0_copyFrom 0 = .ok (.aload_n 0, 1) := by decide +kernel
theorem dX0_copyFrom_1 : decode cX0_copyFrom 1 = .ok (.aload_n 1, 1) := by decide +kernel
theorem dX0_copyFrom_2 : decode cX0_copyFrom 2 = .ok (.getfield 21, 3) := by decide +kernel
theorem dX0_copyFrom_5 : decode cX0_copyFrom 5 = .ok (.putfield 21, 3) := by decide +kernel
theorem dX0_copyFrom_8 : decode cX0_copyFrom 8 = .ok (.iconst 0, 1) := by decide +kernel
theorem dX0_copyFrom_9 : decode cX0_copyFrom 9 = .ok (.istore_n 2, 1) := by decide +kernel
theorem dX0_copyFrom_10 : decode cX0_copyFrom 10 = .ok (.iload_n 2, 1) := by decide +kernel
theorem dX0_copyFrom_11 : decode cX0_copyFrom 11 = .ok (.aload_n 0, 1) := by decide +kernel
theorem dX0_copyFrom_12 : decode cX0_copyFrom 12 = .ok (.getfield 21, 3) := by decide +kernel
theorem dX0_copyFrom_15 : decode cX0_copyFrom 15 = .ok (.if_icmp .ge 45, 3) := by decide +kernel
theorem dX0_copyFrom_18 : decode cX0_copyFrom 18 = .ok (.aload_n 0, 1) := by decide +kernel
theorem dX0_copyFrom_19 : decode cX0_copyFrom 19 = .ok (.getfield 9, 3) := by decide +kernel
theorem dX0_copyFrom_22 : decode cX0_copyFrom 22 = .ok (.iload_n 2, 1) := by decide +kernel
theorem dX0_copyFrom_23 : decode cX0_copyFrom 23 = .ok (.aload_n 1, 1) := by decide +kernel
theorem dX0_copyFrom_24 : decode cX0_copyFrom 24 = .ok (.getfield 9, 3) := by decide +kernel
theorem dX0_copyFrom_27 : decode cX0_copyFrom 27 = .ok (.iload_n 2, 1) := by decide +kernel
theorem dX0_copyFrom_28 : decode cX0_copyFrom 28 = .ok (.iaload, 1) := by decide +kernel
theorem dX0_copyFrom_29 : decode cX0_copyFrom 29 = .ok (.iastore, 1) := by decide +kernel
theorem dX0_copyFrom_30 : decode cX0_copyFrom 30 = .ok (.aload_n 0, 1) := by decide +kernel
theorem dX0_copyFrom_31 : decode cX0_copyFrom 31 = .ok (.getfield 15, 3) := by decide +kernel
theorem dX0_copyFrom_34 : decode cX0_copyFrom 34 = .ok (.iload_n 2, 1) := by decide +kernel
theorem dX0_copyFrom_35 : decode cX0_copyFrom 35 = .ok (.aload_n 1, 1) := by decide +kernel
theorem dX0_copyFrom_36 : decode cX0_copyFrom 36 = .ok (.getfield 15, 3) := by decide +kernel
theorem dX0_copyFrom_39 : decode cX0_copyFrom 39 = .ok (.iload_n 2, 1) := by decide +kernel
theorem dX0_copyFrom_40 : decode cX0_copyFrom 40 = .ok (.iaload, 1) := by decide +kernel
theorem dX0_copyFrom_41 : decode cX0_copyFrom 41 = .ok (.iastore, 1) := by decide +kernel
theorem dX0_copyFrom_42 : decode cX0_copyFrom 42 = .ok (.aload_n 0, 1) := by decide +kernel
theorem dX0_copyFrom_43 : decode cX0_copyFrom 43 = .ok (.getfield 18, 3) := by decide +kernel
theorem dX0_copyFrom_46 : decode cX0_copyFrom 46 = .ok (.iload_n 2, 1) := by decide +kernel
theorem dX0_copyFrom_47 : decode cX0_copyFrom 47 = .ok (.aload_n 1, 1) := by decide +kernel
theorem dX0_copyFrom_48 : decode cX0_copyFrom 48 = .ok (.getfield 18, 3) := by decide +kernel
theorem dX0_copyFrom_51 : decode cX0_copyFrom 51 = .ok (.iload_n 2, 1) := by decide +kernel
theorem dX0_copyFrom_52 : decode cX0_copyFrom 52 = .ok (.iaload, 1) := by decide +kernel
theorem dX0_copyFrom_53 : decode cX0_copyFrom 53 = .ok (.iastore, 1) := by decide +kernel
theorem dX0_copyFrom_54 : decode cX0_copyFrom 54 = .ok (.iinc 2 1, 3) := by decide +kernel
theorem dX0_copyFrom_57 : decode cX0_copyFrom 57 = .ok (.goto (-47), 3) := by decide +kernel
theorem dX0_copyFrom_60 : decode cX0_copyFrom 60 = .ok (.return_, 1) := by decide +kernel
theorem dX1_winsOf0_0 : decode cX1_winsOf0 0 = .ok (.aload_n 0, 1) := by decide +kernel
theorem dX1_winsOf0_1 : decode cX1_winsOf0 1 = .ok (.invokevirtual 9, 3) := by decide +kernel
theorem dX1_winsOf0_4 : decode cX1_winsOf0 4 = .ok (.istore_n 1, 1) := by decide +kernel
theorem dX1_winsOf0_5 : decode cX1_winsOf0 5 = .ok (.aload_n 0, 1) := by decide +kernel
theorem dX1_winsOf0_6 : decode cX1_winsOf0 6 = .ok (.iconst 0, 1) := by decide +kernel
theorem dX1_winsOf0_7 : decode cX1_winsOf0 7 = .ok (.aload_n 0, 1) := by decide +kernel
theorem dX1_winsOf0_8 : decode cX1_winsOf0 8 = .ok (.iconst 1, 1) := by decide +kernel
theorem dX1_winsOf0_9 : decode cX1_winsOf0 9 = .ok (.invokevirtual 15, 3) := by decide +kernel
theorem dX1_winsOf0_12 : decode cX1_winsOf0 12 = .ok (.iload_n 1, 1) := by decide +kernel
theorem dX1_winsOf0_13 : decode cX1_winsOf0 13 = .ok (.invokestatic 19, 3) := by decide +kernel
theorem dX1_winsOf0_16 : decode cX1_winsOf0 16 = .ok (.istore_n 2, 1) := by decide +kernel
theorem dX1_winsOf0_17 : decode cX1_winsOf0 17 = .ok (.aload_n 0, 1) := by decide +kernel
theorem dX1_winsOf0_18 : decode cX1_winsOf0 18 = .ok (.iconst 1, 1) := by decide +kernel
theorem dX1_winsOf0_19 : decode cX1_winsOf0 19 = .ok (.aload_n 0, 1) := by decide +kernel
theorem dX1_winsOf0_20 : decode cX1_winsOf0 20 = .ok (.iconst 0, 1) := by decide +kernel
theorem dX1_winsOf0_21 : decode cX1_winsOf0 21 = .ok (.invokevirtual 15, 3) := by decide +kernel
theorem dX1_winsOf0_24 : decode cX1_winsOf0 24 = .ok (.iload_n 1, 1) := by decide +kernel
theorem dX1_winsOf0_25 : decode cX1_winsOf0 25 = .ok (.invokestatic 19, 3) := by decide +kernel
theorem dX1_winsOf0_28 : decode cX1_winsOf0 28 = .ok (.istore_n 3, 1) := by decide +kernel
theorem dX1_winsOf0_29 : decode cX1_winsOf0 29 = .ok (.iload_n 2, 1) := by decide +kernel
theorem dX1_winsOf0_30 : decode cX1_winsOf0 30 = .ok (.aload_n 0, 1) := by decide +kernel
theorem dX1_winsOf0_31 : decode cX1_winsOf0 31 = .ok (.iconst 0, 1) := by decide +kernel
theorem dX1_winsOf0_32 : decode cX1_winsOf0 32 = .ok (.iload_n 1, 1) := by decide +kernel
theorem dX1_winsOf0_33 : decode cX1_winsOf0 33 = .ok (.iload_n 2, 1) := by decide +kernel
theorem dX1_winsOf0_34 : decode cX1_winsOf0 34 = .ok (.iconst (-1), 1) := by decide +kernel
theorem dX1_winsOf0_35 : decode cX1_winsOf0 35 = .ok (.ixor, 1) := by decide +kernel
theorem dX1_winsOf0_36 : decode cX1_winsOf0 36 = .ok (.iand, 1) := by decide +kernel
theorem dX1_winsOf0_37 : decode cX1_winsOf0 37 = .ok (.iload_n 3, 1) := by decide +kernel
theorem dX1_winsOf0_38 : decode cX1_winsOf0 38 = .ok (.iconst (-1), 1) := by decide +kernel
theorem dX1_winsOf0_39 : decode cX1_winsOf0 39 = .ok (.ixor, 1) := by decide +kernel
theorem dX1_winsOf0_40 : decode cX1_winsOf0 40 = .ok (.iand, 1) := by decide +kernel
theorem dX1_winsOf0_41 : decode cX1_winsOf0 41 = .ok (.iconst 5, 1) := by decide +kernel
theorem dX1_winsOf0_42 : decode cX1_winsOf0 42 = .ok (.invokestatic 25, 3) := by decide +kernel
theorem dX1_winsOf0_45 : decode cX1_winsOf0 45 = .ok (.ior, 1) := by decide +kernel
theorem dX1_winsOf0_46 : decode cX1_winsOf0 46 = .ok (.ireturn, 1) := by decide +kernel
theorem dX1_winsWithin_0 : decode cX1_winsWithin 0 = .ok (.iload_n 2, 1) := by decide +kernel
theorem dX1_winsWithin_1 : decode cX1_winsWithin 1 = .ok (.ifCond .eq 7, 3) := by decide +kernel
theorem dX1_winsWithin_4 : decode cX1_winsWithin 4 = .ok (.iload_n 3, 1) := by decide +kernel
theorem dX1_winsWithin_5 : decode cX1_winsWithin 5 = .ok (.ifCond .ge 5, 3) := by decide +kernel
theorem dX1_winsWithin_8 : decode cX1_winsWithin 8 = .ok (.iconst 0, 1) := by decide +kernel
theorem dX1_winsWithin_9 : decode cX1_winsWithin 9 = .ok (.ireturn, 1) := by decide +kernel
theorem dX1_winsWithin_10 : decode cX1_winsWithin 10 = .ok (.aload_n 0, 1) := by decide +kernel
theorem dX1_winsWithin_11 : decode cX1_winsWithin 11 = .ok (.iload_n 3, 1) := by decide +kernel
theorem dX1_winsWithin_12 : decode cX1_winsWithin 12 = .ok (.invokevirtual 28, 3) := by decide +kernel
theorem dX1_winsWithin_15 : decode cX1_winsWithin 15 = .ok (.istore 4, 2) := by decide +kernel
theorem dX1_winsWithin_17 : decode cX1_winsWithin 17 = .ok (.iload_n 3, 1) := by decide +kernel
theorem dX1_winsWithin_18 : decode cX1_winsWithin 18 = .ok (.iconst 2, 1) := by decide +kernel
theorem dX1_winsWithin_19 : decode cX1_winsWithin 19 = .ok (.irem, 1) := by decide +kernel
theorem dX1_winsWithin_20 : decode cX1_winsWithin 20 = .ok (.istore 5, 2) := by decide +kernel
theorem dX1_winsWithin_22 : decode cX1_winsWithin 22 = .ok (.iconst 1, 1) := by decide +kernel
theorem dX1_winsWithin_23 : decode cX1_winsWithin 23 = .ok (.iload 5, 2) := by decide +kernel
theorem dX1_winsWithin_25 : decode cX1_winsWithin 25 = .ok (.isub, 1) := by decide +kernel
theorem dX1_winsWithin_26 : decode cX1_winsWithin 26 = .ok (.istore 6, 2) := by decide +kernel
theorem dX1_winsWithin_28 : decode cX1_winsWithin 28 = .ok (.iload_n 2, 1) := by decide +kernel
theorem dX1_winsWithin_29 : decode cX1_winsWithin 29 = .ok (.istore 7, 2) := by decide +kernel
theorem dX1_winsWithin_31 : decode cX1_winsWithin 31 = .ok (.iconst 0, 1) := by decide +kernel
theorem dX1_winsWithin_32 : decode cX1_winsWithin 32 = .ok (.istore 8, 2) := by decide +kernel
theorem dX1_winsWithin_34 : decode cX1_winsWithin 34 = .ok (.iload 8, 2) := by decide +kernel
theorem dX1_winsWithin_36 : decode cX1_winsWithin 36 = .ok (.bipush 12, 2) := by decide +kernel
theorem dX1_winsWithin_38 : decode cX1_winsWithin 38 = .ok (.if_icmp .gt 91, 3) := by decide +kernel
theorem dX1_winsWithin_41 : decode cX1_winsWithin 41 = .ok (.iload 7, 2) := by decide +kernel
theorem dX1_winsWithin_43 : decode cX1_winsWithin 43 = .ok (.iload 4, 2) := by decide +kernel
theorem dX1_winsWithin_45 : decode cX1_winsWithin 45 = .ok (.iand, 1) := by decide +kernel
theorem dX1_winsWithin_46 : decode cX1_winsWithin 46 = .ok (.ifCond .ne 19, 3) := by decide +kernel
theorem dX1_winsWithin_49 : decode cX1_winsWithin 49 = .ok (.aload_n 0, 1) := by decide +kernel
theorem dX1_winsWithin_50 : decode cX1_winsWithin 50 = .ok (.iload 5, 2) := by decide +kernel
theorem dX1_winsWithin_52 : decode cX1_winsWithin 52 = .ok (.iload 7, 2) := by decide +kernel
theorem dX1_winsWithin_54 : decode cX1_winsWithin 54 = .ok (.iload_n 3, 1) := by decide +kernel
theorem dX1_winsWithin_55 : decode cX1_winsWithin 55 = .ok (.iconst 1, 1) := by decide +kernel
theorem dX1_winsWithin_56 : decode cX1_winsWithin 56 = .ok (.isub, 1) := by decide +kernel
theorem dX1_winsWithin_57 : decode cX1_winsWithin 57 = .ok (.invokestatic 25, 3) := by decide +kernel
theorem dX1_winsWithin_60 : decode cX1_winsWithin 60 = .ok (.istore 7, 2) := by decide +kernel
theorem dX1_winsWithin_62 : decode cX1_winsWithin 62 = .ok (.goto 67, 3) := by decide +kernel
theorem dX1_winsWithin_65 : decode cX1_winsWithin 65 = .ok (.iload 7, 2) := by decide +kernel
theorem dX1_winsWithin_67 : decode cX1_winsWithin 67 = .ok (.aload_n 0, 1) := by decide +kernel
theorem dX1_winsWithin_68 : decode cX1_winsWithin 68 = .ok (.iload 5, 2) := by decide +kernel
theorem dX1_winsWithin_70 : decode cX1_winsWithin 70 = .ok (.iload 7, 2) := by decide +kernel
theorem dX1_winsWithin_72 : decode cX1_winsWithin 72 = .ok (.iload 4, 2) := by decide +kernel
theorem dX1_winsWithin_74 : decode cX1_winsWithin 74 = .ok (.iand, 1) := by decide +kernel
theorem dX1_winsWithin_75 : decode cX1_winsWithin 75 = .ok (.iload 7, 2) := by decide +kernel
theorem dX1_winsWithin_77 : decode cX1_winsWithin 77 = .ok (.invokestatic 19, 3) := by decide +kernel
theorem dX1_winsWithin_80 : decode cX1_winsWithin 80 = .ok (.iconst (-1), 1) := by decide +kernel
theorem dX1_winsWithin_81 : decode cX1_winsWithin 81 = .ok (.ixor, 1) := by decide +kernel
theorem dX1_winsWithin_82 : decode cX1_winsWithin 82 = .ok (.iand, 1) := by decide +kernel
theorem dX1_winsWithin_83 : decode cX1_winsWithin 83 = .ok (.istore 9, 2) := by decide +kernel
theorem dX1_winsWithin_85 : decode cX1_winsWithin 85 = .ok (.aload_n 0, 1) := by decide +kernel
theorem dX1_winsWithin_86 : decode cX1_winsWithin 86 = .ok (.iload 6, 2) := by decide +kernel
theorem dX1_winsWithin_88 : decode cX1_winsWithin 88 = .ok (.iload 9, 2) := by decide +kernel
theorem dX1_winsWithin_90 : decode cX1_winsWithin 90 = .ok (.iload_n 3, 1) := by decide +kernel
theorem dX1_winsWithin_91 : decode cX1_winsWithin 91 = .ok (.iconst 1, 1) := by decide +kernel
theorem dX1_winsWithin_92 : decode cX1_winsWithin 92 = .ok (.isub, 1) := by decide +kernel
theorem dX1_winsWithin_93 : decode cX1_winsWithin 93 = .ok (.invokestatic 25, 3) := by decide +kernel
theorem dX1_winsWithin_96 : decode cX1_winsWithin 96 = .ok (.istore 10, 2) := by decide +kernel
theorem dX1_winsWithin_98 : decode cX1_winsWithin 98 = .ok (.iload 10, 2) := by decide +kernel
theorem dX1_winsWithin_100 : decode cX1_winsWithin 100 = .ok (.ifCond .ne 6, 3) := by decide +kernel
theorem dX1_winsWithin_103 : decode cX1_winsWithin 103 = .ok (.goto 26, 3) := by decide +kernel
theorem dX1_winsWithin_106 : decode cX1_winsWithin 106 = .ok (.iload 7, 2) := by decide +kernel
theorem dX1_winsWithin_108 : decode cX1_winsWithin 108 = .ok (.aload_n 0, 1) := by decide +kernel
theorem dX1_winsWithin_109 : decode cX1_winsWithin 109 = .ok (.iload 6, 2) := by decide +kernel
theorem dX1_winsWithin_111 : decode cX1_winsWithin 111 = .ok (.iload 10, 2) := by decide +kernel
theorem dX1_winsWithin_113 : decode cX1_winsWithin 113 = .ok (.iload 7, 2) := by decide +kernel
theorem dX1_winsWithin_115 : decode cX1_winsWithin 115 = .ok (.invokestatic 19, 3) := by decide +kernel
theorem dX1_winsWithin_118 : decode cX1_winsWithin 118 = .ok (.iconst (-1), 1) := by decide +kernel
theorem dX1_winsWithin_119 : decode cX1_winsWithin 119 = .ok (.ixor, 1) := by decide +kernel
theorem dX1_winsWithin_120 : decode cX1_winsWithin 120 = .ok (.iand, 1) := by decide +kernel
theorem dX1_winsWithin_121 : decode cX1_winsWithin 121 = .ok (.istore 7, 2) := by decide +kernel
theorem dX1_winsWithin_123 : decode cX1_winsWithin 123 = .ok (.iinc 8 1, 3) := by decide +kernel
theorem dX1_winsWithin_126 : decode cX1_winsWithin 126 = .ok (.goto (-92), 3) := by decide +kernel
theorem dX1_winsWithin_129 : decode cX1_winsWithin 129 = .ok (.iload_n 1, 1) := by decide +kernel
theorem dX1_winsWithin_130 : decode cX1_winsWithin 130 = .ok (.iload 5, 2) := by decide +kernel
theorem dX1_winsWithin_132 : decode cX1_winsWithin 132 = .ok (.if_icmp .ne 8, 3) := by decide +kernel
theorem dX1_winsWithin_135 : decode cX1_winsWithin 135 = .ok (.iload 7, 2) := by decide +kernel
theorem dX1_winsWithin_137 : decode cX1_winsWithin 137 = .ok (.goto 9, 3) := by decide +kernel
theorem dX1_winsWithin_140 : decode cX1_winsWithin 140 = .ok (.iload_n 2, 1) := by decide +kernel
theorem dX1_winsWithin_141 : decode cX1_winsWithin 141 = .ok (.iload 7, 2) := by decide +kernel
theorem dX1_winsWithin_143 : decode cX1_winsWithin 143 = .ok (.iconst (-1), 1) := by decide +kernel
theorem dX1_winsWithin_144 : decode cX1_winsWithin 144 = .ok (.ixor, 1) := by decide +kernel
theorem dX1_winsWithin_145 : decode cX1_winsWithin 145 = .ok (.iand, 1) := by decide +kernel
theorem dX1_winsWithin_146 : decode cX1_winsWithin 146 = .ok (.ireturn, 1) := by decide +kernel
theorem dX1_pull_0 : decode cX1_pull 0 = .ok (.iload_n 2, 1) := by decide +kernel
theorem dX1_pull_1 : decode cX1_pull 1 = .ok (.istore 4, 2) := by decide +kernel
theorem dX1_pull_3 : decode cX1_pull 3 = .ok (.iconst 0, 1) := by decide +kernel
theorem dX1_pull_4 : decode cX1_pull 4 = .ok (.istore 5, 2) := by decide +kernel
theorem dX1_pull_6 : decode cX1_pull 6 = .ok (.iload 5, 2) := by decide +kernel
theorem dX1_pull_8 : decode cX1_pull 8 = .ok (.bipush 12, 2) := by decide +kernel
theorem dX1_pull_10 : decode cX1_pull 10 = .ok (.if_icmp .ge 33, 3) := by decide +kernel
theorem dX1_pull_13 : decode cX1_pull 13 = .ok (.aload_n 0, 1) := by decide +kernel
theorem dX1_pull_14 : decode cX1_pull 14 = .ok (.iload_n 1, 1) := by decide +kernel
theorem dX1_pull_15 : decode cX1_pull 15 = .ok (.iload 4, 2) := by decide +kernel
theorem dX1_pull_17 : decode cX1_pull 17 = .ok (.iload_n 3, 1) := by decide +kernel
theorem dX1_pull_18 : decode cX1_pull 18 = .ok (.invokestatic 31, 3) := by decide +kernel
theorem dX1_pull_21 : decode cX1_pull 21 = .ok (.istore 6, 2) := by decide +kernel
theorem dX1_pull_23 : decode cX1_pull 23 = .ok (.iload 6, 2) := by decide +kernel
theorem dX1_pull_25 : decode cX1_pull 25 = .ok (.iload 4, 2) := by decide +kernel
theorem dX1_pull_27 : decode cX1_pull 27 = .ok (.if_icmp .ne 6, 3) := by decide +kernel
theorem dX1_pull_30 : decode cX1_pull 30 = .ok (.goto 13, 3) := by decide +kernel
theorem dX1_pull_33 : decode cX1_pull 33 = .ok (.iload 6, 2) := by decide +kernel
theorem dX1_pull_35 : decode cX1_pull 35 = .ok (.istore 4, 2) := by decide +kernel
theorem dX1_pull_37 : decode cX1_pull 37 = .ok (.iinc 5 1, 3) := by decide +kernel
theorem dX1_pull_40 : decode cX1_pull 40 = .ok (.goto (-34), 3) := by decide +kernel
theorem dX1_pull_43 : decode cX1_pull 43 = .ok (.iload 4, 2) := by decide +kernel
theorem dX1_pull_45 : decode cX1_pull 45 = .ok (.ireturn, 1) := by decide +kernel
theorem dX1_pullOnce_0 : decode cX1_pullOnce 0 = .ok (.iload_n 2, 1) := by decide +kernel
theorem dX1_pullOnce_1 : decode cX1_pullOnce 1 = .ok (.istore 4, 2) := by decide +kernel
theorem dX1_pullOnce_3 : decode cX1_pullOnce 3 = .ok (.iconst 0, 1) := by decide +kernel
theorem dX1_pullOnce_4 : decode cX1_pullOnce 4 = .ok (.istore 5, 2) := by decide +kernel
theorem dX1_pullOnce_6 : decode cX1_pullOnce 6 = .ok (.iload 5, 2) := by decide +kernel
theorem dX1_pullOnce_8 : decode cX1_pullOnce 8 = .ok (.aload_n 0, 1) := by decide +kernel
theorem dX1_pullOnce_9 : decode cX1_pullOnce 9 = .ok (.getfield 34, 3) := by decide +kernel
theorem dX1_pullOnce_12 : decode cX1_pullOnce 12 = .ok (.if_icmp .ge 71, 3) := by decide +kernel
theorem dX1_pullOnce_15 : decode cX1_pullOnce 15 = .ok (.iload_n 3, 1) := by decide +kernel
theorem dX1_pullOnce_16 : decode cX1_pullOnce 16 = .ok (.iload_n 2, 1) := by decide +kernel
theorem dX1_pullOnce_17 : decode cX1_pullOnce 17 = .ok (.iconst (-1), 1) := by decide +kernel
theorem dX1_pullOnce_18 : decode cX1_pullOnce 18 = .ok (.ixor, 1) := by decide +kernel
theorem dX1_pullOnce_19 : decode cX1_pullOnce 19 = .ok (.iand, 1) := by decide +kernel
theorem dX1_pullOnce_20 : decode cX1_pullOnce 20 = .ok (.iconst 1, 1) := by decide +kernel
theorem dX1_pullOnce_21 : decode cX1_pullOnce 21 = .ok (.iload 5, 2) := by decide +kernel
theorem dX1_pullOnce_23 : decode cX1_pullOnce 23 = .ok (.ishl, 1) := by decide +kernel
theorem dX1_pullOnce_24 : decode cX1_pullOnce 24 = .ok (.iand, 1) := by decide +kernel
theorem dX1_pullOnce_25 : decode cX1_pullOnce 25 = .ok (.ifCond .eq 52, 3) := by decide +kernel
theorem dX1_pullOnce_28 : decode cX1_pullOnce 28 = .ok (.aload_n 0, 1) := by decide +kernel
theorem dX1_pullOnce_29 : decode cX1_pullOnce 29 = .ok (.getfield 38, 3) := by decide +kernel
theorem dX1_pullOnce_32 : decode cX1_pullOnce 32 = .ok (.iload 5, 2) := by decide +kernel
theorem dX1_pullOnce_34 : decode cX1_pullOnce 34 = .ok (.iaload, 1) := by decide +kernel
theorem dX1_pullOnce_35 : decode cX1_pullOnce 35 = .ok (.iload_n 3, 1) := by decide +kernel
theorem dX1_pullOnce_36 : decode cX1_pullOnce 36 = .ok (.iand, 1) := by decide +kernel
theorem dX1_pullOnce_37 : decode cX1_pullOnce 37 = .ok (.istore 6, 2) := by decide +kernel
theorem dX1_pullOnce_39 : decode cX1_pullOnce 39 = .ok (.iload 6, 2) := by decide +kernel
theorem dX1_pullOnce_41 : decode cX1_pullOnce 41 = .ok (.iload_n 2, 1) := by decide +kernel
theorem dX1_pullOnce_42 : decode cX1_pullOnce 42 = .ok (.iand, 1) := by decide +kernel
theorem dX1_pullOnce_43 : decode cX1_pullOnce 43 = .ok (.istore 7, 2) := by decide +kernel
theorem dX1_pullOnce_45 : decode cX1_pullOnce 45 = .ok (.iload 7, 2) := by decide +kernel
theorem dX1_pullOnce_47 : decode cX1_pullOnce 47 = .ok (.ifCond .eq 30, 3) := by decide +kernel
theorem dX1_pullOnce_50 : decode cX1_pullOnce 50 = .ok (.aload_n 0, 1) := by decide +kernel
theorem dX1_pullOnce_51 : decode cX1_pullOnce 51 = .ok (.getfield 42, 3) := by decide +kernel
theorem dX1_pullOnce_54 : decode cX1_pullOnce 54 = .ok (.iload 5, 2) := by decide +kernel
theorem dX1_pullOnce_56 : decode cX1_pullOnce 56 = .ok (.iaload, 1) := by decide +kernel
theorem dX1_pullOnce_57 : decode cX1_pullOnce 57 = .ok (.iload_n 1, 1) := by decide +kernel
theorem dX1_pullOnce_58 : decode cX1_pullOnce 58 = .ok (.if_icmp .eq 10, 3) := by decide +kernel
theorem dX1_pullOnce_61 : decode cX1_pullOnce 61 = .ok (.iload 7, 2) := by decide +kernel
theorem dX1_pullOnce_63 : decode cX1_pullOnce 63 = .ok (.iload 6, 2) := by decide +kernel
theorem dX1_pullOnce_65 : decode cX1_pullOnce 65 = .ok (.if_icmp .ne 12, 3) := by decide +kernel
theorem dX1_pullOnce_68 : decode cX1_pullOnce 68 = .ok (.iload 4, 2) := by decide +kernel
theorem dX1_pullOnce_70 : decode cX1_pullOnce 70 = .ok (.iconst 1, 1) := by decide +kernel
theorem dX1_pullOnce_71 : decode cX1_pullOnce 71 = .ok (.iload 5, 2) := by decide +kernel
theorem dX1_pullOnce_73 : decode cX1_pullOnce 73 = .ok (.ishl, 1) := by decide +kernel
theorem dX1_pullOnce_74 : decode cX1_pullOnce 74 = .ok (.ior, 1) := by decide +kernel
theorem dX1_pullOnce_75 : decode cX1_pullOnce 75 = .ok (.istore 4, 2) := by decide +kernel
theorem dX1_pullOnce_77 : decode cX1_pullOnce 77 = .ok (.iinc 5 1, 3) := by decide +kernel
theorem dX1_pullOnce_80 : decode cX1_pullOnce 80 = .ok (.goto (-74), 3) := by decide +kernel
theorem dX1_pullOnce_83 : decode cX1_pullOnce 83 = .ok (.iload 4, 2) := by decide +kernel
theorem dX1_pullOnce_85 : decode cX1_pullOnce 85 = .ok (.ireturn, 1) := by decide +kernel
theorem dX2_init_0 : decode cX2_init 0 = .ok (.aload_n 0, 1) := by decide +kernel
theorem dX2_init_1 : decode cX2_init 1 = .ok (.invokespecial 3, 3) := by decide +kernel
theorem dX2_init_4 : decode cX2_init 4 = .ok (.aload_n 0, 1) := by decide +kernel
theorem dX2_init_5 : decode cX2_init 5 = .ok (.bipush 80, 2) := by decide +kernel
theorem dX2_init_7 : decode cX2_init 7 = .ok (.newarray .char, 2) := by decide +kernel
theorem dX2_init_9 : decode cX2_init 9 = .ok (.putfield 9, 3) := by decide +kernel
theorem dX2_init_12 : decode cX2_init 12 = .ok (.aload_n 0, 1) := by decide +kernel
theorem dX2_init_13 : decode cX2_init 13 = .ok (.new 15, 3) := by decide +kernel
theorem dX2_init_16 : decode cX2_init 16 = .ok (.dup, 1) := by decide +kernel
theorem dX2_init_17 : decode cX2_init 17 = .ok (.invokespecial 17, 3) := by decide +kernel
theorem dX2_init_20 : decode cX2_init 20 = .ok (.putfield 18, 3) := by decide +kernel
theorem dX2_init_23 : decode cX2_init 23 = .ok (.aload_n 0, 1) := by decide +kernel
theorem dX2_init_24 : decode cX2_init 24 = .ok (.bipush 80, 2) := by decide +kernel
theorem dX2_init_26 : decode cX2_init 26 = .ok (.newarray .int, 2) := by decide +kernel
theorem dX2_init_28 : decode cX2_init 28 = .ok (.putfield 22, 3) := by decide +kernel
theorem dX2_init_31 : decode cX2_init 31 = .ok (.aload_n 0, 1) := by decide +kernel
theorem dX2_init_32 : decode cX2_init 32 = .ok (.bipush 80, 2) := by decide +kernel
theorem dX2_init_34 : decode cX2_init 34 = .ok (.newarray .int, 2) := by decide +kernel
theorem dX2_init_36 : decode cX2_init 36 = .ok (.putfield 26, 3) := by decide +kernel
theorem dX2_init_39 : decode cX2_init 39 = .ok (.return_, 1) := by decide +kernel
theorem dX2_append_0 : decode cX2_append 0 = .ok (.aload_n 0, 1) := by decide +kernel
theorem dX2_append_1 : decode cX2_append 1 = .ok (.getfield 29, 3) := by decide +kernel
theorem dX2_append_4 : decode cX2_append 4 = .ok (.bipush 80, 2) := by decide +kernel
theorem dX2_append_6 : decode cX2_append 6 = .ok (.if_icmp .ge 23, 3) := by decide +kernel
theorem dX2_append_9 : decode cX2_append 9 = .ok (.aload_n 0, 1) := by decide +kernel
theorem dX2_append_10 : decode cX2_append 10 = .ok (.getfield 9, 3) := by decide +kernel
theorem dX2_append_13 : decode cX2_append 13 = .ok (.aload_n 0, 1) := by decide +kernel
theorem dX2_append_14 : decode cX2_append 14 = .ok (.getfield 29, 3) := by decide +kernel
theorem dX2_append_17 : decode cX2_append 17 = .ok (.iload_n 1, 1) := by decide +kernel
theorem dX2_append_18 : decode cX2_append 18 = .ok (.castore, 1) := by decide +kernel
theorem dX2_append_19 : decode cX2_append 19 = .ok (.aload_n 0, 1) := by decide +kernel
theorem dX2_append_20 : decode cX2_append 20 = .ok (.dup, 1) := by decide +kernel
theorem dX2_append_21 : decode cX2_append 21 = .ok (.getfield 29, 3) := by decide +kernel
theorem dX2_append_24 : decode cX2_append 24 = .ok (.iconst 1, 1) := by decide +kernel
theorem dX2_append_25 : decode cX2_append 25 = .ok (.iadd, 1) := by decide +kernel
theorem dX2_append_26 : decode cX2_append 26 = .ok (.putfield 29, 3) := by decide +kernel
theorem dX2_append_29 : decode cX2_append 29 = .ok (.return_, 1) := by decide +kernel
theorem dX2_isField_0 : decode cX2_isField 0 = .ok (.aload_n 0, 1) := by decide +kernel
theorem dX2_isField_1 : decode cX2_isField 1 = .ok (.iconst 0, 1) := by decide +kernel
theorem dX2_isField_2 : decode cX2_isField 2 = .ok (.putfield 33, 3) := by decide +kernel
theorem dX2_isField_5 : decode cX2_isField 5 = .ok (.aload_n 0, 1) := by decide +kernel
theorem dX2_isField_6 : decode cX2_isField 6 = .ok (.iconst 0, 1) := by decide +kernel
theorem dX2_isField_7 : decode cX2_isField 7 = .ok (.putfield 36, 3) := by decide +kernel
theorem dX2_isField_10 : decode cX2_isField 10 = .ok (.aload_n 0, 1) := by decide +kernel
theorem dX2_isField_11 : decode cX2_isField 11 = .ok (.getfield 18, 3) := by decide +kernel
theorem dX2_isField_14 : decode cX2_isField 14 = .ok (.iconst 0, 1) := by decide +kernel
theorem dX2_isField_15 : decode cX2_isField 15 = .ok (.putfield 39, 3) := by decide +kernel
theorem dX2_isField_18 : decode cX2_isField 18 = .ok (.aload_n 0, 1) := by decide +kernel
theorem dX2_isField_19 : decode cX2_isField 19 = .ok (.invokevirtual 42, 3) := by decide +kernel
theorem dX2_isField_22 : decode cX2_isField 22 = .ok (.ifCond .eq 14, 3) := by decide +kernel
theorem dX2_isField_25 : decode cX2_isField 25 = .ok (.aload_n 0, 1) := by decide +kernel
theorem dX2_isField_26 : decode cX2_isField 26 = .ok (.invokevirtual 46, 3) := by decide +kernel
theorem dX2_isField_29 : decode cX2_isField 29 = .ok (.ifCond .eq 7, 3) := by decide +kernel
theorem dX2_isField_32 : decode cX2_isField 32 = .ok (.iconst 1, 1) := by decide +kernel
theorem dX2_isField_33 : decode cX2_isField 33 = .ok (.goto 4, 3) := by decide +kernel
theorem dX2_isField_36 : decode cX2_isField 36 = .ok (.iconst 0, 1) := by decide +kernel
theorem dX2_isField_37 : decode cX2_isField 37 = .ok (.ireturn, 1) := by decide +kernel
theorem dX2_lookAtPlaces_0 : decode cX2_lookAtPlaces 0 = .ok (.iconst 0, 1) := by decide +kernel
theorem dX2_lookAtPlaces_1 : decode cX2_lookAtPlaces 1 = .ok (.istore_n 1, 1) := by decide +kernel
theorem dX2_lookAtPlaces_2 : decode cX2_lookAtPlaces 2 = .ok (.iload_n 1, 1) := by decide +kernel
theorem dX2_lookAtPlaces_3 : decode cX2_lookAtPlaces 3 = .ok (.bipush 12, 2) := by decide +kernel
theorem dX2_lookAtPlaces_5 : decode cX2_lookAtPlaces 5 = .ok (.if_icmp .ge 60, 3) := by decide +kernel
theorem dX2_lookAtPlaces_8 : decode cX2_lookAtPlaces 8 = .ok (.aload_n 0, 1) := by decide +kernel
theorem dX2_lookAtPlaces_9 : decode cX2_lookAtPlaces 9 = .ok (.invokevirtual 49, 3) := by decide +kernel
theorem dX2_lookAtPlaces_12 : decode cX2_lookAtPlaces 12 = .ok (.ifCond .ne 5, 3) := by decide +kernel
theorem dX2_lookAtPlaces_15 : decode cX2_lookAtPlaces 15 = .ok (.iconst 0, 1) := by decide +kernel
theorem dX2_lookAtPlaces_16 : decode cX2_lookAtPlaces 16 = .ok (.ireturn, 1) := by decide +kernel
theorem dX2_lookAtPlaces_17 : decode cX2_lookAtPlaces 17 = .ok (.aload_n 0, 1) := by decide +kernel
theorem dX2_lookAtPlaces_18 : decode cX2_lookAtPlaces 18 = .ok (.getfield 33, 3) := by decide +kernel
theorem dX2_lookAtPlaces_21 : decode cX2_lookAtPlaces 21 = .ok (.aload_n 0, 1) := by decide +kernel
theorem dX2_lookAtPlaces_22 : decode cX2_lookAtPlaces 22 = .ok (.getfield 29, 3) := by decide +kernel
theorem dX2_lookAtPlaces_25 : decode cX2_lookAtPlaces 25 = .ok (.if_icmp .lt 5, 3) := by decide +kernel
theorem dX2_lookAtPlaces_28 : decode cX2_lookAtPlaces 28 = .ok (.iconst 1, 1) := by decide +kernel
theorem dX2_lookAtPlaces_29 : decode cX2_lookAtPlaces 29 = .ok (.ireturn, 1) := by decide +kernel
theorem dX2_lookAtPlaces_30 : decode cX2_lookAtPlaces 30 = .ok (.aload_n 0, 1) := by decide +kernel
theorem dX2_lookAtPlaces_31 : decode cX2_lookAtPlaces 31 = .ok (.invokevirtual 52, 3) := by decide +kernel
theorem dX2_lookAtPlaces_34 : decode cX2_lookAtPlaces 34 = .ok (.bipush 59, 2) := by decide +kernel
theorem dX2_lookAtPlaces_36 : decode cX2_lookAtPlaces 36 = .ok (.if_icmp .eq 13, 3) := by decide +kernel
theorem dX2_lookAtPlaces_39 : decode cX2_lookAtPlaces 39 = .ok (.aload_n 0, 1) := by decide +kernel
theorem dX2_lookAtPlaces_40 : decode cX2_lookAtPlaces 40 = .ok (.aload_n 0, 1) := by decide +kernel
theorem dX2_lookAtPlaces_41 : decode cX2_lookAtPlaces 41 = .ok (.getfield 33, 3) := by decide +kernel
theorem dX2_lookAtPlaces_44 : decode cX2_lookAtPlaces 44 = .ok (.iconst 1, 1) := by decide +kernel
theorem dX2_lookAtPlaces_45 : decode cX2_lookAtPlaces 45 = .ok (.invokevirtual 56, 3) := by decide +kernel
theorem dX2_lookAtPlaces_48 : decode cX2_lookAtPlaces 48 = .ok (.ireturn, 1) := by decide +kernel
theorem dX2_lookAtPlaces_49 : decode cX2_lookAtPlaces 49 = .ok (.aload_n 0, 1) := by decide +kernel
theorem dX2_lookAtPlaces_50 : decode cX2_lookAtPlaces 50 = .ok (.dup, 1) := by decide +kernel
theorem dX2_lookAtPlaces_51 : decode cX2_lookAtPlaces 51 = .ok (.getfield 33, 3) := by decide +kernel
theorem dX2_lookAtPlaces_54 : decode cX2_lookAtPlaces 54 = .ok (.iconst 1, 1) := by decide +kernel
theorem dX2_lookAtPlaces_55 : decode cX2_lookAtPlaces 55 = .ok (.iadd, 1) := by decide +kernel
theorem dX2_lookAtPlaces_56 : decode cX2_lookAtPlaces 56 = .ok (.putfield 33, 3) := by decide +kernel
theorem dX2_lookAtPlaces_59 : decode cX2_lookAtPlaces 59 = .ok (.iinc 1 1, 3) := by decide +kernel
theorem dX2_lookAtPlaces_62 : decode cX2_lookAtPlaces 62 = .ok (.goto (-60), 3) := by decide +kernel
theorem dX2_lookAtPlaces_65 : decode cX2_lookAtPlaces 65 = .ok (.aload_n 0, 1) := by decide +kernel
theorem dX2_lookAtPlaces_66 : decode cX2_lookAtPlaces 66 = .ok (.aload_n 0, 1) := by decide +kernel
theorem dX2_lookAtPlaces_67 : decode cX2_lookAtPlaces 67 = .ok (.getfield 33, 3) := by decide +kernel
theorem dX2_lookAtPlaces_70 : decode cX2_lookAtPlaces 70 = .ok (.iconst 1, 1) := by decide +kernel
theorem dX2_lookAtPlaces_71 : decode cX2_lookAtPlaces 71 = .ok (.isub, 1) := by decide +kernel
theorem dX2_lookAtPlaces_72 : decode cX2_lookAtPlaces 72 = .ok (.iconst 4, 1) := by decide +kernel
theorem dX2_lookAtPlaces_73 : decode cX2_lookAtPlaces 73 = .ok (.invokevirtual 56, 3) := by decide +kernel
theorem dX2_lookAtPlaces_76 : decode cX2_lookAtPlaces 76 = .ok (.ireturn, 1) := by decide +kernel
theorem dX2_lookAtPlace_0 : decode cX2_lookAtPlace 0 = .ok (.aload_n 0, 1) := by decide +kernel
theorem dX2_lookAtPlace_1 : decode cX2_lookAtPlace 1 = .ok (.invokevirtual 52, 3) := by decide +kernel
theorem dX2_lookAtPlace_4 : decode cX2_lookAtPlace 4 = .ok (.bipush 101, 2) := by decide +kernel
theorem dX2_lookAtPlace_6 : decode cX2_lookAtPlace 6 = .ok (.if_icmp .ne 7, 3) := by decide +kernel
theorem dX2_lookAtPlace_9 : decode cX2_lookAtPlace 9 = .ok (.iconst 0, 1) := by decide +kernel
theorem dX2_lookAtPlace_10 : decode cX2_lookAtPlace 10 = .ok (.goto 4, 3) := by decide +kernel
theorem dX2_lookAtPlace_13 : decode cX2_lookAtPlace 13 = .ok (.iconst 1, 1) := by decide +kernel
theorem dX2_lookAtPlace_14 : decode cX2_lookAtPlace 14 = .ok (.istore_n 1, 1) := by decide +kernel
theorem dX2_lookAtPlace_15 : decode cX2_lookAtPlace 15 = .ok (.iload_n 1, 1) := by decide +kernel
theorem dX2_lookAtPlace_16 : decode cX2_lookAtPlace 16 = .ok (.iconst 1, 1) := by decide +kernel
theorem dX2_lookAtPlace_17 : decode cX2_lookAtPlace 17 = .ok (.if_icmp .ne 22, 3) := by decide +kernel
theorem dX2_lookAtPlace_20 : decode cX2_lookAtPlace 20 = .ok (.aload_n 0, 1) := by decide +kernel
theorem dX2_lookAtPlace_21 : decode cX2_lookAtPlace 21 = .ok (.invokevirtual 52, 3) := by decide +kernel
theorem dX2_lookAtPlace_24 : decode cX2_lookAtPlace 24 = .ok (.bipush 111, 2) := by decide +kernel
theorem dX2_lookAtPlace_26 : decode cX2_lookAtPlace 26 = .ok (.if_icmp .eq 13, 3) := by decide +kernel
theorem dX2_lookAtPlace_29 : decode cX2_lookAtPlace 29 = .ok (.aload_n 0, 1) := by decide +kernel
theorem dX2_lookAtPlace_30 : decode cX2_lookAtPlace 30 = .ok (.aload_n 0, 1) := by decide +kernel
theorem dX2_lookAtPlace_31 : decode cX2_lookAtPlace 31 = .ok (.getfield 33, 3) := by decide +kernel
theorem dX2_lookAtPlace_34 : decode cX2_lookAtPlace 34 = .ok (.iconst 1, 1) := by decide +kernel
theorem dX2_lookAtPlace_35 : decode cX2_lookAtPlace 35 = .ok (.invokevirtual 56, 3) := by decide +kernel
theorem dX2_lookAtPlace_38 : decode cX2_lookAtPlace 38 = .ok (.ireturn, 1) := by decide +kernel
theorem dX2_lookAtPlace_39 : decode cX2_lookAtPlace 39 = .ok (.aload_n 0, 1) := by decide +kernel
theorem dX2_lookAtPlace_40 : decode cX2_lookAtPlace 40 = .ok (.dup, 1) := by decide +kernel
theorem dX2_lookAtPlace_41 : decode cX2_lookAtPlace 41 = .ok (.getfield 33, 3) := by decide +kernel
theorem dX2_lookAtPlace_44 : decode cX2_lookAtPlace 44 = .ok (.iconst 1, 1) := by decide +kernel
theorem dX2_lookAtPlace_45 : decode cX2_lookAtPlace 45 = .ok (.iadd, 1) := by decide +kernel
theorem dX2_lookAtPlace_46 : decode cX2_lookAtPlace 46 = .ok (.putfield 33, 3) := by decide +kernel
theorem dX2_lookAtPlace_49 : decode cX2_lookAtPlace 49 = .ok (.aload_n 0, 1) := by decide +kernel
theorem dX2_lookAtPlace_50 : decode cX2_lookAtPlace 50 = .ok (.invokevirtual 60, 3) := by decide +kernel
theorem dX2_lookAtPlace_53 : decode cX2_lookAtPlace 53 = .ok (.istore_n 2, 1) := by decide +kernel
theorem dX2_lookAtPlace_54 : decode cX2_lookAtPlace 54 = .ok (.iload_n 2, 1) := by decide +kernel
theorem dX2_lookAtPlace_55 : decode cX2_lookAtPlace 55 = .ok (.ifCond .ge 13, 3) := by decide +kernel
theorem dX2_lookAtPlace_58 : decode cX2_lookAtPlace 58 = .ok (.aload_n 0, 1) := by decide +kernel
theorem dX2_lookAtPlace_59 : decode cX2_lookAtPlace 59 = .ok (.aload_n 0, 1) := by decide +kernel
theorem dX2_lookAtPlace_60 : decode cX2_lookAtPlace 60 = .ok (.getfield 33, 3) := by decide +kernel
theorem dX2_lookAtPlace_63 : decode cX2_lookAtPlace 63 = .ok (.iconst 1, 1) := by decide +kernel
theorem dX2_lookAtPlace_64 : decode cX2_lookAtPlace 64 = .ok (.invokevirtual 56, 3) := by decide +kernel
theorem dX2_lookAtPlace_67 : decode cX2_lookAtPlace 67 = .ok (.ireturn, 1) := by decide +kernel
theorem dX2_lookAtPlace_68 : decode cX2_lookAtPlace 68 = .ok (.iload_n 2, 1) := by decide +kernel
theorem dX2_lookAtPlace_69 : decode cX2_lookAtPlace 69 = .ok (.invokestatic 64, 3) := by decide +kernel
theorem dX2_lookAtPlace_72 : decode cX2_lookAtPlace 72 = .ok (.ifCond .ne 13, 3) := by decide +kernel
theorem dX2_lookAtPlace_75 : decode cX2_lookAtPlace 75 = .ok (.aload_n 0, 1) := by decide +kernel
theorem dX2_lookAtPlace_76 : decode cX2_lookAtPlace 76 = .ok (.aload_n 0, 1) := by decide +kernel
theorem dX2_lookAtPlace_77 : decode cX2_lookAtPlace 77 = .ok (.getfield 33, 3) := by decide +kernel
theorem dX2_lookAtPlace_80 : decode cX2_lookAtPlace 80 = .ok (.iconst 2, 1) := by decide +kernel
theorem dX2_lookAtPlace_81 : decode cX2_lookAtPlace 81 = .ok (.invokevirtual 56, 3) := by decide +kernel
theorem dX2_lookAtPlace_84 : decode cX2_lookAtPlace 84 = .ok (.ireturn, 1) := by decide +kernel
theorem dX2_lookAtPlace_85 : decode cX2_lookAtPlace 85 = .ok (.aload_n 0, 1) := by decide +kernel
theorem dX2_lookAtPlace_86 : decode cX2_lookAtPlace 86 = .ok (.dup, 1) := by decide +kernel
theorem dX2_lookAtPlace_87 : decode cX2_lookAtPlace 87 = .ok (.getfield 33, 3) := by decide +kernel
theorem dX2_lookAtPlace_90 : decode cX2_lookAtPlace 90 = .ok (.iconst 1, 1) := by decide +kernel
theorem dX2_lookAtPlace_91 : decode cX2_lookAtPlace 91 = .ok (.iadd, 1) := by decide +kernel
theorem dX2_lookAtPlace_92 : decode cX2_lookAtPlace 92 = .ok (.putfield 33, 3) := by decide +kernel
theorem dX2_lookAtPlace_95 : decode cX2_lookAtPlace 95 = .ok (.aload_n 0, 1) := by decide +kernel
theorem dX2_lookAtPlace_96 : decode cX2_lookAtPlace 96 = .ok (.getfield 18, 3) := by decide +kernel
theorem dX2_lookAtPlace_99 : decode cX2_lookAtPlace 99 = .ok (.iload_n 1, 1) := by decide +kernel
theorem dX2_lookAtPlace_100 : decode cX2_lookAtPlace 100 = .ok (.iload_n 2, 1) := by decide +kernel
theorem dX2_lookAtPlace_101 : decode cX2_lookAtPlace 101 = .ok (.invokevirtual 68, 3) := by decide +kernel
theorem dX2_lookAtPlace_104 : decode cX2_lookAtPlace 104 = .ok (.aload_n 0, 1) := by decide +kernel
theorem dX2_lookAtPlace_105 : decode cX2_lookAtPlace 105 = .ok (.invokevirtual 52, 3) := by decide +kernel
theorem dX2_lookAtPlace_108 : decode cX2_lookAtPlace 108 = .ok (.bipush 58, 2) := by decide +kernel
theorem dX2_lookAtPlace_110 : decode cX2_lookAtPlace 110 = .ok (.if_icmp .eq 5, 3) := by decide +kernel
theorem dX2_lookAtPlace_113 : decode cX2_lookAtPlace 113 = .ok (.iconst 1, 1) := by decide +kernel
theorem dX2_lookAtPlace_114 : decode cX2_lookAtPlace 114 = .ok (.ireturn, 1) := by decide +kernel
theorem dX2_lookAtPlace_115 : decode cX2_lookAtPlace 115 = .ok (.aload_n 0, 1) := by decide +kernel
theorem dX2_lookAtPlace_116 : decode cX2_lookAtPlace 116 = .ok (.dup, 1) := by decide +kernel
theorem dX2_lookAtPlace_117 : decode cX2_lookAtPlace 117 = .ok (.getfield 33, 3) := by decide +kernel
theorem dX2_lookAtPlace_120 : decode cX2_lookAtPlace 120 = .ok (.iconst 1, 1) := by decide +kernel
theorem dX2_lookAtPlace_121 : decode cX2_lookAtPlace 121 = .ok (.iadd, 1) := by decide +kernel
theorem dX2_lookAtPlace_122 : decode cX2_lookAtPlace 122 = .ok (.putfield 33, 3) := by decide +kernel
theorem dX2_lookAtPlace_125 : decode cX2_lookAtPlace 125 = .ok (.aload_n 0, 1) := by decide +kernel
theorem dX2_lookAtPlace_126 : decode cX2_lookAtPlace 126 = .ok (.invokevirtual 72, 3) := by decide +kernel
theorem dX2_lookAtPlace_129 : decode cX2_lookAtPlace 129 = .ok (.ireturn, 1) := by decide +kernel
theorem dX2_lookAtWays_0 : decode cX2_lookAtWays 0 = .ok (.aload_n 0, 1) := by decide +kernel
theorem dX2_lookAtWays_1 : decode cX2_lookAtWays 1 = .ok (.getfield 36, 3) := by decide +kernel
theorem dX2_lookAtWays_4 : decode cX2_lookAtWays 4 = .ok (.istore_n 1, 1) := by decide +kernel
theorem dX2_lookAtWays_5 : decode cX2_lookAtWays 5 = .ok (.iconst 0, 1) := by decide +kernel
theorem dX2_lookAtWays_6 : decode cX2_lookAtWays 6 = .ok (.istore_n 2, 1) := by decide +kernel
theorem dX2_lookAtWays_7 : decode cX2_lookAtWays 7 = .ok (.iload_n 2, 1) := by decide +kernel
theorem dX2_lookAtWays_8 : decode cX2_lookAtWays 8 = .ok (.bipush 80, 2) := by decide +kernel
theorem dX2_lookAtWays_10 : decode cX2_lookAtWays 10 = .ok (.if_icmp .ge 125, 3) := by decide +kernel
theorem dX2_lookAtWays_13 : decode cX2_lookAtWays 13 = .ok (.aload_n 0, 1) := by decide +kernel
theorem dX2_lookAtWays_14 : decode cX2_lookAtWays 14 = .ok (.getfield 33, 3) := by decide +kernel
theorem dX2_lookAtWays_17 : decode cX2_lookAtWays 17 = .ok (.istore_n 3, 1) := by decide +kernel
theorem dX2_lookAtWays_18 : decode cX2_lookAtWays 18 = .ok (.aload_n 0, 1) := by decide +kernel
theorem dX2_lookAtWays_19 : decode cX2_lookAtWays 19 = .ok (.invokevirtual 60, 3) := by decide +kernel
theorem dX2_lookAtWays_22 : decode cX2_lookAtWays 22 = .ok (.istore 4, 2) := by decide +kernel
theorem dX2_lookAtWays_24 : decode cX2_lookAtWays 24 = .ok (.iload 4, 2) := by decide +kernel
theorem dX2_lookAtWays_26 : decode cX2_lookAtWays 26 = .ok (.ifCond .ge 13, 3) := by decide +kernel
theorem dX2_lookAtWays_29 : decode cX2_lookAtWays 29 = .ok (.aload_n 0, 1) := by decide +kernel
theorem dX2_lookAtWays_30 : decode cX2_lookAtWays 30 = .ok (.aload_n 0, 1) := by decide +kernel
theorem dX2_lookAtWays_31 : decode cX2_lookAtWays 31 = .ok (.getfield 33, 3) := by decide +kernel
theorem dX2_lookAtWays_34 : decode cX2_lookAtWays 34 = .ok (.iconst 1, 1) := by decide +kernel
theorem dX2_lookAtWays_35 : decode cX2_lookAtWays 35 = .ok (.invokevirtual 56, 3) := by decide +kernel
theorem dX2_lookAtWays_38 : decode cX2_lookAtWays 38 = .ok (.ireturn, 1) := by decide +kernel
theorem dX2_lookAtWays_39 : decode cX2_lookAtWays 39 = .ok (.aload_n 0, 1) := by decide +kernel
theorem dX2_lookAtWays_40 : decode cX2_lookAtWays 40 = .ok (.dup, 1) := by decide +kernel
theorem dX2_lookAtWays_41 : decode cX2_lookAtWays 41 = .ok (.getfield 33, 3) := by decide +kernel
theorem dX2_lookAtWays_44 : decode cX2_lookAtWays 44 = .ok (.iconst 1, 1) := by decide +kernel
theorem dX2_lookAtWays_45 : decode cX2_lookAtWays 45 = .ok (.iadd, 1) := by decide +kernel
theorem dX2_lookAtWays_46 : decode cX2_lookAtWays 46 = .ok (.putfield 33, 3) := by decide +kernel
theorem dX2_lookAtWays_49 : decode cX2_lookAtWays 49 = .ok (.iload 4, 2) := by decide +kernel
theorem dX2_lookAtWays_51 : decode cX2_lookAtWays 51 = .ok (.ifCond .le 32, 3) := by decide +kernel
theorem dX2_lookAtWays_54 : decode cX2_lookAtWays 54 = .ok (.aload_n 0, 1) := by decide +kernel
theorem dX2_lookAtWays_55 : decode cX2_lookAtWays 55 = .ok (.invokevirtual 60, 3) := by decide +kernel
theorem dX2_lookAtWays_58 : decode cX2_lookAtWays 58 = .ok (.ifCond .lt 25, 3) := by decide +kernel
theorem dX2_lookAtWays_61 : decode cX2_lookAtWays 61 = .ok (.iload 4, 2) := by decide +kernel
theorem dX2_lookAtWays_63 : decode cX2_lookAtWays 63 = .ok (.bipush 10, 2) := by decide +kernel
theorem dX2_lookAtWays_65 : decode cX2_lookAtWays 65 = .ok (.imul, 1) := by decide +kernel
theorem dX2_lookAtWays_66 : decode cX2_lookAtWays 66 = .ok (.aload_n 0, 1) := by decide +kernel
theorem dX2_lookAtWays_67 : decode cX2_lookAtWays 67 = .ok (.invokevirtual 60, 3) := by decide +kernel
theorem dX2_lookAtWays_70 : decode cX2_lookAtWays 70 = .ok (.iadd, 1) := by decide +kernel
theorem dX2_lookAtWays_71 : decode cX2_lookAtWays 71 = .ok (.istore 4, 2) := by decide +kernel
theorem dX2_lookAtWays_73 : decode cX2_lookAtWays 73 = .ok (.aload_n 0, 1) := by decide +kernel
theorem dX2_lookAtWays_74 : decode cX2_lookAtWays 74 = .ok (.dup, 1) := by decide +kernel
theorem dX2_lookAtWays_75 : decode cX2_lookAtWays 75 = .ok (.getfield 33, 3) := by decide +kernel
theorem dX2_lookAtWays_78 : decode cX2_lookAtWays 78 = .ok (.iconst 1, 1) := by decide +kernel
theorem dX2_lookAtWays_79 : decode cX2_lookAtWays 79 = .ok (.iadd, 1) := by decide +kernel
theorem dX2_lookAtWays_80 : decode cX2_lookAtWays 80 = .ok (.putfield 33, 3) := by decide +kernel
theorem dX2_lookAtWays_83 : decode cX2_lookAtWays 83 = .ok (.aload_n 0, 1) := by decide +kernel
theorem dX2_lookAtWays_84 : decode cX2_lookAtWays 84 = .ok (.iload_n 1, 1) := by decide +kernel
theorem dX2_lookAtWays_85 : decode cX2_lookAtWays 85 = .ok (.iload 4, 2) := by decide +kernel
theorem dX2_lookAtWays_87 : decode cX2_lookAtWays 87 = .ok (.invokevirtual 75, 3) := by decide +kernel
theorem dX2_lookAtWays_90 : decode cX2_lookAtWays 90 = .ok (.ifCond .eq 10, 3) := by decide +kernel
theorem dX2_lookAtWays_93 : decode cX2_lookAtWays 93 = .ok (.aload_n 0, 1) := by decide +kernel
theorem dX2_lookAtWays_94 : decode cX2_lookAtWays 94 = .ok (.iload_n 3, 1) := by decide +kernel
theorem dX2_lookAtWays_95 : decode cX2_lookAtWays 95 = .ok (.iconst 3, 1) := by decide +kernel
theorem dX2_lookAtWays_96 : decode cX2_lookAtWays 96 = .ok (.invokevirtual 56, 3) := by decide +kernel
theorem dX2_lookAtWays_99 : decode cX2_lookAtWays 99 = .ok (.ireturn, 1) := by decide +kernel
theorem dX2_lookAtWays_100 : decode cX2_lookAtWays 100 = .ok (.aload_n 0, 1) := by decide +kernel
theorem dX2_lookAtWays_101 : decode cX2_lookAtWays 101 = .ok (.iload_n 3, 1) := by decide +kernel
theorem dX2_lookAtWays_102 : decode cX2_lookAtWays 102 = .ok (.iload 4, 2) := by decide +kernel
theorem dX2_lookAtWays_104 : decode cX2_lookAtWays 104 = .ok (.invokevirtual 78, 3) := by decide +kernel
theorem dX2_lookAtWays_107 : decode cX2_lookAtWays 107 = .ok (.aload_n 0, 1) := by decide +kernel
theorem dX2_lookAtWays_108 : decode cX2_lookAtWays 108 = .ok (.invokevirtual 52, 3) := by decide +kernel
theorem dX2_lookAtWays_111 : decode cX2_lookAtWays 111 = .ok (.bipush 44, 2) := by decide +kernel
theorem dX2_lookAtWays_113 : decode cX2_lookAtWays 113 = .ok (.if_icmp .eq 6, 3) := by decide +kernel
theorem dX2_lookAtWays_116 : decode cX2_lookAtWays 116 = .ok (.goto 19, 3) := by decide +kernel
theorem dX2_lookAtWays_119 : decode cX2_lookAtWays 119 = .ok (.aload_n 0, 1) := by decide +kernel
theorem dX2_lookAtWays_120 : decode cX2_lookAtWays 120 = .ok (.dup, 1) := by decide +kernel
theorem dX2_lookAtWays_121 : decode cX2_lookAtWays 121 = .ok (.getfield 33, 3) := by decide +kernel
theorem dX2_lookAtWays_124 : decode cX2_lookAtWays 124 = .ok (.iconst 1, 1) := by decide +kernel
theorem dX2_lookAtWays_125 : decode cX2_lookAtWays 125 = .ok (.iadd, 1) := by decide +kernel
theorem dX2_lookAtWays_126 : decode cX2_lookAtWays 126 = .ok (.putfield 33, 3) := by decide +kernel
theorem dX2_lookAtWays_129 : decode cX2_lookAtWays 129 = .ok (.iinc 2 1, 3) := by decide +kernel
theorem dX2_lookAtWays_132 : decode cX2_lookAtWays 132 = .ok (.goto (-125), 3) := by decide +kernel
theorem dX2_lookAtWays_135 : decode cX2_lookAtWays 135 = .ok (.iconst 1, 1) := by decide +kernel
theorem dX2_lookAtWays_136 : decode cX2_lookAtWays 136 = .ok (.ireturn, 1) := by decide +kernel
theorem dX2_isToldSince_0 : decode cX2_isToldSince 0 = .ok (.iload_n 1, 1) := by decide +kernel
theorem dX2_isToldSince_1 : decode cX2_isToldSince 1 = .ok (.istore_n 3, 1) := by decide +kernel
theorem dX2_isToldSince_2 : decode cX2_isToldSince 2 = .ok (.iload_n 3, 1) := by decide +kernel
theorem dX2_isToldSince_3 : decode cX2_isToldSince 3 = .ok (.aload_n 0, 1) := by decide +kernel
theorem dX2_isToldSince_4 : decode cX2_isToldSince 4 = .ok (.getfield 36, 3) := by decide +kernel
theorem dX2_isToldSince_7 : decode cX2_isToldSince 7 = .ok (.if_icmp .ge 21, 3) := by decide +kernel
theorem dX2_isToldSince_10 : decode cX2_isToldSince 10 = .ok (.aload_n 0, 1) := by decide +kernel
theorem dX2_isToldSince_11 : decode cX2_isToldSince 11 = .ok (.getfield 22, 3) := by decide +kernel
theorem dX2_isToldSince_14 : decode cX2_isToldSince 14 = .ok (.iload_n 3, 1) := by decide +kernel
theorem dX2_isToldSince_15 : decode cX2_isToldSince 15 = .ok (.iaload, 1) := by decide +kernel
theorem dX2_isToldSince_16 : decode cX2_isToldSince 16 = .ok (.iload_n 2, 1) := by decide +kernel
theorem dX2_isToldSince_17 : decode cX2_isToldSince 17 = .ok (.if_icmp .ne 5, 3) := by decide +kernel
theorem dX2_isToldSince_20 : decode cX2_isToldSince 20 = .ok (.iconst 1, 1) := by decide +kernel
theorem dX2_isToldSince_21 : decode cX2_isToldSince 21 = .ok (.ireturn, 1) := by decide +kernel
theorem dX2_isToldSince_22 : decode cX2_isToldSince 22 = .ok (.iinc 3 1, 3) := by decide +kernel
theorem dX2_isToldSince_25 : decode cX2_isToldSince 25 = .ok (.goto (-23), 3) := by decide +kernel
theorem dX2_isToldSince_28 : decode cX2_isToldSince 28 = .ok (.iconst 0, 1) := by decide +kernel
theorem dX2_isToldSince_29 : decode cX2_isToldSince 29 = .ok (.ireturn, 1) := by decide +kernel
theorem dX2_tellWay_0 : decode cX2_tellWay 0 = .ok (.aload_n 0, 1) := by decide +kernel
theorem dX2_tellWay_1 : decode cX2_tellWay 1 = .ok (.getfield 36, 3) := by decide +kernel
theorem dX2_tellWay_4 : decode cX2_tellWay 4 = .ok (.bipush 80, 2) := by decide +kernel
theorem dX2_tellWay_6 : decode cX2_tellWay 6 = .ok (.if_icmp .ge 33, 3) := by decide +kernel
theorem dX2_tellWay_9 : decode cX2_tellWay 9 = .ok (.aload_n 0, 1) := by decide +kernel
theorem dX2_tellWay_10 : decode cX2_tellWay 10 = .ok (.getfield 26, 3) := by decide +kernel
theorem dX2_tellWay_13 : decode cX2_tellWay 13 = .ok (.aload_n 0, 1) := by decide +kernel
theorem dX2_tellWay_14 : decode cX2_tellWay 14 = .ok (.getfield 36, 3) := by decide +kernel
theorem dX2_tellWay_17 : decode cX2_tellWay 17 = .ok (.iload_n 1, 1) := by decide +kernel
theorem dX2_tellWay_18 : decode cX2_tellWay 18 = .ok (.iastore, 1) := by decide +kernel
theorem dX2_tellWay_19 : decode cX2_tellWay 19 = .ok (.aload_n 0, 1) := by decide +kernel
theorem dX2_tellWay_20 : decode cX2_tellWay 20 = .ok (.getfield 22, 3) := by decide +kernel
theorem dX2_tellWay_23 : decode cX2_tellWay 23 = .ok (.aload_n 0, 1) := by decide +kernel
theorem dX2_tellWay_24 : decode cX2_tellWay 24 = .ok (.getfield 36, 3) := by decide +kernel
theorem dX2_tellWay_27 : decode cX2_tellWay 27 = .ok (.iload_n 2, 1) := by decide +kernel
theorem dX2_tellWay_28 : decode cX2_tellWay 28 = .ok (.iastore, 1) := by decide +kernel
theorem dX2_tellWay_29 : decode cX2_tellWay 29 = .ok (.aload_n 0, 1) := by decide +kernel
theorem dX2_tellWay_30 : decode cX2_tellWay 30 = .ok (.dup, 1) := by decide +kernel
theorem dX2_tellWay_31 : decode cX2_tellWay 31 = .ok (.getfield 36, 3) := by decide +kernel
theorem dX2_tellWay_34 : decode cX2_tellWay 34 = .ok (.iconst 1, 1) := by decide +kernel
theorem dX2_tellWay_35 : decode cX2_tellWay 35 = .ok (.iadd, 1) := by decide +kernel
theorem dX2_tellWay_36 : decode cX2_tellWay 36 = .ok (.putfield 36, 3) := by decide +kernel
theorem dX2_tellWay_39 : decode cX2_tellWay 39 = .ok (.aload_n 0, 1) := by decide +kernel
theorem dX2_tellWay_40 : decode cX2_tellWay 40 = .ok (.getfield 18, 3) := by decide +kernel
theorem dX2_tellWay_43 : decode cX2_tellWay 43 = .ok (.getfield 39, 3) := by decide +kernel
theorem dX2_tellWay_46 : decode cX2_tellWay 46 = .ok (.iconst 1, 1) := by decide +kernel
theorem dX2_tellWay_47 : decode cX2_tellWay 47 = .ok (.isub, 1) := by decide +kernel
theorem dX2_tellWay_48 : decode cX2_tellWay 48 = .ok (.istore_n 3, 1) := by decide +kernel
theorem dX2_tellWay_49 : decode cX2_tellWay 49 = .ok (.aload_n 0, 1) := by decide +kernel
theorem dX2_tellWay_50 : decode cX2_tellWay 50 = .ok (.getfield 18, 3) := by decide +kernel
theorem dX2_tellWay_53 : decode cX2_tellWay 53 = .ok (.iload_n 3, 1) := by decide +kernel
theorem dX2_tellWay_54 : decode cX2_tellWay 54 = .ok (.invokevirtual 81, 3) := by decide +kernel
theorem dX2_tellWay_57 : decode cX2_tellWay 57 = .ok (.ifCond .eq 24, 3) := by decide +kernel
theorem dX2_tellWay_60 : decode cX2_tellWay 60 = .ok (.iload_n 2, 1) := by decide +kernel
theorem dX2_tellWay_61 : decode cX2_tellWay 61 = .ok (.bipush 12, 2) := by decide +kernel
theorem dX2_tellWay_63 : decode cX2_tellWay 63 = .ok (.if_icmp .ge 18, 3) := by decide +kernel
theorem dX2_tellWay_66 : decode cX2_tellWay 66 = .ok (.aload_n 0, 1) := by decide +kernel
theorem dX2_tellWay_67 : decode cX2_tellWay 67 = .ok (.getfield 18, 3) := by decide +kernel
theorem dX2_tellWay_70 : decode cX2_tellWay 70 = .ok (.getfield 84, 3) := by decide +kernel
theorem dX2_tellWay_73 : decode cX2_tellWay 73 = .ok (.iload_n 3, 1) := by decide +kernel
theorem dX2_tellWay_74 : decode cX2_tellWay 74 = .ok (.dup2, 1) := by decide +kernel
theorem dX2_tellWay_75 : decode cX2_tellWay 75 = .ok (.iaload, 1) := by decide +kernel
theorem dX2_tellWay_76 : decode cX2_tellWay 76 = .ok (.iconst 1, 1) := by decide +kernel
theorem dX2_tellWay_77 : decode cX2_tellWay 77 = .ok (.iload_n 2, 1) := by decide +kernel
theorem dX2_tellWay_78 : decode cX2_tellWay 78 = .ok (.ishl, 1) := by decide +kernel
theorem dX2_tellWay_79 : decode cX2_tellWay 79 = .ok (.ior, 1) := by decide +kernel
theorem dX2_tellWay_80 : decode cX2_tellWay 80 = .ok (.iastore, 1) := by decide +kernel
theorem dX2_tellWay_81 : decode cX2_tellWay 81 = .ok (.return_, 1) := by decide +kernel
theorem dX2_lookForPlacesOfWays_0 : decode cX2_lookForPlacesOfWays 0 = .ok (.iconst 0, 1) := by decide +kernel
theorem dX2_lookForPlacesOfWays_1 : decode cX2_lookForPlacesOfWays 1 = .ok (.istore_n 1, 1) := by decide +kernel
theorem dX2_lookForPlacesOfWays_2 : decode cX2_lookForPlacesOfWays 2 = .ok (.iload_n 1, 1) := by decide +kernel
theorem dX2_lookForPlacesOfWays_3 : decode cX2_lookForPlacesOfWays 3 = .ok (.aload_n 0, 1) := by decide +kernel
theorem dX2_lookForPlacesOfWays_4 : decode cX2_lookForPlacesOfWays 4 = .ok (.getfield 36, 3) := by decide +kernel
theorem dX2_lookForPlacesOfWays_7 : decode cX2_lookForPlacesOfWays 7 = .ok (.if_icmp .ge 37, 3) := by decide +kernel
theorem dX2_lookForPlacesOfWays_10 : decode cX2_lookForPlacesOfWays 10 = .ok (.aload_n 0, 1) := by decide +kernel
theorem dX2_lookForPlacesOfWays_11 : decode cX2_lookForPlacesOfWays 11 = .ok (.getfield 18, 3) := by decide +kernel
theorem dX2_lookForPlacesOfWays_14 : decode cX2_lookForPlacesOfWays 14 = .ok (.aload_n 0, 1) := by decide +kernel
theorem dX2_lookForPlacesOfWays_15 : decode cX2_lookForPlacesOfWays 15 = .ok (.getfield 22, 3) := by decide +kernel
theorem dX2_lookForPlacesOfWays_18 : decode cX2_lookForPlacesOfWays 18 = .ok (.iload_n 1, 1) := by decide +kernel
theorem dX2_lookForPlacesOfWays_19 : decode cX2_lookForPlacesOfWays 19 = .ok (.iaload, 1) := by decide +kernel
theorem dX2_lookForPlacesOfWays_20 : decode cX2_lookForPlacesOfWays 20 = .ok (.invokevirtual 81, 3) := by decide +kernel
theorem dX2_lookForPlacesOfWays_23 : decode cX2_lookForPlacesOfWays 23 = .ok (.ifCond .ne 15, 3) := by decide +kernel
theorem dX2_lookForPlacesOfWays_26 : decode cX2_lookForPlacesOfWays 26 = .ok (.aload_n 0, 1) := by decide +kernel
theorem dX2_lookForPlacesOfWays_27 : decode cX2_lookForPlacesOfWays 27 = .ok (.aload_n 0, 1) := by decide +kernel
theorem dX2_lookForPlacesOfWays_28 : decode cX2_lookForPlacesOfWays 28 = .ok (.getfield 26, 3) := by decide +kernel
theorem dX2_lookForPlacesOfWays_31 : decode cX2_lookForPlacesOfWays 31 = .ok (.iload_n 1, 1) := by decide +kernel
theorem dX2_lookForPlacesOfWays_32 : decode cX2_lookForPlacesOfWays 32 = .ok (.iaload, 1) := by decide +kernel
theorem dX2_lookForPlacesOfWays_33 : decode cX2_lookForPlacesOfWays 33 = .ok (.iconst 5, 1) := by decide +kernel
theorem dX2_lookForPlacesOfWays_34 : decode cX2_lookForPlacesOfWays 34 = .ok (.invokevirtual 56, 3) := by decide +kernel
theorem dX2_lookForPlacesOfWays_37 : decode cX2_lookForPlacesOfWays 37 = .ok (.ireturn, 1) := by decide +kernel
theorem dX2_lookForPlacesOfWays_38 : decode cX2_lookForPlacesOfWays 38 = .ok (.iinc 1 1, 3) := by decide +kernel
theorem dX2_lookForPlacesOfWays_41 : decode cX2_lookForPlacesOfWays 41 = .ok (.goto (-39), 3) := by decide +kernel
theorem dX2_lookForPlacesOfWays_44 : decode cX2_lookForPlacesOfWays 44 = .ok (.iconst 1, 1) := by decide +kernel
theorem dX2_lookForPlacesOfWays_45 : decode cX2_lookForPlacesOfWays 45 = .ok (.ireturn, 1) := by decide +kernel
theorem dX2_blame_0 : decode cX2_blame 0 = .ok (.aload_n 0, 1) := by decide +kernel
theorem dX2_blame_1 : decode cX2_blame 1 = .ok (.iload_n 1, 1) := by decide +kernel
theorem dX2_blame_2 : decode cX2_blame 2 = .ok (.putfield 87, 3) := by decide +kernel
theorem dX2_blame_5 : decode cX2_blame 5 = .ok (.aload_n 0, 1) := by decide +kernel
theorem dX2_blame_6 : decode cX2_blame 6 = .ok (.iload_n 2, 1) := by decide +kernel
theorem dX2_blame_7 : decode cX2_blame 7 = .ok (.putfield 90, 3) := by decide +kernel
theorem dX2_blame_10 : decode cX2_blame 10 = .ok (.iconst 0, 1) := by decide +kernel
theorem dX2_blame_11 : decode cX2_blame 11 = .ok (.ireturn, 1) := by decide +kernel
theorem dX2_character_0 : decode cX2_character 0 = .ok (.aload_n 0, 1) := by decide +kernel
theorem dX2_character_1 : decode cX2_character 1 = .ok (.getfield 33, 3) := by decide +kernel
theorem dX2_character_4 : decode cX2_character 4 = .ok (.ifCond .lt 35, 3) := by decide +kernel
theorem dX2_character_7 : decode cX2_character 7 = .ok (.aload_n 0, 1) := by decide +kernel
theorem dX2_character_8 : decode cX2_character 8 = .ok (.getfield 33, 3) := by decide +kernel
theorem dX2_character_11 : decode cX2_character 11 = .ok (.aload_n 0, 1) := by decide +kernel
theorem dX2_character_12 : decode cX2_character 12 = .ok (.getfield 29, 3) := by decide +kernel
theorem dX2_character_15 : decode cX2_character 15 = .ok (.if_icmp .ge 24, 3) := by decide +kernel
theorem dX2_character_18 : decode cX2_character 18 = .ok (.aload_n 0, 1) := by decide +kernel
theorem dX2_character_19 : decode cX2_character 19 = .ok (.getfield 33, 3) := by decide +kernel
theorem dX2_character_22 : decode cX2_character 22 = .ok (.bipush 80, 2) := by decide +kernel
theorem dX2_character_24 : decode cX2_character 24 = .ok (.if_icmp .ge 15, 3) := by decide +kernel
theorem dX2_character_27 : decode cX2_character 27 = .ok (.aload_n 0, 1) := by decide +kernel
theorem dX2_character_28 : decode cX2_character 28 = .ok (.getfield 9, 3) := by decide +kernel
theorem dX2_character_31 : decode cX2_character 31 = .ok (.aload_n 0, 1) := by decide +kernel
theorem dX2_character_32 : decode cX2_character 32 = .ok (.getfield 33, 3) := by decide +kernel
theorem dX2_character_35 : decode cX2_character 35 = .ok (.caload, 1) := by decide +kernel
theorem dX2_character_36 : decode cX2_character 36 = .ok (.goto 4, 3) := by decide +kernel
theorem dX2_character_39 : decode cX2_character 39 = .ok (.iconst 0, 1) := by decide +kernel
theorem dX2_character_40 : decode cX2_character 40 = .ok (.ireturn, 1) := by decide +kernel
theorem dX2_digit_0 : decode cX2_digit 0 = .ok (.aload_n 0, 1) := by decide +kernel
theorem dX2_digit_1 : decode cX2_digit 1 = .ok (.invokevirtual 52, 3) := by decide +kernel
theorem dX2_digit_4 : decode cX2_digit 4 = .ok (.istore_n 1, 1) := by decide +kernel
theorem dX2_digit_5 : decode cX2_digit 5 = .ok (.iload_n 1, 1) := by decide +kernel
theorem dX2_digit_6 : decode cX2_digit 6 = .ok (.bipush 48, 2) := by decide +kernel
theorem dX2_digit_8 : decode cX2_digit 8 = .ok (.if_icmp .lt 16, 3) := by decide +kernel
theorem dX2_digit_11 : decode cX2_digit 11 = .ok (.iload_n 1, 1) := by decide +kernel
theorem dX2_digit_12 : decode cX2_digit 12 = .ok (.bipush 57, 2) := by decide +kernel
theorem dX2_digit_14 : decode cX2_digit 14 = .ok (.if_icmp .gt 10, 3) := by decide +kernel
theorem dX2_digit_17 : decode cX2_digit 17 = .ok (.iload_n 1, 1) := by decide +kernel
theorem dX2_digit_18 : decode cX2_digit 18 = .ok (.bipush 48, 2) := by decide +kernel
theorem dX2_digit_20 : decode cX2_digit 20 = .ok (.isub, 1) := by decide +kernel
theorem dX2_digit_21 : decode cX2_digit 21 = .ok (.goto 4, 3) := by decide +kernel
theorem dX2_digit_24 : decode cX2_digit 24 = .ok (.iconst (-1), 1) := by decide +kernel
theorem dX2_digit_25 : decode cX2_digit 25 = .ok (.ireturn, 1) := by decide +kernel
theorem dX3_init_0 : decode cX3_init 0 = .ok (.aload_n 0, 1) := by decide +kernel
theorem dX3_init_1 : decode cX3_init 1 = .ok (.invokespecial 1, 3) := by decide +kernel
theorem dX3_init_4 : decode cX3_init 4 = .ok (.aload_n 0, 1) := by decide +kernel
theorem dX3_init_5 : decode cX3_init 5 = .ok (.new 7, 3) := by decide +kernel
theorem dX3_init_8 : decode cX3_init 8 = .ok (.dup, 1) := by decide +kernel
theorem dX3_init_9 : decode cX3_init 9 = .ok (.invokespecial 9, 3) := by decide +kernel
theorem dX3_init_12 : decode cX3_init 12 = .ok (.putfield 10, 3) := by decide +kernel
theorem dX3_init_15 : decode cX3_init 15 = .ok (.aload_n 0, 1) := by decide +kernel
theorem dX3_init_16 : decode cX3_init 16 = .ok (.iconst 4, 1) := by decide +kernel
theorem dX3_init_17 : decode cX3_init 17 = .ok (.anewarray 7, 3) := by decide +kernel
theorem dX3_init_20 : decode cX3_init 20 = .ok (.putfield 16, 3) := by decide +kernel
theorem dX3_init_23 : decode cX3_init 23 = .ok (.iconst 0, 1) := by decide +kernel
theorem dX3_init_24 : decode cX3_init 24 = .ok (.istore_n 1, 1) := by decide +kernel
theorem dX3_init_25 : decode cX3_init 25 = .ok (.iload_n 1, 1) := by decide +kernel
theorem dX3_init_26 : decode cX3_init 26 = .ok (.iconst 4, 1) := by decide +kernel
theorem dX3_init_27 : decode cX3_init 27 = .ok (.if_icmp .ge 22, 3) := by decide +kernel
theorem dX3_init_30 : decode cX3_init 30 = .ok (.aload_n 0, 1) := by decide +kernel
theorem dX3_init_31 : decode cX3_init 31 = .ok (.getfield 16, 3) := by decide +kernel
theorem dX3_init_34 : decode cX3_init 34 = .ok (.iload_n 1, 1) := by decide +kernel
theorem dX3_init_35 : decode cX3_init 35 = .ok (.new 7, 3) := by decide +kernel
theorem dX3_init_38 : decode cX3_init 38 = .ok (.dup, 1) := by decide +kernel
theorem dX3_init_39 : decode cX3_init 39 = .ok (.invokespecial 9, 3) := by decide +kernel
theorem dX3_init_42 : decode cX3_init 42 = .ok (.aastore, 1) := by decide +kernel
theorem dX3_init_43 : decode cX3_init 43 = .ok (.iinc 1 1, 3) := by decide +kernel
theorem dX3_init_46 : decode cX3_init 46 = .ok (.goto (-21), 3) := by decide +kernel
theorem dX3_init_49 : decode cX3_init 49 = .ok (.aload_n 0, 1) := by decide +kernel
theorem dX3_init_50 : decode cX3_init 50 = .ok (.new 7, 3) := by decide +kernel
theorem dX3_init_53 : decode cX3_init 53 = .ok (.dup, 1) := by decide +kernel
theorem dX3_init_54 : decode cX3_init 54 = .ok (.invokespecial 9, 3) := by decide +kernel
theorem dX3_init_57 : decode cX3_init 57 = .ok (.putfield 20, 3) := by decide +kernel
theorem dX3_init_60 : decode cX3_init 60 = .ok (.aload_n 0, 1) := by decide +kernel
theorem dX3_init_61 : decode cX3_init 61 = .ok (.new 23, 3) := by decide +kernel
theorem dX3_init_64 : decode cX3_init 64 = .ok (.dup, 1) := by decide +kernel
theorem dX3_init_65 : decode cX3_init 65 = .ok (.invokespecial 25, 3) := by decide +kernel
theorem dX3_init_68 : decode cX3_init 68 = .ok (.putfield 26, 3) := by decide +kernel
theorem dX3_init_71 : decode cX3_init 71 = .ok (.aload_n 0, 1) := by decide +kernel
theorem dX3_init_72 : decode cX3_init 72 = .ok (.new 7, 3) := by decide +kernel
theorem dX3_init_75 : decode cX3_init 75 = .ok (.dup, 1) := by decide +kernel
theorem dX3_init_76 : decode cX3_init 76 = .ok (.invokespecial 9, 3) := by decide +kernel
theorem dX3_init_79 : decode cX3_init 79 = .ok (.putfield 30, 3) := by decide +kernel
theorem dX3_init_82 : decode cX3_init 82 = .ok (.aload_n 0, 1) := by decide +kernel
theorem dX3_init_83 : decode cX3_init 83 = .ok (.bipush 12, 2) := by decide +kernel
theorem dX3_init_85 : decode cX3_init 85 = .ok (.newarray .int, 2) := by decide +kernel
theorem dX3_init_87 : decode cX3_init 87 = .ok (.putfield 33, 3) := by decide +kernel
theorem dX3_init_90 : decode cX3_init 90 = .ok (.return_, 1) := by decide +kernel
theorem dX3_add_0 : decode cX3_add 0 = .ok (.iload_n 1, 1) := by decide +kernel
theorem dX3_add_1 : decode cX3_add 1 = .ok (.invokestatic 37, 3) := by decide +kernel
theorem dX3_add_4 : decode cX3_add 4 = .ok (.ifCond .eq 10, 3) := by decide +kernel
theorem dX3_add_7 : decode cX3_add 7 = .ok (.iload_n 2, 1) := by decide +kernel
theorem dX3_add_8 : decode cX3_add 8 = .ok (.invokestatic 41, 3) := by decide +kernel
theorem dX3_add_11 : decode cX3_add 11 = .ok (.ifCond .ne 5, 3) := by decide +kernel
theorem dX3_add_14 : decode cX3_add 14 = .ok (.iconst (-1), 1) := by decide +kernel
theorem dX3_add_15 : decode cX3_add 15 = .ok (.ireturn, 1) := by decide +kernel
theorem dX3_add_16 : decode cX3_add 16 = .ok (.aload_n 0, 1) := by decide +kernel
theorem dX3_add_17 : decode cX3_add 17 = .ok (.getfield 10, 3) := by decide +kernel
theorem dX3_add_20 : decode cX3_add 20 = .ok (.getfield 44, 3) := by decide +kernel
theorem dX3_add_23 : decode cX3_add 23 = .ok (.bipush 12, 2) := by decide +kernel
theorem dX3_add_25 : decode cX3_add 25 = .ok (.if_icmp .lt 6, 3) := by decide +kernel
theorem dX3_add_28 : decode cX3_add 28 = .ok (.bipush (-3), 2) := by decide +kernel
theorem dX3_add_30 : decode cX3_add 30 = .ok (.ireturn, 1) := by decide +kernel
theorem dX3_add_31 : decode cX3_add 31 = .ok (.aload_n 0, 1) := by decide +kernel
theorem dX3_add_32 : decode cX3_add 32 = .ok (.invokevirtual 48, 3) := by decide +kernel
theorem dX3_add_35 : decode cX3_add 35 = .ok (.aload_n 0, 1) := by decide +kernel
theorem dX3_add_36 : decode cX3_add 36 = .ok (.getfield 10, 3) := by decide +kernel
theorem dX3_add_39 : decode cX3_add 39 = .ok (.iload_n 1, 1) := by decide +kernel
theorem dX3_add_40 : decode cX3_add 40 = .ok (.iload_n 2, 1) := by decide +kernel
theorem dX3_add_41 : decode cX3_add 41 = .ok (.invokevirtual 51, 3) := by decide +kernel
theorem dX3_add_44 : decode cX3_add 44 = .ok (.aload_n 0, 1) := by decide +kernel
theorem dX3_add_45 : decode cX3_add 45 = .ok (.getfield 10, 3) := by decide +kernel
theorem dX3_add_48 : decode cX3_add 48 = .ok (.getfield 44, 3) := by decide +kernel
theorem dX3_add_51 : decode cX3_add 51 = .ok (.iconst 1, 1) := by decide +kernel
theorem dX3_add_52 : decode cX3_add 52 = .ok (.isub, 1) := by decide +kernel
theorem dX3_add_53 : decode cX3_add 53 = .ok (.ireturn, 1) := by decide +kernel
theorem dX3_own_0 : decode cX3_own 0 = .ok (.aload_n 0, 1) := by decide +kernel
theorem dX3_own_1 : decode cX3_own 1 = .ok (.getfield 10, 3) := by decide +kernel
theorem dX3_own_4 : decode cX3_own 4 = .ok (.iload_n 1, 1) := by decide +kernel
theorem dX3_own_5 : decode cX3_own 5 = .ok (.invokevirtual 55, 3) := by decide +kernel
theorem dX3_own_8 : decode cX3_own 8 = .ok (.ifCond .eq 10, 3) := by decide +kernel
theorem dX3_own_11 : decode cX3_own 11 = .ok (.iload_n 2, 1) := by decide +kernel
theorem dX3_own_12 : decode cX3_own 12 = .ok (.invokestatic 37, 3) := by decide +kernel
theorem dX3_own_15 : decode cX3_own 15 = .ok (.ifCond .ne 5, 3) := by decide +kernel
theorem dX3_own_18 : decode cX3_own 18 = .ok (.iconst (-1), 1) := by decide +kernel
theorem dX3_own_19 : decode cX3_own 19 = .ok (.ireturn, 1) := by decide +kernel
theorem dX3_own_20 : decode cX3_own 20 = .ok (.aload_n 0, 1) := by decide +kernel
theorem dX3_own_21 : decode cX3_own 21 = .ok (.invokevirtual 48, 3) := by decide +kernel
theorem dX3_own_24 : decode cX3_own 24 = .ok (.aload_n 0, 1) := by decide +kernel
theorem dX3_own_25 : decode cX3_own 25 = .ok (.getfield 10, 3) := by decide +kernel
theorem dX3_own_28 : decode cX3_own 28 = .ok (.getfield 58, 3) := by decide +kernel
theorem dX3_own_31 : decode cX3_own 31 = .ok (.iload_n 1, 1) := by decide +kernel
theorem dX3_own_32 : decode cX3_own 32 = .ok (.iaload, 1) := by decide +kernel
theorem dX3_own_33 : decode cX3_own 33 = .ok (.istore_n 3, 1) := by decide +kernel
theorem dX3_own_34 : decode cX3_own 34 = .ok (.aload_n 0, 1) := by decide +kernel
theorem dX3_own_35 : decode cX3_own 35 = .ok (.getfield 10, 3) := by decide +kernel
theorem dX3_own_38 : decode cX3_own 38 = .ok (.getfield 58, 3) := by decide +kernel
theorem dX3_own_41 : decode cX3_own 41 = .ok (.iload_n 1, 1) := by decide +kernel
theorem dX3_own_42 : decode cX3_own 42 = .ok (.iload_n 2, 1) := by decide +kernel
theorem dX3_own_43 : decode cX3_own 43 = .ok (.iastore, 1) := by decide +kernel
theorem dX3_own_44 : decode cX3_own 44 = .ok (.iload_n 3, 1) := by decide +kernel
theorem dX3_own_45 : decode cX3_own 45 = .ok (.ireturn, 1) := by decide +kernel
theorem dX3_rank_0 : decode cX3_rank 0 = .ok (.aload_n 0, 1) := by decide +kernel
theorem dX3_rank_1 : decode cX3_rank 1 = .ok (.getfield 10, 3) := by decide +kernel
theorem dX3_rank_4 : decode cX3_rank 4 = .ok (.iload_n 1, 1) := by decide +kernel
theorem dX3_rank_5 : decode cX3_rank 5 = .ok (.invokevirtual 55, 3) := by decide +kernel
theorem dX3_rank_8 : decode cX3_rank 8 = .ok (.ifCond .eq 10, 3) := by decide +kernel
theorem dX3_rank_11 : decode cX3_rank 11 = .ok (.iload_n 2, 1) := by decide +kernel
theorem dX3_rank_12 : decode cX3_rank 12 = .ok (.invokestatic 41, 3) := by decide +kernel
theorem dX3_rank_15 : decode cX3_rank 15 = .ok (.ifCond .ne 5, 3) := by decide +kernel
theorem dX3_rank_18 : decode cX3_rank 18 = .ok (.iconst (-1), 1) := by decide +kernel
theorem dX3_rank_19 : decode cX3_rank 19 = .ok (.ireturn, 1) := by decide +kernel
theorem dX3_rank_20 : decode cX3_rank 20 = .ok (.aload_n 0, 1) := by decide +kernel
theorem dX3_rank_21 : decode cX3_rank 21 = .ok (.invokevirtual 48, 3) := by decide +kernel
theorem dX3_rank_24 : decode cX3_rank 24 = .ok (.aload_n 0, 1) := by decide +kernel
theorem dX3_rank_25 : decode cX3_rank 25 = .ok (.getfield 10, 3) := by decide +kernel
theorem dX3_rank_28 : decode cX3_rank 28 = .ok (.getfield 61, 3) := by decide +kernel
theorem dX3_rank_31 : decode cX3_rank 31 = .ok (.iload_n 1, 1) := by decide +kernel
theorem dX3_rank_32 : decode cX3_rank 32 = .ok (.iaload, 1) := by decide +kernel
theorem dX3_rank_33 : decode cX3_rank 33 = .ok (.istore_n 3, 1) := by decide +kernel
theorem dX3_rank_34 : decode cX3_rank 34 = .ok (.aload_n 0, 1) := by decide +kernel
theorem dX3_rank_35 : decode cX3_rank 35 = .ok (.getfield 10, 3) := by decide +kernel
theorem dX3_rank_38 : decode cX3_rank 38 = .ok (.getfield 61, 3) := by decide +kernel
theorem dX3_rank_41 : decode cX3_rank 41 = .ok (.iload_n 1, 1) := by decide +kernel
theorem dX3_rank_42 : decode cX3_rank 42 = .ok (.iload_n 2, 1) := by decide +kernel
theorem dX3_rank_43 : decode cX3_rank 43 = .ok (.iastore, 1) := by decide +kernel
theorem dX3_rank_44 : decode cX3_rank 44 = .ok (.iload_n 3, 1) := by decide +kernel
theorem dX3_rank_45 : decode cX3_rank 45 = .ok (.ireturn, 1) := by decide +kernel
theorem dX3_way_0 : decode cX3_way 0 = .ok (.aload_n 0, 1) := by decide +kernel
theorem dX3_way_1 : decode cX3_way 1 = .ok (.getfield 10, 3) := by decide +kernel
theorem dX3_way_4 : decode cX3_way 4 = .ok (.iload_n 1, 1) := by decide +kernel
theorem dX3_way_5 : decode cX3_way 5 = .ok (.invokevirtual 55, 3) := by decide +kernel
theorem dX3_way_8 : decode cX3_way 8 = .ok (.ifCond .eq 23, 3) := by decide +kernel
theorem dX3_way_11 : decode cX3_way 11 = .ok (.aload_n 0, 1) := by decide +kernel
theorem dX3_way_12 : decode cX3_way 12 = .ok (.getfield 10, 3) := by decide +kernel
theorem dX3_way_15 : decode cX3_way 15 = .ok (.iload_n 2, 1) := by decide +kernel
theorem dX3_way_16 : decode cX3_way 16 = .ok (.invokevirtual 55, 3) := by decide +kernel
theorem dX3_way_19 : decode cX3_way 19 = .ok (.ifCond .eq 12, 3) := by decide +kernel
theorem dX3_way_22 : decode cX3_way 22 = .ok (.iload_n 3, 1) := by decide +kernel
theorem dX3_way_23 : decode cX3_way 23 = .ok (.ifCond .lt 8, 3) := by decide +kernel
theorem dX3_way_26 : decode cX3_way 26 = .ok (.iload_n 3, 1) := by decide +kernel
theorem dX3_way_27 : decode cX3_way 27 = .ok (.iconst 1, 1) := by decide +kernel
theorem dX3_way_28 : decode cX3_way 28 = .ok (.if_icmp .le 5, 3) := by decide +kernel
theorem dX3_way_31 : decode cX3_way 31 = .ok (.iconst (-1), 1) := by decide +kernel
theorem dX3_way_32 : decode cX3_way 32 = .ok (.ireturn, 1) := by decide +kernel
theorem dX3_way_33 : decode cX3_way 33 = .ok (.aload_n 0, 1) := by decide +kernel
theorem dX3_way_34 : decode cX3_way 34 = .ok (.getfield 10, 3) := by decide +kernel
theorem dX3_way_37 : decode cX3_way 37 = .ok (.getfield 64, 3) := by decide +kernel
theorem dX3_way_40 : decode cX3_way 40 = .ok (.iload_n 1, 1) := by decide +kernel
theorem dX3_way_41 : decode cX3_way 41 = .ok (.iaload, 1) := by decide +kernel
theorem dX3_way_42 : decode cX3_way 42 = .ok (.iload_n 2, 1) := by decide +kernel
theorem dX3_way_43 : decode cX3_way 43 = .ok (.invokestatic 67, 3) := by decide +kernel
theorem dX3_way_46 : decode cX3_way 46 = .ok (.iload_n 3, 1) := by decide +kernel
theorem dX3_way_47 : decode cX3_way 47 = .ok (.iconst 1, 1) := by decide +kernel
theorem dX3_way_48 : decode cX3_way 48 = .ok (.if_icmp .ne 7, 3) := by decide +kernel
theorem dX3_way_51 : decode cX3_way 51 = .ok (.iconst 1, 1) := by decide +kernel
theorem dX3_way_52 : decode cX3_way 52 = .ok (.goto 4, 3) := by decide +kernel
theorem dX3_way_55 : decode cX3_way 55 = .ok (.iconst 0, 1) := by decide +kernel
theorem dX3_way_56 : decode cX3_way 56 = .ok (.if_icmp .ne 6, 3) := by decide +kernel
theorem dX3_way_59 : decode cX3_way 59 = .ok (.bipush (-2), 2) := by decide +kernel
theorem dX3_way_61 : decode cX3_way 61 = .ok (.ireturn, 1) := by decide +kernel
theorem dX3_way_62 : decode cX3_way 62 = .ok (.aload_n 0, 1) := by decide +kernel
theorem dX3_way_63 : decode cX3_way 63 = .ok (.invokevirtual 48, 3) := by decide +kernel
theorem dX3_way_66 : decode cX3_way 66 = .ok (.aload_n 0, 1) := by decide +kernel
theorem dX3_way_67 : decode cX3_way 67 = .ok (.getfield 10, 3) := by decide +kernel
theorem dX3_way_70 : decode cX3_way 70 = .ok (.getfield 64, 3) := by decide +kernel
theorem dX3_way_73 : decode cX3_way 73 = .ok (.iload_n 1, 1) := by decide +kernel
theorem dX3_way_74 : decode cX3_way 74 = .ok (.dup2, 1) := by decide +kernel
theorem dX3_way_75 : decode cX3_way 75 = .ok (.iaload, 1) := by decide +kernel
theorem dX3_way_76 : decode cX3_way 76 = .ok (.iconst 1, 1) := by decide +kernel
theorem dX3_way_77 : decode cX3_way 77 = .ok (.iload_n 2, 1) := by decide +kernel
theorem dX3_way_78 : decode cX3_way 78 = .ok (.ishl, 1) := by decide +kernel
theorem dX3_way_79 : decode cX3_way 79 = .ok (.ixor, 1) := by decide +kernel
theorem dX3_way_80 : decode cX3_way 80 = .ok (.iastore, 1) := by decide +kernel
theorem dX3_way_81 : decode cX3_way 81 = .ok (.aload_n 0, 1) := by decide +kernel
theorem dX3_way_82 : decode cX3_way 82 = .ok (.getfield 10, 3) := by decide +kernel
theorem dX3_way_85 : decode cX3_way 85 = .ok (.getfield 64, 3) := by decide +kernel
theorem dX3_way_88 : decode cX3_way 88 = .ok (.iload_n 1, 1) := by decide +kernel
theorem dX3_way_89 : decode cX3_way 89 = .ok (.iaload, 1) := by decide +kernel
theorem dX3_way_90 : decode cX3_way 90 = .ok (.invokestatic 71, 3) := by decide +kernel
theorem dX3_way_93 : decode cX3_way 93 = .ok (.ireturn, 1) := by decide +kernel
theorem dX3_drop_0 : decode cX3_drop 0 = .ok (.aload_n 0, 1) := by decide +kernel
theorem dX3_drop_1 : decode cX3_drop 1 = .ok (.getfield 10, 3) := by decide +kernel
theorem dX3_drop_4 : decode cX3_drop 4 = .ok (.iload_n 1, 1) := by decide +kernel
theorem dX3_drop_5 : decode cX3_drop 5 = .ok (.invokevirtual 55, 3) := by decide +kernel
theorem dX3_drop_8 : decode cX3_drop 8 = .ok (.ifCond .ne 5, 3) := by decide +kernel
theorem dX3_drop_11 : decode cX3_drop 11 = .ok (.iconst (-1), 1) := by decide +kernel
theorem dX3_drop_12 : decode cX3_drop 12 = .ok (.ireturn, 1) := by decide +kernel
theorem dX3_drop_13 : decode cX3_drop 13 = .ok (.aload_n 0, 1) := by decide +kernel
theorem dX3_drop_14 : decode cX3_drop 14 = .ok (.invokevirtual 48, 3) := by decide +kernel
theorem dX3_drop_17 : decode cX3_drop 17 = .ok (.aload_n 0, 1) := by decide +kernel
theorem dX3_drop_18 : decode cX3_drop 18 = .ok (.getfield 10, 3) := by decide +kernel
theorem dX3_drop_21 : decode cX3_drop 21 = .ok (.iload_n 1, 1) := by decide +kernel
theorem dX3_drop_22 : decode cX3_drop 22 = .ok (.invokevirtual 77, 3) := by decide +kernel
theorem dX3_drop_25 : decode cX3_drop 25 = .ok (.aload_n 0, 1) := by decide +kernel
theorem dX3_drop_26 : decode cX3_drop 26 = .ok (.getfield 10, 3) := by decide +kernel
theorem dX3_drop_29 : decode cX3_drop 29 = .ok (.getfield 44, 3) := by decide +kernel
theorem dX3_drop_32 : decode cX3_drop 32 = .ok (.ireturn, 1) := by decide +kernel
theorem dX3_placeOf_0 : decode cX3_placeOf 0 = .ok (.aload_n 0, 1) := by decide +kernel
theorem dX3_placeOf_1 : decode cX3_placeOf 1 = .ok (.getfield 10, 3) := by decide +kernel
theorem dX3_placeOf_4 : decode cX3_placeOf 4 = .ok (.iload_n 1, 1) := by decide +kernel
theorem dX3_placeOf_5 : decode cX3_placeOf 5 = .ok (.invokevirtual 55, 3) := by decide +kernel
theorem dX3_placeOf_8 : decode cX3_placeOf 8 = .ok (.ifCond .ne 5, 3) := by decide +kernel
theorem dX3_placeOf_11 : decode cX3_placeOf 11 = .ok (.iconst (-1), 1) := by decide +kernel
theorem dX3_placeOf_12 : decode cX3_placeOf 12 = .ok (.ireturn, 1) := by decide +kernel
theorem dX3_placeOf_13 : decode cX3_placeOf 13 = .ok (.iload_n 2, 1) := by decide +kernel
theorem dX3_placeOf_14 : decode cX3_placeOf 14 = .ok (.tableswitch 98 0 5 #[38, 48, 58, 68, 77, 87], 38) := by decide +kernel
theorem dX3_placeOf_52 : decode cX3_placeOf 52 = .ok (.aload_n 0, 1) := by decide +kernel
theorem dX3_placeOf_53 : decode cX3_placeOf 53 = .ok (.getfield 10, 3) := by decide +kernel
theorem dX3_placeOf_56 : decode cX3_placeOf 56 = .ok (.getfield 58, 3) := by decide +kernel
theorem dX3_placeOf_59 : decode cX3_placeOf 59 = .ok (.iload_n 1, 1) := by decide +kernel
theorem dX3_placeOf_60 : decode cX3_placeOf 60 = .ok (.iaload, 1) := by decide +kernel
theorem dX3_placeOf_61 : decode cX3_placeOf 61 = .ok (.ireturn, 1) := by decide +kernel
theorem dX3_placeOf_62 : decode cX3_placeOf 62 = .ok (.aload_n 0, 1) := by decide +kernel
theorem dX3_placeOf_63 : decode cX3_placeOf 63 = .ok (.getfield 10, 3) := by decide +kernel
theorem dX3_placeOf_66 : decode cX3_placeOf 66 = .ok (.getfield 61, 3) := by decide +kernel
theorem dX3_placeOf_69 : decode cX3_placeOf 69 = .ok (.iload_n 1, 1) := by decide +kernel
theorem dX3_placeOf_70 : decode cX3_placeOf 70 = .ok (.iaload, 1) := by decide +kernel
theorem dX3_placeOf_71 : decode cX3_placeOf 71 = .ok (.ireturn, 1) := by decide +kernel
theorem dX3_placeOf_72 : decode cX3_placeOf 72 = .ok (.aload_n 0, 1) := by decide +kernel
theorem dX3_placeOf_73 : decode cX3_placeOf 73 = .ok (.getfield 10, 3) := by decide +kernel
theorem dX3_placeOf_76 : decode cX3_placeOf 76 = .ok (.getfield 64, 3) := by decide +kernel
theorem dX3_placeOf_79 : decode cX3_placeOf 79 = .ok (.iload_n 1, 1) := by decide +kernel
theorem dX3_placeOf_80 : decode cX3_placeOf 80 = .ok (.iaload, 1) := by decide +kernel
theorem dX3_placeOf_81 : decode cX3_placeOf 81 = .ok (.ireturn, 1) := by decide +kernel
theorem dX3_placeOf_82 : decode cX3_placeOf 82 = .ok (.aload_n 0, 1) := by decide +kernel
theorem dX3_placeOf_83 : decode cX3_placeOf 83 = .ok (.getfield 10, 3) := by decide +kernel
theorem dX3_placeOf_86 : decode cX3_placeOf 86 = .ok (.iload_n 1, 1) := by decide +kernel
theorem dX3_placeOf_87 : decode cX3_placeOf 87 = .ok (.invokevirtual 81, 3) := by decide +kernel
theorem dX3_placeOf_90 : decode cX3_placeOf 90 = .ok (.ireturn, 1) := by decide +kernel
theorem dX3_placeOf_91 : decode cX3_placeOf 91 = .ok (.aload_n 0, 1) := by decide +kernel
theorem dX3_placeOf_92 : decode cX3_placeOf 92 = .ok (.invokevirtual 84, 3) := by decide +kernel
theorem dX3_placeOf_95 : decode cX3_placeOf 95 = .ok (.aload_n 0, 1) := by decide +kernel
theorem dX3_placeOf_96 : decode cX3_placeOf 96 = .ok (.iload_n 1, 1) := by decide +kernel
theorem dX3_placeOf_97 : decode cX3_placeOf 97 = .ok (.invokevirtual 87, 3) := by decide +kernel
theorem dX3_placeOf_100 : decode cX3_placeOf 100 = .ok (.ireturn, 1) := by decide +kernel
theorem dX3_placeOf_101 : decode cX3_placeOf 101 = .ok (.aload_n 0, 1) := by decide +kernel
theorem dX3_placeOf_102 : decode cX3_placeOf 102 = .ok (.invokevirtual 90, 3) := by decide +kernel
theorem dX3_placeOf_105 : decode cX3_placeOf 105 = .ok (.aload_n 0, 1) := by decide +kernel
theorem dX3_placeOf_106 : decode cX3_placeOf 106 = .ok (.getfield 33, 3) := by decide +kernel
theorem dX3_placeOf_109 : decode cX3_placeOf 109 = .ok (.iload_n 1, 1) := by decide +kernel
theorem dX3_placeOf_110 : decode cX3_placeOf 110 = .ok (.iaload, 1) := by decide +kernel
theorem dX3_placeOf_111 : decode cX3_placeOf 111 = .ok (.ireturn, 1) := by decide +kernel
theorem dX3_placeOf_112 : decode cX3_placeOf 112 = .ok (.iconst (-1), 1) := by decide +kernel
theorem dX3_placeOf_113 : decode cX3_placeOf 113 = .ok (.ireturn, 1) := by decide +kernel
theorem dX3_count_0 : decode cX3_count 0 = .ok (.iload_n 1, 1) := by decide +kernel
theorem dX3_count_1 : decode cX3_count 1 = .ok (.tableswitch 154 0 8 #[51, 59, 67, 77, 87, 105, 128, 133, 141], 51) := by decide +kernel
theorem dX3_count_52 : decode cX3_count 52 = .ok (.aload_n 0, 1) := by decide +kernel
theorem dX3_count_53 : decode cX3_count 53 = .ok (.getfield 10, 3) := by decide +kernel
theorem dX3_count_56 : decode cX3_count 56 = .ok (.getfield 44, 3) := by decide +kernel
theorem dX3_count_59 : decode cX3_count 59 = .ok (.ireturn, 1) := by decide +kernel
theorem dX3_count_60 : decode cX3_count 60 = .ok (.aload_n 0, 1) := by decide +kernel
theorem dX3_count_61 : decode cX3_count 61 = .ok (.getfield 10, 3) := by decide +kernel
theorem dX3_count_64 : decode cX3_count 64 = .ok (.invokevirtual 93, 3) := by decide +kernel
theorem dX3_count_67 : decode cX3_count 67 = .ok (.ireturn, 1) := by decide +kernel
theorem dX3_count_68 : decode cX3_count 68 = .ok (.aload_n 0, 1) := by decide +kernel
theorem dX3_count_69 : decode cX3_count 69 = .ok (.invokevirtual 84, 3) := by decide +kernel
theorem dX3_count_72 : decode cX3_count 72 = .ok (.aload_n 0, 1) := by decide +kernel
theorem dX3_count_73 : decode cX3_count 73 = .ok (.iconst 0, 1) := by decide +kernel
theorem dX3_count_74 : decode cX3_count 74 = .ok (.invokevirtual 97, 3) := by decide +kernel
theorem dX3_count_77 : decode cX3_count 77 = .ok (.ireturn, 1) := by decide +kernel
theorem dX3_count_78 : decode cX3_count 78 = .ok (.aload_n 0, 1) := by decide +kernel
theorem dX3_count_79 : decode cX3_count 79 = .ok (.invokevirtual 84, 3) := by decide +kernel
theorem dX3_count_82 : decode cX3_count 82 = .ok (.aload_n 0, 1) := by decide +kernel
theorem dX3_count_83 : decode cX3_count 83 = .ok (.iconst 1, 1) := by decide +kernel
theorem dX3_count_84 : decode cX3_count 84 = .ok (.invokevirtual 97, 3) := by decide +kernel
theorem dX3_count_87 : decode cX3_count 87 = .ok (.ireturn, 1) := by decide +kernel
theorem dX3_count_88 : decode cX3_count 88 = .ok (.aload_n 0, 1) := by decide +kernel
theorem dX3_count_89 : decode cX3_count 89 = .ok (.getfield 10, 3) := by decide +kernel
theorem dX3_count_92 : decode cX3_count 92 = .ok (.iconst 0, 1) := by decide +kernel
theorem dX3_count_93 : decode cX3_count 93 = .ok (.invokevirtual 100, 3) := by decide +kernel
theorem dX3_count_96 : decode cX3_count 96 = .ok (.aload_n 0, 1) := by decide +kernel
theorem dX3_count_97 : decode cX3_count 97 = .ok (.getfield 10, 3) := by decide +kernel
theorem dX3_count_100 : decode cX3_count 100 = .ok (.iconst 1, 1) := by decide +kernel
theorem dX3_count_101 : decode cX3_count 101 = .ok (.invokevirtual 100, 3) := by decide +kernel
theorem dX3_count_104 : decode cX3_count 104 = .ok (.ior, 1) := by decide +kernel
theorem dX3_count_105 : decode cX3_count 105 = .ok (.ireturn, 1) := by decide +kernel
theorem dX3_count_106 : decode cX3_count 106 = .ok (.aload_n 0, 1) := by decide +kernel
theorem dX3_count_107 : decode cX3_count 107 = .ok (.getfield 10, 3) := by decide +kernel
theorem dX3_count_110 : decode cX3_count 110 = .ok (.getfield 44, 3) := by decide +kernel
theorem dX3_count_113 : decode cX3_count 113 = .ok (.ifCond .ne 8, 3) := by decide +kernel
theorem dX3_count_116 : decode cX3_count 116 = .ok (.bipush (-4), 2) := by decide +kernel
theorem dX3_count_118 : decode cX3_count 118 = .ok (.goto 10, 3) := by decide +kernel
theorem dX3_count_121 : decode cX3_count 121 = .ok (.aload_n 0, 1) := by decide +kernel
theorem dX3_count_122 : decode cX3_count 122 = .ok (.getfield 10, 3) := by decide +kernel
theorem dX3_count_125 : decode cX3_count 125 = .ok (.invokevirtual 103, 3) := by decide +kernel
theorem dX3_count_128 : decode cX3_count 128 = .ok (.ireturn, 1) := by decide +kernel
theorem dX3_count_129 : decode cX3_count 129 = .ok (.aload_n 0, 1) := by decide +kernel
theorem dX3_count_130 : decode cX3_count 130 = .ok (.getfield 106, 3) := by decide +kernel
theorem dX3_count_133 : decode cX3_count 133 = .ok (.ireturn, 1) := by decide +kernel
theorem dX3_count_134 : decode cX3_count 134 = .ok (.aload_n 0, 1) := by decide +kernel
theorem dX3_count_135 : decode cX3_count 135 = .ok (.getfield 26, 3) := by decide +kernel
theorem dX3_count_138 : decode cX3_count 138 = .ok (.getfield 109, 3) := by decide +kernel
theorem dX3_count_141 : decode cX3_count 141 = .ok (.ireturn, 1) := by decide +kernel
theorem dX3_count_142 : decode cX3_count 142 = .ok (.aload_n 0, 1) := by decide +kernel
theorem dX3_count_143 : decode cX3_count 143 = .ok (.getfield 112, 3) := by decide +kernel
theorem dX3_count_146 : decode cX3_count 146 = .ok (.ifCond .eq 7, 3) := by decide +kernel
theorem dX3_count_149 : decode cX3_count 149 = .ok (.iconst 1, 1) := by decide +kernel
theorem dX3_count_150 : decode cX3_count 150 = .ok (.goto 4, 3) := by decide +kernel
theorem dX3_count_153 : decode cX3_count 153 = .ok (.iconst 0, 1) := by decide +kernel
theorem dX3_count_154 : decode cX3_count 154 = .ok (.ireturn, 1) := by decide +kernel
theorem dX3_count_155 : decode cX3_count 155 = .ok (.iconst (-1), 1) := by decide +kernel
theorem dX3_count_156 : decode cX3_count 156 = .ok (.ireturn, 1) := by decide +kernel
theorem dX3_type_0 : decode cX3_type 0 = .ok (.iload_n 1, 1) := by decide +kernel
theorem dX3_type_1 : decode cX3_type 1 = .ok (.bipush 32, 2) := by decide +kernel
theorem dX3_type_3 : decode cX3_type 3 = .ok (.if_icmp .lt 9, 3) := by decide +kernel
theorem dX3_type_6 : decode cX3_type 6 = .ok (.iload_n 1, 1) := by decide +kernel
theorem dX3_type_7 : decode cX3_type 7 = .ok (.bipush 126, 2) := by decide +kernel
theorem dX3_type_9 : decode cX3_type 9 = .ok (.if_icmp .le 5, 3) := by decide +kernel
theorem dX3_type_12 : decode cX3_type 12 = .ok (.iconst (-1), 1) := by decide +kernel
theorem dX3_type_13 : decode cX3_type 13 = .ok (.ireturn, 1) := by decide +kernel
theorem dX3_type_14 : decode cX3_type 14 = .ok (.aload_n 0, 1) := by decide +kernel
theorem dX3_type_15 : decode cX3_type 15 = .ok (.getfield 26, 3) := by decide +kernel
theorem dX3_type_18 : decode cX3_type 18 = .ok (.getfield 109, 3) := by decide +kernel
theorem dX3_type_21 : decode cX3_type 21 = .ok (.bipush 80, 2) := by decide +kernel
theorem dX3_type_23 : decode cX3_type 23 = .ok (.if_icmp .lt 6, 3) := by decide +kernel
theorem dX3_type_26 : decode cX3_type 26 = .ok (.bipush (-3), 2) := by decide +kernel
theorem dX3_type_28 : decode cX3_type 28 = .ok (.ireturn, 1) := by decide +kernel
theorem dX3_type_29 : decode cX3_type 29 = .ok (.aload_n 0, 1) := by decide +kernel
theorem dX3_type_30 : decode cX3_type 30 = .ok (.getfield 26, 3) := by decide +kernel
theorem dX3_type_33 : decode cX3_type 33 = .ok (.iload_n 1, 1) := by decide +kernel
theorem dX3_type_34 : decode cX3_type 34 = .ok (.i2c, 1) := by decide +kernel
theorem dX3_type_35 : decode cX3_type 35 = .ok (.invokevirtual 153, 3) := by decide +kernel
theorem dX3_type_38 : decode cX3_type 38 = .ok (.aload_n 0, 1) := by decide +kernel
theorem dX3_type_39 : decode cX3_type 39 = .ok (.getfield 26, 3) := by decide +kernel
theorem dX3_type_42 : decode cX3_type 42 = .ok (.getfield 109, 3) := by decide +kernel
theorem dX3_type_45 : decode cX3_type 45 = .ok (.ireturn, 1) := by decide +kernel
theorem dX3_clearText_0 : decode cX3_clearText 0 = .ok (.aload_n 0, 1) := by decide +kernel
theorem dX3_clearText_1 : decode cX3_clearText 1 = .ok (.getfield 26, 3) := by decide +kernel
theorem dX3_clearText_4 : decode cX3_clearText 4 = .ok (.getfield 109, 3) := by decide +kernel
theorem dX3_clearText_7 : decode cX3_clearText 7 = .ok (.istore_n 1, 1) := by decide +kernel
theorem dX3_clearText_8 : decode cX3_clearText 8 = .ok (.aload_n 0, 1) := by decide +kernel
theorem dX3_clearText_9 : decode cX3_clearText 9 = .ok (.getfield 26, 3) := by decide +kernel
theorem dX3_clearText_12 : decode cX3_clearText 12 = .ok (.iconst 0, 1) := by decide +kernel
theorem dX3_clearText_13 : decode cX3_clearText 13 = .ok (.putfield 109, 3) := by decide +kernel
theorem dX3_clearText_16 : decode cX3_clearText 16 = .ok (.iload_n 1, 1) := by decide +kernel
theorem dX3_clearText_17 : decode cX3_clearText 17 = .ok (.ireturn, 1) := by decide +kernel
theorem dX3_fault_0 : decode cX3_fault 0 = .ok (.iload_n 1, 1) := by decide +kernel
theorem dX3_fault_1 : decode cX3_fault 1 = .ok (.ifCond .lt 8, 3) := by decide +kernel
theorem dX3_fault_4 : decode cX3_fault 4 = .ok (.iload_n 1, 1) := by decide +kernel
theorem dX3_fault_5 : decode cX3_fault 5 = .ok (.iconst 1, 1) := by decide +kernel
theorem dX3_fault_6 : decode cX3_fault 6 = .ok (.if_icmp .le 5, 3) := by decide +kernel
theorem dX3_fault_9 : decode cX3_fault 9 = .ok (.iconst (-1), 1) := by decide +kernel
theorem dX3_fault_10 : decode cX3_fault 10 = .ok (.ireturn, 1) := by decide +kernel
theorem dX3_fault_11 : decode cX3_fault 11 = .ok (.aload_n 0, 1) := by decide +kernel
theorem dX3_fault_12 : decode cX3_fault 12 = .ok (.getfield 26, 3) := by decide +kernel
theorem dX3_fault_15 : decode cX3_fault 15 = .ok (.invokevirtual 156, 3) := by decide +kernel
theorem dX3_fault_18 : decode cX3_fault 18 = .ok (.ifCond .eq 6, 3) := by decide +kernel
theorem dX3_fault_21 : decode cX3_fault 21 = .ok (.bipush (-4), 2) := by decide +kernel
theorem dX3_fault_23 : decode cX3_fault 23 = .ok (.ireturn, 1) := by decide +kernel
theorem dX3_fault_24 : decode cX3_fault 24 = .ok (.iload_n 1, 1) := by decide +kernel
theorem dX3_fault_25 : decode cX3_fault 25 = .ok (.ifCond .ne 13, 3) := by decide +kernel
theorem dX3_fault_28 : decode cX3_fault 28 = .ok (.aload_n 0, 1) := by decide +kernel
theorem dX3_fault_29 : decode cX3_fault 29 = .ok (.getfield 26, 3) := by decide +kernel
theorem dX3_fault_32 : decode cX3_fault 32 = .ok (.getfield 160, 3) := by decide +kernel
theorem dX3_fault_35 : decode cX3_fault 35 = .ok (.goto 10, 3) := by decide +kernel
theorem dX3_fault_38 : decode cX3_fault 38 = .ok (.aload_n 0, 1) := by decide +kernel
theorem dX3_fault_39 : decode cX3_fault 39 = .ok (.getfield 26, 3) := by decide +kernel
theorem dX3_fault_42 : decode cX3_fault 42 = .ok (.getfield 163, 3) := by decide +kernel
theorem dX3_fault_45 : decode cX3_fault 45 = .ok (.ireturn, 1) := by decide +kernel
theorem dX3_read_0 : decode cX3_read 0 = .ok (.aload_n 0, 1) := by decide +kernel
theorem dX3_read_1 : decode cX3_read 1 = .ok (.getfield 26, 3) := by decide +kernel
theorem dX3_read_4 : decode cX3_read 4 = .ok (.invokevirtual 156, 3) := by decide +kernel
theorem dX3_read_7 : decode cX3_read 7 = .ok (.ifCond .ne 6, 3) := by decide +kernel
theorem dX3_read_10 : decode cX3_read 10 = .ok (.bipush (-2), 2) := by decide +kernel
theorem dX3_read_12 : decode cX3_read 12 = .ok (.ireturn, 1) := by decide +kernel
theorem dX3_read_13 : decode cX3_read 13 = .ok (.aload_n 0, 1) := by decide +kernel
theorem dX3_read_14 : decode cX3_read 14 = .ok (.invokevirtual 48, 3) := by decide +kernel
theorem dX3_read_17 : decode cX3_read 17 = .ok (.aload_n 0, 1) := by decide +kernel
theorem dX3_read_18 : decode cX3_read 18 = .ok (.getfield 10, 3) := by decide +kernel
theorem dX3_read_21 : decode cX3_read 21 = .ok (.aload_n 0, 1) := by decide +kernel
theorem dX3_read_22 : decode cX3_read 22 = .ok (.getfield 26, 3) := by decide +kernel
theorem dX3_read_25 : decode cX3_read 25 = .ok (.getfield 166, 3) := by decide +kernel
theorem dX3_read_28 : decode cX3_read 28 = .ok (.invokevirtual 138, 3) := by decide +kernel
theorem dX3_read_31 : decode cX3_read 31 = .ok (.aload_n 0, 1) := by decide +kernel
theorem dX3_read_32 : decode cX3_read 32 = .ok (.getfield 10, 3) := by decide +kernel
theorem dX3_read_35 : decode cX3_read 35 = .ok (.getfield 44, 3) := by decide +kernel
theorem dX3_read_38 : decode cX3_read 38 = .ok (.ireturn, 1) := by decide +kernel
theorem dX3_isPlayer_0 : decode cX3_isPlayer 0 = .ok (.iload_n 0, 1) := by decide +kernel
theorem dX3_isPlayer_1 : decode cX3_isPlayer 1 = .ok (.ifCond .eq 8, 3) := by decide +kernel
theorem dX3_isPlayer_4 : decode cX3_isPlayer 4 = .ok (.iload_n 0, 1) := by decide +kernel
theorem dX3_isPlayer_5 : decode cX3_isPlayer 5 = .ok (.iconst 1, 1) := by decide +kernel
theorem dX3_isPlayer_6 : decode cX3_isPlayer 6 = .ok (.if_icmp .ne 7, 3) := by decide +kernel
theorem dX3_isPlayer_9 : decode cX3_isPlayer 9 = .ok (.iconst 1, 1) := by decide +kernel
theorem dX3_isPlayer_10 : decode cX3_isPlayer 10 = .ok (.goto 4, 3) := by decide +kernel
theorem dX3_isPlayer_13 : decode cX3_isPlayer 13 = .ok (.iconst 0, 1) := by decide +kernel
theorem dX3_isPlayer_14 : decode cX3_isPlayer 14 = .ok (.ireturn, 1) := by decide +kernel
theorem dX3_isRank_0 : decode cX3_isRank 0 = .ok (.iload_n 0, 1) := by decide +kernel
theorem dX3_isRank_1 : decode cX3_isRank 1 = .ok (.ifCond .lt 13, 3) := by decide +kernel
theorem dX3_isRank_4 : decode cX3_isRank 4 = .ok (.iload_n 0, 1) := by decide +kernel
theorem dX3_isRank_5 : decode cX3_isRank 5 = .ok (.bipush 6, 2) := by decide +kernel
theorem dX3_isRank_7 : decode cX3_isRank 7 = .ok (.if_icmp .ge 7, 3) := by decide +kernel
theorem dX3_isRank_10 : decode cX3_isRank 10 = .ok (.iconst 1, 1) := by decide +kernel
theorem dX3_isRank_11 : decode cX3_isRank 11 = .ok (.goto 4, 3) := by decide +kernel
theorem dX3_isRank_14 : decode cX3_isRank 14 = .ok (.iconst 0, 1) := by decide +kernel
theorem dX3_isRank_15 : decode cX3_isRank 15 = .ok (.ireturn, 1) := by decide +kernel
theorem dX3_contains_0 : decode cX3_contains 0 = .ok (.iload_n 0, 1) := by decide +kernel
theorem dX3_contains_1 : decode cX3_contains 1 = .ok (.iload_n 1, 1) := by decide +kernel
theorem dX3_contains_2 : decode cX3_contains 2 = .ok (.ishr, 1) := by decide +kernel
theorem dX3_contains_3 : decode cX3_contains 3 = .ok (.iconst 1, 1) := by decide +kernel
theorem dX3_contains_4 : decode cX3_contains 4 = .ok (.iand, 1) := by decide +kernel
theorem dX3_contains_5 : decode cX3_contains 5 = .ok (.iconst 1, 1) := by decide +kernel
theorem dX3_contains_6 : decode cX3_contains 6 = .ok (.if_icmp .ne 7, 3) := by decide +kernel
theorem dX3_contains_9 : decode cX3_contains 9 = .ok (.iconst 1, 1) := by decide +kernel
theorem dX3_contains_10 : decode cX3_contains 10 = .ok (.goto 4, 3) := by decide +kernel
theorem dX3_contains_13 : decode cX3_contains 13 = .ok (.iconst 0, 1) := by decide +kernel
theorem dX3_contains_14 : decode cX3_contains 14 = .ok (.ireturn, 1) := by decide +kernel
theorem dX3_recordState_0 : decode cX3_recordState 0 = .ok (.aload_n 0, 1) := by decide +kernel
theorem dX3_recordState_1 : decode cX3_recordState 1 = .ok (.getfield 106, 3) := by decide +kernel
theorem dX3_recordState_4 : decode cX3_recordState 4 = .ok (.iconst 4, 1) := by decide +kernel
theorem dX3_recordState_5 : decode cX3_recordState 5 = .ok (.if_icmp .lt 7, 3) := by decide +kernel
theorem dX3_recordState_8 : decode cX3_recordState 8 = .ok (.aload_n 0, 1) := by decide +kernel
theorem dX3_recordState_9 : decode cX3_recordState 9 = .ok (.invokevirtual 169, 3) := by decide +kernel
theorem dX3_recordState_12 : decode cX3_recordState 12 = .ok (.aload_n 0, 1) := by decide +kernel
theorem dX3_recordState_13 : decode cX3_recordState 13 = .ok (.getfield 16, 3) := by decide +kernel
theorem dX3_recordState_16 : decode cX3_recordState 16 = .ok (.aload_n 0, 1) := by decide +kernel
theorem dX3_recordState_17 : decode cX3_recordState 17 = .ok (.getfield 106, 3) := by decide +kernel
theorem dX3_recordState_20 : decode cX3_recordState 20 = .ok (.aaload, 1) := by decide +kernel
theorem dX3_recordState_21 : decode cX3_recordState 21 = .ok (.aload_n 0, 1) := by decide +kernel
theorem dX3_recordState_22 : decode cX3_recordState 22 = .ok (.getfield 10, 3) := by decide +kernel
theorem dX3_recordState_25 : decode cX3_recordState 25 = .ok (.invokevirtual 138, 3) := by decide +kernel
theorem dX3_recordState_28 : decode cX3_recordState 28 = .ok (.aload_n 0, 1) := by decide +kernel
theorem dX3_recordState_29 : decode cX3_recordState 29 = .ok (.dup, 1) := by decide +kernel
theorem dX3_recordState_30 : decode cX3_recordState 30 = .ok (.getfield 106, 3) := by decide +kernel
theorem dX3_recordState_33 : decode cX3_recordState 33 = .ok (.iconst 1, 1) := by decide +kernel
theorem dX3_recordState_34 : decode cX3_recordState 34 = .ok (.iadd, 1) := by decide +kernel
theorem dX3_recordState_35 : decode cX3_recordState 35 = .ok (.putfield 106, 3) := by decide +kernel
theorem dX3_recordState_38 : decode cX3_recordState 38 = .ok (.aload_n 0, 1) := by decide +kernel
theorem dX3_recordState_39 : decode cX3_recordState 39 = .ok (.invokevirtual 150, 3) := by decide +kernel
theorem dX3_recordState_42 : decode cX3_recordState 42 = .ok (.return_, 1) := by decide +kernel
theorem dX3_dropOldestState_0 : decode cX3_dropOldestState 0 = .ok (.aload_n 0, 1) := by decide +kernel
theorem dX3_dropOldestState_1 : decode cX3_dropOldestState 1 = .ok (.getfield 16, 3) := by decide +kernel
theorem dX3_dropOldestState_4 : decode cX3_dropOldestState 4 = .ok (.iconst 0, 1) := by decide +kernel
theorem dX3_dropOldestState_5 : decode cX3_dropOldestState 5 = .ok (.aaload, 1) := by decide +kernel
theorem dX3_dropOldestState_6 : decode cX3_dropOldestState 6 = .ok (.astore_n 1, 1) := by decide +kernel
theorem dX3_dropOldestState_7 : decode cX3_dropOldestState 7 = .ok (.iconst 1, 1) := by decide +kernel
theorem dX3_dropOldestState_8 : decode cX3_dropOldestState 8 = .ok (.istore_n 2, 1) := by decide +kernel
theorem dX3_dropOldestState_9 : decode cX3_dropOldestState 9 = .ok (.iload_n 2, 1) := by decide +kernel
theorem dX3_dropOldestState_10 : decode cX3_dropOldestState 10 = .ok (.iconst 4, 1) := by decide +kernel
theorem dX3_dropOldestState_11 : decode cX3_dropOldestState 11 = .ok (.if_icmp .ge 23, 3) := by decide +kernel
theorem dX3_dropOldestState_14 : decode cX3_dropOldestState 14 = .ok (.aload_n 0, 1) := by decide +kernel
theorem dX3_dropOldestState_15 : decode cX3_dropOldestState 15 = .ok (.getfield 16, 3) := by decide +kernel
theorem dX3_dropOldestState_18 : decode cX3_dropOldestState 18 = .ok (.iload_n 2, 1) := by decide +kernel
theorem dX3_dropOldestState_19 : decode cX3_dropOldestState 19 = .ok (.iconst 1, 1) := by decide +kernel
theorem dX3_dropOldestState_20 : decode cX3_dropOldestState 20 = .ok (.isub, 1) := by decide +kernel
theorem dX3_dropOldestState_21 : decode cX3_dropOldestState 21 = .ok (.aload_n 0, 1) := by decide +kernel
theorem dX3_dropOldestState_22 : decode cX3_dropOldestState 22 = .ok (.getfield 16, 3) := by decide +kernel
theorem dX3_dropOldestState_25 : decode cX3_dropOldestState 25 = .ok (.iload_n 2, 1) := by decide +kernel
theorem dX3_dropOldestState_26 : decode cX3_dropOldestState 26 = .ok (.aaload, 1) := by decide +kernel
theorem dX3_dropOldestState_27 : decode cX3_dropOldestState 27 = .ok (.aastore, 1) := by decide +kernel
theorem dX3_dropOldestState_28 : decode cX3_dropOldestState 28 = .ok (.iinc 2 1, 3) := by decide +kernel
theorem dX3_dropOldestState_31 : decode cX3_dropOldestState 31 = .ok (.goto (-22), 3) := by decide +kernel
theorem dX3_dropOldestState_34 : decode cX3_dropOldestState 34 = .ok (.aload_n 0, 1) := by decide +kernel
theorem dX3_dropOldestState_35 : decode cX3_dropOldestState 35 = .ok (.getfield 16, 3) := by decide +kernel
theorem dX3_dropOldestState_38 : decode cX3_dropOldestState 38 = .ok (.iconst 3, 1) := by decide +kernel
theorem dX3_dropOldestState_39 : decode cX3_dropOldestState 39 = .ok (.aload_n 1, 1) := by decide +kernel
theorem dX3_dropOldestState_40 : decode cX3_dropOldestState 40 = .ok (.aastore, 1) := by decide +kernel
theorem dX3_dropOldestState_41 : decode cX3_dropOldestState 41 = .ok (.aload_n 0, 1) := by decide +kernel
theorem dX3_dropOldestState_42 : decode cX3_dropOldestState 42 = .ok (.iconst 3, 1) := by decide +kernel
theorem dX3_dropOldestState_43 : decode cX3_dropOldestState 43 = .ok (.putfield 106, 3) := by decide +kernel
theorem dX3_dropOldestState_46 : decode cX3_dropOldestState 46 = .ok (.return_, 1) := by decide +kernel
theorem dX3_forgetFindings_0 : decode cX3_forgetFindings 0 = .ok (.aload_n 0, 1) := by decide +kernel
theorem dX3_forgetFindings_1 : decode cX3_forgetFindings 1 = .ok (.iconst 0, 1) := by decide +kernel
theorem dX3_forgetFindings_2 : decode cX3_forgetFindings 2 = .ok (.putfield 172, 3) := by decide +kernel
theorem dX3_forgetFindings_5 : decode cX3_forgetFindings 5 = .ok (.aload_n 0, 1) := by decide +kernel
theorem dX3_forgetFindings_6 : decode cX3_forgetFindings 6 = .ok (.iconst 0, 1) := by decide +kernel
theorem dX3_forgetFindings_7 : decode cX3_forgetFindings 7 = .ok (.putfield 175, 3) := by decide +kernel
theorem dX3_forgetFindings_10 : decode cX3_forgetFindings 10 = .ok (.return_, 1) := by decide +kernel
theorem dX3_findWinners_0 : decode cX3_findWinners 0 = .ok (.aload_n 0, 1) := by decide +kernel
theorem dX3_findWinners_1 : decode cX3_findWinners 1 = .ok (.getfield 172, 3) := by decide +kernel
theorem dX3_findWinners_4 : decode cX3_findWinners 4 = .ok (.ifCond .ne 19, 3) := by decide +kernel
theorem dX3_findWinners_7 : decode cX3_findWinners 7 = .ok (.aload_n 0, 1) := by decide +kernel
theorem dX3_findWinners_8 : decode cX3_findWinners 8 = .ok (.aload_n 0, 1) := by decide +kernel
theorem dX3_findWinners_9 : decode cX3_findWinners 9 = .ok (.getfield 10, 3) := by decide +kernel
theorem dX3_findWinners_12 : decode cX3_findWinners 12 = .ok (.invokestatic 142, 3) := by decide +kernel
theorem dX3_findWinners_15 : decode cX3_findWinners 15 = .ok (.putfield 178, 3) := by decide +kernel
theorem dX3_findWinners_18 : decode cX3_findWinners 18 = .ok (.aload_n 0, 1) := by decide +kernel
theorem dX3_findWinners_19 : decode cX3_findWinners 19 = .ok (.iconst 1, 1) := by decide +kernel
theorem dX3_findWinners_20 : decode cX3_findWinners 20 = .ok (.putfield 172, 3) := by decide +kernel
theorem dX3_findWinners_23 : decode cX3_findWinners 23 = .ok (.return_, 1) := by decide +kernel
theorem dX3_winsOf_0 : decode cX3_winsOf 0 = .ok (.iload_n 1, 1) := by decide +kernel
theorem dX3_winsOf_1 : decode cX3_winsOf 1 = .ok (.ifCond .ne 10, 3) := by decide +kernel
theorem dX3_winsOf_4 : decode cX3_winsOf 4 = .ok (.aload_n 0, 1) := by decide +kernel
theorem dX3_winsOf_5 : decode cX3_winsOf 5 = .ok (.getfield 178, 3) := by decide +kernel
theorem dX3_winsOf_8 : decode cX3_winsOf 8 = .ok (.goto 17, 3) := by decide +kernel
theorem dX3_winsOf_11 : decode cX3_winsOf 11 = .ok (.aload_n 0, 1) := by decide +kernel
theorem dX3_winsOf_12 : decode cX3_winsOf 12 = .ok (.getfield 10, 3) := by decide +kernel
theorem dX3_winsOf_15 : decode cX3_winsOf 15 = .ok (.invokevirtual 119, 3) := by decide +kernel
theorem dX3_winsOf_18 : decode cX3_winsOf 18 = .ok (.aload_n 0, 1) := by decide +kernel
theorem dX3_winsOf_19 : decode cX3_winsOf 19 = .ok (.getfield 178, 3) := by decide +kernel
theorem dX3_winsOf_22 : decode cX3_winsOf 22 = .ok (.iconst (-1), 1) := by decide +kernel
theorem dX3_winsOf_23 : decode cX3_winsOf 23 = .ok (.ixor, 1) := by decide +kernel
theorem dX3_winsOf_24 : decode cX3_winsOf 24 = .ok (.iand, 1) := by decide +kernel
theorem dX3_winsOf_25 : decode cX3_winsOf 25 = .ok (.ireturn, 1) := by decide +kernel
theorem dX3_winnerFrom_0 : decode cX3_winnerFrom 0 = .ok (.aload_n 0, 1) := by decide +kernel
theorem dX3_winnerFrom_1 : decode cX3_winnerFrom 1 = .ok (.getfield 178, 3) := by decide +kernel
theorem dX3_winnerFrom_4 : decode cX3_winnerFrom 4 = .ok (.iload_n 1, 1) := by decide +kernel
theorem dX3_winnerFrom_5 : decode cX3_winnerFrom 5 = .ok (.invokestatic 67, 3) := by decide +kernel
theorem dX3_winnerFrom_8 : decode cX3_winnerFrom 8 = .ok (.ifCond .eq 7, 3) := by decide +kernel
theorem dX3_winnerFrom_11 : decode cX3_winnerFrom 11 = .ok (.iconst 0, 1) := by decide +kernel
theorem dX3_winnerFrom_12 : decode cX3_winnerFrom 12 = .ok (.goto 4, 3) := by decide +kernel
theorem dX3_winnerFrom_15 : decode cX3_winnerFrom 15 = .ok (.iconst 1, 1) := by decide +kernel
theorem dX3_winnerFrom_16 : decode cX3_winnerFrom 16 = .ok (.ireturn, 1) := by decide +kernel
theorem dX3_findChoices_0 : decode cX3_findChoices 0 = .ok (.aload_n 0, 1) := by decide +kernel
theorem dX3_findChoices_1 : decode cX3_findChoices 1 = .ok (.getfield 175, 3) := by decide +kernel
theorem dX3_findChoices_4 : decode cX3_findChoices 4 = .ok (.ifCond .eq 4, 3) := by decide +kernel
theorem dX3_findChoices_7 : decode cX3_findChoices 7 = .ok (.return_, 1) := by decide +kernel
theorem dX3_findChoices_8 : decode cX3_findChoices 8 = .ok (.aload_n 0, 1) := by decide +kernel
theorem dX3_findChoices_9 : decode cX3_findChoices 9 = .ok (.invokevirtual 84, 3) := by decide +kernel
theorem dX3_findChoices_12 : decode cX3_findChoices 12 = .ok (.aload_n 0, 1) := by decide +kernel
theorem dX3_findChoices_13 : decode cX3_findChoices 13 = .ok (.getfield 30, 3) := by decide +kernel
theorem dX3_findChoices_16 : decode cX3_findChoices 16 = .ok (.aload_n 0, 1) := by decide +kernel
theorem dX3_findChoices_17 : decode cX3_findChoices 17 = .ok (.getfield 10, 3) := by decide +kernel
theorem dX3_findChoices_20 : decode cX3_findChoices 20 = .ok (.invokevirtual 138, 3) := by decide +kernel
theorem dX3_findChoices_23 : decode cX3_findChoices 23 = .ok (.iconst 0, 1) := by decide +kernel
theorem dX3_findChoices_24 : decode cX3_findChoices 24 = .ok (.istore_n 1, 1) := by decide +kernel
theorem dX3_findChoices_25 : decode cX3_findChoices 25 = .ok (.iload_n 1, 1) := by decide +kernel
theorem dX3_findChoices_26 : decode cX3_findChoices 26 = .ok (.aload_n 0, 1) := by decide +kernel
theorem dX3_findChoices_27 : decode cX3_findChoices 27 = .ok (.getfield 10, 3) := by decide +kernel
theorem dX3_findChoices_30 : decode cX3_findChoices 30 = .ok (.getfield 44, 3) := by decide +kernel
theorem dX3_findChoices_33 : decode cX3_findChoices 33 = .ok (.if_icmp .ge 75, 3) := by decide +kernel
theorem dX3_findChoices_36 : decode cX3_findChoices 36 = .ok (.aload_n 0, 1) := by decide +kernel
theorem dX3_findChoices_37 : decode cX3_findChoices 37 = .ok (.getfield 10, 3) := by decide +kernel
theorem dX3_findChoices_40 : decode cX3_findChoices 40 = .ok (.getfield 64, 3) := by decide +kernel
theorem dX3_findChoices_43 : decode cX3_findChoices 43 = .ok (.iload_n 1, 1) := by decide +kernel
theorem dX3_findChoices_44 : decode cX3_findChoices 44 = .ok (.iaload, 1) := by decide +kernel
theorem dX3_findChoices_45 : decode cX3_findChoices 45 = .ok (.istore_n 2, 1) := by decide +kernel
theorem dX3_findChoices_46 : decode cX3_findChoices 46 = .ok (.iload_n 2, 1) := by decide +kernel
theorem dX3_findChoices_47 : decode cX3_findChoices 47 = .ok (.ifCond .ne 14, 3) := by decide +kernel
theorem dX3_findChoices_50 : decode cX3_findChoices 50 = .ok (.aload_n 0, 1) := by decide +kernel
theorem dX3_findChoices_51 : decode cX3_findChoices 51 = .ok (.getfield 33, 3) := by decide +kernel
theorem dX3_findChoices_54 : decode cX3_findChoices 54 = .ok (.iload_n 1, 1) := by decide +kernel
theorem dX3_findChoices_55 : decode cX3_findChoices 55 = .ok (.bipush (-4), 2) := by decide +kernel
theorem dX3_findChoices_57 : decode cX3_findChoices 57 = .ok (.iastore, 1) := by decide +kernel
theorem dX3_findChoices_58 : decode cX3_findChoices 58 = .ok (.goto 44, 3) := by decide +kernel
theorem dX3_findChoices_61 : decode cX3_findChoices 61 = .ok (.aload_n 0, 1) := by decide +kernel
theorem dX3_findChoices_62 : decode cX3_findChoices 62 = .ok (.getfield 10, 3) := by decide +kernel
theorem dX3_findChoices_65 : decode cX3_findChoices 65 = .ok (.getfield 58, 3) := by decide +kernel
theorem dX3_findChoices_68 : decode cX3_findChoices 68 = .ok (.iload_n 1, 1) := by decide +kernel
theorem dX3_findChoices_69 : decode cX3_findChoices 69 = .ok (.iaload, 1) := by decide +kernel
theorem dX3_findChoices_70 : decode cX3_findChoices 70 = .ok (.aload_n 0, 1) := by decide +kernel
theorem dX3_findChoices_71 : decode cX3_findChoices 71 = .ok (.iload_n 1, 1) := by decide +kernel
theorem dX3_findChoices_72 : decode cX3_findChoices 72 = .ok (.invokevirtual 87, 3) := by decide +kernel
theorem dX3_findChoices_75 : decode cX3_findChoices 75 = .ok (.if_icmp .ne 17, 3) := by decide +kernel
theorem dX3_findChoices_78 : decode cX3_findChoices 78 = .ok (.aload_n 0, 1) := by decide +kernel
theorem dX3_findChoices_79 : decode cX3_findChoices 79 = .ok (.getfield 33, 3) := by decide +kernel
theorem dX3_findChoices_82 : decode cX3_findChoices 82 = .ok (.iload_n 1, 1) := by decide +kernel
theorem dX3_findChoices_83 : decode cX3_findChoices 83 = .ok (.aload_n 0, 1) := by decide +kernel
theorem dX3_findChoices_84 : decode cX3_findChoices 84 = .ok (.iload_n 1, 1) := by decide +kernel
theorem dX3_findChoices_85 : decode cX3_findChoices 85 = .ok (.invokevirtual 180, 3) := by decide +kernel
theorem dX3_findChoices_88 : decode cX3_findChoices 88 = .ok (.iastore, 1) := by decide +kernel
theorem dX3_findChoices_89 : decode cX3_findChoices 89 = .ok (.goto 13, 3) := by decide +kernel
theorem dX3_findChoices_92 : decode cX3_findChoices 92 = .ok (.aload_n 0, 1) := by decide +kernel
theorem dX3_findChoices_93 : decode cX3_findChoices 93 = .ok (.getfield 33, 3) := by decide +kernel
theorem dX3_findChoices_96 : decode cX3_findChoices 96 = .ok (.iload_n 1, 1) := by decide +kernel
theorem dX3_findChoices_97 : decode cX3_findChoices 97 = .ok (.iload_n 2, 1) := by decide +kernel
theorem dX3_findChoices_98 : decode cX3_findChoices 98 = .ok (.invokestatic 183, 3) := by decide +kernel
theorem dX3_findChoices_101 : decode cX3_findChoices 101 = .ok (.iastore, 1) := by decide +kernel
theorem dX3_findChoices_102 : decode cX3_findChoices 102 = .ok (.iinc 1 1, 3) := by decide +kernel
theorem dX3_findChoices_105 : decode cX3_findChoices 105 = .ok (.goto (-80), 3) := by decide +kernel
theorem dX3_findChoices_108 : decode cX3_findChoices 108 = .ok (.aload_n 0, 1) := by decide +kernel
theorem dX3_findChoices_109 : decode cX3_findChoices 109 = .ok (.iconst 1, 1) := by decide +kernel
theorem dX3_findChoices_110 : decode cX3_findChoices 110 = .ok (.putfield 175, 3) := by decide +kernel
theorem dX3_findChoices_113 : decode cX3_findChoices 113 = .ok (.return_, 1) := by decide +kernel
theorem dX3_settle_0 : decode cX3_settle 0 = .ok (.aload_n 0, 1) := by decide +kernel
theorem dX3_settle_1 : decode cX3_settle 1 = .ok (.getfield 10, 3) := by decide +kernel
theorem dX3_settle_4 : decode cX3_settle 4 = .ok (.getfield 64, 3) := by decide +kernel
theorem dX3_settle_7 : decode cX3_settle 7 = .ok (.iload_n 1, 1) := by decide +kernel
theorem dX3_settle_8 : decode cX3_settle 8 = .ok (.iaload, 1) := by decide +kernel
theorem dX3_settle_9 : decode cX3_settle 9 = .ok (.istore_n 2, 1) := by decide +kernel
theorem dX3_settle_10 : decode cX3_settle 10 = .ok (.iconst 0, 1) := by decide +kernel
theorem dX3_settle_11 : decode cX3_settle 11 = .ok (.istore_n 3, 1) := by decide +kernel
theorem dX3_settle_12 : decode cX3_settle 12 = .ok (.iload_n 3, 1) := by decide +kernel
theorem dX3_settle_13 : decode cX3_settle 13 = .ok (.aload_n 0, 1) := by decide +kernel
theorem dX3_settle_14 : decode cX3_settle 14 = .ok (.getfield 10, 3) := by decide +kernel
theorem dX3_settle_17 : decode cX3_settle 17 = .ok (.getfield 44, 3) := by decide +kernel
theorem dX3_settle_20 : decode cX3_settle 20 = .ok (.if_icmp .ge 59, 3) := by decide +kernel
theorem dX3_settle_23 : decode cX3_settle 23 = .ok (.iload_n 2, 1) := by decide +kernel
theorem dX3_settle_24 : decode cX3_settle 24 = .ok (.iload_n 3, 1) := by decide +kernel
theorem dX3_settle_25 : decode cX3_settle 25 = .ok (.invokestatic 67, 3) := by decide +kernel
theorem dX3_settle_28 : decode cX3_settle 28 = .ok (.ifCond .eq 45, 3) := by decide +kernel
theorem dX3_settle_31 : decode cX3_settle 31 = .ok (.aload_n 0, 1) := by decide +kernel
theorem dX3_settle_32 : decode cX3_settle 32 = .ok (.iload_n 3, 1) := by decide +kernel
theorem dX3_settle_33 : decode cX3_settle 33 = .ok (.invokevirtual 87, 3) := by decide +kernel
theorem dX3_settle_36 : decode cX3_settle 36 = .ok (.aload_n 0, 1) := by decide +kernel
theorem dX3_settle_37 : decode cX3_settle 37 = .ok (.iload_n 1, 1) := by decide +kernel
theorem dX3_settle_38 : decode cX3_settle 38 = .ok (.invokevirtual 87, 3) := by decide +kernel
theorem dX3_settle_41 : decode cX3_settle 41 = .ok (.if_icmp .ne 32, 3) := by decide +kernel
theorem dX3_settle_44 : decode cX3_settle 44 = .ok (.aload_n 0, 1) := by decide +kernel
theorem dX3_settle_45 : decode cX3_settle 45 = .ok (.getfield 30, 3) := by decide +kernel
theorem dX3_settle_48 : decode cX3_settle 48 = .ok (.getfield 64, 3) := by decide +kernel
theorem dX3_settle_51 : decode cX3_settle 51 = .ok (.iload_n 1, 1) := by decide +kernel
theorem dX3_settle_52 : decode cX3_settle 52 = .ok (.iconst 1, 1) := by decide +kernel
theorem dX3_settle_53 : decode cX3_settle 53 = .ok (.iload_n 3, 1) := by decide +kernel
theorem dX3_settle_54 : decode cX3_settle 54 = .ok (.ishl, 1) := by decide +kernel
theorem dX3_settle_55 : decode cX3_settle 55 = .ok (.iastore, 1) := by decide +kernel
theorem dX3_settle_56 : decode cX3_settle 56 = .ok (.aload_n 0, 1) := by decide +kernel
theorem dX3_settle_57 : decode cX3_settle 57 = .ok (.getfield 30, 3) := by decide +kernel
theorem dX3_settle_60 : decode cX3_settle 60 = .ok (.invokestatic 142, 3) := by decide +kernel
theorem dX3_settle_63 : decode cX3_settle 63 = .ok (.aload_n 0, 1) := by decide +kernel
theorem dX3_settle_64 : decode cX3_settle 64 = .ok (.iconst 0, 1) := by decide +kernel
theorem dX3_settle_65 : decode cX3_settle 65 = .ok (.invokevirtual 97, 3) := by decide +kernel
theorem dX3_settle_68 : decode cX3_settle 68 = .ok (.if_icmp .ne 5, 3) := by decide +kernel
theorem dX3_settle_71 : decode cX3_settle 71 = .ok (.iload_n 3, 1) := by decide +kernel
theorem dX3_settle_72 : decode cX3_settle 72 = .ok (.ireturn, 1) := by decide +kernel
theorem dX3_settle_73 : decode cX3_settle 73 = .ok (.iinc 3 1, 3) := by decide +kernel
theorem dX3_settle_76 : decode cX3_settle 76 = .ok (.goto (-64), 3) := by decide +kernel
theorem dX3_settle_79 : decode cX3_settle 79 = .ok (.bipush (-4), 2) := by decide +kernel
theorem dX3_settle_81 : decode cX3_settle 81 = .ok (.ireturn, 1) := by decide +kernel
theorem dJ6_numberOfTrailingZeros_0f7a4_0 : decode cJ6_numberOfTrailingZeros_0f7a4 0 = .ok (.iload_n 0, 1) := by decide +kernel
theorem dJ6_numberOfTrailingZeros_0f7a4_1 : decode cJ6_numberOfTrailingZeros_0f7a4 1 = .ok (.iconst (-1), 1) := by decide +kernel
theorem dJ6_numberOfTrailingZeros_0f7a4_2 : decode cJ6_numberOfTrailingZeros_0f7a4 2 = .ok (.ixor, 1) := by decide +kernel
theorem dJ6_numberOfTrailingZeros_0f7a4_3 : decode cJ6_numberOfTrailingZeros_0f7a4 3 = .ok (.iload_n 0, 1) := by decide +kernel
theorem dJ6_numberOfTrailingZeros_0f7a4_4 : decode cJ6_numberOfTrailingZeros_0f7a4 4 = .ok (.iconst 1, 1) := by decide +kernel
theorem dJ6_numberOfTrailingZeros_0f7a4_5 : decode cJ6_numberOfTrailingZeros_0f7a4 5 = .ok (.isub, 1) := by decide +kernel
theorem dJ6_numberOfTrailingZeros_0f7a4_6 : decode cJ6_numberOfTrailingZeros_0f7a4 6 = .ok (.iand, 1) := by decide +kernel
theorem dJ6_numberOfTrailingZeros_0f7a4_7 : decode cJ6_numberOfTrailingZeros_0f7a4 7 = .ok (.istore_n 0, 1) := by decide +kernel
theorem dJ6_numberOfTrailingZeros_0f7a4_8 : decode cJ6_numberOfTrailingZeros_0f7a4 8 = .ok (.iload_n 0, 1) := by decide +kernel
theorem dJ6_numberOfTrailingZeros_0f7a4_9 : decode cJ6_numberOfTrailingZeros_0f7a4 9 = .ok (.ifCond .gt 8, 3) := by decide +kernel
theorem dJ6_numberOfTrailingZeros_0f7a4_12 : decode cJ6_numberOfTrailingZeros_0f7a4 12 = .ok (.iload_n 0, 1) := by decide +kernel
theorem dJ6_numberOfTrailingZeros_0f7a4_13 : decode cJ6_numberOfTrailingZeros_0f7a4 13 = .ok (.bipush 32, 2) := by decide +kernel
theorem dJ6_numberOfTrailingZeros_0f7a4_15 : decode cJ6_numberOfTrailingZeros_0f7a4 15 = .ok (.iand, 1) := by decide +kernel
theorem dJ6_numberOfTrailingZeros_0f7a4_16 : decode cJ6_numberOfTrailingZeros_0f7a4 16 = .ok (.ireturn, 1) := by decide +kernel
theorem dJ6_numberOfTrailingZeros_0f7a4_17 : decode cJ6_numberOfTrailingZeros_0f7a4 17 = .ok (.iconst 1, 1) := by decide +kernel
theorem dJ6_numberOfTrailingZeros_0f7a4_18 : decode cJ6_numberOfTrailingZeros_0f7a4 18 = .ok (.istore_n 1, 1) := by decide +kernel
theorem dJ6_numberOfTrailingZeros_0f7a4_19 : decode cJ6_numberOfTrailingZeros_0f7a4 19 = .ok (.iload_n 0, 1) := by decide +kernel
theorem dJ6_numberOfTrailingZeros_0f7a4_20 : decode cJ6_numberOfTrailingZeros_0f7a4 20 = .ok (.ldc_w 264, 3) := by decide +kernel
theorem dJ6_numberOfTrailingZeros_0f7a4_23 : decode cJ6_numberOfTrailingZeros_0f7a4 23 = .ok (.if_icmp .le 11, 3) := by decide +kernel
theorem dJ6_numberOfTrailingZeros_0f7a4_26 : decode cJ6_numberOfTrailingZeros_0f7a4 26 = .ok (.iinc 1 16, 3) := by decide +kernel
theorem dJ6_numberOfTrailingZeros_0f7a4_29 : decode cJ6_numberOfTrailingZeros_0f7a4 29 = .ok (.iload_n 0, 1) := by decide +kernel
theorem dJ6_numberOfTrailingZeros_0f7a4_30 : decode cJ6_numberOfTrailingZeros_0f7a4 30 = .ok (.bipush 16, 2) := by decide +kernel
theorem dJ6_numberOfTrailingZeros_0f7a4_32 : decode cJ6_numberOfTrailingZeros_0f7a4 32 = .ok (.iushr, 1) := by decide +kernel
theorem dJ6_numberOfTrailingZeros_0f7a4_33 : decode cJ6_numberOfTrailingZeros_0f7a4 33 = .ok (.istore_n 0, 1) := by decide +kernel
theorem dJ6_numberOfTrailingZeros_0f7a4_34 : decode cJ6_numberOfTrailingZeros_0f7a4 34 = .ok (.iload_n 0, 1) := by decide +kernel
theorem dJ6_numberOfTrailingZeros_0f7a4_35 : decode cJ6_numberOfTrailingZeros_0f7a4 35 = .ok (.sipush 256, 3) := by decide +kernel
theorem dJ6_numberOfTrailingZeros_0f7a4_38 : decode cJ6_numberOfTrailingZeros_0f7a4 38 = .ok (.if_icmp .le 11, 3) := by decide +kernel
theorem dJ6_numberOfTrailingZeros_0f7a4_41 : decode cJ6_numberOfTrailingZeros_0f7a4 41 = .ok (.iinc 1 8, 3) := by decide +kernel
theorem dJ6_numberOfTrailingZeros_0f7a4_44 : decode cJ6_numberOfTrailingZeros_0f7a4 44 = .ok (.iload_n 0, 1) := by decide +kernel
theorem dJ6_numberOfTrailingZeros_0f7a4_45 : decode cJ6_numberOfTrailingZeros_0f7a4 45 = .ok (.bipush 8, 2) := by decide +kernel
theorem dJ6_numberOfTrailingZeros_0f7a4_47 : decode cJ6_numberOfTrailingZeros_0f7a4 47 = .ok (.iushr, 1) := by decide +kernel
theorem dJ6_numberOfTrailingZeros_0f7a4_48 : decode cJ6_numberOfTrailingZeros_0f7a4 48 = .ok (.istore_n 0, 1) := by decide +kernel
theorem dJ6_numberOfTrailingZeros_0f7a4_49 : decode cJ6_numberOfTrailingZeros_0f7a4 49 = .ok (.iload_n 0, 1) := by decide +kernel
theorem dJ6_numberOfTrailingZeros_0f7a4_50 : decode cJ6_numberOfTrailingZeros_0f7a4 50 = .ok (.bipush 16, 2) := by decide +kernel
theorem dJ6_numberOfTrailingZeros_0f7a4_52 : decode cJ6_numberOfTrailingZeros_0f7a4 52 = .ok (.if_icmp .le 10, 3) := by decide +kernel
theorem dJ6_numberOfTrailingZeros_0f7a4_55 : decode cJ6_numberOfTrailingZeros_0f7a4 55 = .ok (.iinc 1 4, 3) := by decide +kernel
theorem dJ6_numberOfTrailingZeros_0f7a4_58 : decode cJ6_numberOfTrailingZeros_0f7a4 58 = .ok (.iload_n 0, 1) := by decide +kernel
theorem dJ6_numberOfTrailingZeros_0f7a4_59 : decode cJ6_numberOfTrailingZeros_0f7a4 59 = .ok (.iconst 4, 1) := by decide +kernel
theorem dJ6_numberOfTrailingZeros_0f7a4_60 : decode cJ6_numberOfTrailingZeros_0f7a4 60 = .ok (.iushr, 1) := by decide +kernel
theorem dJ6_numberOfTrailingZeros_0f7a4_61 : decode cJ6_numberOfTrailingZeros_0f7a4 61 = .ok (.istore_n 0, 1) := by decide +kernel
theorem dJ6_numberOfTrailingZeros_0f7a4_62 : decode cJ6_numberOfTrailingZeros_0f7a4 62 = .ok (.iload_n 0, 1) := by decide +kernel
theorem dJ6_numberOfTrailingZeros_0f7a4_63 : decode cJ6_numberOfTrailingZeros_0f7a4 63 = .ok (.iconst 4, 1) := by decide +kernel
theorem dJ6_numberOfTrailingZeros_0f7a4_64 : decode cJ6_numberOfTrailingZeros_0f7a4 64 = .ok (.if_icmp .le 10, 3) := by decide +kernel
theorem dJ6_numberOfTrailingZeros_0f7a4_67 : decode cJ6_numberOfTrailingZeros_0f7a4 67 = .ok (.iinc 1 2, 3) := by decide +kernel
theorem dJ6_numberOfTrailingZeros_0f7a4_70 : decode cJ6_numberOfTrailingZeros_0f7a4 70 = .ok (.iload_n 0, 1) := by decide +kernel
theorem dJ6_numberOfTrailingZeros_0f7a4_71 : decode cJ6_numberOfTrailingZeros_0f7a4 71 = .ok (.iconst 2, 1) := by decide +kernel
theorem dJ6_numberOfTrailingZeros_0f7a4_72 : decode cJ6_numberOfTrailingZeros_0f7a4 72 = .ok (.iushr, 1) := by decide +kernel
theorem dJ6_numberOfTrailingZeros_0f7a4_73 : decode cJ6_numberOfTrailingZeros_0f7a4 73 = .ok (.istore_n 0, 1) := by decide +kernel
theorem dJ6_numberOfTrailingZeros_0f7a4_74 : decode cJ6_numberOfTrailingZeros_0f7a4 74 = .ok (.iload_n 1, 1) := by decide +kernel
theorem dJ6_numberOfTrailingZeros_0f7a4_75 : decode cJ6_numberOfTrailingZeros_0f7a4 75 = .ok (.iload_n 0, 1) := by decide +kernel
theorem dJ6_numberOfTrailingZeros_0f7a4_76 : decode cJ6_numberOfTrailingZeros_0f7a4 76 = .ok (.iconst 1, 1) := by decide +kernel
theorem dJ6_numberOfTrailingZeros_0f7a4_77 : decode cJ6_numberOfTrailingZeros_0f7a4 77 = .ok (.iushr, 1) := by decide +kernel
theorem dJ6_numberOfTrailingZeros_0f7a4_78 : decode cJ6_numberOfTrailingZeros_0f7a4 78 = .ok (.iadd, 1) := by decide +kernel
theorem dJ6_numberOfTrailingZeros_0f7a4_79 : decode cJ6_numberOfTrailingZeros_0f7a4 79 = .ok (.ireturn, 1) := by decide +kernel
theorem dJ6_bitCount_0f7a4_0 : decode cJ6_bitCount_0f7a4 0 = .ok (.iload_n 0, 1) := by decide +kernel
theorem dJ6_bitCount_0f7a4_1 : decode cJ6_bitCount_0f7a4 1 = .ok (.iload_n 0, 1) := by decide +kernel
theorem dJ6_bitCount_0f7a4_2 : decode cJ6_bitCount_0f7a4 2 = .ok (.iconst 1, 1) := by decide +kernel
theorem dJ6_bitCount_0f7a4_3 : decode cJ6_bitCount_0f7a4 3 = .ok (.iushr, 1) := by decide +kernel
theorem dJ6_bitCount_0f7a4_4 : decode cJ6_bitCount_0f7a4 4 = .ok (.ldc_w 265, 3) := by decide +kernel
theorem dJ6_bitCount_0f7a4_7 : decode cJ6_bitCount_0f7a4 7 = .ok (.iand, 1) := by decide +kernel
theorem dJ6_bitCount_0f7a4_8 : decode cJ6_bitCount_0f7a4 8 = .ok (.isub, 1) := by decide +kernel
theorem dJ6_bitCount_0f7a4_9 : decode cJ6_bitCount_0f7a4 9 = .ok (.istore_n 0, 1) := by decide +kernel
theorem dJ6_bitCount_0f7a4_10 : decode cJ6_bitCount_0f7a4 10 = .ok (.iload_n 0, 1) := by decide +kernel
theorem dJ6_bitCount_0f7a4_11 : decode cJ6_bitCount_0f7a4 11 = .ok (.ldc_w 266, 3) := by decide +kernel
theorem dJ6_bitCount_0f7a4_14 : decode cJ6_bitCount_0f7a4 14 = .ok (.iand, 1) := by decide +kernel
theorem dJ6_bitCount_0f7a4_15 : decode cJ6_bitCount_0f7a4 15 = .ok (.iload_n 0, 1) := by decide +kernel
theorem dJ6_bitCount_0f7a4_16 : decode cJ6_bitCount_0f7a4 16 = .ok (.iconst 2, 1) := by decide +kernel
theorem dJ6_bitCount_0f7a4_17 : decode cJ6_bitCount_0f7a4 17 = .ok (.iushr, 1) := by decide +kernel
theorem dJ6_bitCount_0f7a4_18 : decode cJ6_bitCount_0f7a4 18 = .ok (.ldc_w 266, 3) := by decide +kernel
theorem dJ6_bitCount_0f7a4_21 : decode cJ6_bitCount_0f7a4 21 = .ok (.iand, 1) := by decide +kernel
theorem dJ6_bitCount_0f7a4_22 : decode cJ6_bitCount_0f7a4 22 = .ok (.iadd, 1) := by decide +kernel
theorem dJ6_bitCount_0f7a4_23 : decode cJ6_bitCount_0f7a4 23 = .ok (.istore_n 0, 1) := by decide +kernel
theorem dJ6_bitCount_0f7a4_24 : decode cJ6_bitCount_0f7a4 24 = .ok (.iload_n 0, 1) := by decide +kernel
theorem dJ6_bitCount_0f7a4_25 : decode cJ6_bitCount_0f7a4 25 = .ok (.iload_n 0, 1) := by decide +kernel
theorem dJ6_bitCount_0f7a4_26 : decode cJ6_bitCount_0f7a4 26 = .ok (.iconst 4, 1) := by decide +kernel
theorem dJ6_bitCount_0f7a4_27 : decode cJ6_bitCount_0f7a4 27 = .ok (.iushr, 1) := by decide +kernel
theorem dJ6_bitCount_0f7a4_28 : decode cJ6_bitCount_0f7a4 28 = .ok (.iadd, 1) := by decide +kernel
theorem dJ6_bitCount_0f7a4_29 : decode cJ6_bitCount_0f7a4 29 = .ok (.ldc_w 267, 3) := by decide +kernel
theorem dJ6_bitCount_0f7a4_32 : decode cJ6_bitCount_0f7a4 32 = .ok (.iand, 1) := by decide +kernel
theorem dJ6_bitCount_0f7a4_33 : decode cJ6_bitCount_0f7a4 33 = .ok (.istore_n 0, 1) := by decide +kernel
theorem dJ6_bitCount_0f7a4_34 : decode cJ6_bitCount_0f7a4 34 = .ok (.iload_n 0, 1) := by decide +kernel
theorem dJ6_bitCount_0f7a4_35 : decode cJ6_bitCount_0f7a4 35 = .ok (.iload_n 0, 1) := by decide +kernel
theorem dJ6_bitCount_0f7a4_36 : decode cJ6_bitCount_0f7a4 36 = .ok (.bipush 8, 2) := by decide +kernel
theorem dJ6_bitCount_0f7a4_38 : decode cJ6_bitCount_0f7a4 38 = .ok (.iushr, 1) := by decide +kernel
theorem dJ6_bitCount_0f7a4_39 : decode cJ6_bitCount_0f7a4 39 = .ok (.iadd, 1) := by decide +kernel
theorem dJ6_bitCount_0f7a4_40 : decode cJ6_bitCount_0f7a4 40 = .ok (.istore_n 0, 1) := by decide +kernel
theorem dJ6_bitCount_0f7a4_41 : decode cJ6_bitCount_0f7a4 41 = .ok (.iload_n 0, 1) := by decide +kernel
theorem dJ6_bitCount_0f7a4_42 : decode cJ6_bitCount_0f7a4 42 = .ok (.iload_n 0, 1) := by decide +kernel
theorem dJ6_bitCount_0f7a4_43 : decode cJ6_bitCount_0f7a4 43 = .ok (.bipush 16, 2) := by decide +kernel
theorem dJ6_bitCount_0f7a4_45 : decode cJ6_bitCount_0f7a4 45 = .ok (.iushr, 1) := by decide +kernel
theorem dJ6_bitCount_0f7a4_46 : decode cJ6_bitCount_0f7a4 46 = .ok (.iadd, 1) := by decide +kernel
theorem dJ6_bitCount_0f7a4_47 : decode cJ6_bitCount_0f7a4 47 = .ok (.istore_n 0, 1) := by decide +kernel
theorem dJ6_bitCount_0f7a4_48 : decode cJ6_bitCount_0f7a4 48 = .ok (.iload_n 0, 1) := by decide +kernel
theorem dJ6_bitCount_0f7a4_49 : decode cJ6_bitCount_0f7a4 49 = .ok (.bipush 63, 2) := by decide +kernel
theorem dJ6_bitCount_0f7a4_51 : decode cJ6_bitCount_0f7a4 51 = .ok (.iand, 1) := by decide +kernel
theorem dJ6_bitCount_0f7a4_52 : decode cJ6_bitCount_0f7a4 52 = .ok (.ireturn, 1) := by decide +kernel
theorem dJ9_max_7cf53_0 : decode cJ9_max_7cf53 0 = .ok (.iload_n 0, 1) := by decide +kernel
theorem dJ9_max_7cf53_1 : decode cJ9_max_7cf53 1 = .ok (.iload_n 1, 1) := by decide +kernel
theorem dJ9_max_7cf53_2 : decode cJ9_max_7cf53 2 = .ok (.if_icmp .lt 7, 3) := by decide +kernel
theorem dJ9_max_7cf53_5 : decode cJ9_max_7cf53 5 = .ok (.iload_n 0, 1) := by decide +kernel
theorem dJ9_max_7cf53_6 : decode cJ9_max_7cf53 6 = .ok (.goto 4, 3) := by decide +kernel
theorem dJ9_max_7cf53_9 : decode cJ9_max_7cf53 9 = .ok (.iload_n 1, 1) := by decide +kernel
theorem dJ9_max_7cf53_10 : decode cJ9_max_7cf53 10 = .ok (.ireturn, 1) := by decide +kernel
