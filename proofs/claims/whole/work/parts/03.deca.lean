theorem dX0_init_0 : decode cX0_init 0 = .ok (.aload_n 0, 1) := by decide +kernel
theorem dX0_init_1 : decode cX0_init 1 = .ok (.invokespecial 3, 3) := by decide +kernel
theorem dX0_init_4 : decode cX0_init 4 = .ok (.aload_n 0, 1) := by decide +kernel
theorem dX0_init_5 : decode cX0_init 5 = .ok (.iload_n 1, 1) := by decide +kernel
theorem dX0_init_6 : decode cX0_init 6 = .ok (.putfield 9, 3) := by decide +kernel
theorem dX0_init_9 : decode cX0_init 9 = .ok (.aload_n 0, 1) := by decide +kernel
theorem dX0_init_10 : decode cX0_init 10 = .ok (.iload_n 2, 1) := by decide +kernel
theorem dX0_init_11 : decode cX0_init 11 = .ok (.putfield 15, 3) := by decide +kernel
theorem dX0_init_14 : decode cX0_init 14 = .ok (.aload_n 0, 1) := by decide +kernel
theorem dX0_init_15 : decode cX0_init 15 = .ok (.iload_n 3, 1) := by decide +kernel
theorem dX0_init_16 : decode cX0_init 16 = .ok (.putfield 18, 3) := by decide +kernel
theorem dX0_init_19 : decode cX0_init 19 = .ok (.aload_n 0, 1) := by decide +kernel
theorem dX0_init_20 : decode cX0_init 20 = .ok (.iload 4, 2) := by decide +kernel
theorem dX0_init_22 : decode cX0_init 22 = .ok (.putfield 21, 3) := by decide +kernel
theorem dX0_init_25 : decode cX0_init 25 = .ok (.aload_n 0, 1) := by decide +kernel
theorem dX0_init_26 : decode cX0_init 26 = .ok (.iload 5, 2) := by decide +kernel
theorem dX0_init_28 : decode cX0_init 28 = .ok (.putfield 24, 3) := by decide +kernel
theorem dX0_init_31 : decode cX0_init 31 = .ok (.return_, 1) := by decide +kernel
theorem dX0_twin_0 : decode cX0_twin 0 = .ok (.aload_n 0, 1) := by decide +kernel
theorem dX0_twin_1 : decode cX0_twin 1 = .ok (.getfield 9, 3) := by decide +kernel
theorem dX0_twin_4 : decode cX0_twin 4 = .ok (.aload_n 0, 1) := by decide +kernel
theorem dX0_twin_5 : decode cX0_twin 5 = .ok (.getfield 15, 3) := by decide +kernel
theorem dX0_twin_8 : decode cX0_twin 8 = .ok (.aload_n 0, 1) := by decide +kernel
theorem dX0_twin_9 : decode cX0_twin 9 = .ok (.getfield 18, 3) := by decide +kernel
theorem dX0_twin_12 : decode cX0_twin 12 = .ok (.aload_n 0, 1) := by decide +kernel
theorem dX0_twin_13 : decode cX0_twin 13 = .ok (.getfield 21, 3) := by decide +kernel
theorem dX0_twin_16 : decode cX0_twin 16 = .ok (.aload_n 0, 1) := by decide +kernel
theorem dX0_twin_17 : decode cX0_twin 17 = .ok (.getfield 24, 3) := by decide +kernel
theorem dX0_twin_20 : decode cX0_twin 20 = .ok (.invokestatic 27, 3) := by decide +kernel
theorem dX0_twin_23 : decode cX0_twin 23 = .ok (.areturn, 1) := by decide +kernel
theorem dX0_settle_0 : decode cX0_settle 0 = .ok (.aload_n 1, 1) := by decide +kernel
theorem dX0_settle_1 : decode cX0_settle 1 = .ok (.aload_n 0, 1) := by decide +kernel
theorem dX0_settle_2 : decode cX0_settle 2 = .ok (.iload_n 2, 1) := by decide +kernel
theorem dX0_settle_3 : decode cX0_settle 3 = .ok (.invokevirtual 31, 3) := by decide +kernel
theorem dX0_settle_6 : decode cX0_settle 6 = .ok (.istore_n 3, 1) := by decide +kernel
theorem dX0_settle_7 : decode cX0_settle 7 = .ok (.aload_n 1, 1) := by decide +kernel
theorem dX0_settle_8 : decode cX0_settle 8 = .ok (.iload_n 3, 1) := by decide +kernel
theorem dX0_settle_9 : decode cX0_settle 9 = .ok (.invokevirtual 37, 3) := by decide +kernel
theorem dX0_settle_12 : decode cX0_settle 12 = .ok (.istore 4, 2) := by decide +kernel
theorem dX0_settle_14 : decode cX0_settle 14 = .ok (.aload_n 0, 1) := by decide +kernel
theorem dX0_settle_15 : decode cX0_settle 15 = .ok (.iload 4, 2) := by decide +kernel
theorem dX0_settle_17 : decode cX0_settle 17 = .ok (.iconst 3, 1) := by decide +kernel
theorem dX0_settle_18 : decode cX0_settle 18 = .ok (.if_icmp .eq 7, 3) := by decide +kernel
theorem dX0_settle_21 : decode cX0_settle 21 = .ok (.iconst 1, 1) := by decide +kernel
theorem dX0_settle_22 : decode cX0_settle 22 = .ok (.goto 4, 3) := by decide +kernel
theorem dX0_settle_25 : decode cX0_settle 25 = .ok (.iconst 0, 1) := by decide +kernel
theorem dX0_settle_26 : decode cX0_settle 26 = .ok (.putfield 41, 3) := by decide +kernel
theorem dX0_settle_29 : decode cX0_settle 29 = .ok (.aload_n 0, 1) := by decide +kernel
theorem dX0_settle_30 : decode cX0_settle 30 = .ok (.iload 4, 2) := by decide +kernel
theorem dX0_settle_32 : decode cX0_settle 32 = .ok (.iconst 2, 1) := by decide +kernel
theorem dX0_settle_33 : decode cX0_settle 33 = .ok (.if_icmp .ne 12, 3) := by decide +kernel
theorem dX0_settle_36 : decode cX0_settle 36 = .ok (.aload_n 0, 1) := by decide +kernel
theorem dX0_settle_37 : decode cX0_settle 37 = .ok (.getfield 18, 3) := by decide +kernel
theorem dX0_settle_40 : decode cX0_settle 40 = .ok (.iconst 1, 1) := by decide +kernel
theorem dX0_settle_41 : decode cX0_settle 41 = .ok (.iadd, 1) := by decide +kernel
theorem dX0_settle_42 : decode cX0_settle 42 = .ok (.goto 7, 3) := by decide +kernel
theorem dX0_settle_45 : decode cX0_settle 45 = .ok (.aload_n 0, 1) := by decide +kernel
theorem dX0_settle_46 : decode cX0_settle 46 = .ok (.getfield 18, 3) := by decide +kernel
theorem dX0_settle_49 : decode cX0_settle 49 = .ok (.putfield 45, 3) := by decide +kernel
theorem dX0_settle_52 : decode cX0_settle 52 = .ok (.aload_n 0, 1) := by decide +kernel
theorem dX0_settle_53 : decode cX0_settle 53 = .ok (.iload 4, 2) := by decide +kernel
theorem dX0_settle_55 : decode cX0_settle 55 = .ok (.ifCond .ne 7, 3) := by decide +kernel
theorem dX0_settle_58 : decode cX0_settle 58 = .ok (.iconst 0, 1) := by decide +kernel
theorem dX0_settle_59 : decode cX0_settle 59 = .ok (.goto 13, 3) := by decide +kernel
theorem dX0_settle_62 : decode cX0_settle 62 = .ok (.aload_n 0, 1) := by decide +kernel
theorem dX0_settle_63 : decode cX0_settle 63 = .ok (.getfield 21, 3) := by decide +kernel
theorem dX0_settle_66 : decode cX0_settle 66 = .ok (.aload_n 1, 1) := by decide +kernel
theorem dX0_settle_67 : decode cX0_settle 67 = .ok (.iload_n 3, 1) := by decide +kernel
theorem dX0_settle_68 : decode cX0_settle 68 = .ok (.invokevirtual 48, 3) := by decide +kernel
theorem dX0_settle_71 : decode cX0_settle 71 = .ok (.iadd, 1) := by decide +kernel
theorem dX0_settle_72 : decode cX0_settle 72 = .ok (.putfield 51, 3) := by decide +kernel
theorem dX0_settle_75 : decode cX0_settle 75 = .ok (.iload_n 2, 1) := by decide +kernel
theorem dX0_settle_76 : decode cX0_settle 76 = .ok (.aload_n 0, 1) := by decide +kernel
theorem dX0_settle_77 : decode cX0_settle 77 = .ok (.getfield 24, 3) := by decide +kernel
theorem dX0_settle_80 : decode cX0_settle 80 = .ok (.if_icmp .ne 7, 3) := by decide +kernel
theorem dX0_settle_83 : decode cX0_settle 83 = .ok (.aload_n 0, 1) := by decide +kernel
theorem dX0_settle_84 : decode cX0_settle 84 = .ok (.invokevirtual 54, 3) := by decide +kernel
theorem dX0_settle_87 : decode cX0_settle 87 = .ok (.return_, 1) := by decide +kernel
theorem dX0_feasts_0 : decode cX0_feasts 0 = .ok (.return_, 1) := by decide +kernel
theorem dX0_suppose_0 : decode cX0_suppose 0 = .ok (.aload_n 0, 1) := by decide +kernel
theorem dX0_suppose_1 : decode cX0_suppose 1 = .ok (.iload_n 1, 1) := by decide +kernel
theorem dX0_suppose_2 : decode cX0_suppose 2 = .ok (.putfield 45, 3) := by decide +kernel
theorem dX0_suppose_5 : decode cX0_suppose 5 = .ok (.aload_n 0, 1) := by decide +kernel
theorem dX0_suppose_6 : decode cX0_suppose 6 = .ok (.iload_n 2, 1) := by decide +kernel
theorem dX0_suppose_7 : decode cX0_suppose 7 = .ok (.putfield 51, 3) := by decide +kernel
theorem dX0_suppose_10 : decode cX0_suppose 10 = .ok (.aload_n 0, 1) := by decide +kernel
theorem dX0_suppose_11 : decode cX0_suppose 11 = .ok (.iconst 1, 1) := by decide +kernel
theorem dX0_suppose_12 : decode cX0_suppose 12 = .ok (.putfield 41, 3) := by decide +kernel
theorem dX0_suppose_15 : decode cX0_suppose 15 = .ok (.return_, 1) := by decide +kernel
theorem dX0_becomes_0 : decode cX0_becomes 0 = .ok (.aload_n 0, 1) := by decide +kernel
theorem dX0_becomes_1 : decode cX0_becomes 1 = .ok (.aload_n 0, 1) := by decide +kernel
theorem dX0_becomes_2 : decode cX0_becomes 2 = .ok (.getfield 45, 3) := by decide +kernel
theorem dX0_becomes_5 : decode cX0_becomes 5 = .ok (.iload_n 1, 1) := by decide +kernel
theorem dX0_becomes_6 : decode cX0_becomes 6 = .ok (.invokevirtual 57, 3) := by decide +kernel
theorem dX0_becomes_9 : decode cX0_becomes 9 = .ok (.ireturn, 1) := by decide +kernel
theorem dX0_becomesBy_0 : decode cX0_becomesBy 0 = .ok (.aload_n 0, 1) := by decide +kernel
theorem dX0_becomesBy_1 : decode cX0_becomesBy 1 = .ok (.getfield 41, 3) := by decide +kernel
theorem dX0_becomesBy_4 : decode cX0_becomesBy 4 = .ok (.ifCond .eq 7, 3) := by decide +kernel
theorem dX0_becomesBy_7 : decode cX0_becomesBy 7 = .ok (.iload_n 2, 1) := by decide +kernel
theorem dX0_becomesBy_8 : decode cX0_becomesBy 8 = .ok (.ifCond .ge 5, 3) := by decide +kernel
theorem dX0_becomesBy_11 : decode cX0_becomesBy 11 = .ok (.iconst (-1), 1) := by decide +kernel
theorem dX0_becomesBy_12 : decode cX0_becomesBy 12 = .ok (.ireturn, 1) := by decide +kernel
theorem dX0_becomesBy_13 : decode cX0_becomesBy 13 = .ok (.aload_n 0, 1) := by decide +kernel
theorem dX0_becomesBy_14 : decode cX0_becomesBy 14 = .ok (.iload_n 1, 1) := by decide +kernel
theorem dX0_becomesBy_15 : decode cX0_becomesBy 15 = .ok (.iload_n 2, 1) := by decide +kernel
theorem dX0_becomesBy_16 : decode cX0_becomesBy 16 = .ok (.i2l, 1) := by decide +kernel
theorem dX0_becomesBy_17 : decode cX0_becomesBy 17 = .ok (.invokevirtual 61, 3) := by decide +kernel
theorem dX0_becomesBy_20 : decode cX0_becomesBy 20 = .ok (.lstore_n 3, 1) := by decide +kernel
theorem dX0_becomesBy_21 : decode cX0_becomesBy 21 = .ok (.lload_n 3, 1) := by decide +kernel
theorem dX0_becomesBy_22 : decode cX0_becomesBy 22 = .ok (.lconst 0, 1) := by decide +kernel
theorem dX0_becomesBy_23 : decode cX0_becomesBy 23 = .ok (.lcmp, 1) := by decide +kernel
theorem dX0_becomesBy_24 : decode cX0_becomesBy 24 = .ok (.ifCond .ge 7, 3) := by decide +kernel
theorem dX0_becomesBy_27 : decode cX0_becomesBy 27 = .ok (.iconst (-1), 1) := by decide +kernel
theorem dX0_becomesBy_28 : decode cX0_becomesBy 28 = .ok (.goto 11, 3) := by decide +kernel
theorem dX0_becomesBy_31 : decode cX0_becomesBy 31 = .ok (.lload_n 3, 1) := by decide +kernel
theorem dX0_becomesBy_32 : decode cX0_becomesBy 32 = .ok (.ldc2_w 65, 3) := by decide +kernel
theorem dX0_becomesBy_35 : decode cX0_becomesBy 35 = .ok (.invokestatic 67, 3) := by decide +kernel
theorem dX0_becomesBy_38 : decode cX0_becomesBy 38 = .ok (.l2i, 1) := by decide +kernel
theorem dX0_becomesBy_39 : decode cX0_becomesBy 39 = .ok (.ireturn, 1) := by decide +kernel
theorem dX0_leastAhead_0 : decode cX0_leastAhead 0 = .ok (.aload_n 0, 1) := by decide +kernel
theorem dX0_leastAhead_1 : decode cX0_leastAhead 1 = .ok (.getfield 41, 3) := by decide +kernel
theorem dX0_leastAhead_4 : decode cX0_leastAhead 4 = .ok (.ifCond .eq 7, 3) := by decide +kernel
theorem dX0_leastAhead_7 : decode cX0_leastAhead 7 = .ok (.iload_n 1, 1) := by decide +kernel
theorem dX0_leastAhead_8 : decode cX0_leastAhead 8 = .ok (.ifCond .ge 5, 3) := by decide +kernel
theorem dX0_leastAhead_11 : decode cX0_leastAhead 11 = .ok (.iconst (-1), 1) := by decide +kernel
theorem dX0_leastAhead_12 : decode cX0_leastAhead 12 = .ok (.ireturn, 1) := by decide +kernel
theorem dX0_leastAhead_13 : decode cX0_leastAhead 13 = .ok (.aload_n 0, 1) := by decide +kernel
theorem dX0_leastAhead_14 : decode cX0_leastAhead 14 = .ok (.iload_n 1, 1) := by decide +kernel
theorem dX0_leastAhead_15 : decode cX0_leastAhead 15 = .ok (.i2l, 1) := by decide +kernel
theorem dX0_leastAhead_16 : decode cX0_leastAhead 16 = .ok (.invokevirtual 73, 3) := by decide +kernel
theorem dX0_leastAhead_19 : decode cX0_leastAhead 19 = .ok (.lstore_n 2, 1) := by decide +kernel
theorem dX0_leastAhead_20 : decode cX0_leastAhead 20 = .ok (.lload_n 2, 1) := by decide +kernel
theorem dX0_leastAhead_21 : decode cX0_leastAhead 21 = .ok (.ldc2_w 65, 3) := by decide +kernel
theorem dX0_leastAhead_24 : decode cX0_leastAhead 24 = .ok (.lcmp, 1) := by decide +kernel
theorem dX0_leastAhead_25 : decode cX0_leastAhead 25 = .ok (.ifCond .le 7, 3) := by decide +kernel
theorem dX0_leastAhead_28 : decode cX0_leastAhead 28 = .ok (.iconst (-1), 1) := by decide +kernel
theorem dX0_leastAhead_29 : decode cX0_leastAhead 29 = .ok (.goto 5, 3) := by decide +kernel
theorem dX0_leastAhead_32 : decode cX0_leastAhead 32 = .ok (.lload_n 2, 1) := by decide +kernel
theorem dX0_leastAhead_33 : decode cX0_leastAhead 33 = .ok (.l2i, 1) := by decide +kernel
theorem dX0_leastAhead_34 : decode cX0_leastAhead 34 = .ok (.ireturn, 1) := by decide +kernel
theorem dX0_coins_0 : decode cX0_coins 0 = .ok (.iload_n 1, 1) := by decide +kernel
theorem dX0_coins_1 : decode cX0_coins 1 = .ok (.i2l, 1) := by decide +kernel
theorem dX0_coins_2 : decode cX0_coins 2 = .ok (.lload_n 2, 1) := by decide +kernel
theorem dX0_coins_3 : decode cX0_coins 3 = .ok (.lmul, 1) := by decide +kernel
theorem dX0_coins_4 : decode cX0_coins 4 = .ok (.aload_n 0, 1) := by decide +kernel
theorem dX0_coins_5 : decode cX0_coins 5 = .ok (.getfield 51, 3) := by decide +kernel
theorem dX0_coins_8 : decode cX0_coins 8 = .ok (.i2l, 1) := by decide +kernel
theorem dX0_coins_9 : decode cX0_coins 9 = .ok (.lsub, 1) := by decide +kernel
theorem dX0_coins_10 : decode cX0_coins 10 = .ok (.lreturn, 1) := by decide +kernel
theorem dX0_leastCoins_0 : decode cX0_leastCoins 0 = .ok (.aload_n 0, 1) := by decide +kernel
theorem dX0_leastCoins_1 : decode cX0_leastCoins 1 = .ok (.lload_n 1, 1) := by decide +kernel
theorem dX0_leastCoins_2 : decode cX0_leastCoins 2 = .ok (.aload_n 0, 1) := by decide +kernel
theorem dX0_leastCoins_3 : decode cX0_leastCoins 3 = .ok (.getfield 51, 3) := by decide +kernel
theorem dX0_leastCoins_6 : decode cX0_leastCoins 6 = .ok (.i2l, 1) := by decide +kernel
theorem dX0_leastCoins_7 : decode cX0_leastCoins 7 = .ok (.ladd, 1) := by decide +kernel
theorem dX0_leastCoins_8 : decode cX0_leastCoins 8 = .ok (.invokevirtual 77, 3) := by decide +kernel
theorem dX0_leastCoins_11 : decode cX0_leastCoins 11 = .ok (.lreturn, 1) := by decide +kernel
theorem dX0_quotientUp_0 : decode cX0_quotientUp 0 = .ok (.aload_n 0, 1) := by decide +kernel
theorem dX0_quotientUp_1 : decode cX0_quotientUp 1 = .ok (.getfield 45, 3) := by decide +kernel
theorem dX0_quotientUp_4 : decode cX0_quotientUp 4 = .ok (.iconst 1, 1) := by decide +kernel
theorem dX0_quotientUp_5 : decode cX0_quotientUp 5 = .ok (.if_icmp .ge 7, 3) := by decide +kernel
theorem dX0_quotientUp_8 : decode cX0_quotientUp 8 = .ok (.lload_n 1, 1) := by decide +kernel
theorem dX0_quotientUp_9 : decode cX0_quotientUp 9 = .ok (.goto 18, 3) := by decide +kernel
theorem dX0_quotientUp_12 : decode cX0_quotientUp 12 = .ok (.lload_n 1, 1) := by decide +kernel
theorem dX0_quotientUp_13 : decode cX0_quotientUp 13 = .ok (.aload_n 0, 1) := by decide +kernel
theorem dX0_quotientUp_14 : decode cX0_quotientUp 14 = .ok (.getfield 45, 3) := by decide +kernel
theorem dX0_quotientUp_17 : decode cX0_quotientUp 17 = .ok (.i2l, 1) := by decide +kernel
theorem dX0_quotientUp_18 : decode cX0_quotientUp 18 = .ok (.ladd, 1) := by decide +kernel
theorem dX0_quotientUp_19 : decode cX0_quotientUp 19 = .ok (.lconst 1, 1) := by decide +kernel
theorem dX0_quotientUp_20 : decode cX0_quotientUp 20 = .ok (.lsub, 1) := by decide +kernel
theorem dX0_quotientUp_21 : decode cX0_quotientUp 21 = .ok (.aload_n 0, 1) := by decide +kernel
theorem dX0_quotientUp_22 : decode cX0_quotientUp 22 = .ok (.getfield 45, 3) := by decide +kernel
theorem dX0_quotientUp_25 : decode cX0_quotientUp 25 = .ok (.i2l, 1) := by decide +kernel
theorem dX0_quotientUp_26 : decode cX0_quotientUp 26 = .ok (.ldiv, 1) := by decide +kernel
theorem dX0_quotientUp_27 : decode cX0_quotientUp 27 = .ok (.lreturn, 1) := by decide +kernel
theorem dX0_makes_0 : decode cX0_makes 0 = .ok (.aload_n 2, 1) := by decide +kernel
theorem dX0_makes_1 : decode cX0_makes 1 = .ok (.bipush 10, 2) := by decide +kernel
theorem dX0_makes_3 : decode cX0_makes 3 = .ok (.invokevirtual 80, 3) := by decide +kernel
theorem dX0_makes_6 : decode cX0_makes 6 = .ok (.iload_n 1, 1) := by decide +kernel
theorem dX0_makes_7 : decode cX0_makes 7 = .ok (.aload_n 0, 1) := by decide +kernel
theorem dX0_makes_8 : decode cX0_makes 8 = .ok (.getfield 15, 3) := by decide +kernel
theorem dX0_makes_11 : decode cX0_makes 11 = .ok (.iadd, 1) := by decide +kernel
theorem dX0_makes_12 : decode cX0_makes 12 = .ok (.ireturn, 1) := by decide +kernel
theorem dX0_takes_0 : decode cX0_takes 0 = .ok (.aload_n 2, 1) := by decide +kernel
theorem dX0_takes_1 : decode cX0_takes 1 = .ok (.bipush 11, 2) := by decide +kernel
theorem dX0_takes_3 : decode cX0_takes 3 = .ok (.invokevirtual 80, 3) := by decide +kernel
theorem dX0_takes_6 : decode cX0_takes 6 = .ok (.aload_n 0, 1) := by decide +kernel
theorem dX0_takes_7 : decode cX0_takes 7 = .ok (.iload_n 1, 1) := by decide +kernel
theorem dX0_takes_8 : decode cX0_takes 8 = .ok (.aload_n 2, 1) := by decide +kernel
theorem dX0_takes_9 : decode cX0_takes 9 = .ok (.invokevirtual 86, 3) := by decide +kernel
theorem dX0_takes_12 : decode cX0_takes 12 = .ok (.iconst 2, 1) := by decide +kernel
theorem dX0_takes_13 : decode cX0_takes 13 = .ok (.imul, 1) := by decide +kernel
theorem dX0_takes_14 : decode cX0_takes 14 = .ok (.ireturn, 1) := by decide +kernel
theorem dX0_shares_0 : decode cX0_shares 0 = .ok (.aload_n 2, 1) := by decide +kernel
theorem dX0_shares_1 : decode cX0_shares 1 = .ok (.bipush 12, 2) := by decide +kernel
theorem dX0_shares_3 : decode cX0_shares 3 = .ok (.invokevirtual 80, 3) := by decide +kernel
theorem dX0_shares_6 : decode cX0_shares 6 = .ok (.aload_n 0, 1) := by decide +kernel
theorem dX0_shares_7 : decode cX0_shares 7 = .ok (.getfield 24, 3) := by decide +kernel
theorem dX0_shares_10 : decode cX0_shares 10 = .ok (.aload_n 0, 1) := by decide +kernel
theorem dX0_shares_11 : decode cX0_shares 11 = .ok (.getfield 15, 3) := by decide +kernel
theorem dX0_shares_14 : decode cX0_shares 14 = .ok (.isub, 1) := by decide +kernel
theorem dX0_shares_15 : decode cX0_shares 15 = .ok (.istore_n 3, 1) := by decide +kernel
theorem dX0_shares_16 : decode cX0_shares 16 = .ok (.iload_n 3, 1) := by decide +kernel
theorem dX0_shares_17 : decode cX0_shares 17 = .ok (.ifCond .ne 9, 3) := by decide +kernel
theorem dX0_shares_20 : decode cX0_shares 20 = .ok (.aload_n 2, 1) := by decide +kernel
theorem dX0_shares_21 : decode cX0_shares 21 = .ok (.invokevirtual 90, 3) := by decide +kernel
theorem dX0_shares_24 : decode cX0_shares 24 = .ok (.iconst 0, 1) := by decide +kernel
theorem dX0_shares_25 : decode cX0_shares 25 = .ok (.ireturn, 1) := by decide +kernel
theorem dX0_shares_26 : decode cX0_shares 26 = .ok (.iload_n 1, 1) := by decide +kernel
theorem dX0_shares_27 : decode cX0_shares 27 = .ok (.iload_n 3, 1) := by decide +kernel
theorem dX0_shares_28 : decode cX0_shares 28 = .ok (.idiv, 1) := by decide +kernel
theorem dX0_shares_29 : decode cX0_shares 29 = .ok (.ireturn, 1) := by decide +kernel
theorem dX0_tells_0 : decode cX0_tells 0 = .ok (.aload_n 2, 1) := by decide +kernel
theorem dX0_tells_1 : decode cX0_tells 1 = .ok (.bipush 13, 2) := by decide +kernel
theorem dX0_tells_3 : decode cX0_tells 3 = .ok (.invokevirtual 80, 3) := by decide +kernel
theorem dX0_tells_6 : decode cX0_tells 6 = .ok (.aload_n 0, 1) := by decide +kernel
theorem dX0_tells_7 : decode cX0_tells 7 = .ok (.iload_n 1, 1) := by decide +kernel
theorem dX0_tells_8 : decode cX0_tells 8 = .ok (.aload_n 2, 1) := by decide +kernel
theorem dX0_tells_9 : decode cX0_tells 9 = .ok (.invokevirtual 93, 3) := by decide +kernel
theorem dX0_tells_12 : decode cX0_tells 12 = .ok (.aload_n 0, 1) := by decide +kernel
theorem dX0_tells_13 : decode cX0_tells 13 = .ok (.getfield 24, 3) := by decide +kernel
theorem dX0_tells_16 : decode cX0_tells 16 = .ok (.ixor, 1) := by decide +kernel
theorem dX0_tells_17 : decode cX0_tells 17 = .ok (.ireturn, 1) := by decide +kernel
theorem dX1_init_0 : decode cX1_init 0 = .ok (.aload_n 0, 1) := by decide +kernel
theorem dX1_init_1 : decode cX1_init 1 = .ok (.iload_n 1, 1) := by decide +kernel
theorem dX1_init_2 : decode cX1_init 2 = .ok (.iload_n 2, 1) := by decide +kernel
theorem dX1_init_3 : decode cX1_init 3 = .ok (.iload_n 3, 1) := by decide +kernel
theorem dX1_init_4 : decode cX1_init 4 = .ok (.iload 4, 2) := by decide +kernel
theorem dX1_init_6 : decode cX1_init 6 = .ok (.iload 5, 2) := by decide +kernel
theorem dX1_init_8 : decode cX1_init 8 = .ok (.invokespecial 1, 3) := by decide +kernel
theorem dX1_init_11 : decode cX1_init 11 = .ok (.return_, 1) := by decide +kernel
theorem dX1_coins_0 : decode cX1_coins 0 = .ok (.aload_n 0, 1) := by decide +kernel
theorem dX1_coins_1 : decode cX1_coins 1 = .ok (.iload_n 1, 1) := by decide +kernel
theorem dX1_coins_2 : decode cX1_coins 2 = .ok (.lload_n 2, 1) := by decide +kernel
theorem dX1_coins_3 : decode cX1_coins 3 = .ok (.invokespecial 7, 3) := by decide +kernel
theorem dX1_coins_6 : decode cX1_coins 6 = .ok (.lstore 4, 2) := by decide +kernel
theorem dX1_coins_8 : decode cX1_coins 8 = .ok (.lload 4, 2) := by decide +kernel
theorem dX1_coins_10 : decode cX1_coins 10 = .ok (.lload 4, 2) := by decide +kernel
theorem dX1_coins_12 : decode cX1_coins 12 = .ok (.lconst 1, 1) := by decide +kernel
theorem dX1_coins_13 : decode cX1_coins 13 = .ok (.land, 1) := by decide +kernel
theorem dX1_coins_14 : decode cX1_coins 14 = .ok (.lsub, 1) := by decide +kernel
theorem dX1_coins_15 : decode cX1_coins 15 = .ok (.lreturn, 1) := by decide +kernel
theorem dX1_leastCoins_0 : decode cX1_leastCoins 0 = .ok (.aload_n 0, 1) := by decide +kernel
theorem dX1_leastCoins_1 : decode cX1_leastCoins 1 = .ok (.lload_n 1, 1) := by decide +kernel
theorem dX1_leastCoins_2 : decode cX1_leastCoins 2 = .ok (.lload_n 1, 1) := by decide +kernel
theorem dX1_leastCoins_3 : decode cX1_leastCoins 3 = .ok (.lconst 1, 1) := by decide +kernel
theorem dX1_leastCoins_4 : decode cX1_leastCoins 4 = .ok (.land, 1) := by decide +kernel
theorem dX1_leastCoins_5 : decode cX1_leastCoins 5 = .ok (.ladd, 1) := by decide +kernel
theorem dX1_leastCoins_6 : decode cX1_leastCoins 6 = .ok (.invokespecial 11, 3) := by decide +kernel
theorem dX1_leastCoins_9 : decode cX1_leastCoins 9 = .ok (.lreturn, 1) := by decide +kernel
theorem dX1_shares_0 : decode cX1_shares 0 = .ok (.aload_n 2, 1) := by decide +kernel
theorem dX1_shares_1 : decode cX1_shares 1 = .ok (.bipush 40, 2) := by decide +kernel
theorem dX1_shares_3 : decode cX1_shares 3 = .ok (.invokevirtual 15, 3) := by decide +kernel
theorem dX1_shares_6 : decode cX1_shares 6 = .ok (.aload_n 0, 1) := by decide +kernel
theorem dX1_shares_7 : decode cX1_shares 7 = .ok (.iload_n 1, 1) := by decide +kernel
theorem dX1_shares_8 : decode cX1_shares 8 = .ok (.iconst 1, 1) := by decide +kernel
theorem dX1_shares_9 : decode cX1_shares 9 = .ok (.iadd, 1) := by decide +kernel
theorem dX1_shares_10 : decode cX1_shares 10 = .ok (.aload_n 2, 1) := by decide +kernel
theorem dX1_shares_11 : decode cX1_shares 11 = .ok (.invokespecial 21, 3) := by decide +kernel
theorem dX1_shares_14 : decode cX1_shares 14 = .ok (.ireturn, 1) := by decide +kernel
theorem dX2_init_0 : decode cX2_init 0 = .ok (.aload_n 0, 1) := by decide +kernel
theorem dX2_init_1 : decode cX2_init 1 = .ok (.invokespecial 3, 3) := by decide +kernel
theorem dX2_init_4 : decode cX2_init 4 = .ok (.aload_n 0, 1) := by decide +kernel
theorem dX2_init_5 : decode cX2_init 5 = .ok (.iconst 0, 1) := by decide +kernel
theorem dX2_init_6 : decode cX2_init 6 = .ok (.putfield 9, 3) := by decide +kernel
theorem dX2_init_9 : decode cX2_init 9 = .ok (.aload_n 0, 1) := by decide +kernel
theorem dX2_init_10 : decode cX2_init 10 = .ok (.bipush 8, 2) := by decide +kernel
theorem dX2_init_12 : decode cX2_init 12 = .ok (.newarray .int, 2) := by decide +kernel
theorem dX2_init_14 : decode cX2_init 14 = .ok (.putfield 15, 3) := by decide +kernel
theorem dX2_init_17 : decode cX2_init 17 = .ok (.aload_n 0, 1) := by decide +kernel
theorem dX2_init_18 : decode cX2_init 18 = .ok (.bipush 8, 2) := by decide +kernel
theorem dX2_init_20 : decode cX2_init 20 = .ok (.newarray .int, 2) := by decide +kernel
theorem dX2_init_22 : decode cX2_init 22 = .ok (.putfield 19, 3) := by decide +kernel
theorem dX2_init_25 : decode cX2_init 25 = .ok (.aload_n 0, 1) := by decide +kernel
theorem dX2_init_26 : decode cX2_init 26 = .ok (.bipush 8, 2) := by decide +kernel
theorem dX2_init_28 : decode cX2_init 28 = .ok (.newarray .int, 2) := by decide +kernel
theorem dX2_init_30 : decode cX2_init 30 = .ok (.putfield 22, 3) := by decide +kernel
theorem dX2_init_33 : decode cX2_init 33 = .ok (.aload_n 0, 1) := by decide +kernel
theorem dX2_init_34 : decode cX2_init 34 = .ok (.bipush 8, 2) := by decide +kernel
theorem dX2_init_36 : decode cX2_init 36 = .ok (.newarray .int, 2) := by decide +kernel
theorem dX2_init_38 : decode cX2_init 38 = .ok (.putfield 25, 3) := by decide +kernel
theorem dX2_init_41 : decode cX2_init 41 = .ok (.aload_n 0, 1) := by decide +kernel
theorem dX2_init_42 : decode cX2_init 42 = .ok (.bipush 8, 2) := by decide +kernel
theorem dX2_init_44 : decode cX2_init 44 = .ok (.newarray .int, 2) := by decide +kernel
theorem dX2_init_46 : decode cX2_init 46 = .ok (.putfield 28, 3) := by decide +kernel
theorem dX2_init_49 : decode cX2_init 49 = .ok (.aload_n 0, 1) := by decide +kernel
theorem dX2_init_50 : decode cX2_init 50 = .ok (.bipush 100, 2) := by decide +kernel
theorem dX2_init_52 : decode cX2_init 52 = .ok (.newarray .int, 2) := by decide +kernel
theorem dX2_init_54 : decode cX2_init 54 = .ok (.putfield 31, 3) := by decide +kernel
theorem dX2_init_57 : decode cX2_init 57 = .ok (.aload_n 0, 1) := by decide +kernel
theorem dX2_init_58 : decode cX2_init 58 = .ok (.bipush 100, 2) := by decide +kernel
theorem dX2_init_60 : decode cX2_init 60 = .ok (.newarray .int, 2) := by decide +kernel
theorem dX2_init_62 : decode cX2_init 62 = .ok (.putfield 34, 3) := by decide +kernel
theorem dX2_init_65 : decode cX2_init 65 = .ok (.aload_n 0, 1) := by decide +kernel
theorem dX2_init_66 : decode cX2_init 66 = .ok (.bipush 100, 2) := by decide +kernel
theorem dX2_init_68 : decode cX2_init 68 = .ok (.newarray .int, 2) := by decide +kernel
theorem dX2_init_70 : decode cX2_init 70 = .ok (.putfield 37, 3) := by decide +kernel
theorem dX2_init_73 : decode cX2_init 73 = .ok (.aload_n 0, 1) := by decide +kernel
theorem dX2_init_74 : decode cX2_init 74 = .ok (.iconst 0, 1) := by decide +kernel
theorem dX2_init_75 : decode cX2_init 75 = .ok (.putfield 40, 3) := by decide +kernel
theorem dX2_init_78 : decode cX2_init 78 = .ok (.return_, 1) := by decide +kernel
theorem dX2_addStep_0 : decode cX2_addStep 0 = .ok (.aload_n 0, 1) := by decide +kernel
theorem dX2_addStep_1 : decode cX2_addStep 1 = .ok (.getfield 40, 3) := by decide +kernel
theorem dX2_addStep_4 : decode cX2_addStep 4 = .ok (.aload_n 0, 1) := by decide +kernel
theorem dX2_addStep_5 : decode cX2_addStep 5 = .ok (.getfield 31, 3) := by decide +kernel
theorem dX2_addStep_8 : decode cX2_addStep 8 = .ok (.arraylength, 1) := by decide +kernel
theorem dX2_addStep_9 : decode cX2_addStep 9 = .ok (.if_icmp .ge 67, 3) := by decide +kernel
theorem dX2_addStep_12 : decode cX2_addStep 12 = .ok (.aload_n 0, 1) := by decide +kernel
theorem dX2_addStep_13 : decode cX2_addStep 13 = .ok (.getfield 40, 3) := by decide +kernel
theorem dX2_addStep_16 : decode cX2_addStep 16 = .ok (.aload_n 0, 1) := by decide +kernel
theorem dX2_addStep_17 : decode cX2_addStep 17 = .ok (.getfield 34, 3) := by decide +kernel
theorem dX2_addStep_20 : decode cX2_addStep 20 = .ok (.arraylength, 1) := by decide +kernel
theorem dX2_addStep_21 : decode cX2_addStep 21 = .ok (.if_icmp .ge 55, 3) := by decide +kernel
theorem dX2_addStep_24 : decode cX2_addStep 24 = .ok (.aload_n 0, 1) := by decide +kernel
theorem dX2_addStep_25 : decode cX2_addStep 25 = .ok (.getfield 40, 3) := by decide +kernel
theorem dX2_addStep_28 : decode cX2_addStep 28 = .ok (.aload_n 0, 1) := by decide +kernel
theorem dX2_addStep_29 : decode cX2_addStep 29 = .ok (.getfield 37, 3) := by decide +kernel
theorem dX2_addStep_32 : decode cX2_addStep 32 = .ok (.arraylength, 1) := by decide +kernel
theorem dX2_addStep_33 : decode cX2_addStep 33 = .ok (.if_icmp .ge 43, 3) := by decide +kernel
theorem dX2_addStep_36 : decode cX2_addStep 36 = .ok (.aload_n 0, 1) := by decide +kernel
theorem dX2_addStep_37 : decode cX2_addStep 37 = .ok (.getfield 31, 3) := by decide +kernel
theorem dX2_addStep_40 : decode cX2_addStep 40 = .ok (.aload_n 0, 1) := by decide +kernel
theorem dX2_addStep_41 : decode cX2_addStep 41 = .ok (.getfield 40, 3) := by decide +kernel
theorem dX2_addStep_44 : decode cX2_addStep 44 = .ok (.iload_n 1, 1) := by decide +kernel
theorem dX2_addStep_45 : decode cX2_addStep 45 = .ok (.iastore, 1) := by decide +kernel
theorem dX2_addStep_46 : decode cX2_addStep 46 = .ok (.aload_n 0, 1) := by decide +kernel
theorem dX2_addStep_47 : decode cX2_addStep 47 = .ok (.getfield 34, 3) := by decide +kernel
theorem dX2_addStep_50 : decode cX2_addStep 50 = .ok (.aload_n 0, 1) := by decide +kernel
theorem dX2_addStep_51 : decode cX2_addStep 51 = .ok (.getfield 40, 3) := by decide +kernel
theorem dX2_addStep_54 : decode cX2_addStep 54 = .ok (.iload_n 2, 1) := by decide +kernel
theorem dX2_addStep_55 : decode cX2_addStep 55 = .ok (.iastore, 1) := by decide +kernel
theorem dX2_addStep_56 : decode cX2_addStep 56 = .ok (.aload_n 0, 1) := by decide +kernel
theorem dX2_addStep_57 : decode cX2_addStep 57 = .ok (.getfield 37, 3) := by decide +kernel
theorem dX2_addStep_60 : decode cX2_addStep 60 = .ok (.aload_n 0, 1) := by decide +kernel
theorem dX2_addStep_61 : decode cX2_addStep 61 = .ok (.getfield 40, 3) := by decide +kernel
theorem dX2_addStep_64 : decode cX2_addStep 64 = .ok (.iload_n 3, 1) := by decide +kernel
theorem dX2_addStep_65 : decode cX2_addStep 65 = .ok (.iastore, 1) := by decide +kernel
theorem dX2_addStep_66 : decode cX2_addStep 66 = .ok (.aload_n 0, 1) := by decide +kernel
theorem dX2_addStep_67 : decode cX2_addStep 67 = .ok (.dup, 1) := by decide +kernel
theorem dX2_addStep_68 : decode cX2_addStep 68 = .ok (.getfield 40, 3) := by decide +kernel
theorem dX2_addStep_71 : decode cX2_addStep 71 = .ok (.iconst 1, 1) := by decide +kernel
theorem dX2_addStep_72 : decode cX2_addStep 72 = .ok (.iadd, 1) := by decide +kernel
theorem dX2_addStep_73 : decode cX2_addStep 73 = .ok (.putfield 40, 3) := by decide +kernel
theorem dX2_addStep_76 : decode cX2_addStep 76 = .ok (.return_, 1) := by decide +kernel
theorem dX2_addClause_0 : decode cX2_addClause 0 = .ok (.aload_n 0, 1) := by decide +kernel
theorem dX2_addClause_1 : decode cX2_addClause 1 = .ok (.getfield 9, 3) := by decide +kernel
theorem dX2_addClause_4 : decode cX2_addClause 4 = .ok (.bipush 8, 2) := by decide +kernel
theorem dX2_addClause_6 : decode cX2_addClause 6 = .ok (.invokestatic 43, 3) := by decide +kernel
theorem dX2_addClause_9 : decode cX2_addClause 9 = .ok (.ifCond .eq 67, 3) := by decide +kernel
theorem dX2_addClause_12 : decode cX2_addClause 12 = .ok (.aload_n 0, 1) := by decide +kernel
theorem dX2_addClause_13 : decode cX2_addClause 13 = .ok (.getfield 15, 3) := by decide +kernel
theorem dX2_addClause_16 : decode cX2_addClause 16 = .ok (.aload_n 0, 1) := by decide +kernel
theorem dX2_addClause_17 : decode cX2_addClause 17 = .ok (.getfield 9, 3) := by decide +kernel
theorem dX2_addClause_20 : decode cX2_addClause 20 = .ok (.iload_n 1, 1) := by decide +kernel
theorem dX2_addClause_21 : decode cX2_addClause 21 = .ok (.iastore, 1) := by decide +kernel
theorem dX2_addClause_22 : decode cX2_addClause 22 = .ok (.aload_n 0, 1) := by decide +kernel
theorem dX2_addClause_23 : decode cX2_addClause 23 = .ok (.getfield 19, 3) := by decide +kernel
theorem dX2_addClause_26 : decode cX2_addClause 26 = .ok (.aload_n 0, 1) := by decide +kernel
theorem dX2_addClause_27 : decode cX2_addClause 27 = .ok (.getfield 9, 3) := by decide +kernel
theorem dX2_addClause_30 : decode cX2_addClause 30 = .ok (.iload_n 2, 1) := by decide +kernel
theorem dX2_addClause_31 : decode cX2_addClause 31 = .ok (.iastore, 1) := by decide +kernel
theorem dX2_addClause_32 : decode cX2_addClause 32 = .ok (.aload_n 0, 1) := by decide +kernel
theorem dX2_addClause_33 : decode cX2_addClause 33 = .ok (.getfield 22, 3) := by decide +kernel
theorem dX2_addClause_36 : decode cX2_addClause 36 = .ok (.aload_n 0, 1) := by decide +kernel
theorem dX2_addClause_37 : decode cX2_addClause 37 = .ok (.getfield 9, 3) := by decide +kernel
theorem dX2_addClause_40 : decode cX2_addClause 40 = .ok (.iload_n 3, 1) := by decide +kernel
theorem dX2_addClause_41 : decode cX2_addClause 41 = .ok (.iastore, 1) := by decide +kernel
theorem dX2_addClause_42 : decode cX2_addClause 42 = .ok (.aload_n 0, 1) := by decide +kernel
theorem dX2_addClause_43 : decode cX2_addClause 43 = .ok (.getfield 25, 3) := by decide +kernel
theorem dX2_addClause_46 : decode cX2_addClause 46 = .ok (.aload_n 0, 1) := by decide +kernel
theorem dX2_addClause_47 : decode cX2_addClause 47 = .ok (.getfield 9, 3) := by decide +kernel
theorem dX2_addClause_50 : decode cX2_addClause 50 = .ok (.iload 4, 2) := by decide +kernel
theorem dX2_addClause_52 : decode cX2_addClause 52 = .ok (.iastore, 1) := by decide +kernel
theorem dX2_addClause_53 : decode cX2_addClause 53 = .ok (.aload_n 0, 1) := by decide +kernel
theorem dX2_addClause_54 : decode cX2_addClause 54 = .ok (.getfield 28, 3) := by decide +kernel
theorem dX2_addClause_57 : decode cX2_addClause 57 = .ok (.aload_n 0, 1) := by decide +kernel
theorem dX2_addClause_58 : decode cX2_addClause 58 = .ok (.getfield 9, 3) := by decide +kernel
theorem dX2_addClause_61 : decode cX2_addClause 61 = .ok (.aload_n 0, 1) := by decide +kernel
theorem dX2_addClause_62 : decode cX2_addClause 62 = .ok (.getfield 40, 3) := by decide +kernel
theorem dX2_addClause_65 : decode cX2_addClause 65 = .ok (.iastore, 1) := by decide +kernel
theorem dX2_addClause_66 : decode cX2_addClause 66 = .ok (.aload_n 0, 1) := by decide +kernel
theorem dX2_addClause_67 : decode cX2_addClause 67 = .ok (.dup, 1) := by decide +kernel
theorem dX2_addClause_68 : decode cX2_addClause 68 = .ok (.getfield 9, 3) := by decide +kernel
theorem dX2_addClause_71 : decode cX2_addClause 71 = .ok (.iconst 1, 1) := by decide +kernel
theorem dX2_addClause_72 : decode cX2_addClause 72 = .ok (.iadd, 1) := by decide +kernel
theorem dX2_addClause_73 : decode cX2_addClause 73 = .ok (.putfield 9, 3) := by decide +kernel
theorem dX2_addClause_76 : decode cX2_addClause 76 = .ok (.return_, 1) := by decide +kernel
theorem dX2_isClause_0 : decode cX2_isClause 0 = .ok (.iload_n 0, 1) := by decide +kernel
theorem dX2_isClause_1 : decode cX2_isClause 1 = .ok (.ifCond .lt 18, 3) := by decide +kernel
theorem dX2_isClause_4 : decode cX2_isClause 4 = .ok (.iload_n 0, 1) := by decide +kernel
theorem dX2_isClause_5 : decode cX2_isClause 5 = .ok (.iload_n 1, 1) := by decide +kernel
theorem dX2_isClause_6 : decode cX2_isClause 6 = .ok (.if_icmp .ge 13, 3) := by decide +kernel
theorem dX2_isClause_9 : decode cX2_isClause 9 = .ok (.iload_n 0, 1) := by decide +kernel
theorem dX2_isClause_10 : decode cX2_isClause 10 = .ok (.bipush 8, 2) := by decide +kernel
theorem dX2_isClause_12 : decode cX2_isClause 12 = .ok (.if_icmp .ge 7, 3) := by decide +kernel
theorem dX2_isClause_15 : decode cX2_isClause 15 = .ok (.iconst 1, 1) := by decide +kernel
theorem dX2_isClause_16 : decode cX2_isClause 16 = .ok (.goto 4, 3) := by decide +kernel
theorem dX2_isClause_19 : decode cX2_isClause 19 = .ok (.iconst 0, 1) := by decide +kernel
theorem dX2_isClause_20 : decode cX2_isClause 20 = .ok (.ireturn, 1) := by decide +kernel
theorem dX2_clauseFor_0 : decode cX2_clauseFor 0 = .ok (.iconst 0, 1) := by decide +kernel
theorem dX2_clauseFor_1 : decode cX2_clauseFor 1 = .ok (.istore_n 3, 1) := by decide +kernel
theorem dX2_clauseFor_2 : decode cX2_clauseFor 2 = .ok (.iload_n 3, 1) := by decide +kernel
theorem dX2_clauseFor_3 : decode cX2_clauseFor 3 = .ok (.aload_n 0, 1) := by decide +kernel
theorem dX2_clauseFor_4 : decode cX2_clauseFor 4 = .ok (.getfield 9, 3) := by decide +kernel
theorem dX2_clauseFor_7 : decode cX2_clauseFor 7 = .ok (.if_icmp .ge 54, 3) := by decide +kernel
theorem dX2_clauseFor_10 : decode cX2_clauseFor 10 = .ok (.iload_n 3, 1) := by decide +kernel
theorem dX2_clauseFor_11 : decode cX2_clauseFor 11 = .ok (.bipush 8, 2) := by decide +kernel
theorem dX2_clauseFor_13 : decode cX2_clauseFor 13 = .ok (.if_icmp .ge 48, 3) := by decide +kernel
theorem dX2_clauseFor_16 : decode cX2_clauseFor 16 = .ok (.aload_n 1, 1) := by decide +kernel
theorem dX2_clauseFor_17 : decode cX2_clauseFor 17 = .ok (.getfield 47, 3) := by decide +kernel
theorem dX2_clauseFor_20 : decode cX2_clauseFor 20 = .ok (.aload_n 0, 1) := by decide +kernel
theorem dX2_clauseFor_21 : decode cX2_clauseFor 21 = .ok (.getfield 15, 3) := by decide +kernel
theorem dX2_clauseFor_24 : decode cX2_clauseFor 24 = .ok (.iload_n 3, 1) := by decide +kernel
theorem dX2_clauseFor_25 : decode cX2_clauseFor 25 = .ok (.iaload, 1) := by decide +kernel
theorem dX2_clauseFor_26 : decode cX2_clauseFor 26 = .ok (.invokestatic 52, 3) := by decide +kernel
theorem dX2_clauseFor_29 : decode cX2_clauseFor 29 = .ok (.ifCond .eq 26, 3) := by decide +kernel
theorem dX2_clauseFor_32 : decode cX2_clauseFor 32 = .ok (.aload_n 0, 1) := by decide +kernel
theorem dX2_clauseFor_33 : decode cX2_clauseFor 33 = .ok (.aload_n 0, 1) := by decide +kernel
theorem dX2_clauseFor_34 : decode cX2_clauseFor 34 = .ok (.getfield 25, 3) := by decide +kernel
theorem dX2_clauseFor_37 : decode cX2_clauseFor 37 = .ok (.iload_n 3, 1) := by decide +kernel
theorem dX2_clauseFor_38 : decode cX2_clauseFor 38 = .ok (.iaload, 1) := by decide +kernel
theorem dX2_clauseFor_39 : decode cX2_clauseFor 39 = .ok (.aload_n 0, 1) := by decide +kernel
theorem dX2_clauseFor_40 : decode cX2_clauseFor 40 = .ok (.getfield 28, 3) := by decide +kernel
theorem dX2_clauseFor_43 : decode cX2_clauseFor 43 = .ok (.iload_n 3, 1) := by decide +kernel
theorem dX2_clauseFor_44 : decode cX2_clauseFor 44 = .ok (.iaload, 1) := by decide +kernel
theorem dX2_clauseFor_45 : decode cX2_clauseFor 45 = .ok (.aload_n 1, 1) := by decide +kernel
theorem dX2_clauseFor_46 : decode cX2_clauseFor 46 = .ok (.iload_n 2, 1) := by decide +kernel
theorem dX2_clauseFor_47 : decode cX2_clauseFor 47 = .ok (.invokevirtual 55, 3) := by decide +kernel
theorem dX2_clauseFor_50 : decode cX2_clauseFor 50 = .ok (.ifCond .eq 5, 3) := by decide +kernel
theorem dX2_clauseFor_53 : decode cX2_clauseFor 53 = .ok (.iload_n 3, 1) := by decide +kernel
theorem dX2_clauseFor_54 : decode cX2_clauseFor 54 = .ok (.ireturn, 1) := by decide +kernel
theorem dX2_clauseFor_55 : decode cX2_clauseFor 55 = .ok (.iinc 3 1, 3) := by decide +kernel
theorem dX2_clauseFor_58 : decode cX2_clauseFor 58 = .ok (.goto (-56), 3) := by decide +kernel
theorem dX2_clauseFor_61 : decode cX2_clauseFor 61 = .ok (.iconst (-1), 1) := by decide +kernel
theorem dX2_clauseFor_62 : decode cX2_clauseFor 62 = .ok (.ireturn, 1) := by decide +kernel
theorem dX2_deedOf_0 : decode cX2_deedOf 0 = .ok (.iload_n 1, 1) := by decide +kernel
theorem dX2_deedOf_1 : decode cX2_deedOf 1 = .ok (.aload_n 0, 1) := by decide +kernel
theorem dX2_deedOf_2 : decode cX2_deedOf 2 = .ok (.getfield 9, 3) := by decide +kernel
theorem dX2_deedOf_5 : decode cX2_deedOf 5 = .ok (.invokestatic 43, 3) := by decide +kernel
theorem dX2_deedOf_8 : decode cX2_deedOf 8 = .ok (.ifCond .eq 12, 3) := by decide +kernel
theorem dX2_deedOf_11 : decode cX2_deedOf 11 = .ok (.aload_n 0, 1) := by decide +kernel
theorem dX2_deedOf_12 : decode cX2_deedOf 12 = .ok (.getfield 19, 3) := by decide +kernel
theorem dX2_deedOf_15 : decode cX2_deedOf 15 = .ok (.iload_n 1, 1) := by decide +kernel
theorem dX2_deedOf_16 : decode cX2_deedOf 16 = .ok (.iaload, 1) := by decide +kernel
theorem dX2_deedOf_17 : decode cX2_deedOf 17 = .ok (.goto 4, 3) := by decide +kernel
theorem dX2_deedOf_20 : decode cX2_deedOf 20 = .ok (.iconst (-1), 1) := by decide +kernel
theorem dX2_deedOf_21 : decode cX2_deedOf 21 = .ok (.ireturn, 1) := by decide +kernel
theorem dX2_dearerBy_0 : decode cX2_dearerBy 0 = .ok (.iload_n 1, 1) := by decide +kernel
theorem dX2_dearerBy_1 : decode cX2_dearerBy 1 = .ok (.aload_n 0, 1) := by decide +kernel
theorem dX2_dearerBy_2 : decode cX2_dearerBy 2 = .ok (.getfield 9, 3) := by decide +kernel
theorem dX2_dearerBy_5 : decode cX2_dearerBy 5 = .ok (.invokestatic 43, 3) := by decide +kernel
theorem dX2_dearerBy_8 : decode cX2_dearerBy 8 = .ok (.ifCond .eq 12, 3) := by decide +kernel
theorem dX2_dearerBy_11 : decode cX2_dearerBy 11 = .ok (.aload_n 0, 1) := by decide +kernel
theorem dX2_dearerBy_12 : decode cX2_dearerBy 12 = .ok (.getfield 22, 3) := by decide +kernel
theorem dX2_dearerBy_15 : decode cX2_dearerBy 15 = .ok (.iload_n 1, 1) := by decide +kernel
theorem dX2_dearerBy_16 : decode cX2_dearerBy 16 = .ok (.iaload, 1) := by decide +kernel
theorem dX2_dearerBy_17 : decode cX2_dearerBy 17 = .ok (.goto 4, 3) := by decide +kernel
theorem dX2_dearerBy_20 : decode cX2_dearerBy 20 = .ok (.iconst 0, 1) := by decide +kernel
theorem dX2_dearerBy_21 : decode cX2_dearerBy 21 = .ok (.ireturn, 1) := by decide +kernel
theorem dX2_holds_0 : decode cX2_holds 0 = .ok (.lconst 1, 1) := by decide +kernel
theorem dX2_holds_1 : decode cX2_holds 1 = .ok (.lstore 5, 2) := by decide +kernel
theorem dX2_holds_3 : decode cX2_holds 3 = .ok (.iload_n 1, 1) := by decide +kernel
theorem dX2_holds_4 : decode cX2_holds 4 = .ok (.istore 7, 2) := by decide +kernel
theorem dX2_holds_6 : decode cX2_holds 6 = .ok (.iload 7, 2) := by decide +kernel
theorem dX2_holds_8 : decode cX2_holds 8 = .ok (.ifCond .lt 155, 3) := by decide +kernel
theorem dX2_holds_11 : decode cX2_holds 11 = .ok (.iload 7, 2) := by decide +kernel
theorem dX2_holds_13 : decode cX2_holds 13 = .ok (.iload_n 2, 1) := by decide +kernel
theorem dX2_holds_14 : decode cX2_holds 14 = .ok (.if_icmp .ge 149, 3) := by decide +kernel
theorem dX2_holds_17 : decode cX2_holds 17 = .ok (.iload 7, 2) := by decide +kernel
theorem dX2_holds_19 : decode cX2_holds 19 = .ok (.bipush 100, 2) := by decide +kernel
theorem dX2_holds_21 : decode cX2_holds 21 = .ok (.if_icmp .ge 142, 3) := by decide +kernel
theorem dX2_holds_24 : decode cX2_holds 24 = .ok (.lload 5, 2) := by decide +kernel
theorem dX2_holds_26 : decode cX2_holds 26 = .ok (.lconst 1, 1) := by decide +kernel
theorem dX2_holds_27 : decode cX2_holds 27 = .ok (.land, 1) := by decide +kernel
theorem dX2_holds_28 : decode cX2_holds 28 = .ok (.lstore 8, 2) := by decide +kernel
theorem dX2_holds_30 : decode cX2_holds 30 = .ok (.aload_n 0, 1) := by decide +kernel
theorem dX2_holds_31 : decode cX2_holds 31 = .ok (.getfield 31, 3) := by decide +kernel
theorem dX2_holds_34 : decode cX2_holds 34 = .ok (.iload 7, 2) := by decide +kernel
theorem dX2_holds_36 : decode cX2_holds 36 = .ok (.iaload, 1) := by decide +kernel
theorem dX2_holds_37 : decode cX2_holds 37 = .ok (.tableswitch 64 3 5 #[27, 36, 52], 27) := by decide +kernel
theorem dX2_holds_64 : decode cX2_holds 64 = .ok (.lload 5, 2) := by decide +kernel
theorem dX2_holds_66 : decode cX2_holds 66 = .ok (.lconst 1, 1) := by decide +kernel
theorem dX2_holds_67 : decode cX2_holds 67 = .ok (.lxor, 1) := by decide +kernel
theorem dX2_holds_68 : decode cX2_holds 68 = .ok (.lstore 5, 2) := by decide +kernel
theorem dX2_holds_70 : decode cX2_holds 70 = .ok (.goto 87, 3) := by decide +kernel
theorem dX2_holds_73 : decode cX2_holds 73 = .ok (.lload 5, 2) := by decide +kernel
theorem dX2_holds_75 : decode cX2_holds 75 = .ok (.iconst 1, 1) := by decide +kernel
theorem dX2_holds_76 : decode cX2_holds 76 = .ok (.lshr, 1) := by decide +kernel
theorem dX2_holds_77 : decode cX2_holds 77 = .ok (.lload 8, 2) := by decide +kernel
theorem dX2_holds_79 : decode cX2_holds 79 = .ok (.ldc2_w 59, 3) := by decide +kernel
theorem dX2_holds_82 : decode cX2_holds 82 = .ok (.lor, 1) := by decide +kernel
theorem dX2_holds_83 : decode cX2_holds 83 = .ok (.land, 1) := by decide +kernel
theorem dX2_holds_84 : decode cX2_holds 84 = .ok (.lstore 5, 2) := by decide +kernel
theorem dX2_holds_86 : decode cX2_holds 86 = .ok (.goto 71, 3) := by decide +kernel
theorem dX2_holds_89 : decode cX2_holds 89 = .ok (.lload 5, 2) := by decide +kernel
theorem dX2_holds_91 : decode cX2_holds 91 = .ok (.iconst 1, 1) := by decide +kernel
theorem dX2_holds_92 : decode cX2_holds 92 = .ok (.lshr, 1) := by decide +kernel
theorem dX2_holds_93 : decode cX2_holds 93 = .ok (.lload 8, 2) := by decide +kernel
theorem dX2_holds_95 : decode cX2_holds 95 = .ok (.lor, 1) := by decide +kernel
theorem dX2_holds_96 : decode cX2_holds 96 = .ok (.lstore 5, 2) := by decide +kernel
theorem dX2_holds_98 : decode cX2_holds 98 = .ok (.goto 59, 3) := by decide +kernel
theorem dX2_holds_101 : decode cX2_holds 101 = .ok (.aload_n 0, 1) := by decide +kernel
theorem dX2_holds_102 : decode cX2_holds 102 = .ok (.getfield 31, 3) := by decide +kernel
theorem dX2_holds_105 : decode cX2_holds 105 = .ok (.iload 7, 2) := by decide +kernel
theorem dX2_holds_107 : decode cX2_holds 107 = .ok (.iaload, 1) := by decide +kernel
theorem dX2_holds_108 : decode cX2_holds 108 = .ok (.aload_n 0, 1) := by decide +kernel
theorem dX2_holds_109 : decode cX2_holds 109 = .ok (.getfield 34, 3) := by decide +kernel
theorem dX2_holds_112 : decode cX2_holds 112 = .ok (.iload 7, 2) := by decide +kernel
theorem dX2_holds_114 : decode cX2_holds 114 = .ok (.iaload, 1) := by decide +kernel
theorem dX2_holds_115 : decode cX2_holds 115 = .ok (.aload_n 3, 1) := by decide +kernel
theorem dX2_holds_116 : decode cX2_holds 116 = .ok (.iload 4, 2) := by decide +kernel
theorem dX2_holds_118 : decode cX2_holds 118 = .ok (.invokestatic 61, 3) := by decide +kernel
theorem dX2_holds_121 : decode cX2_holds 121 = .ok (.aload_n 0, 1) := by decide +kernel
theorem dX2_holds_122 : decode cX2_holds 122 = .ok (.getfield 37, 3) := by decide +kernel
theorem dX2_holds_125 : decode cX2_holds 125 = .ok (.iload 7, 2) := by decide +kernel
theorem dX2_holds_127 : decode cX2_holds 127 = .ok (.iaload, 1) := by decide +kernel
theorem dX2_holds_128 : decode cX2_holds 128 = .ok (.aload_n 3, 1) := by decide +kernel
theorem dX2_holds_129 : decode cX2_holds 129 = .ok (.iload 4, 2) := by decide +kernel
theorem dX2_holds_131 : decode cX2_holds 131 = .ok (.invokestatic 61, 3) := by decide +kernel
theorem dX2_holds_134 : decode cX2_holds 134 = .ok (.invokestatic 65, 3) := by decide +kernel
theorem dX2_holds_137 : decode cX2_holds 137 = .ok (.istore 10, 2) := by decide +kernel
theorem dX2_holds_139 : decode cX2_holds 139 = .ok (.lload 5, 2) := by decide +kernel
theorem dX2_holds_141 : decode cX2_holds 141 = .ok (.iconst 1, 1) := by decide +kernel
theorem dX2_holds_142 : decode cX2_holds 142 = .ok (.lshl, 1) := by decide +kernel
theorem dX2_holds_143 : decode cX2_holds 143 = .ok (.iload 10, 2) := by decide +kernel
theorem dX2_holds_145 : decode cX2_holds 145 = .ok (.ifCond .eq 7, 3) := by decide +kernel
theorem dX2_holds_148 : decode cX2_holds 148 = .ok (.iconst 1, 1) := by decide +kernel
theorem dX2_holds_149 : decode cX2_holds 149 = .ok (.goto 4, 3) := by decide +kernel
theorem dX2_holds_152 : decode cX2_holds 152 = .ok (.iconst 0, 1) := by decide +kernel
theorem dX2_holds_153 : decode cX2_holds 153 = .ok (.i2l, 1) := by decide +kernel
theorem dX2_holds_154 : decode cX2_holds 154 = .ok (.lor, 1) := by decide +kernel
theorem dX2_holds_155 : decode cX2_holds 155 = .ok (.lstore 5, 2) := by decide +kernel
theorem dX2_holds_157 : decode cX2_holds 157 = .ok (.iinc 7 1, 3) := by decide +kernel
theorem dX2_holds_160 : decode cX2_holds 160 = .ok (.goto (-154), 3) := by decide +kernel
theorem dX2_holds_163 : decode cX2_holds 163 = .ok (.lload 5, 2) := by decide +kernel
theorem dX2_holds_165 : decode cX2_holds 165 = .ok (.lconst 1, 1) := by decide +kernel
theorem dX2_holds_166 : decode cX2_holds 166 = .ok (.land, 1) := by decide +kernel
theorem dX2_holds_167 : decode cX2_holds 167 = .ok (.lconst 0, 1) := by decide +kernel
theorem dX2_holds_168 : decode cX2_holds 168 = .ok (.lcmp, 1) := by decide +kernel
theorem dX2_holds_169 : decode cX2_holds 169 = .ok (.ifCond .eq 7, 3) := by decide +kernel
theorem dX2_holds_172 : decode cX2_holds 172 = .ok (.iconst 1, 1) := by decide +kernel
theorem dX2_holds_173 : decode cX2_holds 173 = .ok (.goto 4, 3) := by decide +kernel
theorem dX2_holds_176 : decode cX2_holds 176 = .ok (.iconst 0, 1) := by decide +kernel
theorem dX2_holds_177 : decode cX2_holds 177 = .ok (.ireturn, 1) := by decide +kernel
theorem dX2_compares_0 : decode cX2_compares 0 = .ok (.iload_n 0, 1) := by decide +kernel
theorem dX2_compares_1 : decode cX2_compares 1 = .ok (.lookupswitch 49 #[(0, 27), (1, 38)], 27) := by decide +kernel
theorem dX2_compares_28 : decode cX2_compares 28 = .ok (.iload_n 1, 1) := by decide +kernel
theorem dX2_compares_29 : decode cX2_compares 29 = .ok (.iload_n 2, 1) := by decide +kernel
theorem dX2_compares_30 : decode cX2_compares 30 = .ok (.if_icmp .ge 7, 3) := by decide +kernel
theorem dX2_compares_33 : decode cX2_compares 33 = .ok (.iconst 1, 1) := by decide +kernel
theorem dX2_compares_34 : decode cX2_compares 34 = .ok (.goto 4, 3) := by decide +kernel
theorem dX2_compares_37 : decode cX2_compares 37 = .ok (.iconst 0, 1) := by decide +kernel
theorem dX2_compares_38 : decode cX2_compares 38 = .ok (.ireturn, 1) := by decide +kernel
theorem dX2_compares_39 : decode cX2_compares 39 = .ok (.iload_n 1, 1) := by decide +kernel
theorem dX2_compares_40 : decode cX2_compares 40 = .ok (.iload_n 2, 1) := by decide +kernel
theorem dX2_compares_41 : decode cX2_compares 41 = .ok (.if_icmp .ne 7, 3) := by decide +kernel
theorem dX2_compares_44 : decode cX2_compares 44 = .ok (.iconst 1, 1) := by decide +kernel
theorem dX2_compares_45 : decode cX2_compares 45 = .ok (.goto 4, 3) := by decide +kernel
theorem dX2_compares_48 : decode cX2_compares 48 = .ok (.iconst 0, 1) := by decide +kernel
theorem dX2_compares_49 : decode cX2_compares 49 = .ok (.ireturn, 1) := by decide +kernel
theorem dX2_compares_50 : decode cX2_compares 50 = .ok (.iload_n 1, 1) := by decide +kernel
theorem dX2_compares_51 : decode cX2_compares 51 = .ok (.iload_n 2, 1) := by decide +kernel
theorem dX2_compares_52 : decode cX2_compares 52 = .ok (.if_icmp .le 7, 3) := by decide +kernel
theorem dX2_compares_55 : decode cX2_compares 55 = .ok (.iconst 1, 1) := by decide +kernel
theorem dX2_compares_56 : decode cX2_compares 56 = .ok (.goto 4, 3) := by decide +kernel
theorem dX2_compares_59 : decode cX2_compares 59 = .ok (.iconst 0, 1) := by decide +kernel
theorem dX2_compares_60 : decode cX2_compares 60 = .ok (.ireturn, 1) := by decide +kernel
theorem dX2_factOf_0 : decode cX2_factOf 0 = .ok (.iload_n 0, 1) := by decide +kernel
theorem dX2_factOf_1 : decode cX2_factOf 1 = .ok (.tableswitch 57 (-5) (-1) #[52, 47, 42, 37, 35], 35) := by decide +kernel
theorem dX2_factOf_36 : decode cX2_factOf 36 = .ok (.iload_n 2, 1) := by decide +kernel
theorem dX2_factOf_37 : decode cX2_factOf 37 = .ok (.ireturn, 1) := by decide +kernel
theorem dX2_factOf_38 : decode cX2_factOf 38 = .ok (.aload_n 1, 1) := by decide +kernel
theorem dX2_factOf_39 : decode cX2_factOf 39 = .ok (.getfield 69, 3) := by decide +kernel
theorem dX2_factOf_42 : decode cX2_factOf 42 = .ok (.ireturn, 1) := by decide +kernel
theorem dX2_factOf_43 : decode cX2_factOf 43 = .ok (.aload_n 1, 1) := by decide +kernel
theorem dX2_factOf_44 : decode cX2_factOf 44 = .ok (.getfield 72, 3) := by decide +kernel
theorem dX2_factOf_47 : decode cX2_factOf 47 = .ok (.ireturn, 1) := by decide +kernel
theorem dX2_factOf_48 : decode cX2_factOf 48 = .ok (.aload_n 1, 1) := by decide +kernel
theorem dX2_factOf_49 : decode cX2_factOf 49 = .ok (.getfield 75, 3) := by decide +kernel
theorem dX2_factOf_52 : decode cX2_factOf 52 = .ok (.ireturn, 1) := by decide +kernel
theorem dX2_factOf_53 : decode cX2_factOf 53 = .ok (.aload_n 1, 1) := by decide +kernel
theorem dX2_factOf_54 : decode cX2_factOf 54 = .ok (.getfield 78, 3) := by decide +kernel
theorem dX2_factOf_57 : decode cX2_factOf 57 = .ok (.ireturn, 1) := by decide +kernel
theorem dX2_factOf_58 : decode cX2_factOf 58 = .ok (.iload_n 0, 1) := by decide +kernel
theorem dX2_factOf_59 : decode cX2_factOf 59 = .ok (.ireturn, 1) := by decide +kernel
theorem dX3_init_0 : decode cX3_init 0 = .ok (.aload_n 0, 1) := by decide +kernel
theorem dX3_init_1 : decode cX3_init 1 = .ok (.invokespecial 3, 3) := by decide +kernel
theorem dX3_init_4 : decode cX3_init 4 = .ok (.aload_n 0, 1) := by decide +kernel
theorem dX3_init_5 : decode cX3_init 5 = .ok (.new 9, 3) := by decide +kernel
theorem dX3_init_8 : decode cX3_init 8 = .ok (.dup, 1) := by decide +kernel
theorem dX3_init_9 : decode cX3_init 9 = .ok (.invokespecial 11, 3) := by decide +kernel
theorem dX3_init_12 : decode cX3_init 12 = .ok (.putfield 12, 3) := by decide +kernel
theorem dX3_init_15 : decode cX3_init 15 = .ok (.aload_n 0, 1) := by decide +kernel
theorem dX3_init_16 : decode cX3_init 16 = .ok (.iconst 0, 1) := by decide +kernel
theorem dX3_init_17 : decode cX3_init 17 = .ok (.putfield 18, 3) := by decide +kernel
theorem dX3_init_20 : decode cX3_init 20 = .ok (.aload_n 0, 1) := by decide +kernel
theorem dX3_init_21 : decode cX3_init 21 = .ok (.iconst 0, 1) := by decide +kernel
theorem dX3_init_22 : decode cX3_init 22 = .ok (.putfield 22, 3) := by decide +kernel
theorem dX3_init_25 : decode cX3_init 25 = .ok (.aload_n 0, 1) := by decide +kernel
theorem dX3_init_26 : decode cX3_init 26 = .ok (.iconst 0, 1) := by decide +kernel
theorem dX3_init_27 : decode cX3_init 27 = .ok (.putfield 25, 3) := by decide +kernel
theorem dX3_init_30 : decode cX3_init 30 = .ok (.aload_n 0, 1) := by decide +kernel
theorem dX3_init_31 : decode cX3_init 31 = .ok (.iconst 0, 1) := by decide +kernel
theorem dX3_init_32 : decode cX3_init 32 = .ok (.putfield 28, 3) := by decide +kernel
theorem dX3_init_35 : decode cX3_init 35 = .ok (.aload_n 0, 1) := by decide +kernel
theorem dX3_init_36 : decode cX3_init 36 = .ok (.aload_n 1, 1) := by decide +kernel
theorem dX3_init_37 : decode cX3_init 37 = .ok (.putfield 31, 3) := by decide +kernel
theorem dX3_init_40 : decode cX3_init 40 = .ok (.aload_n 0, 1) := by decide +kernel
theorem dX3_init_41 : decode cX3_init 41 = .ok (.iload_n 2, 1) := by decide +kernel
theorem dX3_init_42 : decode cX3_init 42 = .ok (.putfield 35, 3) := by decide +kernel
theorem dX3_init_45 : decode cX3_init 45 = .ok (.return_, 1) := by decide +kernel
theorem dX3_next_0 : decode cX3_next 0 = .ok (.aload_n 0, 1) := by decide +kernel
theorem dX3_next_1 : decode cX3_next 1 = .ok (.aload_n 0, 1) := by decide +kernel
theorem dX3_next_2 : decode cX3_next 2 = .ok (.getfield 28, 3) := by decide +kernel
theorem dX3_next_5 : decode cX3_next 5 = .ok (.putfield 25, 3) := by decide +kernel
theorem dX3_next_8 : decode cX3_next 8 = .ok (.aload_n 0, 1) := by decide +kernel
theorem dX3_next_9 : decode cX3_next 9 = .ok (.getfield 25, 3) := by decide +kernel
theorem dX3_next_12 : decode cX3_next 12 = .ok (.aload_n 0, 1) := by decide +kernel
theorem dX3_next_13 : decode cX3_next 13 = .ok (.getfield 35, 3) := by decide +kernel
theorem dX3_next_16 : decode cX3_next 16 = .ok (.if_icmp .ge 28, 3) := by decide +kernel
theorem dX3_next_19 : decode cX3_next 19 = .ok (.aload_n 0, 1) := by decide +kernel
theorem dX3_next_20 : decode cX3_next 20 = .ok (.aload_n 0, 1) := by decide +kernel
theorem dX3_next_21 : decode cX3_next 21 = .ok (.getfield 25, 3) := by decide +kernel
theorem dX3_next_24 : decode cX3_next 24 = .ok (.invokevirtual 38, 3) := by decide +kernel
theorem dX3_next_27 : decode cX3_next 27 = .ok (.iconst 4, 1) := by decide +kernel
theorem dX3_next_28 : decode cX3_next 28 = .ok (.if_icmp .ne 16, 3) := by decide +kernel
theorem dX3_next_31 : decode cX3_next 31 = .ok (.aload_n 0, 1) := by decide +kernel
theorem dX3_next_32 : decode cX3_next 32 = .ok (.dup, 1) := by decide +kernel
theorem dX3_next_33 : decode cX3_next 33 = .ok (.getfield 25, 3) := by decide +kernel
theorem dX3_next_36 : decode cX3_next 36 = .ok (.iconst 1, 1) := by decide +kernel
theorem dX3_next_37 : decode cX3_next 37 = .ok (.iadd, 1) := by decide +kernel
theorem dX3_next_38 : decode cX3_next 38 = .ok (.putfield 25, 3) := by decide +kernel
theorem dX3_next_41 : decode cX3_next 41 = .ok (.goto (-33), 3) := by decide +kernel
theorem dX3_next_44 : decode cX3_next 44 = .ok (.aload_n 0, 1) := by decide +kernel
theorem dX3_next_45 : decode cX3_next 45 = .ok (.aload_n 0, 1) := by decide +kernel
theorem dX3_next_46 : decode cX3_next 46 = .ok (.aload_n 0, 1) := by decide +kernel
theorem dX3_next_47 : decode cX3_next 47 = .ok (.getfield 25, 3) := by decide +kernel
theorem dX3_next_50 : decode cX3_next 50 = .ok (.invokevirtual 38, 3) := by decide +kernel
theorem dX3_next_53 : decode cX3_next 53 = .ok (.putfield 22, 3) := by decide +kernel
theorem dX3_next_56 : decode cX3_next 56 = .ok (.aload_n 0, 1) := by decide +kernel
theorem dX3_next_57 : decode cX3_next 57 = .ok (.aload_n 0, 1) := by decide +kernel
theorem dX3_next_58 : decode cX3_next 58 = .ok (.getfield 22, 3) := by decide +kernel
theorem dX3_next_61 : decode cX3_next 61 = .ok (.ifCond .ne 10, 3) := by decide +kernel
theorem dX3_next_64 : decode cX3_next 64 = .ok (.aload_n 0, 1) := by decide +kernel
theorem dX3_next_65 : decode cX3_next 65 = .ok (.getfield 25, 3) := by decide +kernel
theorem dX3_next_68 : decode cX3_next 68 = .ok (.goto 9, 3) := by decide +kernel
theorem dX3_next_71 : decode cX3_next 71 = .ok (.aload_n 0, 1) := by decide +kernel
theorem dX3_next_72 : decode cX3_next 72 = .ok (.getfield 25, 3) := by decide +kernel
theorem dX3_next_75 : decode cX3_next 75 = .ok (.iconst 1, 1) := by decide +kernel
theorem dX3_next_76 : decode cX3_next 76 = .ok (.iadd, 1) := by decide +kernel
theorem dX3_next_77 : decode cX3_next 77 = .ok (.putfield 28, 3) := by decide +kernel
theorem dX3_next_80 : decode cX3_next 80 = .ok (.aload_n 0, 1) := by decide +kernel
theorem dX3_next_81 : decode cX3_next 81 = .ok (.getfield 28, 3) := by decide +kernel
theorem dX3_next_84 : decode cX3_next 84 = .ok (.aload_n 0, 1) := by decide +kernel
theorem dX3_next_85 : decode cX3_next 85 = .ok (.getfield 35, 3) := by decide +kernel
theorem dX3_next_88 : decode cX3_next 88 = .ok (.if_icmp .ge 47, 3) := by decide +kernel
theorem dX3_next_91 : decode cX3_next 91 = .ok (.aload_n 0, 1) := by decide +kernel
theorem dX3_next_92 : decode cX3_next 92 = .ok (.getfield 22, 3) := by decide +kernel
theorem dX3_next_95 : decode cX3_next 95 = .ok (.iconst 1, 1) := by decide +kernel
theorem dX3_next_96 : decode cX3_next 96 = .ok (.if_icmp .eq 11, 3) := by decide +kernel
theorem dX3_next_99 : decode cX3_next 99 = .ok (.aload_n 0, 1) := by decide +kernel
theorem dX3_next_100 : decode cX3_next 100 = .ok (.getfield 22, 3) := by decide +kernel
theorem dX3_next_103 : decode cX3_next 103 = .ok (.iconst 2, 1) := by decide +kernel
theorem dX3_next_104 : decode cX3_next 104 = .ok (.if_icmp .ne 31, 3) := by decide +kernel
theorem dX3_next_107 : decode cX3_next 107 = .ok (.aload_n 0, 1) := by decide +kernel
theorem dX3_next_108 : decode cX3_next 108 = .ok (.aload_n 0, 1) := by decide +kernel
theorem dX3_next_109 : decode cX3_next 109 = .ok (.getfield 28, 3) := by decide +kernel
theorem dX3_next_112 : decode cX3_next 112 = .ok (.invokevirtual 38, 3) := by decide +kernel
theorem dX3_next_115 : decode cX3_next 115 = .ok (.aload_n 0, 1) := by decide +kernel
theorem dX3_next_116 : decode cX3_next 116 = .ok (.getfield 22, 3) := by decide +kernel
theorem dX3_next_119 : decode cX3_next 119 = .ok (.if_icmp .ne 16, 3) := by decide +kernel
theorem dX3_next_122 : decode cX3_next 122 = .ok (.aload_n 0, 1) := by decide +kernel
theorem dX3_next_123 : decode cX3_next 123 = .ok (.dup, 1) := by decide +kernel
theorem dX3_next_124 : decode cX3_next 124 = .ok (.getfield 28, 3) := by decide +kernel
theorem dX3_next_127 : decode cX3_next 127 = .ok (.iconst 1, 1) := by decide +kernel
theorem dX3_next_128 : decode cX3_next 128 = .ok (.iadd, 1) := by decide +kernel
theorem dX3_next_129 : decode cX3_next 129 = .ok (.putfield 28, 3) := by decide +kernel
theorem dX3_next_132 : decode cX3_next 132 = .ok (.goto (-52), 3) := by decide +kernel
theorem dX3_next_135 : decode cX3_next 135 = .ok (.return_, 1) := by decide +kernel
theorem dX3_readClause_0 : decode cX3_readClause 0 = .ok (.aload_n 0, 1) := by decide +kernel
theorem dX3_readClause_1 : decode cX3_readClause 1 = .ok (.invokevirtual 42, 3) := by decide +kernel
theorem dX3_readClause_4 : decode cX3_readClause 4 = .ok (.istore_n 1, 1) := by decide +kernel
theorem dX3_readClause_5 : decode cX3_readClause 5 = .ok (.iload_n 1, 1) := by decide +kernel
theorem dX3_readClause_6 : decode cX3_readClause 6 = .ok (.ifCond .lt 15, 3) := by decide +kernel
theorem dX3_readClause_9 : decode cX3_readClause 9 = .ok (.aload_n 0, 1) := by decide +kernel
theorem dX3_readClause_10 : decode cX3_readClause 10 = .ok (.getfield 12, 3) := by decide +kernel
theorem dX3_readClause_13 : decode cX3_readClause 13 = .ok (.getfield 46, 3) := by decide +kernel
theorem dX3_readClause_16 : decode cX3_readClause 16 = .ok (.bipush 8, 2) := by decide +kernel
theorem dX3_readClause_18 : decode cX3_readClause 18 = .ok (.if_icmp .lt 8, 3) := by decide +kernel
theorem dX3_readClause_21 : decode cX3_readClause 21 = .ok (.aload_n 0, 1) := by decide +kernel
theorem dX3_readClause_22 : decode cX3_readClause 22 = .ok (.invokevirtual 49, 3) := by decide +kernel
theorem dX3_readClause_25 : decode cX3_readClause 25 = .ok (.ireturn, 1) := by decide +kernel
theorem dX3_readClause_26 : decode cX3_readClause 26 = .ok (.aload_n 0, 1) := by decide +kernel
theorem dX3_readClause_27 : decode cX3_readClause 27 = .ok (.invokevirtual 53, 3) := by decide +kernel
theorem dX3_readClause_30 : decode cX3_readClause 30 = .ok (.aload_n 0, 1) := by decide +kernel
theorem dX3_readClause_31 : decode cX3_readClause 31 = .ok (.getfield 12, 3) := by decide +kernel
theorem dX3_readClause_34 : decode cX3_readClause 34 = .ok (.getfield 56, 3) := by decide +kernel
theorem dX3_readClause_37 : decode cX3_readClause 37 = .ok (.istore_n 2, 1) := by decide +kernel
theorem dX3_readClause_38 : decode cX3_readClause 38 = .ok (.aload_n 0, 1) := by decide +kernel
theorem dX3_readClause_39 : decode cX3_readClause 39 = .ok (.ldc 59, 2) := by decide +kernel
theorem dX3_readClause_41 : decode cX3_readClause 41 = .ok (.invokevirtual 61, 3) := by decide +kernel
theorem dX3_readClause_44 : decode cX3_readClause 44 = .ok (.ifCond .eq 17, 3) := by decide +kernel
theorem dX3_readClause_47 : decode cX3_readClause 47 = .ok (.aload_n 0, 1) := by decide +kernel
theorem dX3_readClause_48 : decode cX3_readClause 48 = .ok (.invokevirtual 53, 3) := by decide +kernel
theorem dX3_readClause_51 : decode cX3_readClause 51 = .ok (.aload_n 0, 1) := by decide +kernel
theorem dX3_readClause_52 : decode cX3_readClause 52 = .ok (.iconst 0, 1) := by decide +kernel
theorem dX3_readClause_53 : decode cX3_readClause 53 = .ok (.invokevirtual 65, 3) := by decide +kernel
theorem dX3_readClause_56 : decode cX3_readClause 56 = .ok (.ifCond .ne 5, 3) := by decide +kernel
theorem dX3_readClause_59 : decode cX3_readClause 59 = .ok (.iconst 0, 1) := by decide +kernel
theorem dX3_readClause_60 : decode cX3_readClause 60 = .ok (.ireturn, 1) := by decide +kernel
theorem dX3_readClause_61 : decode cX3_readClause 61 = .ok (.aload_n 0, 1) := by decide +kernel
theorem dX3_readClause_62 : decode cX3_readClause 62 = .ok (.invokevirtual 69, 3) := by decide +kernel
theorem dX3_readClause_65 : decode cX3_readClause 65 = .ok (.istore_n 3, 1) := by decide +kernel
theorem dX3_readClause_66 : decode cX3_readClause 66 = .ok (.iload_n 3, 1) := by decide +kernel
theorem dX3_readClause_67 : decode cX3_readClause 67 = .ok (.iconst (-1), 1) := by decide +kernel
theorem dX3_readClause_68 : decode cX3_readClause 68 = .ok (.if_icmp .ne 8, 3) := by decide +kernel
theorem dX3_readClause_71 : decode cX3_readClause 71 = .ok (.aload_n 0, 1) := by decide +kernel
theorem dX3_readClause_72 : decode cX3_readClause 72 = .ok (.invokevirtual 49, 3) := by decide +kernel
theorem dX3_readClause_75 : decode cX3_readClause 75 = .ok (.ireturn, 1) := by decide +kernel
theorem dX3_readClause_76 : decode cX3_readClause 76 = .ok (.aload_n 0, 1) := by decide +kernel
theorem dX3_readClause_77 : decode cX3_readClause 77 = .ok (.invokevirtual 53, 3) := by decide +kernel
theorem dX3_readClause_80 : decode cX3_readClause 80 = .ok (.iconst 0, 1) := by decide +kernel
theorem dX3_readClause_81 : decode cX3_readClause 81 = .ok (.istore 4, 2) := by decide +kernel
theorem dX3_readClause_83 : decode cX3_readClause 83 = .ok (.iload_n 3, 1) := by decide +kernel
theorem dX3_readClause_84 : decode cX3_readClause 84 = .ok (.iconst 1, 1) := by decide +kernel
theorem dX3_readClause_85 : decode cX3_readClause 85 = .ok (.if_icmp .ne 26, 3) := by decide +kernel
theorem dX3_readClause_88 : decode cX3_readClause 88 = .ok (.aload_n 0, 1) := by decide +kernel
theorem dX3_readClause_89 : decode cX3_readClause 89 = .ok (.invokevirtual 72, 3) := by decide +kernel
theorem dX3_readClause_92 : decode cX3_readClause 92 = .ok (.istore 4, 2) := by decide +kernel
theorem dX3_readClause_94 : decode cX3_readClause 94 = .ok (.iload 4, 2) := by decide +kernel
theorem dX3_readClause_96 : decode cX3_readClause 96 = .ok (.invokestatic 75, 3) := by decide +kernel
theorem dX3_readClause_99 : decode cX3_readClause 99 = .ok (.ifCond .ne 8, 3) := by decide +kernel
theorem dX3_readClause_102 : decode cX3_readClause 102 = .ok (.aload_n 0, 1) := by decide +kernel
theorem dX3_readClause_103 : decode cX3_readClause 103 = .ok (.invokevirtual 49, 3) := by decide +kernel
theorem dX3_readClause_106 : decode cX3_readClause 106 = .ok (.ireturn, 1) := by decide +kernel
theorem dX3_readClause_107 : decode cX3_readClause 107 = .ok (.aload_n 0, 1) := by decide +kernel
theorem dX3_readClause_108 : decode cX3_readClause 108 = .ok (.invokevirtual 53, 3) := by decide +kernel
theorem dX3_readClause_111 : decode cX3_readClause 111 = .ok (.aload_n 0, 1) := by decide +kernel
theorem dX3_readClause_112 : decode cX3_readClause 112 = .ok (.bipush 59, 2) := by decide +kernel
theorem dX3_readClause_114 : decode cX3_readClause 114 = .ok (.invokevirtual 78, 3) := by decide +kernel
theorem dX3_readClause_117 : decode cX3_readClause 117 = .ok (.ifCond .ne 8, 3) := by decide +kernel
theorem dX3_readClause_120 : decode cX3_readClause 120 = .ok (.aload_n 0, 1) := by decide +kernel
theorem dX3_readClause_121 : decode cX3_readClause 121 = .ok (.invokevirtual 49, 3) := by decide +kernel
theorem dX3_readClause_124 : decode cX3_readClause 124 = .ok (.ireturn, 1) := by decide +kernel
theorem dX3_readClause_125 : decode cX3_readClause 125 = .ok (.aload_n 0, 1) := by decide +kernel
theorem dX3_readClause_126 : decode cX3_readClause 126 = .ok (.invokevirtual 53, 3) := by decide +kernel
theorem dX3_readClause_129 : decode cX3_readClause 129 = .ok (.aload_n 0, 1) := by decide +kernel
theorem dX3_readClause_130 : decode cX3_readClause 130 = .ok (.getfield 12, 3) := by decide +kernel
theorem dX3_readClause_133 : decode cX3_readClause 133 = .ok (.iload_n 1, 1) := by decide +kernel
theorem dX3_readClause_134 : decode cX3_readClause 134 = .ok (.iload_n 3, 1) := by decide +kernel
theorem dX3_readClause_135 : decode cX3_readClause 135 = .ok (.iload 4, 2) := by decide +kernel
theorem dX3_readClause_137 : decode cX3_readClause 137 = .ok (.iload_n 2, 1) := by decide +kernel
theorem dX3_readClause_138 : decode cX3_readClause 138 = .ok (.invokevirtual 82, 3) := by decide +kernel
theorem dX3_readClause_141 : decode cX3_readClause 141 = .ok (.iconst 1, 1) := by decide +kernel
theorem dX3_readClause_142 : decode cX3_readClause 142 = .ok (.ireturn, 1) := by decide +kernel
theorem dX3_readAnyOf_0 : decode cX3_readAnyOf 0 = .ok (.aload_n 0, 1) := by decide +kernel
theorem dX3_readAnyOf_1 : decode cX3_readAnyOf 1 = .ok (.iload_n 1, 1) := by decide +kernel
theorem dX3_readAnyOf_2 : decode cX3_readAnyOf 2 = .ok (.invokevirtual 86, 3) := by decide +kernel
theorem dX3_readAnyOf_5 : decode cX3_readAnyOf 5 = .ok (.ifCond .ne 5, 3) := by decide +kernel
theorem dX3_readAnyOf_8 : decode cX3_readAnyOf 8 = .ok (.iconst 0, 1) := by decide +kernel
theorem dX3_readAnyOf_9 : decode cX3_readAnyOf 9 = .ok (.ireturn, 1) := by decide +kernel
theorem dX3_readAnyOf_10 : decode cX3_readAnyOf 10 = .ok (.iconst 0, 1) := by decide +kernel
theorem dX3_readAnyOf_11 : decode cX3_readAnyOf 11 = .ok (.istore_n 2, 1) := by decide +kernel
theorem dX3_readAnyOf_12 : decode cX3_readAnyOf 12 = .ok (.iload_n 2, 1) := by decide +kernel
theorem dX3_readAnyOf_13 : decode cX3_readAnyOf 13 = .ok (.sipush 200, 3) := by decide +kernel
theorem dX3_readAnyOf_16 : decode cX3_readAnyOf 16 = .ok (.if_icmp .ge 42, 3) := by decide +kernel
theorem dX3_readAnyOf_19 : decode cX3_readAnyOf 19 = .ok (.aload_n 0, 1) := by decide +kernel
theorem dX3_readAnyOf_20 : decode cX3_readAnyOf 20 = .ok (.ldc 89, 2) := by decide +kernel
theorem dX3_readAnyOf_22 : decode cX3_readAnyOf 22 = .ok (.invokevirtual 61, 3) := by decide +kernel
theorem dX3_readAnyOf_25 : decode cX3_readAnyOf 25 = .ok (.ifCond .eq 33, 3) := by decide +kernel
theorem dX3_readAnyOf_28 : decode cX3_readAnyOf 28 = .ok (.aload_n 0, 1) := by decide +kernel
theorem dX3_readAnyOf_29 : decode cX3_readAnyOf 29 = .ok (.invokevirtual 53, 3) := by decide +kernel
theorem dX3_readAnyOf_32 : decode cX3_readAnyOf 32 = .ok (.aload_n 0, 1) := by decide +kernel
theorem dX3_readAnyOf_33 : decode cX3_readAnyOf 33 = .ok (.iload_n 1, 1) := by decide +kernel
theorem dX3_readAnyOf_34 : decode cX3_readAnyOf 34 = .ok (.invokevirtual 86, 3) := by decide +kernel
theorem dX3_readAnyOf_37 : decode cX3_readAnyOf 37 = .ok (.ifCond .ne 5, 3) := by decide +kernel
theorem dX3_readAnyOf_40 : decode cX3_readAnyOf 40 = .ok (.iconst 0, 1) := by decide +kernel
theorem dX3_readAnyOf_41 : decode cX3_readAnyOf 41 = .ok (.ireturn, 1) := by decide +kernel
theorem dX3_readAnyOf_42 : decode cX3_readAnyOf 42 = .ok (.aload_n 0, 1) := by decide +kernel
theorem dX3_readAnyOf_43 : decode cX3_readAnyOf 43 = .ok (.getfield 12, 3) := by decide +kernel
theorem dX3_readAnyOf_46 : decode cX3_readAnyOf 46 = .ok (.iconst 5, 1) := by decide +kernel
theorem dX3_readAnyOf_47 : decode cX3_readAnyOf 47 = .ok (.iconst 0, 1) := by decide +kernel
theorem dX3_readAnyOf_48 : decode cX3_readAnyOf 48 = .ok (.iconst 0, 1) := by decide +kernel
theorem dX3_readAnyOf_49 : decode cX3_readAnyOf 49 = .ok (.invokevirtual 91, 3) := by decide +kernel
theorem dX3_readAnyOf_52 : decode cX3_readAnyOf 52 = .ok (.iinc 2 1, 3) := by decide +kernel
theorem dX3_readAnyOf_55 : decode cX3_readAnyOf 55 = .ok (.goto (-43), 3) := by decide +kernel
theorem dX3_readAnyOf_58 : decode cX3_readAnyOf 58 = .ok (.iconst 1, 1) := by decide +kernel
theorem dX3_readAnyOf_59 : decode cX3_readAnyOf 59 = .ok (.ireturn, 1) := by decide +kernel
theorem dX3_readAllOf_0 : decode cX3_readAllOf 0 = .ok (.aload_n 0, 1) := by decide +kernel
theorem dX3_readAllOf_1 : decode cX3_readAllOf 1 = .ok (.iload_n 1, 1) := by decide +kernel
theorem dX3_readAllOf_2 : decode cX3_readAllOf 2 = .ok (.invokevirtual 95, 3) := by decide +kernel
theorem dX3_readAllOf_5 : decode cX3_readAllOf 5 = .ok (.ifCond .ne 5, 3) := by decide +kernel
theorem dX3_readAllOf_8 : decode cX3_readAllOf 8 = .ok (.iconst 0, 1) := by decide +kernel
theorem dX3_readAllOf_9 : decode cX3_readAllOf 9 = .ok (.ireturn, 1) := by decide +kernel
theorem dX3_readAllOf_10 : decode cX3_readAllOf 10 = .ok (.iconst 0, 1) := by decide +kernel
theorem dX3_readAllOf_11 : decode cX3_readAllOf 11 = .ok (.istore_n 2, 1) := by decide +kernel
theorem dX3_readAllOf_12 : decode cX3_readAllOf 12 = .ok (.iload_n 2, 1) := by decide +kernel
theorem dX3_readAllOf_13 : decode cX3_readAllOf 13 = .ok (.sipush 200, 3) := by decide +kernel
theorem dX3_readAllOf_16 : decode cX3_readAllOf 16 = .ok (.if_icmp .ge 42, 3) := by decide +kernel
theorem dX3_readAllOf_19 : decode cX3_readAllOf 19 = .ok (.aload_n 0, 1) := by decide +kernel
theorem dX3_readAllOf_20 : decode cX3_readAllOf 20 = .ok (.ldc 98, 2) := by decide +kernel
theorem dX3_readAllOf_22 : decode cX3_readAllOf 22 = .ok (.invokevirtual 61, 3) := by decide +kernel
theorem dX3_readAllOf_25 : decode cX3_readAllOf 25 = .ok (.ifCond .eq 33, 3) := by decide +kernel
theorem dX3_readAllOf_28 : decode cX3_readAllOf 28 = .ok (.aload_n 0, 1) := by decide +kernel
theorem dX3_readAllOf_29 : decode cX3_readAllOf 29 = .ok (.invokevirtual 53, 3) := by decide +kernel
theorem dX3_readAllOf_32 : decode cX3_readAllOf 32 = .ok (.aload_n 0, 1) := by decide +kernel
theorem dX3_readAllOf_33 : decode cX3_readAllOf 33 = .ok (.iload_n 1, 1) := by decide +kernel
theorem dX3_readAllOf_34 : decode cX3_readAllOf 34 = .ok (.invokevirtual 95, 3) := by decide +kernel
theorem dX3_readAllOf_37 : decode cX3_readAllOf 37 = .ok (.ifCond .ne 5, 3) := by decide +kernel
theorem dX3_readAllOf_40 : decode cX3_readAllOf 40 = .ok (.iconst 0, 1) := by decide +kernel
theorem dX3_readAllOf_41 : decode cX3_readAllOf 41 = .ok (.ireturn, 1) := by decide +kernel
theorem dX3_readAllOf_42 : decode cX3_readAllOf 42 = .ok (.aload_n 0, 1) := by decide +kernel
theorem dX3_readAllOf_43 : decode cX3_readAllOf 43 = .ok (.getfield 12, 3) := by decide +kernel
theorem dX3_readAllOf_46 : decode cX3_readAllOf 46 = .ok (.iconst 4, 1) := by decide +kernel
theorem dX3_readAllOf_47 : decode cX3_readAllOf 47 = .ok (.iconst 0, 1) := by decide +kernel
theorem dX3_readAllOf_48 : decode cX3_readAllOf 48 = .ok (.iconst 0, 1) := by decide +kernel
theorem dX3_readAllOf_49 : decode cX3_readAllOf 49 = .ok (.invokevirtual 91, 3) := by decide +kernel
theorem dX3_readAllOf_52 : decode cX3_readAllOf 52 = .ok (.iinc 2 1, 3) := by decide +kernel
theorem dX3_readAllOf_55 : decode cX3_readAllOf 55 = .ok (.goto (-43), 3) := by decide +kernel
theorem dX3_readAllOf_58 : decode cX3_readAllOf 58 = .ok (.iconst 1, 1) := by decide +kernel
theorem dX3_readAllOf_59 : decode cX3_readAllOf 59 = .ok (.ireturn, 1) := by decide +kernel
theorem dX3_readOne_0 : decode cX3_readOne 0 = .ok (.iconst 0, 1) := by decide +kernel
theorem dX3_readOne_1 : decode cX3_readOne 1 = .ok (.istore_n 2, 1) := by decide +kernel
theorem dX3_readOne_2 : decode cX3_readOne 2 = .ok (.iconst 0, 1) := by decide +kernel
theorem dX3_readOne_3 : decode cX3_readOne 3 = .ok (.istore_n 3, 1) := by decide +kernel
theorem dX3_readOne_4 : decode cX3_readOne 4 = .ok (.iload_n 3, 1) := by decide +kernel
theorem dX3_readOne_5 : decode cX3_readOne 5 = .ok (.sipush 200, 3) := by decide +kernel
theorem dX3_readOne_8 : decode cX3_readOne 8 = .ok (.if_icmp .ge 32, 3) := by decide +kernel
theorem dX3_readOne_11 : decode cX3_readOne 11 = .ok (.aload_n 0, 1) := by decide +kernel
theorem dX3_readOne_12 : decode cX3_readOne 12 = .ok (.ldc 100, 2) := by decide +kernel
theorem dX3_readOne_14 : decode cX3_readOne 14 = .ok (.invokevirtual 61, 3) := by decide +kernel
theorem dX3_readOne_17 : decode cX3_readOne 17 = .ok (.ifCond .eq 23, 3) := by decide +kernel
theorem dX3_readOne_20 : decode cX3_readOne 20 = .ok (.iload_n 2, 1) := by decide +kernel
theorem dX3_readOne_21 : decode cX3_readOne 21 = .ok (.ifCond .ne 7, 3) := by decide +kernel
theorem dX3_readOne_24 : decode cX3_readOne 24 = .ok (.iconst 1, 1) := by decide +kernel
theorem dX3_readOne_25 : decode cX3_readOne 25 = .ok (.goto 4, 3) := by decide +kernel
theorem dX3_readOne_28 : decode cX3_readOne 28 = .ok (.iconst 0, 1) := by decide +kernel
theorem dX3_readOne_29 : decode cX3_readOne 29 = .ok (.istore_n 2, 1) := by decide +kernel
theorem dX3_readOne_30 : decode cX3_readOne 30 = .ok (.aload_n 0, 1) := by decide +kernel
theorem dX3_readOne_31 : decode cX3_readOne 31 = .ok (.invokevirtual 53, 3) := by decide +kernel
theorem dX3_readOne_34 : decode cX3_readOne 34 = .ok (.iinc 3 1, 3) := by decide +kernel
theorem dX3_readOne_37 : decode cX3_readOne 37 = .ok (.goto (-33), 3) := by decide +kernel
theorem dX3_readOne_40 : decode cX3_readOne 40 = .ok (.aload_n 0, 1) := by decide +kernel
theorem dX3_readOne_41 : decode cX3_readOne 41 = .ok (.bipush 40, 2) := by decide +kernel
theorem dX3_readOne_43 : decode cX3_readOne 43 = .ok (.invokevirtual 78, 3) := by decide +kernel
theorem dX3_readOne_46 : decode cX3_readOne 46 = .ok (.ifCond .eq 14, 3) := by decide +kernel
theorem dX3_readOne_49 : decode cX3_readOne 49 = .ok (.aload_n 0, 1) := by decide +kernel
theorem dX3_readOne_50 : decode cX3_readOne 50 = .ok (.iload_n 1, 1) := by decide +kernel
theorem dX3_readOne_51 : decode cX3_readOne 51 = .ok (.invokevirtual 102, 3) := by decide +kernel
theorem dX3_readOne_54 : decode cX3_readOne 54 = .ok (.ifCond .eq 13, 3) := by decide +kernel
theorem dX3_readOne_57 : decode cX3_readOne 57 = .ok (.goto 12, 3) := by decide +kernel
theorem dX3_readOne_60 : decode cX3_readOne 60 = .ok (.aload_n 0, 1) := by decide +kernel
theorem dX3_readOne_61 : decode cX3_readOne 61 = .ok (.invokevirtual 105, 3) := by decide +kernel
theorem dX3_readOne_64 : decode cX3_readOne 64 = .ok (.ifCond .ne 5, 3) := by decide +kernel
theorem dX3_readOne_67 : decode cX3_readOne 67 = .ok (.iconst 0, 1) := by decide +kernel
theorem dX3_readOne_68 : decode cX3_readOne 68 = .ok (.ireturn, 1) := by decide +kernel
theorem dX3_readOne_69 : decode cX3_readOne 69 = .ok (.iload_n 2, 1) := by decide +kernel
theorem dX3_readOne_70 : decode cX3_readOne 70 = .ok (.ifCond .eq 13, 3) := by decide +kernel
theorem dX3_readOne_73 : decode cX3_readOne 73 = .ok (.aload_n 0, 1) := by decide +kernel
theorem dX3_readOne_74 : decode cX3_readOne 74 = .ok (.getfield 12, 3) := by decide +kernel
theorem dX3_readOne_77 : decode cX3_readOne 77 = .ok (.iconst 3, 1) := by decide +kernel
theorem dX3_readOne_78 : decode cX3_readOne 78 = .ok (.iconst 0, 1) := by decide +kernel
theorem dX3_readOne_79 : decode cX3_readOne 79 = .ok (.iconst 0, 1) := by decide +kernel
theorem dX3_readOne_80 : decode cX3_readOne 80 = .ok (.invokevirtual 91, 3) := by decide +kernel
theorem dX3_readOne_83 : decode cX3_readOne 83 = .ok (.iconst 1, 1) := by decide +kernel
theorem dX3_readOne_84 : decode cX3_readOne 84 = .ok (.ireturn, 1) := by decide +kernel
theorem dX3_readWithin_0 : decode cX3_readWithin 0 = .ok (.iload_n 1, 1) := by decide +kernel
theorem dX3_readWithin_1 : decode cX3_readWithin 1 = .ok (.iconst 3, 1) := by decide +kernel
theorem dX3_readWithin_2 : decode cX3_readWithin 2 = .ok (.if_icmp .lt 8, 3) := by decide +kernel
theorem dX3_readWithin_5 : decode cX3_readWithin 5 = .ok (.aload_n 0, 1) := by decide +kernel
theorem dX3_readWithin_6 : decode cX3_readWithin 6 = .ok (.invokevirtual 49, 3) := by decide +kernel
theorem dX3_readWithin_9 : decode cX3_readWithin 9 = .ok (.ireturn, 1) := by decide +kernel
theorem dX3_readWithin_10 : decode cX3_readWithin 10 = .ok (.aload_n 0, 1) := by decide +kernel
theorem dX3_readWithin_11 : decode cX3_readWithin 11 = .ok (.invokevirtual 53, 3) := by decide +kernel
theorem dX3_readWithin_14 : decode cX3_readWithin 14 = .ok (.aload_n 0, 1) := by decide +kernel
theorem dX3_readWithin_15 : decode cX3_readWithin 15 = .ok (.iload_n 1, 1) := by decide +kernel
theorem dX3_readWithin_16 : decode cX3_readWithin 16 = .ok (.iconst 1, 1) := by decide +kernel
theorem dX3_readWithin_17 : decode cX3_readWithin 17 = .ok (.iadd, 1) := by decide +kernel
theorem dX3_readWithin_18 : decode cX3_readWithin 18 = .ok (.invokevirtual 65, 3) := by decide +kernel
theorem dX3_readWithin_21 : decode cX3_readWithin 21 = .ok (.ifCond .ne 5, 3) := by decide +kernel
theorem dX3_readWithin_24 : decode cX3_readWithin 24 = .ok (.iconst 0, 1) := by decide +kernel
theorem dX3_readWithin_25 : decode cX3_readWithin 25 = .ok (.ireturn, 1) := by decide +kernel
theorem dX3_readWithin_26 : decode cX3_readWithin 26 = .ok (.aload_n 0, 1) := by decide +kernel
theorem dX3_readWithin_27 : decode cX3_readWithin 27 = .ok (.bipush 41, 2) := by decide +kernel
theorem dX3_readWithin_29 : decode cX3_readWithin 29 = .ok (.invokevirtual 78, 3) := by decide +kernel
theorem dX3_readWithin_32 : decode cX3_readWithin 32 = .ok (.ifCond .ne 8, 3) := by decide +kernel
theorem dX3_readWithin_35 : decode cX3_readWithin 35 = .ok (.aload_n 0, 1) := by decide +kernel
theorem dX3_readWithin_36 : decode cX3_readWithin 36 = .ok (.invokevirtual 49, 3) := by decide +kernel
theorem dX3_readWithin_39 : decode cX3_readWithin 39 = .ok (.ireturn, 1) := by decide +kernel
theorem dX3_readWithin_40 : decode cX3_readWithin 40 = .ok (.aload_n 0, 1) := by decide +kernel
theorem dX3_readWithin_41 : decode cX3_readWithin 41 = .ok (.invokevirtual 53, 3) := by decide +kernel
theorem dX3_readWithin_44 : decode cX3_readWithin 44 = .ok (.iconst 1, 1) := by decide +kernel
theorem dX3_readWithin_45 : decode cX3_readWithin 45 = .ok (.ireturn, 1) := by decide +kernel
theorem dX3_readComparison_0 : decode cX3_readComparison 0 = .ok (.aload_n 0, 1) := by decide +kernel
theorem dX3_readComparison_1 : decode cX3_readComparison 1 = .ok (.invokevirtual 108, 3) := by decide +kernel
theorem dX3_readComparison_4 : decode cX3_readComparison 4 = .ok (.istore_n 1, 1) := by decide +kernel
theorem dX3_readComparison_5 : decode cX3_readComparison 5 = .ok (.iload_n 1, 1) := by decide +kernel
theorem dX3_readComparison_6 : decode cX3_readComparison 6 = .ok (.bipush (-9), 2) := by decide +kernel
theorem dX3_readComparison_8 : decode cX3_readComparison 8 = .ok (.if_icmp .ne 8, 3) := by decide +kernel
theorem dX3_readComparison_11 : decode cX3_readComparison 11 = .ok (.aload_n 0, 1) := by decide +kernel
theorem dX3_readComparison_12 : decode cX3_readComparison 12 = .ok (.invokevirtual 49, 3) := by decide +kernel
theorem dX3_readComparison_15 : decode cX3_readComparison 15 = .ok (.ireturn, 1) := by decide +kernel
theorem dX3_readComparison_16 : decode cX3_readComparison 16 = .ok (.aload_n 0, 1) := by decide +kernel
theorem dX3_readComparison_17 : decode cX3_readComparison 17 = .ok (.invokevirtual 53, 3) := by decide +kernel
theorem dX3_readComparison_20 : decode cX3_readComparison 20 = .ok (.aload_n 0, 1) := by decide +kernel
theorem dX3_readComparison_21 : decode cX3_readComparison 21 = .ok (.bipush 60, 2) := by decide +kernel
theorem dX3_readComparison_23 : decode cX3_readComparison 23 = .ok (.invokevirtual 78, 3) := by decide +kernel
theorem dX3_readComparison_26 : decode cX3_readComparison 26 = .ok (.ifCond .eq 7, 3) := by decide +kernel
theorem dX3_readComparison_29 : decode cX3_readComparison 29 = .ok (.iconst 0, 1) := by decide +kernel
theorem dX3_readComparison_30 : decode cX3_readComparison 30 = .ok (.goto 31, 3) := by decide +kernel
theorem dX3_readComparison_33 : decode cX3_readComparison 33 = .ok (.aload_n 0, 1) := by decide +kernel
theorem dX3_readComparison_34 : decode cX3_readComparison 34 = .ok (.bipush 61, 2) := by decide +kernel
theorem dX3_readComparison_36 : decode cX3_readComparison 36 = .ok (.invokevirtual 78, 3) := by decide +kernel
theorem dX3_readComparison_39 : decode cX3_readComparison 39 = .ok (.ifCond .eq 7, 3) := by decide +kernel
theorem dX3_readComparison_42 : decode cX3_readComparison 42 = .ok (.iconst 1, 1) := by decide +kernel
theorem dX3_readComparison_43 : decode cX3_readComparison 43 = .ok (.goto 18, 3) := by decide +kernel
theorem dX3_readComparison_46 : decode cX3_readComparison 46 = .ok (.aload_n 0, 1) := by decide +kernel
theorem dX3_readComparison_47 : decode cX3_readComparison 47 = .ok (.bipush 62, 2) := by decide +kernel
theorem dX3_readComparison_49 : decode cX3_readComparison 49 = .ok (.invokevirtual 78, 3) := by decide +kernel
theorem dX3_readComparison_52 : decode cX3_readComparison 52 = .ok (.ifCond .eq 7, 3) := by decide +kernel
theorem dX3_readComparison_55 : decode cX3_readComparison 55 = .ok (.iconst 2, 1) := by decide +kernel
theorem dX3_readComparison_56 : decode cX3_readComparison 56 = .ok (.goto 5, 3) := by decide +kernel
theorem dX3_readComparison_59 : decode cX3_readComparison 59 = .ok (.bipush (-9), 2) := by decide +kernel
theorem dX3_readComparison_61 : decode cX3_readComparison 61 = .ok (.istore_n 2, 1) := by decide +kernel
theorem dX3_readComparison_62 : decode cX3_readComparison 62 = .ok (.iload_n 2, 1) := by decide +kernel
theorem dX3_readComparison_63 : decode cX3_readComparison 63 = .ok (.bipush (-9), 2) := by decide +kernel
theorem dX3_readComparison_65 : decode cX3_readComparison 65 = .ok (.if_icmp .ne 8, 3) := by decide +kernel
theorem dX3_readComparison_68 : decode cX3_readComparison 68 = .ok (.aload_n 0, 1) := by decide +kernel
theorem dX3_readComparison_69 : decode cX3_readComparison 69 = .ok (.invokevirtual 49, 3) := by decide +kernel
theorem dX3_readComparison_72 : decode cX3_readComparison 72 = .ok (.ireturn, 1) := by decide +kernel
theorem dX3_readComparison_73 : decode cX3_readComparison 73 = .ok (.aload_n 0, 1) := by decide +kernel
theorem dX3_readComparison_74 : decode cX3_readComparison 74 = .ok (.invokevirtual 53, 3) := by decide +kernel
theorem dX3_readComparison_77 : decode cX3_readComparison 77 = .ok (.aload_n 0, 1) := by decide +kernel
theorem dX3_readComparison_78 : decode cX3_readComparison 78 = .ok (.invokevirtual 108, 3) := by decide +kernel
theorem dX3_readComparison_81 : decode cX3_readComparison 81 = .ok (.istore_n 3, 1) := by decide +kernel
theorem dX3_readComparison_82 : decode cX3_readComparison 82 = .ok (.iload_n 3, 1) := by decide +kernel
theorem dX3_readComparison_83 : decode cX3_readComparison 83 = .ok (.bipush (-9), 2) := by decide +kernel
theorem dX3_readComparison_85 : decode cX3_readComparison 85 = .ok (.if_icmp .ne 8, 3) := by decide +kernel
theorem dX3_readComparison_88 : decode cX3_readComparison 88 = .ok (.aload_n 0, 1) := by decide +kernel
theorem dX3_readComparison_89 : decode cX3_readComparison 89 = .ok (.invokevirtual 49, 3) := by decide +kernel
theorem dX3_readComparison_92 : decode cX3_readComparison 92 = .ok (.ireturn, 1) := by decide +kernel
theorem dX3_readComparison_93 : decode cX3_readComparison 93 = .ok (.aload_n 0, 1) := by decide +kernel
theorem dX3_readComparison_94 : decode cX3_readComparison 94 = .ok (.invokevirtual 53, 3) := by decide +kernel
theorem dX3_readComparison_97 : decode cX3_readComparison 97 = .ok (.aload_n 0, 1) := by decide +kernel
theorem dX3_readComparison_98 : decode cX3_readComparison 98 = .ok (.getfield 12, 3) := by decide +kernel
theorem dX3_readComparison_101 : decode cX3_readComparison 101 = .ok (.iload_n 2, 1) := by decide +kernel
theorem dX3_readComparison_102 : decode cX3_readComparison 102 = .ok (.iload_n 1, 1) := by decide +kernel
theorem dX3_readComparison_103 : decode cX3_readComparison 103 = .ok (.iload_n 3, 1) := by decide +kernel
theorem dX3_readComparison_104 : decode cX3_readComparison 104 = .ok (.invokevirtual 91, 3) := by decide +kernel
theorem dX3_readComparison_107 : decode cX3_readComparison 107 = .ok (.iconst 1, 1) := by decide +kernel
theorem dX3_readComparison_108 : decode cX3_readComparison 108 = .ok (.ireturn, 1) := by decide +kernel
theorem dX3_refuse_0 : decode cX3_refuse 0 = .ok (.aload_n 0, 1) := by decide +kernel
theorem dX3_refuse_1 : decode cX3_refuse 1 = .ok (.aload_n 0, 1) := by decide +kernel
theorem dX3_refuse_2 : decode cX3_refuse 2 = .ok (.getfield 25, 3) := by decide +kernel
theorem dX3_refuse_5 : decode cX3_refuse 5 = .ok (.putfield 18, 3) := by decide +kernel
theorem dX3_refuse_8 : decode cX3_refuse 8 = .ok (.iconst 0, 1) := by decide +kernel
theorem dX3_refuse_9 : decode cX3_refuse 9 = .ok (.ireturn, 1) := by decide +kernel
theorem dX3_kindHere_0 : decode cX3_kindHere 0 = .ok (.aload_n 0, 1) := by decide +kernel
theorem dX3_kindHere_1 : decode cX3_kindHere 1 = .ok (.ldc 111, 2) := by decide +kernel
theorem dX3_kindHere_3 : decode cX3_kindHere 3 = .ok (.invokevirtual 61, 3) := by decide +kernel
theorem dX3_kindHere_6 : decode cX3_kindHere 6 = .ok (.ifCond .eq 5, 3) := by decide +kernel
theorem dX3_kindHere_9 : decode cX3_kindHere 9 = .ok (.iconst 0, 1) := by decide +kernel
theorem dX3_kindHere_10 : decode cX3_kindHere 10 = .ok (.ireturn, 1) := by decide +kernel
theorem dX3_kindHere_11 : decode cX3_kindHere 11 = .ok (.aload_n 0, 1) := by decide +kernel
theorem dX3_kindHere_12 : decode cX3_kindHere 12 = .ok (.ldc 113, 2) := by decide +kernel
theorem dX3_kindHere_14 : decode cX3_kindHere 14 = .ok (.invokevirtual 61, 3) := by decide +kernel
theorem dX3_kindHere_17 : decode cX3_kindHere 17 = .ok (.ifCond .eq 5, 3) := by decide +kernel
theorem dX3_kindHere_20 : decode cX3_kindHere 20 = .ok (.iconst 1, 1) := by decide +kernel
theorem dX3_kindHere_21 : decode cX3_kindHere 21 = .ok (.ireturn, 1) := by decide +kernel
theorem dX3_kindHere_22 : decode cX3_kindHere 22 = .ok (.aload_n 0, 1) := by decide +kernel
theorem dX3_kindHere_23 : decode cX3_kindHere 23 = .ok (.ldc 115, 2) := by decide +kernel
theorem dX3_kindHere_25 : decode cX3_kindHere 25 = .ok (.invokevirtual 61, 3) := by decide +kernel
theorem dX3_kindHere_28 : decode cX3_kindHere 28 = .ok (.ifCond .eq 5, 3) := by decide +kernel
theorem dX3_kindHere_31 : decode cX3_kindHere 31 = .ok (.iconst 2, 1) := by decide +kernel
theorem dX3_kindHere_32 : decode cX3_kindHere 32 = .ok (.ireturn, 1) := by decide +kernel
theorem dX3_kindHere_33 : decode cX3_kindHere 33 = .ok (.aload_n 0, 1) := by decide +kernel
theorem dX3_kindHere_34 : decode cX3_kindHere 34 = .ok (.ldc 117, 2) := by decide +kernel
theorem dX3_kindHere_36 : decode cX3_kindHere 36 = .ok (.invokevirtual 61, 3) := by decide +kernel
theorem dX3_kindHere_39 : decode cX3_kindHere 39 = .ok (.ifCond .eq 5, 3) := by decide +kernel
theorem dX3_kindHere_42 : decode cX3_kindHere 42 = .ok (.iconst 3, 1) := by decide +kernel
theorem dX3_kindHere_43 : decode cX3_kindHere 43 = .ok (.ireturn, 1) := by decide +kernel
theorem dX3_kindHere_44 : decode cX3_kindHere 44 = .ok (.aload_n 0, 1) := by decide +kernel
theorem dX3_kindHere_45 : decode cX3_kindHere 45 = .ok (.ldc 119, 2) := by decide +kernel
theorem dX3_kindHere_47 : decode cX3_kindHere 47 = .ok (.invokevirtual 61, 3) := by decide +kernel
theorem dX3_kindHere_50 : decode cX3_kindHere 50 = .ok (.ifCond .eq 5, 3) := by decide +kernel
theorem dX3_kindHere_53 : decode cX3_kindHere 53 = .ok (.iconst 4, 1) := by decide +kernel
theorem dX3_kindHere_54 : decode cX3_kindHere 54 = .ok (.ireturn, 1) := by decide +kernel
theorem dX3_kindHere_55 : decode cX3_kindHere 55 = .ok (.aload_n 0, 1) := by decide +kernel
theorem dX3_kindHere_56 : decode cX3_kindHere 56 = .ok (.ldc 121, 2) := by decide +kernel
theorem dX3_kindHere_58 : decode cX3_kindHere 58 = .ok (.invokevirtual 61, 3) := by decide +kernel
theorem dX3_kindHere_61 : decode cX3_kindHere 61 = .ok (.ifCond .eq 7, 3) := by decide +kernel
theorem dX3_kindHere_64 : decode cX3_kindHere 64 = .ok (.iconst 5, 1) := by decide +kernel
theorem dX3_kindHere_65 : decode cX3_kindHere 65 = .ok (.goto 4, 3) := by decide +kernel
theorem dX3_kindHere_68 : decode cX3_kindHere 68 = .ok (.iconst (-1), 1) := by decide +kernel
theorem dX3_kindHere_69 : decode cX3_kindHere 69 = .ok (.ireturn, 1) := by decide +kernel
theorem dX3_deedHere_0 : decode cX3_deedHere 0 = .ok (.aload_n 0, 1) := by decide +kernel
theorem dX3_deedHere_1 : decode cX3_deedHere 1 = .ok (.ldc 123, 2) := by decide +kernel
theorem dX3_deedHere_3 : decode cX3_deedHere 3 = .ok (.invokevirtual 61, 3) := by decide +kernel
theorem dX3_deedHere_6 : decode cX3_deedHere 6 = .ok (.ifCond .eq 5, 3) := by decide +kernel
theorem dX3_deedHere_9 : decode cX3_deedHere 9 = .ok (.iconst 0, 1) := by decide +kernel
theorem dX3_deedHere_10 : decode cX3_deedHere 10 = .ok (.ireturn, 1) := by decide +kernel
theorem dX3_deedHere_11 : decode cX3_deedHere 11 = .ok (.aload_n 0, 1) := by decide +kernel
theorem dX3_deedHere_12 : decode cX3_deedHere 12 = .ok (.ldc 125, 2) := by decide +kernel
theorem dX3_deedHere_14 : decode cX3_deedHere 14 = .ok (.invokevirtual 61, 3) := by decide +kernel
theorem dX3_deedHere_17 : decode cX3_deedHere 17 = .ok (.ifCond .eq 5, 3) := by decide +kernel
theorem dX3_deedHere_20 : decode cX3_deedHere 20 = .ok (.iconst 1, 1) := by decide +kernel
theorem dX3_deedHere_21 : decode cX3_deedHere 21 = .ok (.ireturn, 1) := by decide +kernel
theorem dX3_deedHere_22 : decode cX3_deedHere 22 = .ok (.aload_n 0, 1) := by decide +kernel
theorem dX3_deedHere_23 : decode cX3_deedHere 23 = .ok (.ldc 127, 2) := by decide +kernel
theorem dX3_deedHere_25 : decode cX3_deedHere 25 = .ok (.invokevirtual 61, 3) := by decide +kernel
theorem dX3_deedHere_28 : decode cX3_deedHere 28 = .ok (.ifCond .eq 5, 3) := by decide +kernel
theorem dX3_deedHere_31 : decode cX3_deedHere 31 = .ok (.iconst 2, 1) := by decide +kernel
theorem dX3_deedHere_32 : decode cX3_deedHere 32 = .ok (.ireturn, 1) := by decide +kernel
theorem dX3_deedHere_33 : decode cX3_deedHere 33 = .ok (.aload_n 0, 1) := by decide +kernel
theorem dX3_deedHere_34 : decode cX3_deedHere 34 = .ok (.ldc 129, 2) := by decide +kernel
theorem dX3_deedHere_36 : decode cX3_deedHere 36 = .ok (.invokevirtual 61, 3) := by decide +kernel
theorem dX3_deedHere_39 : decode cX3_deedHere 39 = .ok (.ifCond .eq 7, 3) := by decide +kernel
theorem dX3_deedHere_42 : decode cX3_deedHere 42 = .ok (.iconst 3, 1) := by decide +kernel
theorem dX3_deedHere_43 : decode cX3_deedHere 43 = .ok (.goto 4, 3) := by decide +kernel
theorem dX3_deedHere_46 : decode cX3_deedHere 46 = .ok (.iconst (-1), 1) := by decide +kernel
theorem dX3_deedHere_47 : decode cX3_deedHere 47 = .ok (.ireturn, 1) := by decide +kernel
theorem dX3_valueHere_0 : decode cX3_valueHere 0 = .ok (.aload_n 0, 1) := by decide +kernel
theorem dX3_valueHere_1 : decode cX3_valueHere 1 = .ok (.getfield 22, 3) := by decide +kernel
theorem dX3_valueHere_4 : decode cX3_valueHere 4 = .ok (.iconst 2, 1) := by decide +kernel
theorem dX3_valueHere_5 : decode cX3_valueHere 5 = .ok (.if_icmp .ne 19, 3) := by decide +kernel
theorem dX3_valueHere_8 : decode cX3_valueHere 8 = .ok (.aload_n 0, 1) := by decide +kernel
theorem dX3_valueHere_9 : decode cX3_valueHere 9 = .ok (.invokevirtual 72, 3) := by decide +kernel
theorem dX3_valueHere_12 : decode cX3_valueHere 12 = .ok (.istore_n 1, 1) := by decide +kernel
theorem dX3_valueHere_13 : decode cX3_valueHere 13 = .ok (.iload_n 1, 1) := by decide +kernel
theorem dX3_valueHere_14 : decode cX3_valueHere 14 = .ok (.ifCond .ge 8, 3) := by decide +kernel
theorem dX3_valueHere_17 : decode cX3_valueHere 17 = .ok (.bipush (-9), 2) := by decide +kernel
theorem dX3_valueHere_19 : decode cX3_valueHere 19 = .ok (.goto 4, 3) := by decide +kernel
theorem dX3_valueHere_22 : decode cX3_valueHere 22 = .ok (.iload_n 1, 1) := by decide +kernel
theorem dX3_valueHere_23 : decode cX3_valueHere 23 = .ok (.ireturn, 1) := by decide +kernel
theorem dX3_valueHere_24 : decode cX3_valueHere 24 = .ok (.aload_n 0, 1) := by decide +kernel
theorem dX3_valueHere_25 : decode cX3_valueHere 25 = .ok (.ldc 131, 2) := by decide +kernel
theorem dX3_valueHere_27 : decode cX3_valueHere 27 = .ok (.invokevirtual 61, 3) := by decide +kernel
theorem dX3_valueHere_30 : decode cX3_valueHere 30 = .ok (.ifCond .eq 5, 3) := by decide +kernel
theorem dX3_valueHere_33 : decode cX3_valueHere 33 = .ok (.iconst (-1), 1) := by decide +kernel
theorem dX3_valueHere_34 : decode cX3_valueHere 34 = .ok (.ireturn, 1) := by decide +kernel
theorem dX3_valueHere_35 : decode cX3_valueHere 35 = .ok (.aload_n 0, 1) := by decide +kernel
theorem dX3_valueHere_36 : decode cX3_valueHere 36 = .ok (.ldc 133, 2) := by decide +kernel
theorem dX3_valueHere_38 : decode cX3_valueHere 38 = .ok (.invokevirtual 61, 3) := by decide +kernel
theorem dX3_valueHere_41 : decode cX3_valueHere 41 = .ok (.ifCond .eq 6, 3) := by decide +kernel
theorem dX3_valueHere_44 : decode cX3_valueHere 44 = .ok (.bipush (-2), 2) := by decide +kernel
theorem dX3_valueHere_46 : decode cX3_valueHere 46 = .ok (.ireturn, 1) := by decide +kernel
theorem dX3_valueHere_47 : decode cX3_valueHere 47 = .ok (.aload_n 0, 1) := by decide +kernel
theorem dX3_valueHere_48 : decode cX3_valueHere 48 = .ok (.ldc 135, 2) := by decide +kernel
theorem dX3_valueHere_50 : decode cX3_valueHere 50 = .ok (.invokevirtual 61, 3) := by decide +kernel
theorem dX3_valueHere_53 : decode cX3_valueHere 53 = .ok (.ifCond .eq 6, 3) := by decide +kernel
theorem dX3_valueHere_56 : decode cX3_valueHere 56 = .ok (.bipush (-3), 2) := by decide +kernel
theorem dX3_valueHere_58 : decode cX3_valueHere 58 = .ok (.ireturn, 1) := by decide +kernel
theorem dX3_valueHere_59 : decode cX3_valueHere 59 = .ok (.aload_n 0, 1) := by decide +kernel
theorem dX3_valueHere_60 : decode cX3_valueHere 60 = .ok (.ldc 137, 2) := by decide +kernel
theorem dX3_valueHere_62 : decode cX3_valueHere 62 = .ok (.invokevirtual 61, 3) := by decide +kernel
theorem dX3_valueHere_65 : decode cX3_valueHere 65 = .ok (.ifCond .eq 6, 3) := by decide +kernel
theorem dX3_valueHere_68 : decode cX3_valueHere 68 = .ok (.bipush (-4), 2) := by decide +kernel
theorem dX3_valueHere_70 : decode cX3_valueHere 70 = .ok (.ireturn, 1) := by decide +kernel
theorem dX3_valueHere_71 : decode cX3_valueHere 71 = .ok (.aload_n 0, 1) := by decide +kernel
theorem dX3_valueHere_72 : decode cX3_valueHere 72 = .ok (.ldc 139, 2) := by decide +kernel
theorem dX3_valueHere_74 : decode cX3_valueHere 74 = .ok (.invokevirtual 61, 3) := by decide +kernel
theorem dX3_valueHere_77 : decode cX3_valueHere 77 = .ok (.ifCond .eq 8, 3) := by decide +kernel
theorem dX3_valueHere_80 : decode cX3_valueHere 80 = .ok (.bipush (-5), 2) := by decide +kernel
theorem dX3_valueHere_82 : decode cX3_valueHere 82 = .ok (.goto 5, 3) := by decide +kernel
theorem dX3_valueHere_85 : decode cX3_valueHere 85 = .ok (.bipush (-9), 2) := by decide +kernel
theorem dX3_valueHere_87 : decode cX3_valueHere 87 = .ok (.ireturn, 1) := by decide +kernel
theorem dX3_numberHere_0 : decode cX3_numberHere 0 = .ok (.aload_n 0, 1) := by decide +kernel
theorem dX3_numberHere_1 : decode cX3_numberHere 1 = .ok (.getfield 22, 3) := by decide +kernel
theorem dX3_numberHere_4 : decode cX3_numberHere 4 = .ok (.iconst 2, 1) := by decide +kernel
theorem dX3_numberHere_5 : decode cX3_numberHere 5 = .ok (.if_icmp .ne 16, 3) := by decide +kernel
theorem dX3_numberHere_8 : decode cX3_numberHere 8 = .ok (.aload_n 0, 1) := by decide +kernel
theorem dX3_numberHere_9 : decode cX3_numberHere 9 = .ok (.getfield 28, 3) := by decide +kernel
theorem dX3_numberHere_12 : decode cX3_numberHere 12 = .ok (.aload_n 0, 1) := by decide +kernel
theorem dX3_numberHere_13 : decode cX3_numberHere 13 = .ok (.getfield 25, 3) := by decide +kernel
theorem dX3_numberHere_16 : decode cX3_numberHere 16 = .ok (.isub, 1) := by decide +kernel
theorem dX3_numberHere_17 : decode cX3_numberHere 17 = .ok (.iconst 4, 1) := by decide +kernel
theorem dX3_numberHere_18 : decode cX3_numberHere 18 = .ok (.if_icmp .le 5, 3) := by decide +kernel
theorem dX3_numberHere_21 : decode cX3_numberHere 21 = .ok (.iconst (-1), 1) := by decide +kernel
theorem dX3_numberHere_22 : decode cX3_numberHere 22 = .ok (.ireturn, 1) := by decide +kernel
theorem dX3_numberHere_23 : decode cX3_numberHere 23 = .ok (.iconst 0, 1) := by decide +kernel
theorem dX3_numberHere_24 : decode cX3_numberHere 24 = .ok (.istore_n 1, 1) := by decide +kernel
theorem dX3_numberHere_25 : decode cX3_numberHere 25 = .ok (.aload_n 0, 1) := by decide +kernel
theorem dX3_numberHere_26 : decode cX3_numberHere 26 = .ok (.getfield 25, 3) := by decide +kernel
theorem dX3_numberHere_29 : decode cX3_numberHere 29 = .ok (.istore_n 2, 1) := by decide +kernel
theorem dX3_numberHere_30 : decode cX3_numberHere 30 = .ok (.iload_n 2, 1) := by decide +kernel
theorem dX3_numberHere_31 : decode cX3_numberHere 31 = .ok (.ifCond .lt 41, 3) := by decide +kernel
theorem dX3_numberHere_34 : decode cX3_numberHere 34 = .ok (.iload_n 2, 1) := by decide +kernel
theorem dX3_numberHere_35 : decode cX3_numberHere 35 = .ok (.aload_n 0, 1) := by decide +kernel
theorem dX3_numberHere_36 : decode cX3_numberHere 36 = .ok (.getfield 28, 3) := by decide +kernel
theorem dX3_numberHere_39 : decode cX3_numberHere 39 = .ok (.if_icmp .ge 33, 3) := by decide +kernel
theorem dX3_numberHere_42 : decode cX3_numberHere 42 = .ok (.iload_n 2, 1) := by decide +kernel
theorem dX3_numberHere_43 : decode cX3_numberHere 43 = .ok (.aload_n 0, 1) := by decide +kernel
theorem dX3_numberHere_44 : decode cX3_numberHere 44 = .ok (.getfield 31, 3) := by decide +kernel
theorem dX3_numberHere_47 : decode cX3_numberHere 47 = .ok (.arraylength, 1) := by decide +kernel
theorem dX3_numberHere_48 : decode cX3_numberHere 48 = .ok (.if_icmp .ge 24, 3) := by decide +kernel
theorem dX3_numberHere_51 : decode cX3_numberHere 51 = .ok (.iload_n 1, 1) := by decide +kernel
theorem dX3_numberHere_52 : decode cX3_numberHere 52 = .ok (.bipush 10, 2) := by decide +kernel
theorem dX3_numberHere_54 : decode cX3_numberHere 54 = .ok (.imul, 1) := by decide +kernel
theorem dX3_numberHere_55 : decode cX3_numberHere 55 = .ok (.aload_n 0, 1) := by decide +kernel
theorem dX3_numberHere_56 : decode cX3_numberHere 56 = .ok (.getfield 31, 3) := by decide +kernel
theorem dX3_numberHere_59 : decode cX3_numberHere 59 = .ok (.iload_n 2, 1) := by decide +kernel
theorem dX3_numberHere_60 : decode cX3_numberHere 60 = .ok (.iaload, 1) := by decide +kernel
theorem dX3_numberHere_61 : decode cX3_numberHere 61 = .ok (.iadd, 1) := by decide +kernel
theorem dX3_numberHere_62 : decode cX3_numberHere 62 = .ok (.bipush 48, 2) := by decide +kernel
theorem dX3_numberHere_64 : decode cX3_numberHere 64 = .ok (.isub, 1) := by decide +kernel
theorem dX3_numberHere_65 : decode cX3_numberHere 65 = .ok (.istore_n 1, 1) := by decide +kernel
theorem dX3_numberHere_66 : decode cX3_numberHere 66 = .ok (.iinc 2 1, 3) := by decide +kernel
theorem dX3_numberHere_69 : decode cX3_numberHere 69 = .ok (.goto (-39), 3) := by decide +kernel
theorem dX3_numberHere_72 : decode cX3_numberHere 72 = .ok (.iload_n 1, 1) := by decide +kernel
theorem dX3_numberHere_73 : decode cX3_numberHere 73 = .ok (.ireturn, 1) := by decide +kernel
theorem dX3_isName_0 : decode cX3_isName 0 = .ok (.aload_n 0, 1) := by decide +kernel
theorem dX3_isName_1 : decode cX3_isName 1 = .ok (.getfield 22, 3) := by decide +kernel
theorem dX3_isName_4 : decode cX3_isName 4 = .ok (.iconst 1, 1) := by decide +kernel
theorem dX3_isName_5 : decode cX3_isName 5 = .ok (.if_icmp .ne 19, 3) := by decide +kernel
theorem dX3_isName_8 : decode cX3_isName 8 = .ok (.aload_n 0, 1) := by decide +kernel
theorem dX3_isName_9 : decode cX3_isName 9 = .ok (.getfield 28, 3) := by decide +kernel
theorem dX3_isName_12 : decode cX3_isName 12 = .ok (.aload_n 0, 1) := by decide +kernel
theorem dX3_isName_13 : decode cX3_isName 13 = .ok (.getfield 25, 3) := by decide +kernel
theorem dX3_isName_16 : decode cX3_isName 16 = .ok (.isub, 1) := by decide +kernel
theorem dX3_isName_17 : decode cX3_isName 17 = .ok (.aload_n 1, 1) := by decide +kernel
theorem dX3_isName_18 : decode cX3_isName 18 = .ok (.invokevirtual 141, 3) := by decide +kernel
theorem dX3_isName_21 : decode cX3_isName 21 = .ok (.if_icmp .eq 5, 3) := by decide +kernel
theorem dX3_isName_24 : decode cX3_isName 24 = .ok (.iconst 0, 1) := by decide +kernel
theorem dX3_isName_25 : decode cX3_isName 25 = .ok (.ireturn, 1) := by decide +kernel
theorem dX3_isName_26 : decode cX3_isName 26 = .ok (.iconst 0, 1) := by decide +kernel
theorem dX3_isName_27 : decode cX3_isName 27 = .ok (.istore_n 2, 1) := by decide +kernel
theorem dX3_isName_28 : decode cX3_isName 28 = .ok (.iload_n 2, 1) := by decide +kernel
theorem dX3_isName_29 : decode cX3_isName 29 = .ok (.aload_n 1, 1) := by decide +kernel
theorem dX3_isName_30 : decode cX3_isName 30 = .ok (.invokevirtual 141, 3) := by decide +kernel
theorem dX3_isName_33 : decode cX3_isName 33 = .ok (.if_icmp .ge 45, 3) := by decide +kernel
theorem dX3_isName_36 : decode cX3_isName 36 = .ok (.aload_n 0, 1) := by decide +kernel
theorem dX3_isName_37 : decode cX3_isName 37 = .ok (.getfield 25, 3) := by decide +kernel
theorem dX3_isName_40 : decode cX3_isName 40 = .ok (.iload_n 2, 1) := by decide +kernel
theorem dX3_isName_41 : decode cX3_isName 41 = .ok (.iadd, 1) := by decide +kernel
theorem dX3_isName_42 : decode cX3_isName 42 = .ok (.istore_n 3, 1) := by decide +kernel
theorem dX3_isName_43 : decode cX3_isName 43 = .ok (.iload_n 3, 1) := by decide +kernel
theorem dX3_isName_44 : decode cX3_isName 44 = .ok (.ifCond .lt 26, 3) := by decide +kernel
theorem dX3_isName_47 : decode cX3_isName 47 = .ok (.iload_n 3, 1) := by decide +kernel
theorem dX3_isName_48 : decode cX3_isName 48 = .ok (.aload_n 0, 1) := by decide +kernel
theorem dX3_isName_49 : decode cX3_isName 49 = .ok (.getfield 31, 3) := by decide +kernel
theorem dX3_isName_52 : decode cX3_isName 52 = .ok (.arraylength, 1) := by decide +kernel
theorem dX3_isName_53 : decode cX3_isName 53 = .ok (.if_icmp .ge 17, 3) := by decide +kernel
theorem dX3_isName_56 : decode cX3_isName 56 = .ok (.aload_n 0, 1) := by decide +kernel
theorem dX3_isName_57 : decode cX3_isName 57 = .ok (.getfield 31, 3) := by decide +kernel
theorem dX3_isName_60 : decode cX3_isName 60 = .ok (.iload_n 3, 1) := by decide +kernel
theorem dX3_isName_61 : decode cX3_isName 61 = .ok (.iaload, 1) := by decide +kernel
theorem dX3_isName_62 : decode cX3_isName 62 = .ok (.aload_n 1, 1) := by decide +kernel
theorem dX3_isName_63 : decode cX3_isName 63 = .ok (.iload_n 2, 1) := by decide +kernel
theorem dX3_isName_64 : decode cX3_isName 64 = .ok (.invokevirtual 146, 3) := by decide +kernel
theorem dX3_isName_67 : decode cX3_isName 67 = .ok (.if_icmp .eq 5, 3) := by decide +kernel
theorem dX3_isName_70 : decode cX3_isName 70 = .ok (.iconst 0, 1) := by decide +kernel
theorem dX3_isName_71 : decode cX3_isName 71 = .ok (.ireturn, 1) := by decide +kernel
theorem dX3_isName_72 : decode cX3_isName 72 = .ok (.iinc 2 1, 3) := by decide +kernel
theorem dX3_isName_75 : decode cX3_isName 75 = .ok (.goto (-47), 3) := by decide +kernel
theorem dX3_isName_78 : decode cX3_isName 78 = .ok (.iconst 1, 1) := by decide +kernel
theorem dX3_isName_79 : decode cX3_isName 79 = .ok (.ireturn, 1) := by decide +kernel
theorem dX3_isByte_0 : decode cX3_isByte 0 = .ok (.aload_n 0, 1) := by decide +kernel
theorem dX3_isByte_1 : decode cX3_isByte 1 = .ok (.getfield 22, 3) := by decide +kernel
theorem dX3_isByte_4 : decode cX3_isByte 4 = .ok (.iconst 3, 1) := by decide +kernel
theorem dX3_isByte_5 : decode cX3_isByte 5 = .ok (.if_icmp .ne 39, 3) := by decide +kernel
theorem dX3_isByte_8 : decode cX3_isByte 8 = .ok (.aload_n 0, 1) := by decide +kernel
theorem dX3_isByte_9 : decode cX3_isByte 9 = .ok (.getfield 25, 3) := by decide +kernel
theorem dX3_isByte_12 : decode cX3_isByte 12 = .ok (.ifCond .lt 32, 3) := by decide +kernel
theorem dX3_isByte_15 : decode cX3_isByte 15 = .ok (.aload_n 0, 1) := by decide +kernel
theorem dX3_isByte_16 : decode cX3_isByte 16 = .ok (.getfield 25, 3) := by decide +kernel
theorem dX3_isByte_19 : decode cX3_isByte 19 = .ok (.aload_n 0, 1) := by decide +kernel
theorem dX3_isByte_20 : decode cX3_isByte 20 = .ok (.getfield 31, 3) := by decide +kernel
theorem dX3_isByte_23 : decode cX3_isByte 23 = .ok (.arraylength, 1) := by decide +kernel
theorem dX3_isByte_24 : decode cX3_isByte 24 = .ok (.if_icmp .ge 20, 3) := by decide +kernel
theorem dX3_isByte_27 : decode cX3_isByte 27 = .ok (.aload_n 0, 1) := by decide +kernel
theorem dX3_isByte_28 : decode cX3_isByte 28 = .ok (.getfield 31, 3) := by decide +kernel
theorem dX3_isByte_31 : decode cX3_isByte 31 = .ok (.aload_n 0, 1) := by decide +kernel
theorem dX3_isByte_32 : decode cX3_isByte 32 = .ok (.getfield 25, 3) := by decide +kernel
theorem dX3_isByte_35 : decode cX3_isByte 35 = .ok (.iaload, 1) := by decide +kernel
theorem dX3_isByte_36 : decode cX3_isByte 36 = .ok (.iload_n 1, 1) := by decide +kernel
theorem dX3_isByte_37 : decode cX3_isByte 37 = .ok (.if_icmp .ne 7, 3) := by decide +kernel
theorem dX3_isByte_40 : decode cX3_isByte 40 = .ok (.iconst 1, 1) := by decide +kernel
theorem dX3_isByte_41 : decode cX3_isByte 41 = .ok (.goto 4, 3) := by decide +kernel
theorem dX3_isByte_44 : decode cX3_isByte 44 = .ok (.iconst 0, 1) := by decide +kernel
theorem dX3_isByte_45 : decode cX3_isByte 45 = .ok (.ireturn, 1) := by decide +kernel
theorem dX3_sortAt_0 : decode cX3_sortAt 0 = .ok (.iload_n 1, 1) := by decide +kernel
theorem dX3_sortAt_1 : decode cX3_sortAt 1 = .ok (.ifCond .lt 20, 3) := by decide +kernel
theorem dX3_sortAt_4 : decode cX3_sortAt 4 = .ok (.iload_n 1, 1) := by decide +kernel
theorem dX3_sortAt_5 : decode cX3_sortAt 5 = .ok (.aload_n 0, 1) := by decide +kernel
theorem dX3_sortAt_6 : decode cX3_sortAt 6 = .ok (.getfield 35, 3) := by decide +kernel
theorem dX3_sortAt_9 : decode cX3_sortAt 9 = .ok (.if_icmp .ge 12, 3) := by decide +kernel
theorem dX3_sortAt_12 : decode cX3_sortAt 12 = .ok (.iload_n 1, 1) := by decide +kernel
theorem dX3_sortAt_13 : decode cX3_sortAt 13 = .ok (.aload_n 0, 1) := by decide +kernel
theorem dX3_sortAt_14 : decode cX3_sortAt 14 = .ok (.getfield 31, 3) := by decide +kernel
theorem dX3_sortAt_17 : decode cX3_sortAt 17 = .ok (.arraylength, 1) := by decide +kernel
theorem dX3_sortAt_18 : decode cX3_sortAt 18 = .ok (.if_icmp .lt 5, 3) := by decide +kernel
theorem dX3_sortAt_21 : decode cX3_sortAt 21 = .ok (.iconst 0, 1) := by decide +kernel
theorem dX3_sortAt_22 : decode cX3_sortAt 22 = .ok (.ireturn, 1) := by decide +kernel
theorem dX3_sortAt_23 : decode cX3_sortAt 23 = .ok (.aload_n 0, 1) := by decide +kernel
theorem dX3_sortAt_24 : decode cX3_sortAt 24 = .ok (.getfield 31, 3) := by decide +kernel
theorem dX3_sortAt_27 : decode cX3_sortAt 27 = .ok (.iload_n 1, 1) := by decide +kernel
theorem dX3_sortAt_28 : decode cX3_sortAt 28 = .ok (.iaload, 1) := by decide +kernel
theorem dX3_sortAt_29 : decode cX3_sortAt 29 = .ok (.istore_n 2, 1) := by decide +kernel
theorem dX3_sortAt_30 : decode cX3_sortAt 30 = .ok (.iload_n 2, 1) := by decide +kernel
theorem dX3_sortAt_31 : decode cX3_sortAt 31 = .ok (.bipush 97, 2) := by decide +kernel
theorem dX3_sortAt_33 : decode cX3_sortAt 33 = .ok (.if_icmp .lt 11, 3) := by decide +kernel
theorem dX3_sortAt_36 : decode cX3_sortAt 36 = .ok (.iload_n 2, 1) := by decide +kernel
theorem dX3_sortAt_37 : decode cX3_sortAt 37 = .ok (.bipush 122, 2) := by decide +kernel
theorem dX3_sortAt_39 : decode cX3_sortAt 39 = .ok (.if_icmp .gt 5, 3) := by decide +kernel
theorem dX3_sortAt_42 : decode cX3_sortAt 42 = .ok (.iconst 1, 1) := by decide +kernel
theorem dX3_sortAt_43 : decode cX3_sortAt 43 = .ok (.ireturn, 1) := by decide +kernel
theorem dX3_sortAt_44 : decode cX3_sortAt 44 = .ok (.iload_n 2, 1) := by decide +kernel
theorem dX3_sortAt_45 : decode cX3_sortAt 45 = .ok (.bipush 48, 2) := by decide +kernel
theorem dX3_sortAt_47 : decode cX3_sortAt 47 = .ok (.if_icmp .lt 11, 3) := by decide +kernel
theorem dX3_sortAt_50 : decode cX3_sortAt 50 = .ok (.iload_n 2, 1) := by decide +kernel
theorem dX3_sortAt_51 : decode cX3_sortAt 51 = .ok (.bipush 57, 2) := by decide +kernel
theorem dX3_sortAt_53 : decode cX3_sortAt 53 = .ok (.if_icmp .gt 5, 3) := by decide +kernel
theorem dX3_sortAt_56 : decode cX3_sortAt 56 = .ok (.iconst 2, 1) := by decide +kernel
theorem dX3_sortAt_57 : decode cX3_sortAt 57 = .ok (.ireturn, 1) := by decide +kernel
theorem dX3_sortAt_58 : decode cX3_sortAt 58 = .ok (.iload_n 2, 1) := by decide +kernel
theorem dX3_sortAt_59 : decode cX3_sortAt 59 = .ok (.bipush 32, 2) := by decide +kernel
theorem dX3_sortAt_61 : decode cX3_sortAt 61 = .ok (.if_icmp .ne 7, 3) := by decide +kernel
theorem dX3_sortAt_64 : decode cX3_sortAt 64 = .ok (.iconst 4, 1) := by decide +kernel
theorem dX3_sortAt_65 : decode cX3_sortAt 65 = .ok (.goto 4, 3) := by decide +kernel
theorem dX3_sortAt_68 : decode cX3_sortAt 68 = .ok (.iconst 3, 1) := by decide +kernel
theorem dX3_sortAt_69 : decode cX3_sortAt 69 = .ok (.ireturn, 1) := by decide +kernel
theorem dX4_init_0 : decode cX4_init 0 = .ok (.aload_n 0, 1) := by decide +kernel
theorem dX4_init_1 : decode cX4_init 1 = .ok (.iconst 5, 1) := by decide +kernel
theorem dX4_init_2 : decode cX4_init 2 = .ok (.iload_n 1, 1) := by decide +kernel
theorem dX4_init_3 : decode cX4_init 3 = .ok (.iload_n 2, 1) := by decide +kernel
theorem dX4_init_4 : decode cX4_init 4 = .ok (.iload_n 3, 1) := by decide +kernel
theorem dX4_init_5 : decode cX4_init 5 = .ok (.iload 4, 2) := by decide +kernel
theorem dX4_init_7 : decode cX4_init 7 = .ok (.invokespecial 3, 3) := by decide +kernel
theorem dX4_init_10 : decode cX4_init 10 = .ok (.return_, 1) := by decide +kernel
theorem dX4_feasts_0 : decode cX4_feasts 0 = .ok (.aload_n 0, 1) := by decide +kernel
theorem dX4_feasts_1 : decode cX4_feasts 1 = .ok (.dup, 1) := by decide +kernel
theorem dX4_feasts_2 : decode cX4_feasts 2 = .ok (.getfield 9, 3) := by decide +kernel
theorem dX4_feasts_5 : decode cX4_feasts 5 = .ok (.iconst 2, 1) := by decide +kernel
theorem dX4_feasts_6 : decode cX4_feasts 6 = .ok (.idiv, 1) := by decide +kernel
theorem dX4_feasts_7 : decode cX4_feasts 7 = .ok (.putfield 9, 3) := by decide +kernel
theorem dX4_feasts_10 : decode cX4_feasts 10 = .ok (.return_, 1) := by decide +kernel
theorem dX4_takes_0 : decode cX4_takes 0 = .ok (.aload_n 2, 1) := by decide +kernel
theorem dX4_takes_1 : decode cX4_takes 1 = .ok (.bipush 60, 2) := by decide +kernel
theorem dX4_takes_3 : decode cX4_takes 3 = .ok (.invokevirtual 15, 3) := by decide +kernel
theorem dX4_takes_6 : decode cX4_takes 6 = .ok (.iconst 0, 1) := by decide +kernel
theorem dX4_takes_7 : decode cX4_takes 7 = .ok (.aload_n 0, 1) := by decide +kernel
theorem dX4_takes_8 : decode cX4_takes 8 = .ok (.iload_n 1, 1) := by decide +kernel
theorem dX4_takes_9 : decode cX4_takes 9 = .ok (.aload_n 2, 1) := by decide +kernel
theorem dX4_takes_10 : decode cX4_takes 10 = .ok (.invokespecial 21, 3) := by decide +kernel
theorem dX4_takes_13 : decode cX4_takes 13 = .ok (.isub, 1) := by decide +kernel
theorem dX4_takes_14 : decode cX4_takes 14 = .ok (.ireturn, 1) := by decide +kernel
theorem dX4_shares_0 : decode cX4_shares 0 = .ok (.aload_n 2, 1) := by decide +kernel
theorem dX4_shares_1 : decode cX4_shares 1 = .ok (.bipush 61, 2) := by decide +kernel
theorem dX4_shares_3 : decode cX4_shares 3 = .ok (.invokevirtual 15, 3) := by decide +kernel
theorem dX4_shares_6 : decode cX4_shares 6 = .ok (.aload_n 0, 1) := by decide +kernel
theorem dX4_shares_7 : decode cX4_shares 7 = .ok (.iload_n 1, 1) := by decide +kernel
theorem dX4_shares_8 : decode cX4_shares 8 = .ok (.aload_n 2, 1) := by decide +kernel
theorem dX4_shares_9 : decode cX4_shares 9 = .ok (.invokespecial 25, 3) := by decide +kernel
theorem dX4_shares_12 : decode cX4_shares 12 = .ok (.aload_n 0, 1) := by decide +kernel
theorem dX4_shares_13 : decode cX4_shares 13 = .ok (.aload_n 0, 1) := by decide +kernel
theorem dX4_shares_14 : decode cX4_shares 14 = .ok (.getfield 28, 3) := by decide +kernel
theorem dX4_shares_17 : decode cX4_shares 17 = .ok (.aload_n 2, 1) := by decide +kernel
theorem dX4_shares_18 : decode cX4_shares 18 = .ok (.invokevirtual 31, 3) := by decide +kernel
theorem dX4_shares_21 : decode cX4_shares 21 = .ok (.iadd, 1) := by decide +kernel
theorem dX4_shares_22 : decode cX4_shares 22 = .ok (.ireturn, 1) := by decide +kernel
theorem dX5_init_0 : decode cX5_init 0 = .ok (.aload_n 0, 1) := by decide +kernel
theorem dX5_init_1 : decode cX5_init 1 = .ok (.iconst 3, 1) := by decide +kernel
theorem dX5_init_2 : decode cX5_init 2 = .ok (.iload_n 1, 1) := by decide +kernel
theorem dX5_init_3 : decode cX5_init 3 = .ok (.iload_n 2, 1) := by decide +kernel
theorem dX5_init_4 : decode cX5_init 4 = .ok (.iload_n 3, 1) := by decide +kernel
theorem dX5_init_5 : decode cX5_init 5 = .ok (.iload 4, 2) := by decide +kernel
theorem dX5_init_7 : decode cX5_init 7 = .ok (.invokespecial 3, 3) := by decide +kernel
theorem dX5_init_10 : decode cX5_init 10 = .ok (.return_, 1) := by decide +kernel
theorem dX5_feasts_0 : decode cX5_feasts 0 = .ok (.aload_n 0, 1) := by decide +kernel
theorem dX5_feasts_1 : decode cX5_feasts 1 = .ok (.dup, 1) := by decide +kernel
theorem dX5_feasts_2 : decode cX5_feasts 2 = .ok (.getfield 9, 3) := by decide +kernel
theorem dX5_feasts_5 : decode cX5_feasts 5 = .ok (.iconst 1, 1) := by decide +kernel
theorem dX5_feasts_6 : decode cX5_feasts 6 = .ok (.iadd, 1) := by decide +kernel
theorem dX5_feasts_7 : decode cX5_feasts 7 = .ok (.putfield 9, 3) := by decide +kernel
theorem dX5_feasts_10 : decode cX5_feasts 10 = .ok (.return_, 1) := by decide +kernel
theorem dX5_makes_0 : decode cX5_makes 0 = .ok (.aload_n 2, 1) := by decide +kernel
theorem dX5_makes_1 : decode cX5_makes 1 = .ok (.bipush 50, 2) := by decide +kernel
theorem dX5_makes_3 : decode cX5_makes 3 = .ok (.invokevirtual 15, 3) := by decide +kernel
theorem dX5_makes_6 : decode cX5_makes 6 = .ok (.aload_n 0, 1) := by decide +kernel
theorem dX5_makes_7 : decode cX5_makes 7 = .ok (.iload_n 1, 1) := by decide +kernel
theorem dX5_makes_8 : decode cX5_makes 8 = .ok (.aload_n 2, 1) := by decide +kernel
theorem dX5_makes_9 : decode cX5_makes 9 = .ok (.invokespecial 21, 3) := by decide +kernel
theorem dX5_makes_12 : decode cX5_makes 12 = .ok (.aload_n 0, 1) := by decide +kernel
theorem dX5_makes_13 : decode cX5_makes 13 = .ok (.getfield 25, 3) := by decide +kernel
theorem dX5_makes_16 : decode cX5_makes 16 = .ok (.ixor, 1) := by decide +kernel
theorem dX5_makes_17 : decode cX5_makes 17 = .ok (.ireturn, 1) := by decide +kernel
theorem dX5_tells_0 : decode cX5_tells 0 = .ok (.aload_n 2, 1) := by decide +kernel
theorem dX5_tells_1 : decode cX5_tells 1 = .ok (.bipush 51, 2) := by decide +kernel
theorem dX5_tells_3 : decode cX5_tells 3 = .ok (.invokevirtual 15, 3) := by decide +kernel
theorem dX5_tells_6 : decode cX5_tells 6 = .ok (.aload_n 0, 1) := by decide +kernel
theorem dX5_tells_7 : decode cX5_tells 7 = .ok (.iload_n 1, 1) := by decide +kernel
theorem dX5_tells_8 : decode cX5_tells 8 = .ok (.aload_n 2, 1) := by decide +kernel
theorem dX5_tells_9 : decode cX5_tells 9 = .ok (.invokespecial 28, 3) := by decide +kernel
theorem dX5_tells_12 : decode cX5_tells 12 = .ok (.aload_n 0, 1) := by decide +kernel
theorem dX5_tells_13 : decode cX5_tells 13 = .ok (.aload_n 0, 1) := by decide +kernel
theorem dX5_tells_14 : decode cX5_tells 14 = .ok (.getfield 25, 3) := by decide +kernel
theorem dX5_tells_17 : decode cX5_tells 17 = .ok (.aload_n 2, 1) := by decide +kernel
theorem dX5_tells_18 : decode cX5_tells 18 = .ok (.invokevirtual 31, 3) := by decide +kernel
theorem dX5_tells_21 : decode cX5_tells 21 = .ok (.iadd, 1) := by decide +kernel
theorem dX5_tells_22 : decode cX5_tells 22 = .ok (.ireturn, 1) := by decide +kernel
theorem dX6_init_0 : decode cX6_init 0 = .ok (.aload_n 0, 1) := by decide +kernel
theorem dX6_init_1 : decode cX6_init 1 = .ok (.iconst 1, 1) := by decide +kernel
theorem dX6_init_2 : decode cX6_init 2 = .ok (.iload_n 1, 1) := by decide +kernel
theorem dX6_init_3 : decode cX6_init 3 = .ok (.iload_n 2, 1) := by decide +kernel
theorem dX6_init_4 : decode cX6_init 4 = .ok (.iload_n 3, 1) := by decide +kernel
theorem dX6_init_5 : decode cX6_init 5 = .ok (.iload 4, 2) := by decide +kernel
theorem dX6_init_7 : decode cX6_init 7 = .ok (.invokespecial 3, 3) := by decide +kernel
theorem dX6_init_10 : decode cX6_init 10 = .ok (.return_, 1) := by decide +kernel
theorem dX6_makes_0 : decode cX6_makes 0 = .ok (.aload_n 2, 1) := by decide +kernel
theorem dX6_makes_1 : decode cX6_makes 1 = .ok (.bipush 20, 2) := by decide +kernel
theorem dX6_makes_3 : decode cX6_makes 3 = .ok (.invokevirtual 9, 3) := by decide +kernel
theorem dX6_makes_6 : decode cX6_makes 6 = .ok (.aload_n 0, 1) := by decide +kernel
theorem dX6_makes_7 : decode cX6_makes 7 = .ok (.iload_n 1, 1) := by decide +kernel
theorem dX6_makes_8 : decode cX6_makes 8 = .ok (.aload_n 2, 1) := by decide +kernel
theorem dX6_makes_9 : decode cX6_makes 9 = .ok (.invokespecial 15, 3) := by decide +kernel
theorem dX6_makes_12 : decode cX6_makes 12 = .ok (.iconst 3, 1) := by decide +kernel
theorem dX6_makes_13 : decode cX6_makes 13 = .ok (.imul, 1) := by decide +kernel
theorem dX6_makes_14 : decode cX6_makes 14 = .ok (.ireturn, 1) := by decide +kernel
theorem dX7_init_0 : decode cX7_init 0 = .ok (.aload_n 0, 1) := by decide +kernel
theorem dX7_init_1 : decode cX7_init 1 = .ok (.invokespecial 3, 3) := by decide +kernel
theorem dX7_init_4 : decode cX7_init 4 = .ok (.aload_n 0, 1) := by decide +kernel
theorem dX7_init_5 : decode cX7_init 5 = .ok (.bipush 9, 2) := by decide +kernel
theorem dX7_init_7 : decode cX7_init 7 = .ok (.anewarray 9, 3) := by decide +kernel
theorem dX7_init_10 : decode cX7_init 10 = .ok (.putfield 11, 3) := by decide +kernel
theorem dX7_init_13 : decode cX7_init 13 = .ok (.aload_n 0, 1) := by decide +kernel
theorem dX7_init_14 : decode cX7_init 14 = .ok (.iconst 0, 1) := by decide +kernel
theorem dX7_init_15 : decode cX7_init 15 = .ok (.putfield 17, 3) := by decide +kernel
theorem dX7_init_18 : decode cX7_init 18 = .ok (.aload_n 0, 1) := by decide +kernel
theorem dX7_init_19 : decode cX7_init 19 = .ok (.iconst 0, 1) := by decide +kernel
theorem dX7_init_20 : decode cX7_init 20 = .ok (.putfield 21, 3) := by decide +kernel
theorem dX7_init_23 : decode cX7_init 23 = .ok (.aload_n 0, 1) := by decide +kernel
theorem dX7_init_24 : decode cX7_init 24 = .ok (.new 24, 3) := by decide +kernel
theorem dX7_init_27 : decode cX7_init 27 = .ok (.dup, 1) := by decide +kernel
theorem dX7_init_28 : decode cX7_init 28 = .ok (.invokespecial 26, 3) := by decide +kernel
theorem dX7_init_31 : decode cX7_init 31 = .ok (.putfield 27, 3) := by decide +kernel
theorem dX7_init_34 : decode cX7_init 34 = .ok (.aload_n 0, 1) := by decide +kernel
theorem dX7_init_35 : decode cX7_init 35 = .ok (.bipush 6, 2) := by decide +kernel
theorem dX7_init_37 : decode cX7_init 37 = .ok (.newarray .int, 2) := by decide +kernel
theorem dX7_init_39 : decode cX7_init 39 = .ok (.putfield 31, 3) := by decide +kernel
theorem dX7_init_42 : decode cX7_init 42 = .ok (.aload_n 0, 1) := by decide +kernel
theorem dX7_init_43 : decode cX7_init 43 = .ok (.bipush 6, 2) := by decide +kernel
theorem dX7_init_45 : decode cX7_init 45 = .ok (.newarray .int, 2) := by decide +kernel
theorem dX7_init_47 : decode cX7_init 47 = .ok (.putfield 35, 3) := by decide +kernel
theorem dX7_init_50 : decode cX7_init 50 = .ok (.aload_n 0, 1) := by decide +kernel
theorem dX7_init_51 : decode cX7_init 51 = .ok (.bipush 6, 2) := by decide +kernel
theorem dX7_init_53 : decode cX7_init 53 = .ok (.newarray .int, 2) := by decide +kernel
theorem dX7_init_55 : decode cX7_init 55 = .ok (.putfield 38, 3) := by decide +kernel
theorem dX7_init_58 : decode cX7_init 58 = .ok (.aload_n 0, 1) := by decide +kernel
theorem dX7_init_59 : decode cX7_init 59 = .ok (.iconst 0, 1) := by decide +kernel
theorem dX7_init_60 : decode cX7_init 60 = .ok (.putfield 41, 3) := by decide +kernel
theorem dX7_init_63 : decode cX7_init 63 = .ok (.aload_n 0, 1) := by decide +kernel
theorem dX7_init_64 : decode cX7_init 64 = .ok (.bipush 6, 2) := by decide +kernel
theorem dX7_init_66 : decode cX7_init 66 = .ok (.newarray .int, 2) := by decide +kernel
theorem dX7_init_68 : decode cX7_init 68 = .ok (.putfield 44, 3) := by decide +kernel
theorem dX7_init_71 : decode cX7_init 71 = .ok (.aload_n 0, 1) := by decide +kernel
theorem dX7_init_72 : decode cX7_init 72 = .ok (.bipush 6, 2) := by decide +kernel
theorem dX7_init_74 : decode cX7_init 74 = .ok (.newarray .int, 2) := by decide +kernel
theorem dX7_init_76 : decode cX7_init 76 = .ok (.putfield 47, 3) := by decide +kernel
theorem dX7_init_79 : decode cX7_init 79 = .ok (.aload_n 0, 1) := by decide +kernel
theorem dX7_init_80 : decode cX7_init 80 = .ok (.iconst 0, 1) := by decide +kernel
theorem dX7_init_81 : decode cX7_init 81 = .ok (.putfield 50, 3) := by decide +kernel
theorem dX7_init_84 : decode cX7_init 84 = .ok (.return_, 1) := by decide +kernel
theorem dX7_bridgeAt_0 : decode cX7_bridgeAt 0 = .ok (.iload_n 1, 1) := by decide +kernel
theorem dX7_bridgeAt_1 : decode cX7_bridgeAt 1 = .ok (.ifCond .lt 29, 3) := by decide +kernel
theorem dX7_bridgeAt_4 : decode cX7_bridgeAt 4 = .ok (.iload_n 1, 1) := by decide +kernel
theorem dX7_bridgeAt_5 : decode cX7_bridgeAt 5 = .ok (.aload_n 0, 1) := by decide +kernel
theorem dX7_bridgeAt_6 : decode cX7_bridgeAt 6 = .ok (.getfield 17, 3) := by decide +kernel
theorem dX7_bridgeAt_9 : decode cX7_bridgeAt 9 = .ok (.if_icmp .ge 21, 3) := by decide +kernel
theorem dX7_bridgeAt_12 : decode cX7_bridgeAt 12 = .ok (.iload_n 1, 1) := by decide +kernel
theorem dX7_bridgeAt_13 : decode cX7_bridgeAt 13 = .ok (.aload_n 0, 1) := by decide +kernel
theorem dX7_bridgeAt_14 : decode cX7_bridgeAt 14 = .ok (.getfield 11, 3) := by decide +kernel
theorem dX7_bridgeAt_17 : decode cX7_bridgeAt 17 = .ok (.arraylength, 1) := by decide +kernel
theorem dX7_bridgeAt_18 : decode cX7_bridgeAt 18 = .ok (.if_icmp .ge 12, 3) := by decide +kernel
theorem dX7_bridgeAt_21 : decode cX7_bridgeAt 21 = .ok (.aload_n 0, 1) := by decide +kernel
theorem dX7_bridgeAt_22 : decode cX7_bridgeAt 22 = .ok (.getfield 11, 3) := by decide +kernel
theorem dX7_bridgeAt_25 : decode cX7_bridgeAt 25 = .ok (.iload_n 1, 1) := by decide +kernel
theorem dX7_bridgeAt_26 : decode cX7_bridgeAt 26 = .ok (.aaload, 1) := by decide +kernel
theorem dX7_bridgeAt_27 : decode cX7_bridgeAt 27 = .ok (.goto 4, 3) := by decide +kernel
theorem dX7_bridgeAt_30 : decode cX7_bridgeAt 30 = .ok (.aconst_null, 1) := by decide +kernel
theorem dX7_bridgeAt_31 : decode cX7_bridgeAt 31 = .ok (.areturn, 1) := by decide +kernel
theorem dX7_isPerson_0 : decode cX7_isPerson 0 = .ok (.iload_n 1, 1) := by decide +kernel
theorem dX7_isPerson_1 : decode cX7_isPerson 1 = .ok (.ifCond .lt 21, 3) := by decide +kernel
theorem dX7_isPerson_4 : decode cX7_isPerson 4 = .ok (.iload_n 1, 1) := by decide +kernel
theorem dX7_isPerson_5 : decode cX7_isPerson 5 = .ok (.aload_n 0, 1) := by decide +kernel
theorem dX7_isPerson_6 : decode cX7_isPerson 6 = .ok (.getfield 41, 3) := by decide +kernel
theorem dX7_isPerson_9 : decode cX7_isPerson 9 = .ok (.if_icmp .ge 13, 3) := by decide +kernel
theorem dX7_isPerson_12 : decode cX7_isPerson 12 = .ok (.iload_n 1, 1) := by decide +kernel
theorem dX7_isPerson_13 : decode cX7_isPerson 13 = .ok (.bipush 6, 2) := by decide +kernel
theorem dX7_isPerson_15 : decode cX7_isPerson 15 = .ok (.if_icmp .ge 7, 3) := by decide +kernel
theorem dX7_isPerson_18 : decode cX7_isPerson 18 = .ok (.iconst 1, 1) := by decide +kernel
theorem dX7_isPerson_19 : decode cX7_isPerson 19 = .ok (.goto 4, 3) := by decide +kernel
theorem dX7_isPerson_22 : decode cX7_isPerson 22 = .ok (.iconst 0, 1) := by decide +kernel
theorem dX7_isPerson_23 : decode cX7_isPerson 23 = .ok (.ireturn, 1) := by decide +kernel
theorem dX7_isSet_0 : decode cX7_isSet 0 = .ok (.iload_n 1, 1) := by decide +kernel
theorem dX7_isSet_1 : decode cX7_isSet 1 = .ok (.ifCond .lt 17, 3) := by decide +kernel
theorem dX7_isSet_4 : decode cX7_isSet 4 = .ok (.iload_n 1, 1) := by decide +kernel
theorem dX7_isSet_5 : decode cX7_isSet 5 = .ok (.iconst 1, 1) := by decide +kernel
theorem dX7_isSet_6 : decode cX7_isSet 6 = .ok (.aload_n 0, 1) := by decide +kernel
theorem dX7_isSet_7 : decode cX7_isSet 7 = .ok (.getfield 17, 3) := by decide +kernel
theorem dX7_isSet_10 : decode cX7_isSet 10 = .ok (.ishl, 1) := by decide +kernel
theorem dX7_isSet_11 : decode cX7_isSet 11 = .ok (.if_icmp .ge 7, 3) := by decide +kernel
theorem dX7_isSet_14 : decode cX7_isSet 14 = .ok (.iconst 1, 1) := by decide +kernel
theorem dX7_isSet_15 : decode cX7_isSet 15 = .ok (.goto 4, 3) := by decide +kernel
theorem dX7_isSet_18 : decode cX7_isSet 18 = .ok (.iconst 0, 1) := by decide +kernel
theorem dX7_isSet_19 : decode cX7_isSet 19 = .ok (.ireturn, 1) := by decide +kernel
theorem dX7_build_0 : decode cX7_build 0 = .ok (.aload_n 0, 1) := by decide +kernel
theorem dX7_build_1 : decode cX7_build 1 = .ok (.getfield 17, 3) := by decide +kernel
theorem dX7_build_4 : decode cX7_build 4 = .ok (.aload_n 0, 1) := by decide +kernel
theorem dX7_build_5 : decode cX7_build 5 = .ok (.getfield 11, 3) := by decide +kernel
theorem dX7_build_8 : decode cX7_build 8 = .ok (.arraylength, 1) := by decide +kernel
theorem dX7_build_9 : decode cX7_build 9 = .ok (.if_icmp .lt 6, 3) := by decide +kernel
theorem dX7_build_12 : decode cX7_build 12 = .ok (.bipush (-2), 2) := by decide +kernel
theorem dX7_build_14 : decode cX7_build 14 = .ok (.ireturn, 1) := by decide +kernel
theorem dX7_build_15 : decode cX7_build 15 = .ok (.aload_n 0, 1) := by decide +kernel
theorem dX7_build_16 : decode cX7_build 16 = .ok (.getfield 17, 3) := by decide +kernel
theorem dX7_build_19 : decode cX7_build 19 = .ok (.istore 5, 2) := by decide +kernel
theorem dX7_build_21 : decode cX7_build 21 = .ok (.aload_n 0, 1) := by decide +kernel
theorem dX7_build_22 : decode cX7_build 22 = .ok (.dup, 1) := by decide +kernel
theorem dX7_build_23 : decode cX7_build 23 = .ok (.getfield 17, 3) := by decide +kernel
theorem dX7_build_26 : decode cX7_build 26 = .ok (.iconst 1, 1) := by decide +kernel
theorem dX7_build_27 : decode cX7_build 27 = .ok (.iadd, 1) := by decide +kernel
theorem dX7_build_28 : decode cX7_build 28 = .ok (.putfield 17, 3) := by decide +kernel
theorem dX7_build_31 : decode cX7_build 31 = .ok (.aload_n 0, 1) := by decide +kernel
theorem dX7_build_32 : decode cX7_build 32 = .ok (.iload 5, 2) := by decide +kernel
theorem dX7_build_34 : decode cX7_build 34 = .ok (.iload_n 1, 1) := by decide +kernel
theorem dX7_build_35 : decode cX7_build 35 = .ok (.iload 5, 2) := by decide +kernel
theorem dX7_build_37 : decode cX7_build 37 = .ok (.iload_n 2, 1) := by decide +kernel
theorem dX7_build_38 : decode cX7_build 38 = .ok (.iload_n 3, 1) := by decide +kernel
theorem dX7_build_39 : decode cX7_build 39 = .ok (.iload 4, 2) := by decide +kernel
theorem dX7_build_41 : decode cX7_build 41 = .ok (.invokestatic 53, 3) := by decide +kernel
theorem dX7_build_44 : decode cX7_build 44 = .ok (.invokevirtual 57, 3) := by decide +kernel
theorem dX7_build_47 : decode cX7_build 47 = .ok (.iload 5, 2) := by decide +kernel
theorem dX7_build_49 : decode cX7_build 49 = .ok (.ireturn, 1) := by decide +kernel
theorem dX7_replace_0 : decode cX7_replace 0 = .ok (.iload_n 1, 1) := by decide +kernel
theorem dX7_replace_1 : decode cX7_replace 1 = .ok (.ifCond .lt 31, 3) := by decide +kernel
theorem dX7_replace_4 : decode cX7_replace 4 = .ok (.iload_n 1, 1) := by decide +kernel
theorem dX7_replace_5 : decode cX7_replace 5 = .ok (.aload_n 0, 1) := by decide +kernel
theorem dX7_replace_6 : decode cX7_replace 6 = .ok (.getfield 11, 3) := by decide +kernel
theorem dX7_replace_9 : decode cX7_replace 9 = .ok (.arraylength, 1) := by decide +kernel
theorem dX7_replace_10 : decode cX7_replace 10 = .ok (.if_icmp .ge 22, 3) := by decide +kernel
theorem dX7_replace_13 : decode cX7_replace 13 = .ok (.aload_n 0, 1) := by decide +kernel
theorem dX7_replace_14 : decode cX7_replace 14 = .ok (.getfield 11, 3) := by decide +kernel
theorem dX7_replace_17 : decode cX7_replace 17 = .ok (.iload_n 1, 1) := by decide +kernel
theorem dX7_replace_18 : decode cX7_replace 18 = .ok (.aload_n 2, 1) := by decide +kernel
theorem dX7_replace_19 : decode cX7_replace 19 = .ok (.aastore, 1) := by decide +kernel
theorem dX7_replace_20 : decode cX7_replace 20 = .ok (.aload_n 2, 1) := by decide +kernel
theorem dX7_replace_21 : decode cX7_replace 21 = .ok (.aload_n 0, 1) := by decide +kernel
theorem dX7_replace_22 : decode cX7_replace 22 = .ok (.getfield 27, 3) := by decide +kernel
theorem dX7_replace_25 : decode cX7_replace 25 = .ok (.aload_n 0, 1) := by decide +kernel
theorem dX7_replace_26 : decode cX7_replace 26 = .ok (.getfield 21, 3) := by decide +kernel
theorem dX7_replace_29 : decode cX7_replace 29 = .ok (.invokevirtual 61, 3) := by decide +kernel
theorem dX7_replace_32 : decode cX7_replace 32 = .ok (.return_, 1) := by decide +kernel
theorem dX7_settle_0 : decode cX7_settle 0 = .ok (.iconst 0, 1) := by decide +kernel
theorem dX7_settle_1 : decode cX7_settle 1 = .ok (.istore_n 1, 1) := by decide +kernel
theorem dX7_settle_2 : decode cX7_settle 2 = .ok (.iload_n 1, 1) := by decide +kernel
theorem dX7_settle_3 : decode cX7_settle 3 = .ok (.aload_n 0, 1) := by decide +kernel
theorem dX7_settle_4 : decode cX7_settle 4 = .ok (.getfield 17, 3) := by decide +kernel
theorem dX7_settle_7 : decode cX7_settle 7 = .ok (.if_icmp .ge 31, 3) := by decide +kernel
theorem dX7_settle_10 : decode cX7_settle 10 = .ok (.aload_n 0, 1) := by decide +kernel
theorem dX7_settle_11 : decode cX7_settle 11 = .ok (.iload_n 1, 1) := by decide +kernel
theorem dX7_settle_12 : decode cX7_settle 12 = .ok (.invokevirtual 65, 3) := by decide +kernel
theorem dX7_settle_15 : decode cX7_settle 15 = .ok (.astore_n 2, 1) := by decide +kernel
theorem dX7_settle_16 : decode cX7_settle 16 = .ok (.aload_n 2, 1) := by decide +kernel
theorem dX7_settle_17 : decode cX7_settle 17 = .ok (.ifnull 15, 3) := by decide +kernel
theorem dX7_settle_20 : decode cX7_settle 20 = .ok (.aload_n 2, 1) := by decide +kernel
theorem dX7_settle_21 : decode cX7_settle 21 = .ok (.aload_n 0, 1) := by decide +kernel
theorem dX7_settle_22 : decode cX7_settle 22 = .ok (.getfield 27, 3) := by decide +kernel
theorem dX7_settle_25 : decode cX7_settle 25 = .ok (.aload_n 0, 1) := by decide +kernel
theorem dX7_settle_26 : decode cX7_settle 26 = .ok (.getfield 21, 3) := by decide +kernel
theorem dX7_settle_29 : decode cX7_settle 29 = .ok (.invokevirtual 61, 3) := by decide +kernel
theorem dX7_settle_32 : decode cX7_settle 32 = .ok (.iinc 1 1, 3) := by decide +kernel
theorem dX7_settle_35 : decode cX7_settle 35 = .ok (.goto (-33), 3) := by decide +kernel
theorem dX7_settle_38 : decode cX7_settle 38 = .ok (.return_, 1) := by decide +kernel
theorem dX7_welcome_0 : decode cX7_welcome 0 = .ok (.aload_n 0, 1) := by decide +kernel
theorem dX7_welcome_1 : decode cX7_welcome 1 = .ok (.getfield 41, 3) := by decide +kernel
theorem dX7_welcome_4 : decode cX7_welcome 4 = .ok (.bipush 6, 2) := by decide +kernel
theorem dX7_welcome_6 : decode cX7_welcome 6 = .ok (.if_icmp .lt 6, 3) := by decide +kernel
theorem dX7_welcome_9 : decode cX7_welcome 9 = .ok (.bipush (-2), 2) := by decide +kernel
theorem dX7_welcome_11 : decode cX7_welcome 11 = .ok (.ireturn, 1) := by decide +kernel
theorem dX7_welcome_12 : decode cX7_welcome 12 = .ok (.aload_n 0, 1) := by decide +kernel
theorem dX7_welcome_13 : decode cX7_welcome 13 = .ok (.getfield 41, 3) := by decide +kernel
theorem dX7_welcome_16 : decode cX7_welcome 16 = .ok (.istore_n 2, 1) := by decide +kernel
theorem dX7_welcome_17 : decode cX7_welcome 17 = .ok (.aload_n 0, 1) := by decide +kernel
theorem dX7_welcome_18 : decode cX7_welcome 18 = .ok (.getfield 31, 3) := by decide +kernel
theorem dX7_welcome_21 : decode cX7_welcome 21 = .ok (.iload_n 2, 1) := by decide +kernel
theorem dX7_welcome_22 : decode cX7_welcome 22 = .ok (.iload_n 1, 1) := by decide +kernel
theorem dX7_welcome_23 : decode cX7_welcome 23 = .ok (.iastore, 1) := by decide +kernel
theorem dX7_welcome_24 : decode cX7_welcome 24 = .ok (.aload_n 0, 1) := by decide +kernel
theorem dX7_welcome_25 : decode cX7_welcome 25 = .ok (.getfield 35, 3) := by decide +kernel
theorem dX7_welcome_28 : decode cX7_welcome 28 = .ok (.iload_n 2, 1) := by decide +kernel
theorem dX7_welcome_29 : decode cX7_welcome 29 = .ok (.iconst 0, 1) := by decide +kernel
theorem dX7_welcome_30 : decode cX7_welcome 30 = .ok (.iastore, 1) := by decide +kernel
theorem dX7_welcome_31 : decode cX7_welcome 31 = .ok (.aload_n 0, 1) := by decide +kernel
theorem dX7_welcome_32 : decode cX7_welcome 32 = .ok (.getfield 38, 3) := by decide +kernel
theorem dX7_welcome_35 : decode cX7_welcome 35 = .ok (.iload_n 2, 1) := by decide +kernel
theorem dX7_welcome_36 : decode cX7_welcome 36 = .ok (.bipush (-9), 2) := by decide +kernel
theorem dX7_welcome_38 : decode cX7_welcome 38 = .ok (.iastore, 1) := by decide +kernel
theorem dX7_welcome_39 : decode cX7_welcome 39 = .ok (.aload_n 0, 1) := by decide +kernel
theorem dX7_welcome_40 : decode cX7_welcome 40 = .ok (.dup, 1) := by decide +kernel
theorem dX7_welcome_41 : decode cX7_welcome 41 = .ok (.getfield 41, 3) := by decide +kernel
theorem dX7_welcome_44 : decode cX7_welcome 44 = .ok (.iconst 1, 1) := by decide +kernel
theorem dX7_welcome_45 : decode cX7_welcome 45 = .ok (.iadd, 1) := by decide +kernel
theorem dX7_welcome_46 : decode cX7_welcome 46 = .ok (.putfield 41, 3) := by decide +kernel
theorem dX7_welcome_49 : decode cX7_welcome 49 = .ok (.iload_n 2, 1) := by decide +kernel
theorem dX7_welcome_50 : decode cX7_welcome 50 = .ok (.ireturn, 1) := by decide +kernel
theorem dX7_arrive_0 : decode cX7_arrive 0 = .ok (.aload_n 0, 1) := by decide +kernel
theorem dX7_arrive_1 : decode cX7_arrive 1 = .ok (.iload_n 1, 1) := by decide +kernel
theorem dX7_arrive_2 : decode cX7_arrive 2 = .ok (.invokevirtual 69, 3) := by decide +kernel
theorem dX7_arrive_5 : decode cX7_arrive 5 = .ok (.ifCond .eq 27, 3) := by decide +kernel
theorem dX7_arrive_8 : decode cX7_arrive 8 = .ok (.aload_n 0, 1) := by decide +kernel
theorem dX7_arrive_9 : decode cX7_arrive 9 = .ok (.getfield 31, 3) := by decide +kernel
theorem dX7_arrive_12 : decode cX7_arrive 12 = .ok (.iload_n 1, 1) := by decide +kernel
theorem dX7_arrive_13 : decode cX7_arrive 13 = .ok (.iload_n 2, 1) := by decide +kernel
theorem dX7_arrive_14 : decode cX7_arrive 14 = .ok (.iastore, 1) := by decide +kernel
theorem dX7_arrive_15 : decode cX7_arrive 15 = .ok (.aload_n 0, 1) := by decide +kernel
theorem dX7_arrive_16 : decode cX7_arrive 16 = .ok (.getfield 35, 3) := by decide +kernel
theorem dX7_arrive_19 : decode cX7_arrive 19 = .ok (.iload_n 1, 1) := by decide +kernel
theorem dX7_arrive_20 : decode cX7_arrive 20 = .ok (.dup2, 1) := by decide +kernel
theorem dX7_arrive_21 : decode cX7_arrive 21 = .ok (.iaload, 1) := by decide +kernel
theorem dX7_arrive_22 : decode cX7_arrive 22 = .ok (.iconst 1, 1) := by decide +kernel
theorem dX7_arrive_23 : decode cX7_arrive 23 = .ok (.iadd, 1) := by decide +kernel
theorem dX7_arrive_24 : decode cX7_arrive 24 = .ok (.iastore, 1) := by decide +kernel
theorem dX7_arrive_25 : decode cX7_arrive 25 = .ok (.aload_n 0, 1) := by decide +kernel
theorem dX7_arrive_26 : decode cX7_arrive 26 = .ok (.getfield 38, 3) := by decide +kernel
theorem dX7_arrive_29 : decode cX7_arrive 29 = .ok (.iload_n 1, 1) := by decide +kernel
theorem dX7_arrive_30 : decode cX7_arrive 30 = .ok (.iload_n 3, 1) := by decide +kernel
theorem dX7_arrive_31 : decode cX7_arrive 31 = .ok (.iastore, 1) := by decide +kernel
theorem dX7_arrive_32 : decode cX7_arrive 32 = .ok (.return_, 1) := by decide +kernel
theorem dX7_hear_0 : decode cX7_hear 0 = .ok (.aload_n 0, 1) := by decide +kernel
theorem dX7_hear_1 : decode cX7_hear 1 = .ok (.getfield 50, 3) := by decide +kernel
theorem dX7_hear_4 : decode cX7_hear 4 = .ok (.bipush 6, 2) := by decide +kernel
theorem dX7_hear_6 : decode cX7_hear 6 = .ok (.if_icmp .lt 6, 3) := by decide +kernel
theorem dX7_hear_9 : decode cX7_hear 9 = .ok (.bipush (-2), 2) := by decide +kernel
theorem dX7_hear_11 : decode cX7_hear 11 = .ok (.ireturn, 1) := by decide +kernel
theorem dX7_hear_12 : decode cX7_hear 12 = .ok (.aload_n 0, 1) := by decide +kernel
theorem dX7_hear_13 : decode cX7_hear 13 = .ok (.getfield 50, 3) := by decide +kernel
theorem dX7_hear_16 : decode cX7_hear 16 = .ok (.istore_n 3, 1) := by decide +kernel
theorem dX7_hear_17 : decode cX7_hear 17 = .ok (.aload_n 0, 1) := by decide +kernel
theorem dX7_hear_18 : decode cX7_hear 18 = .ok (.getfield 44, 3) := by decide +kernel
theorem dX7_hear_21 : decode cX7_hear 21 = .ok (.iload_n 3, 1) := by decide +kernel
theorem dX7_hear_22 : decode cX7_hear 22 = .ok (.iload_n 1, 1) := by decide +kernel
theorem dX7_hear_23 : decode cX7_hear 23 = .ok (.iastore, 1) := by decide +kernel
theorem dX7_hear_24 : decode cX7_hear 24 = .ok (.aload_n 0, 1) := by decide +kernel
theorem dX7_hear_25 : decode cX7_hear 25 = .ok (.getfield 47, 3) := by decide +kernel
theorem dX7_hear_28 : decode cX7_hear 28 = .ok (.iload_n 3, 1) := by decide +kernel
theorem dX7_hear_29 : decode cX7_hear 29 = .ok (.iload_n 2, 1) := by decide +kernel
theorem dX7_hear_30 : decode cX7_hear 30 = .ok (.iastore, 1) := by decide +kernel
theorem dX7_hear_31 : decode cX7_hear 31 = .ok (.aload_n 0, 1) := by decide +kernel
theorem dX7_hear_32 : decode cX7_hear 32 = .ok (.dup, 1) := by decide +kernel
theorem dX7_hear_33 : decode cX7_hear 33 = .ok (.getfield 50, 3) := by decide +kernel
theorem dX7_hear_36 : decode cX7_hear 36 = .ok (.iconst 1, 1) := by decide +kernel
theorem dX7_hear_37 : decode cX7_hear 37 = .ok (.iadd, 1) := by decide +kernel
theorem dX7_hear_38 : decode cX7_hear 38 = .ok (.putfield 50, 3) := by decide +kernel
theorem dX7_hear_41 : decode cX7_hear 41 = .ok (.iload_n 3, 1) := by decide +kernel
theorem dX7_hear_42 : decode cX7_hear 42 = .ok (.ireturn, 1) := by decide +kernel
theorem dX7_lies_0 : decode cX7_lies 0 = .ok (.iconst (-1), 1) := by decide +kernel
theorem dX7_lies_1 : decode cX7_lies 1 = .ok (.istore_n 2, 1) := by decide +kernel
theorem dX7_lies_2 : decode cX7_lies 2 = .ok (.iconst 0, 1) := by decide +kernel
theorem dX7_lies_3 : decode cX7_lies 3 = .ok (.istore_n 3, 1) := by decide +kernel
theorem dX7_lies_4 : decode cX7_lies 4 = .ok (.iload_n 3, 1) := by decide +kernel
theorem dX7_lies_5 : decode cX7_lies 5 = .ok (.aload_n 0, 1) := by decide +kernel
theorem dX7_lies_6 : decode cX7_lies 6 = .ok (.getfield 50, 3) := by decide +kernel
theorem dX7_lies_9 : decode cX7_lies 9 = .ok (.if_icmp .ge 47, 3) := by decide +kernel
theorem dX7_lies_12 : decode cX7_lies 12 = .ok (.iload_n 3, 1) := by decide +kernel
theorem dX7_lies_13 : decode cX7_lies 13 = .ok (.bipush 6, 2) := by decide +kernel
theorem dX7_lies_15 : decode cX7_lies 15 = .ok (.if_icmp .ge 41, 3) := by decide +kernel
theorem dX7_lies_18 : decode cX7_lies 18 = .ok (.aload_n 1, 1) := by decide +kernel
theorem dX7_lies_19 : decode cX7_lies 19 = .ok (.aload_n 0, 1) := by decide +kernel
theorem dX7_lies_20 : decode cX7_lies 20 = .ok (.getfield 44, 3) := by decide +kernel
theorem dX7_lies_23 : decode cX7_lies 23 = .ok (.iload_n 3, 1) := by decide +kernel
theorem dX7_lies_24 : decode cX7_lies 24 = .ok (.iaload, 1) := by decide +kernel
theorem dX7_lies_25 : decode cX7_lies 25 = .ok (.invokevirtual 73, 3) := by decide +kernel
theorem dX7_lies_28 : decode cX7_lies 28 = .ok (.aload_n 0, 1) := by decide +kernel
theorem dX7_lies_29 : decode cX7_lies 29 = .ok (.getfield 47, 3) := by decide +kernel
theorem dX7_lies_32 : decode cX7_lies 32 = .ok (.iload_n 3, 1) := by decide +kernel
theorem dX7_lies_33 : decode cX7_lies 33 = .ok (.iaload, 1) := by decide +kernel
theorem dX7_lies_34 : decode cX7_lies 34 = .ok (.if_icmp .ne 6, 3) := by decide +kernel
theorem dX7_lies_37 : decode cX7_lies 37 = .ok (.goto 13, 3) := by decide +kernel
theorem dX7_lies_40 : decode cX7_lies 40 = .ok (.iload_n 2, 1) := by decide +kernel
theorem dX7_lies_41 : decode cX7_lies 41 = .ok (.iconst (-1), 1) := by decide +kernel
theorem dX7_lies_42 : decode cX7_lies 42 = .ok (.if_icmp .eq 6, 3) := by decide +kernel
theorem dX7_lies_45 : decode cX7_lies 45 = .ok (.bipush (-2), 2) := by decide +kernel
theorem dX7_lies_47 : decode cX7_lies 47 = .ok (.ireturn, 1) := by decide +kernel
theorem dX7_lies_48 : decode cX7_lies 48 = .ok (.iload_n 3, 1) := by decide +kernel
theorem dX7_lies_49 : decode cX7_lies 49 = .ok (.istore_n 2, 1) := by decide +kernel
theorem dX7_lies_50 : decode cX7_lies 50 = .ok (.iinc 3 1, 3) := by decide +kernel
theorem dX7_lies_53 : decode cX7_lies 53 = .ok (.goto (-49), 3) := by decide +kernel
theorem dX7_lies_56 : decode cX7_lies 56 = .ok (.iload_n 2, 1) := by decide +kernel
theorem dX7_lies_57 : decode cX7_lies 57 = .ok (.ireturn, 1) := by decide +kernel
theorem dX7_copyFrom_0 : decode cX7_copyFrom 0 = .ok (.aload_n 0, 1) := by decide +kernel
theorem dX7_copyFrom_1 : decode cX7_copyFrom 1 = .ok (.iconst 0, 1) := by decide +kernel
theorem dX7_copyFrom_2 : decode cX7_copyFrom 2 = .ok (.putfield 17, 3) := by decide +kernel
theorem dX7_copyFrom_5 : decode cX7_copyFrom 5 = .ok (.aload_n 0, 1) := by decide +kernel
theorem dX7_copyFrom_6 : decode cX7_copyFrom 6 = .ok (.aload_n 1, 1) := by decide +kernel
theorem dX7_copyFrom_7 : decode cX7_copyFrom 7 = .ok (.getfield 21, 3) := by decide +kernel
theorem dX7_copyFrom_10 : decode cX7_copyFrom 10 = .ok (.putfield 21, 3) := by decide +kernel
theorem dX7_copyFrom_13 : decode cX7_copyFrom 13 = .ok (.aload_n 0, 1) := by decide +kernel
theorem dX7_copyFrom_14 : decode cX7_copyFrom 14 = .ok (.aload_n 1, 1) := by decide +kernel
theorem dX7_copyFrom_15 : decode cX7_copyFrom 15 = .ok (.getfield 27, 3) := by decide +kernel
theorem dX7_copyFrom_18 : decode cX7_copyFrom 18 = .ok (.putfield 27, 3) := by decide +kernel
theorem dX7_copyFrom_21 : decode cX7_copyFrom 21 = .ok (.iconst 0, 1) := by decide +kernel
theorem dX7_copyFrom_22 : decode cX7_copyFrom 22 = .ok (.istore_n 2, 1) := by decide +kernel
theorem dX7_copyFrom_23 : decode cX7_copyFrom 23 = .ok (.iload_n 2, 1) := by decide +kernel
theorem dX7_copyFrom_24 : decode cX7_copyFrom 24 = .ok (.aload_n 1, 1) := by decide +kernel
theorem dX7_copyFrom_25 : decode cX7_copyFrom 25 = .ok (.getfield 17, 3) := by decide +kernel
theorem dX7_copyFrom_28 : decode cX7_copyFrom 28 = .ok (.if_icmp .ge 40, 3) := by decide +kernel
theorem dX7_copyFrom_31 : decode cX7_copyFrom 31 = .ok (.aload_n 1, 1) := by decide +kernel
theorem dX7_copyFrom_32 : decode cX7_copyFrom 32 = .ok (.iload_n 2, 1) := by decide +kernel
theorem dX7_copyFrom_33 : decode cX7_copyFrom 33 = .ok (.invokevirtual 65, 3) := by decide +kernel
theorem dX7_copyFrom_36 : decode cX7_copyFrom 36 = .ok (.astore_n 3, 1) := by decide +kernel
theorem dX7_copyFrom_37 : decode cX7_copyFrom 37 = .ok (.aload_n 3, 1) := by decide +kernel
theorem dX7_copyFrom_38 : decode cX7_copyFrom 38 = .ok (.ifnull 24, 3) := by decide +kernel
theorem dX7_copyFrom_41 : decode cX7_copyFrom 41 = .ok (.aload_n 0, 1) := by decide +kernel
theorem dX7_copyFrom_42 : decode cX7_copyFrom 42 = .ok (.aload_n 3, 1) := by decide +kernel
theorem dX7_copyFrom_43 : decode cX7_copyFrom 43 = .ok (.getfield 77, 3) := by decide +kernel
theorem dX7_copyFrom_46 : decode cX7_copyFrom 46 = .ok (.aload_n 3, 1) := by decide +kernel
theorem dX7_copyFrom_47 : decode cX7_copyFrom 47 = .ok (.getfield 80, 3) := by decide +kernel
theorem dX7_copyFrom_50 : decode cX7_copyFrom 50 = .ok (.aload_n 3, 1) := by decide +kernel
theorem dX7_copyFrom_51 : decode cX7_copyFrom 51 = .ok (.getfield 83, 3) := by decide +kernel
theorem dX7_copyFrom_54 : decode cX7_copyFrom 54 = .ok (.aload_n 3, 1) := by decide +kernel
theorem dX7_copyFrom_55 : decode cX7_copyFrom 55 = .ok (.getfield 86, 3) := by decide +kernel
theorem dX7_copyFrom_58 : decode cX7_copyFrom 58 = .ok (.invokevirtual 89, 3) := by decide +kernel
theorem dX7_copyFrom_61 : decode cX7_copyFrom 61 = .ok (.pop, 1) := by decide +kernel
theorem dX7_copyFrom_62 : decode cX7_copyFrom 62 = .ok (.iinc 2 1, 3) := by decide +kernel
theorem dX7_copyFrom_65 : decode cX7_copyFrom 65 = .ok (.goto (-42), 3) := by decide +kernel
theorem dX7_copyFrom_68 : decode cX7_copyFrom 68 = .ok (.aload_n 0, 1) := by decide +kernel
theorem dX7_copyFrom_69 : decode cX7_copyFrom 69 = .ok (.aload_n 1, 1) := by decide +kernel
theorem dX7_copyFrom_70 : decode cX7_copyFrom 70 = .ok (.getfield 41, 3) := by decide +kernel
theorem dX7_copyFrom_73 : decode cX7_copyFrom 73 = .ok (.putfield 41, 3) := by decide +kernel
theorem dX7_copyFrom_76 : decode cX7_copyFrom 76 = .ok (.aload_n 1, 1) := by decide +kernel
theorem dX7_copyFrom_77 : decode cX7_copyFrom 77 = .ok (.getfield 31, 3) := by decide +kernel
theorem dX7_copyFrom_80 : decode cX7_copyFrom 80 = .ok (.iconst 0, 1) := by decide +kernel
theorem dX7_copyFrom_81 : decode cX7_copyFrom 81 = .ok (.aload_n 0, 1) := by decide +kernel
theorem dX7_copyFrom_82 : decode cX7_copyFrom 82 = .ok (.getfield 31, 3) := by decide +kernel
theorem dX7_copyFrom_85 : decode cX7_copyFrom 85 = .ok (.iconst 0, 1) := by decide +kernel
theorem dX7_copyFrom_86 : decode cX7_copyFrom 86 = .ok (.bipush 6, 2) := by decide +kernel
theorem dX7_copyFrom_88 : decode cX7_copyFrom 88 = .ok (.invokestatic 93, 3) := by decide +kernel
theorem dX7_copyFrom_91 : decode cX7_copyFrom 91 = .ok (.aload_n 1, 1) := by decide +kernel
theorem dX7_copyFrom_92 : decode cX7_copyFrom 92 = .ok (.getfield 35, 3) := by decide +kernel
theorem dX7_copyFrom_95 : decode cX7_copyFrom 95 = .ok (.iconst 0, 1) := by decide +kernel
theorem dX7_copyFrom_96 : decode cX7_copyFrom 96 = .ok (.aload_n 0, 1) := by decide +kernel
theorem dX7_copyFrom_97 : decode cX7_copyFrom 97 = .ok (.getfield 35, 3) := by decide +kernel
theorem dX7_copyFrom_100 : decode cX7_copyFrom 100 = .ok (.iconst 0, 1) := by decide +kernel
theorem dX7_copyFrom_101 : decode cX7_copyFrom 101 = .ok (.bipush 6, 2) := by decide +kernel
theorem dX7_copyFrom_103 : decode cX7_copyFrom 103 = .ok (.invokestatic 93, 3) := by decide +kernel
theorem dX7_copyFrom_106 : decode cX7_copyFrom 106 = .ok (.aload_n 1, 1) := by decide +kernel
theorem dX7_copyFrom_107 : decode cX7_copyFrom 107 = .ok (.getfield 38, 3) := by decide +kernel
theorem dX7_copyFrom_110 : decode cX7_copyFrom 110 = .ok (.iconst 0, 1) := by decide +kernel
theorem dX7_copyFrom_111 : decode cX7_copyFrom 111 = .ok (.aload_n 0, 1) := by decide +kernel
theorem dX7_copyFrom_112 : decode cX7_copyFrom 112 = .ok (.getfield 38, 3) := by decide +kernel
theorem dX7_copyFrom_115 : decode cX7_copyFrom 115 = .ok (.iconst 0, 1) := by decide +kernel
theorem dX7_copyFrom_116 : decode cX7_copyFrom 116 = .ok (.bipush 6, 2) := by decide +kernel
theorem dX7_copyFrom_118 : decode cX7_copyFrom 118 = .ok (.invokestatic 93, 3) := by decide +kernel
theorem dX7_copyFrom_121 : decode cX7_copyFrom 121 = .ok (.aload_n 0, 1) := by decide +kernel
theorem dX7_copyFrom_122 : decode cX7_copyFrom 122 = .ok (.aload_n 1, 1) := by decide +kernel
theorem dX7_copyFrom_123 : decode cX7_copyFrom 123 = .ok (.getfield 50, 3) := by decide +kernel
theorem dX7_copyFrom_126 : decode cX7_copyFrom 126 = .ok (.putfield 50, 3) := by decide +kernel
theorem dX7_copyFrom_129 : decode cX7_copyFrom 129 = .ok (.aload_n 1, 1) := by decide +kernel
theorem dX7_copyFrom_130 : decode cX7_copyFrom 130 = .ok (.getfield 44, 3) := by decide +kernel
theorem dX7_copyFrom_133 : decode cX7_copyFrom 133 = .ok (.iconst 0, 1) := by decide +kernel
theorem dX7_copyFrom_134 : decode cX7_copyFrom 134 = .ok (.aload_n 0, 1) := by decide +kernel
theorem dX7_copyFrom_135 : decode cX7_copyFrom 135 = .ok (.getfield 44, 3) := by decide +kernel
theorem dX7_copyFrom_138 : decode cX7_copyFrom 138 = .ok (.iconst 0, 1) := by decide +kernel
theorem dX7_copyFrom_139 : decode cX7_copyFrom 139 = .ok (.bipush 6, 2) := by decide +kernel
theorem dX7_copyFrom_141 : decode cX7_copyFrom 141 = .ok (.invokestatic 93, 3) := by decide +kernel
theorem dX7_copyFrom_144 : decode cX7_copyFrom 144 = .ok (.aload_n 1, 1) := by decide +kernel
theorem dX7_copyFrom_145 : decode cX7_copyFrom 145 = .ok (.getfield 47, 3) := by decide +kernel
theorem dX7_copyFrom_148 : decode cX7_copyFrom 148 = .ok (.iconst 0, 1) := by decide +kernel
theorem dX7_copyFrom_149 : decode cX7_copyFrom 149 = .ok (.aload_n 0, 1) := by decide +kernel
theorem dX7_copyFrom_150 : decode cX7_copyFrom 150 = .ok (.getfield 47, 3) := by decide +kernel
theorem dX7_copyFrom_153 : decode cX7_copyFrom 153 = .ok (.iconst 0, 1) := by decide +kernel
theorem dX7_copyFrom_154 : decode cX7_copyFrom 154 = .ok (.bipush 6, 2) := by decide +kernel
theorem dX7_copyFrom_156 : decode cX7_copyFrom 156 = .ok (.invokestatic 93, 3) := by decide +kernel
theorem dX7_copyFrom_159 : decode cX7_copyFrom 159 = .ok (.return_, 1) := by decide +kernel
theorem dX8_init_0 : decode cX8_init 0 = .ok (.aload_n 0, 1) := by decide +kernel
theorem dX8_init_1 : decode cX8_init 1 = .ok (.invokespecial 3, 3) := by decide +kernel
theorem dX8_init_4 : decode cX8_init 4 = .ok (.aload_n 0, 1) := by decide +kernel
theorem dX8_init_5 : decode cX8_init 5 = .ok (.iload_n 1, 1) := by decide +kernel
theorem dX8_init_6 : decode cX8_init 6 = .ok (.putfield 9, 3) := by decide +kernel
theorem dX8_init_9 : decode cX8_init 9 = .ok (.aload_n 0, 1) := by decide +kernel
theorem dX8_init_10 : decode cX8_init 10 = .ok (.iconst 0, 1) := by decide +kernel
theorem dX8_init_11 : decode cX8_init 11 = .ok (.iload_n 2, 1) := by decide +kernel
theorem dX8_init_12 : decode cX8_init 12 = .ok (.bipush 40, 2) := by decide +kernel
theorem dX8_init_14 : decode cX8_init 14 = .ok (.invokestatic 15, 3) := by decide +kernel
theorem dX8_init_17 : decode cX8_init 17 = .ok (.invokestatic 21, 3) := by decide +kernel
theorem dX8_init_20 : decode cX8_init 20 = .ok (.newarray .int, 2) := by decide +kernel
theorem dX8_init_22 : decode cX8_init 22 = .ok (.putfield 24, 3) := by decide +kernel
theorem dX8_init_25 : decode cX8_init 25 = .ok (.return_, 1) := by decide +kernel
theorem dX8_size_0 : decode cX8_size 0 = .ok (.aload_n 0, 1) := by decide +kernel
theorem dX8_size_1 : decode cX8_size 1 = .ok (.getfield 24, 3) := by decide +kernel
theorem dX8_size_4 : decode cX8_size 4 = .ok (.arraylength, 1) := by decide +kernel
theorem dX8_size_5 : decode cX8_size 5 = .ok (.ireturn, 1) := by decide +kernel
theorem dX8_has_0 : decode cX8_has 0 = .ok (.iload_n 1, 1) := by decide +kernel
theorem dX8_has_1 : decode cX8_has 1 = .ok (.ifCond .lt 16, 3) := by decide +kernel
theorem dX8_has_4 : decode cX8_has 4 = .ok (.iload_n 1, 1) := by decide +kernel
theorem dX8_has_5 : decode cX8_has 5 = .ok (.aload_n 0, 1) := by decide +kernel
theorem dX8_has_6 : decode cX8_has 6 = .ok (.getfield 24, 3) := by decide +kernel
theorem dX8_has_9 : decode cX8_has 9 = .ok (.arraylength, 1) := by decide +kernel
theorem dX8_has_10 : decode cX8_has 10 = .ok (.if_icmp .ge 7, 3) := by decide +kernel
theorem dX8_has_13 : decode cX8_has 13 = .ok (.iconst 1, 1) := by decide +kernel
theorem dX8_has_14 : decode cX8_has 14 = .ok (.goto 4, 3) := by decide +kernel
theorem dX8_has_17 : decode cX8_has 17 = .ok (.iconst 0, 1) := by decide +kernel
theorem dX8_has_18 : decode cX8_has 18 = .ok (.ireturn, 1) := by decide +kernel
theorem dX8_get_0 : decode cX8_get 0 = .ok (.aload_n 0, 1) := by decide +kernel
theorem dX8_get_1 : decode cX8_get 1 = .ok (.iload_n 1, 1) := by decide +kernel
theorem dX8_get_2 : decode cX8_get 2 = .ok (.invokevirtual 28, 3) := by decide +kernel
theorem dX8_get_5 : decode cX8_get 5 = .ok (.ifCond .eq 12, 3) := by decide +kernel
theorem dX8_get_8 : decode cX8_get 8 = .ok (.aload_n 0, 1) := by decide +kernel
theorem dX8_get_9 : decode cX8_get 9 = .ok (.getfield 24, 3) := by decide +kernel
theorem dX8_get_12 : decode cX8_get 12 = .ok (.iload_n 1, 1) := by decide +kernel
theorem dX8_get_13 : decode cX8_get 13 = .ok (.iaload, 1) := by decide +kernel
theorem dX8_get_14 : decode cX8_get 14 = .ok (.goto 5, 3) := by decide +kernel
theorem dX8_get_17 : decode cX8_get 17 = .ok (.bipush (-12), 2) := by decide +kernel
theorem dX8_get_19 : decode cX8_get 19 = .ok (.ireturn, 1) := by decide +kernel
theorem dX8_set_0 : decode cX8_set 0 = .ok (.aload_n 0, 1) := by decide +kernel
theorem dX8_set_1 : decode cX8_set 1 = .ok (.iload_n 1, 1) := by decide +kernel
theorem dX8_set_2 : decode cX8_set 2 = .ok (.invokevirtual 28, 3) := by decide +kernel
theorem dX8_set_5 : decode cX8_set 5 = .ok (.ifCond .eq 14, 3) := by decide +kernel
theorem dX8_set_8 : decode cX8_set 8 = .ok (.aload_n 0, 1) := by decide +kernel
theorem dX8_set_9 : decode cX8_set 9 = .ok (.getfield 24, 3) := by decide +kernel
theorem dX8_set_12 : decode cX8_set 12 = .ok (.iload_n 1, 1) := by decide +kernel
theorem dX8_set_13 : decode cX8_set 13 = .ok (.aload_n 0, 1) := by decide +kernel
theorem dX8_set_14 : decode cX8_set 14 = .ok (.iload_n 2, 1) := by decide +kernel
theorem dX8_set_15 : decode cX8_set 15 = .ok (.invokevirtual 32, 3) := by decide +kernel
theorem dX8_set_18 : decode cX8_set 18 = .ok (.iastore, 1) := by decide +kernel
theorem dX8_set_19 : decode cX8_set 19 = .ok (.return_, 1) := by decide +kernel
theorem dX8_narrowed_0 : decode cX8_narrowed 0 = .ok (.aload_n 0, 1) := by decide +kernel
theorem dX8_narrowed_1 : decode cX8_narrowed 1 = .ok (.getfield 9, 3) := by decide +kernel
theorem dX8_narrowed_4 : decode cX8_narrowed 4 = .ok (.tableswitch 52 0 4 #[36, 39, 52, 52, 42], 36) := by decide +kernel
theorem dX8_narrowed_40 : decode cX8_narrowed 40 = .ok (.iload_n 1, 1) := by decide +kernel
theorem dX8_narrowed_41 : decode cX8_narrowed 41 = .ok (.i2b, 1) := by decide +kernel
theorem dX8_narrowed_42 : decode cX8_narrowed 42 = .ok (.ireturn, 1) := by decide +kernel
theorem dX8_narrowed_43 : decode cX8_narrowed 43 = .ok (.iload_n 1, 1) := by decide +kernel
theorem dX8_narrowed_44 : decode cX8_narrowed 44 = .ok (.i2s, 1) := by decide +kernel
theorem dX8_narrowed_45 : decode cX8_narrowed 45 = .ok (.ireturn, 1) := by decide +kernel
theorem dX8_narrowed_46 : decode cX8_narrowed 46 = .ok (.iload_n 1, 1) := by decide +kernel
theorem dX8_narrowed_47 : decode cX8_narrowed 47 = .ok (.ifCond .eq 7, 3) := by decide +kernel
theorem dX8_narrowed_50 : decode cX8_narrowed 50 = .ok (.iconst 1, 1) := by decide +kernel
theorem dX8_narrowed_51 : decode cX8_narrowed 51 = .ok (.goto 4, 3) := by decide +kernel
theorem dX8_narrowed_54 : decode cX8_narrowed 54 = .ok (.iconst 0, 1) := by decide +kernel
theorem dX8_narrowed_55 : decode cX8_narrowed 55 = .ok (.ireturn, 1) := by decide +kernel
theorem dX8_narrowed_56 : decode cX8_narrowed 56 = .ok (.iload_n 1, 1) := by decide +kernel
theorem dX8_narrowed_57 : decode cX8_narrowed 57 = .ok (.ireturn, 1) := by decide +kernel
theorem dX9_init_0 : decode cX9_init 0 = .ok (.aload_n 0, 1) := by decide +kernel
theorem dX9_init_1 : decode cX9_init 1 = .ok (.iload_n 1, 1) := by decide +kernel
theorem dX9_init_2 : decode cX9_init 2 = .ok (.iload_n 2, 1) := by decide +kernel
theorem dX9_init_3 : decode cX9_init 3 = .ok (.iload_n 3, 1) := by decide +kernel
theorem dX9_init_4 : decode cX9_init 4 = .ok (.iload 4, 2) := by decide +kernel
theorem dX9_init_6 : decode cX9_init 6 = .ok (.iload 5, 2) := by decide +kernel
theorem dX9_init_8 : decode cX9_init 8 = .ok (.invokespecial 1, 3) := by decide +kernel
theorem dX9_init_11 : decode cX9_init 11 = .ok (.return_, 1) := by decide +kernel
theorem dX9_coins_0 : decode cX9_coins 0 = .ok (.iload_n 1, 1) := by decide +kernel
theorem dX9_coins_1 : decode cX9_coins 1 = .ok (.i2l, 1) := by decide +kernel
theorem dX9_coins_2 : decode cX9_coins 2 = .ok (.lload_n 2, 1) := by decide +kernel
theorem dX9_coins_3 : decode cX9_coins 3 = .ok (.aload_n 0, 1) := by decide +kernel
theorem dX9_coins_4 : decode cX9_coins 4 = .ok (.getfield 7, 3) := by decide +kernel
theorem dX9_coins_7 : decode cX9_coins 7 = .ok (.i2l, 1) := by decide +kernel
theorem dX9_coins_8 : decode cX9_coins 8 = .ok (.lsub, 1) := by decide +kernel
theorem dX9_coins_9 : decode cX9_coins 9 = .ok (.lmul, 1) := by decide +kernel
theorem dX9_coins_10 : decode cX9_coins 10 = .ok (.lreturn, 1) := by decide +kernel
theorem dX9_leastCoins_0 : decode cX9_leastCoins 0 = .ok (.aload_n 0, 1) := by decide +kernel
theorem dX9_leastCoins_1 : decode cX9_leastCoins 1 = .ok (.lload_n 1, 1) := by decide +kernel
theorem dX9_leastCoins_2 : decode cX9_leastCoins 2 = .ok (.invokevirtual 13, 3) := by decide +kernel
theorem dX9_leastCoins_5 : decode cX9_leastCoins 5 = .ok (.aload_n 0, 1) := by decide +kernel
theorem dX9_leastCoins_6 : decode cX9_leastCoins 6 = .ok (.getfield 7, 3) := by decide +kernel
theorem dX9_leastCoins_9 : decode cX9_leastCoins 9 = .ok (.i2l, 1) := by decide +kernel
theorem dX9_leastCoins_10 : decode cX9_leastCoins 10 = .ok (.ladd, 1) := by decide +kernel
theorem dX9_leastCoins_11 : decode cX9_leastCoins 11 = .ok (.lreturn, 1) := by decide +kernel
theorem dX9_takes_0 : decode cX9_takes 0 = .ok (.aload_n 2, 1) := by decide +kernel
theorem dX9_takes_1 : decode cX9_takes 1 = .ok (.bipush 30, 2) := by decide +kernel
theorem dX9_takes_3 : decode cX9_takes 3 = .ok (.invokevirtual 17, 3) := by decide +kernel
theorem dX9_takes_6 : decode cX9_takes 6 = .ok (.aload_n 0, 1) := by decide +kernel
theorem dX9_takes_7 : decode cX9_takes 7 = .ok (.iload_n 1, 1) := by decide +kernel
theorem dX9_takes_8 : decode cX9_takes 8 = .ok (.aload_n 2, 1) := by decide +kernel
theorem dX9_takes_9 : decode cX9_takes 9 = .ok (.invokespecial 23, 3) := by decide +kernel
theorem dX9_takes_12 : decode cX9_takes 12 = .ok (.aload_n 0, 1) := by decide +kernel
theorem dX9_takes_13 : decode cX9_takes 13 = .ok (.getfield 27, 3) := by decide +kernel
theorem dX9_takes_16 : decode cX9_takes 16 = .ok (.isub, 1) := by decide +kernel
theorem dX9_takes_17 : decode cX9_takes 17 = .ok (.ireturn, 1) := by decide +kernel
theorem dX10_init_0 : decode cX10_init 0 = .ok (.aload_n 0, 1) := by decide +kernel
theorem dX10_init_1 : decode cX10_init 1 = .ok (.invokespecial 3, 3) := by decide +kernel
theorem dX10_init_4 : decode cX10_init 4 = .ok (.aload_n 0, 1) := by decide +kernel
theorem dX10_init_5 : decode cX10_init 5 = .ok (.bipush 30, 2) := by decide +kernel
theorem dX10_init_7 : decode cX10_init 7 = .ok (.newarray .int, 2) := by decide +kernel
theorem dX10_init_9 : decode cX10_init 9 = .ok (.putfield 9, 3) := by decide +kernel
theorem dX10_init_12 : decode cX10_init 12 = .ok (.aload_n 0, 1) := by decide +kernel
theorem dX10_init_13 : decode cX10_init 13 = .ok (.iconst 0, 1) := by decide +kernel
theorem dX10_init_14 : decode cX10_init 14 = .ok (.putfield 15, 3) := by decide +kernel
theorem dX10_init_17 : decode cX10_init 17 = .ok (.aload_n 0, 1) := by decide +kernel
theorem dX10_init_18 : decode cX10_init 18 = .ok (.iconst 0, 1) := by decide +kernel
theorem dX10_init_19 : decode cX10_init 19 = .ok (.putfield 19, 3) := by decide +kernel
theorem dX10_init_22 : decode cX10_init 22 = .ok (.return_, 1) := by decide +kernel
theorem dX10_clear_0 : decode cX10_clear 0 = .ok (.aload_n 0, 1) := by decide +kernel
theorem dX10_clear_1 : decode cX10_clear 1 = .ok (.iconst 0, 1) := by decide +kernel
theorem dX10_clear_2 : decode cX10_clear 2 = .ok (.putfield 15, 3) := by decide +kernel
theorem dX10_clear_5 : decode cX10_clear 5 = .ok (.aload_n 0, 1) := by decide +kernel
theorem dX10_clear_6 : decode cX10_clear 6 = .ok (.iconst 0, 1) := by decide +kernel
theorem dX10_clear_7 : decode cX10_clear 7 = .ok (.putfield 19, 3) := by decide +kernel
theorem dX10_clear_10 : decode cX10_clear 10 = .ok (.return_, 1) := by decide +kernel
theorem dX10_begin_0 : decode cX10_begin 0 = .ok (.aload_n 0, 1) := by decide +kernel
theorem dX10_begin_1 : decode cX10_begin 1 = .ok (.getfield 19, 3) := by decide +kernel
theorem dX10_begin_4 : decode cX10_begin 4 = .ok (.ifCond .ne 35, 3) := by decide +kernel
theorem dX10_begin_7 : decode cX10_begin 7 = .ok (.aload_n 0, 1) := by decide +kernel
theorem dX10_begin_8 : decode cX10_begin 8 = .ok (.getfield 15, 3) := by decide +kernel
theorem dX10_begin_11 : decode cX10_begin 11 = .ok (.aload_n 0, 1) := by decide +kernel
theorem dX10_begin_12 : decode cX10_begin 12 = .ok (.getfield 9, 3) := by decide +kernel
theorem dX10_begin_15 : decode cX10_begin 15 = .ok (.arraylength, 1) := by decide +kernel
theorem dX10_begin_16 : decode cX10_begin 16 = .ok (.if_icmp .ge 23, 3) := by decide +kernel
theorem dX10_begin_19 : decode cX10_begin 19 = .ok (.aload_n 0, 1) := by decide +kernel
theorem dX10_begin_20 : decode cX10_begin 20 = .ok (.getfield 9, 3) := by decide +kernel
theorem dX10_begin_23 : decode cX10_begin 23 = .ok (.aload_n 0, 1) := by decide +kernel
theorem dX10_begin_24 : decode cX10_begin 24 = .ok (.getfield 15, 3) := by decide +kernel
theorem dX10_begin_27 : decode cX10_begin 27 = .ok (.iload_n 1, 1) := by decide +kernel
theorem dX10_begin_28 : decode cX10_begin 28 = .ok (.iastore, 1) := by decide +kernel
theorem dX10_begin_29 : decode cX10_begin 29 = .ok (.aload_n 0, 1) := by decide +kernel
theorem dX10_begin_30 : decode cX10_begin 30 = .ok (.dup, 1) := by decide +kernel
theorem dX10_begin_31 : decode cX10_begin 31 = .ok (.getfield 15, 3) := by decide +kernel
theorem dX10_begin_34 : decode cX10_begin 34 = .ok (.iconst 1, 1) := by decide +kernel
theorem dX10_begin_35 : decode cX10_begin 35 = .ok (.iadd, 1) := by decide +kernel
theorem dX10_begin_36 : decode cX10_begin 36 = .ok (.putfield 15, 3) := by decide +kernel
theorem dX10_begin_39 : decode cX10_begin 39 = .ok (.return_, 1) := by decide +kernel
theorem dX10_part_0 : decode cX10_part 0 = .ok (.aload_n 0, 1) := by decide +kernel
theorem dX10_part_1 : decode cX10_part 1 = .ok (.iconst 1, 1) := by decide +kernel
theorem dX10_part_2 : decode cX10_part 2 = .ok (.putfield 19, 3) := by decide +kernel
theorem dX10_part_5 : decode cX10_part 5 = .ok (.return_, 1) := by decide +kernel
theorem dX10_bodyAt_0 : decode cX10_bodyAt 0 = .ok (.iload_n 1, 1) := by decide +kernel
theorem dX10_bodyAt_1 : decode cX10_bodyAt 1 = .ok (.ifCond .lt 29, 3) := by decide +kernel
theorem dX10_bodyAt_4 : decode cX10_bodyAt 4 = .ok (.iload_n 1, 1) := by decide +kernel
theorem dX10_bodyAt_5 : decode cX10_bodyAt 5 = .ok (.aload_n 0, 1) := by decide +kernel
theorem dX10_bodyAt_6 : decode cX10_bodyAt 6 = .ok (.getfield 15, 3) := by decide +kernel
theorem dX10_bodyAt_9 : decode cX10_bodyAt 9 = .ok (.if_icmp .ge 21, 3) := by decide +kernel
theorem dX10_bodyAt_12 : decode cX10_bodyAt 12 = .ok (.iload_n 1, 1) := by decide +kernel
theorem dX10_bodyAt_13 : decode cX10_bodyAt 13 = .ok (.aload_n 0, 1) := by decide +kernel
theorem dX10_bodyAt_14 : decode cX10_bodyAt 14 = .ok (.getfield 9, 3) := by decide +kernel
theorem dX10_bodyAt_17 : decode cX10_bodyAt 17 = .ok (.arraylength, 1) := by decide +kernel
theorem dX10_bodyAt_18 : decode cX10_bodyAt 18 = .ok (.if_icmp .ge 12, 3) := by decide +kernel
theorem dX10_bodyAt_21 : decode cX10_bodyAt 21 = .ok (.aload_n 0, 1) := by decide +kernel
theorem dX10_bodyAt_22 : decode cX10_bodyAt 22 = .ok (.getfield 9, 3) := by decide +kernel
theorem dX10_bodyAt_25 : decode cX10_bodyAt 25 = .ok (.iload_n 1, 1) := by decide +kernel
theorem dX10_bodyAt_26 : decode cX10_bodyAt 26 = .ok (.iaload, 1) := by decide +kernel
theorem dX10_bodyAt_27 : decode cX10_bodyAt 27 = .ok (.goto 5, 3) := by decide +kernel
theorem dX10_bodyAt_30 : decode cX10_bodyAt 30 = .ok (.bipush (-3), 2) := by decide +kernel
theorem dX10_bodyAt_32 : decode cX10_bodyAt 32 = .ok (.ireturn, 1) := by decide +kernel
theorem dX11_init_0 : decode cX11_init 0 = .ok (.aload_n 0, 1) := by decide +kernel
theorem dX11_init_1 : decode cX11_init 1 = .ok (.invokespecial 1, 3) := by decide +kernel
theorem dX11_init_4 : decode cX11_init 4 = .ok (.aload_n 0, 1) := by decide +kernel
theorem dX11_init_5 : decode cX11_init 5 = .ok (.new 7, 3) := by decide +kernel
theorem dX11_init_8 : decode cX11_init 8 = .ok (.dup, 1) := by decide +kernel
theorem dX11_init_9 : decode cX11_init 9 = .ok (.invokespecial 9, 3) := by decide +kernel
theorem dX11_init_12 : decode cX11_init 12 = .ok (.putfield 10, 3) := by decide +kernel
theorem dX11_init_15 : decode cX11_init 15 = .ok (.aload_n 0, 1) := by decide +kernel
theorem dX11_init_16 : decode cX11_init 16 = .ok (.new 7, 3) := by decide +kernel
theorem dX11_init_19 : decode cX11_init 19 = .ok (.dup, 1) := by decide +kernel
theorem dX11_init_20 : decode cX11_init 20 = .ok (.invokespecial 9, 3) := by decide +kernel
theorem dX11_init_23 : decode cX11_init 23 = .ok (.putfield 16, 3) := by decide +kernel
theorem dX11_init_26 : decode cX11_init 26 = .ok (.aload_n 0, 1) := by decide +kernel
theorem dX11_init_27 : decode cX11_init 27 = .ok (.iconst 0, 1) := by decide +kernel
theorem dX11_init_28 : decode cX11_init 28 = .ok (.putfield 19, 3) := by decide +kernel
theorem dX11_init_31 : decode cX11_init 31 = .ok (.aload_n 0, 1) := by decide +kernel
theorem dX11_init_32 : decode cX11_init 32 = .ok (.sipush 200, 3) := by decide +kernel
theorem dX11_init_35 : decode cX11_init 35 = .ok (.newarray .int, 2) := by decide +kernel
theorem dX11_init_37 : decode cX11_init 37 = .ok (.putfield 23, 3) := by decide +kernel
theorem dX11_init_40 : decode cX11_init 40 = .ok (.aload_n 0, 1) := by decide +kernel
theorem dX11_init_41 : decode cX11_init 41 = .ok (.iconst 0, 1) := by decide +kernel
theorem dX11_init_42 : decode cX11_init 42 = .ok (.putfield 27, 3) := by decide +kernel
theorem dX11_init_45 : decode cX11_init 45 = .ok (.aload_n 0, 1) := by decide +kernel
theorem dX11_init_46 : decode cX11_init 46 = .ok (.bipush 60, 2) := by decide +kernel
theorem dX11_init_48 : decode cX11_init 48 = .ok (.newarray .int, 2) := by decide +kernel
theorem dX11_init_50 : decode cX11_init 50 = .ok (.putfield 31, 3) := by decide +kernel
theorem dX11_init_53 : decode cX11_init 53 = .ok (.aload_n 0, 1) := by decide +kernel
theorem dX11_init_54 : decode cX11_init 54 = .ok (.iconst 0, 1) := by decide +kernel
theorem dX11_init_55 : decode cX11_init 55 = .ok (.putfield 34, 3) := by decide +kernel
theorem dX11_init_58 : decode cX11_init 58 = .ok (.aload_n 0, 1) := by decide +kernel
theorem dX11_init_59 : decode cX11_init 59 = .ok (.iconst 4, 1) := by decide +kernel
theorem dX11_init_60 : decode cX11_init 60 = .ok (.anewarray 37, 3) := by decide +kernel
theorem dX11_init_63 : decode cX11_init 63 = .ok (.putfield 39, 3) := by decide +kernel
theorem dX11_init_66 : decode cX11_init 66 = .ok (.aload_n 0, 1) := by decide +kernel
theorem dX11_init_67 : decode cX11_init 67 = .ok (.iconst 4, 1) := by decide +kernel
theorem dX11_init_68 : decode cX11_init 68 = .ok (.newarray .int, 2) := by decide +kernel
theorem dX11_init_70 : decode cX11_init 70 = .ok (.dup, 1) := by decide +kernel
theorem dX11_init_71 : decode cX11_init 71 = .ok (.iconst 0, 1) := by decide +kernel
theorem dX11_init_72 : decode cX11_init 72 = .ok (.iconst (-1), 1) := by decide +kernel
theorem dX11_init_73 : decode cX11_init 73 = .ok (.iastore, 1) := by decide +kernel
theorem dX11_init_74 : decode cX11_init 74 = .ok (.dup, 1) := by decide +kernel
theorem dX11_init_75 : decode cX11_init 75 = .ok (.iconst 1, 1) := by decide +kernel
theorem dX11_init_76 : decode cX11_init 76 = .ok (.iconst (-1), 1) := by decide +kernel
theorem dX11_init_77 : decode cX11_init 77 = .ok (.iastore, 1) := by decide +kernel
theorem dX11_init_78 : decode cX11_init 78 = .ok (.dup, 1) := by decide +kernel
theorem dX11_init_79 : decode cX11_init 79 = .ok (.iconst 2, 1) := by decide +kernel
theorem dX11_init_80 : decode cX11_init 80 = .ok (.iconst (-1), 1) := by decide +kernel
theorem dX11_init_81 : decode cX11_init 81 = .ok (.iastore, 1) := by decide +kernel
theorem dX11_init_82 : decode cX11_init 82 = .ok (.dup, 1) := by decide +kernel
theorem dX11_init_83 : decode cX11_init 83 = .ok (.iconst 3, 1) := by decide +kernel
theorem dX11_init_84 : decode cX11_init 84 = .ok (.iconst (-1), 1) := by decide +kernel
theorem dX11_init_85 : decode cX11_init 85 = .ok (.iastore, 1) := by decide +kernel
theorem dX11_init_86 : decode cX11_init 86 = .ok (.putfield 43, 3) := by decide +kernel
theorem dX11_init_89 : decode cX11_init 89 = .ok (.aload_n 0, 1) := by decide +kernel
theorem dX11_init_90 : decode cX11_init 90 = .ok (.iconst 4, 1) := by decide +kernel
