theorem dX11_taken_127 : decode cX11_taken 127 = .ok (.ireturn, 1) := by decide +kernel
theorem dX11_act_0 : decode cX11_act 0 = .ok (.aload_n 0, 1) := by decide +kernel
theorem dX11_act_1 : decode cX11_act 1 = .ok (.getfield 52, 3) := by decide +kernel
theorem dX11_act_4 : decode cX11_act 4 = .ok (.invokevirtual 308, 3) := by decide +kernel
theorem dX11_act_7 : decode cX11_act 7 = .ok (.iload_n 1, 1) := by decide +kernel
theorem dX11_act_8 : decode cX11_act 8 = .ok (.iconst 0, 1) := by decide +kernel
theorem dX11_act_9 : decode cX11_act 9 = .ok (.iconst 3, 1) := by decide +kernel
theorem dX11_act_10 : decode cX11_act 10 = .ok (.invokestatic 183, 3) := by decide +kernel
theorem dX11_act_13 : decode cX11_act 13 = .ok (.ifCond .eq 19, 3) := by decide +kernel
theorem dX11_act_16 : decode cX11_act 16 = .ok (.aload_n 0, 1) := by decide +kernel
theorem dX11_act_17 : decode cX11_act 17 = .ok (.getfield 10, 3) := by decide +kernel
theorem dX11_act_20 : decode cX11_act 20 = .ok (.aload_n 0, 1) := by decide +kernel
theorem dX11_act_21 : decode cX11_act 21 = .ok (.getfield 43, 3) := by decide +kernel
theorem dX11_act_24 : decode cX11_act 24 = .ok (.iload_n 1, 1) := by decide +kernel
theorem dX11_act_25 : decode cX11_act 25 = .ok (.iaload, 1) := by decide +kernel
theorem dX11_act_26 : decode cX11_act 26 = .ok (.invokevirtual 82, 3) := by decide +kernel
theorem dX11_act_29 : decode cX11_act 29 = .ok (.goto 4, 3) := by decide +kernel
theorem dX11_act_32 : decode cX11_act 32 = .ok (.aconst_null, 1) := by decide +kernel
theorem dX11_act_33 : decode cX11_act 33 = .ok (.astore 4, 2) := by decide +kernel
theorem dX11_act_35 : decode cX11_act 35 = .ok (.aload 4, 2) := by decide +kernel
theorem dX11_act_37 : decode cX11_act 37 = .ok (.ifnonnull 5, 3) := by decide +kernel
theorem dX11_act_40 : decode cX11_act 40 = .ok (.iconst 0, 1) := by decide +kernel
theorem dX11_act_41 : decode cX11_act 41 = .ok (.ireturn, 1) := by decide +kernel
theorem dX11_act_42 : decode cX11_act 42 = .ok (.iconst 0, 1) := by decide +kernel
theorem dX11_act_43 : decode cX11_act 43 = .ok (.istore 5, 2) := by decide +kernel
theorem dX11_act_45 : decode cX11_act 45 = .ok (.iload_n 2, 1) := by decide +kernel
theorem dX11_act_46 : decode cX11_act 46 = .ok (.tableswitch 90 0 3 #[30, 45, 60, 75], 30) := by decide +kernel
theorem dX11_act_76 : decode cX11_act 76 = .ok (.aload 4, 2) := by decide +kernel
theorem dX11_act_78 : decode cX11_act 78 = .ok (.iload_n 3, 1) := by decide +kernel
theorem dX11_act_79 : decode cX11_act 79 = .ok (.aload_n 0, 1) := by decide +kernel
theorem dX11_act_80 : decode cX11_act 80 = .ok (.getfield 52, 3) := by decide +kernel
theorem dX11_act_83 : decode cX11_act 83 = .ok (.invokevirtual 311, 3) := by decide +kernel
theorem dX11_act_86 : decode cX11_act 86 = .ok (.istore 5, 2) := by decide +kernel
theorem dX11_act_88 : decode cX11_act 88 = .ok (.goto 48, 3) := by decide +kernel
theorem dX11_act_91 : decode cX11_act 91 = .ok (.aload 4, 2) := by decide +kernel
theorem dX11_act_93 : decode cX11_act 93 = .ok (.iload_n 3, 1) := by decide +kernel
theorem dX11_act_94 : decode cX11_act 94 = .ok (.aload_n 0, 1) := by decide +kernel
theorem dX11_act_95 : decode cX11_act 95 = .ok (.getfield 52, 3) := by decide +kernel
theorem dX11_act_98 : decode cX11_act 98 = .ok (.invokevirtual 315, 3) := by decide +kernel
theorem dX11_act_101 : decode cX11_act 101 = .ok (.istore 5, 2) := by decide +kernel
theorem dX11_act_103 : decode cX11_act 103 = .ok (.goto 33, 3) := by decide +kernel
theorem dX11_act_106 : decode cX11_act 106 = .ok (.aload 4, 2) := by decide +kernel
theorem dX11_act_108 : decode cX11_act 108 = .ok (.iload_n 3, 1) := by decide +kernel
theorem dX11_act_109 : decode cX11_act 109 = .ok (.aload_n 0, 1) := by decide +kernel
theorem dX11_act_110 : decode cX11_act 110 = .ok (.getfield 52, 3) := by decide +kernel
theorem dX11_act_113 : decode cX11_act 113 = .ok (.invokevirtual 318, 3) := by decide +kernel
theorem dX11_act_116 : decode cX11_act 116 = .ok (.istore 5, 2) := by decide +kernel
theorem dX11_act_118 : decode cX11_act 118 = .ok (.goto 18, 3) := by decide +kernel
theorem dX11_act_121 : decode cX11_act 121 = .ok (.aload 4, 2) := by decide +kernel
theorem dX11_act_123 : decode cX11_act 123 = .ok (.iload_n 3, 1) := by decide +kernel
theorem dX11_act_124 : decode cX11_act 124 = .ok (.aload_n 0, 1) := by decide +kernel
theorem dX11_act_125 : decode cX11_act 125 = .ok (.getfield 52, 3) := by decide +kernel
theorem dX11_act_128 : decode cX11_act 128 = .ok (.invokevirtual 321, 3) := by decide +kernel
theorem dX11_act_131 : decode cX11_act 131 = .ok (.istore 5, 2) := by decide +kernel
theorem dX11_act_133 : decode cX11_act 133 = .ok (.goto 3, 3) := by decide +kernel
theorem dX11_act_136 : decode cX11_act 136 = .ok (.aload_n 0, 1) := by decide +kernel
theorem dX11_act_137 : decode cX11_act 137 = .ok (.getfield 52, 3) := by decide +kernel
theorem dX11_act_140 : decode cX11_act 140 = .ok (.getfield 324, 3) := by decide +kernel
theorem dX11_act_143 : decode cX11_act 143 = .ok (.ifCond .eq 8, 3) := by decide +kernel
theorem dX11_act_146 : decode cX11_act 146 = .ok (.bipush (-15), 2) := by decide +kernel
theorem dX11_act_148 : decode cX11_act 148 = .ok (.goto 5, 3) := by decide +kernel
theorem dX11_act_151 : decode cX11_act 151 = .ok (.iload 5, 2) := by decide +kernel
theorem dX11_act_153 : decode cX11_act 153 = .ok (.ireturn, 1) := by decide +kernel
theorem dX11_trace_0 : decode cX11_trace 0 = .ok (.aload_n 0, 1) := by decide +kernel
theorem dX11_trace_1 : decode cX11_trace 1 = .ok (.getfield 52, 3) := by decide +kernel
theorem dX11_trace_4 : decode cX11_trace 4 = .ok (.iload_n 1, 1) := by decide +kernel
theorem dX11_trace_5 : decode cX11_trace 5 = .ok (.invokevirtual 327, 3) := by decide +kernel
theorem dX11_trace_8 : decode cX11_trace 8 = .ok (.ireturn, 1) := by decide +kernel
theorem dX11_many_0 : decode cX11_many 0 = .ok (.iload_n 1, 1) := by decide +kernel
theorem dX11_many_1 : decode cX11_many 1 = .ok (.tableswitch 96 0 6 #[43, 51, 59, 70, 78, 83, 88], 43) := by decide +kernel
theorem dX11_many_44 : decode cX11_many 44 = .ok (.aload_n 0, 1) := by decide +kernel
theorem dX11_many_45 : decode cX11_many 45 = .ok (.getfield 10, 3) := by decide +kernel
theorem dX11_many_48 : decode cX11_many 48 = .ok (.getfield 330, 3) := by decide +kernel
theorem dX11_many_51 : decode cX11_many 51 = .ok (.ireturn, 1) := by decide +kernel
theorem dX11_many_52 : decode cX11_many 52 = .ok (.aload_n 0, 1) := by decide +kernel
theorem dX11_many_53 : decode cX11_many 53 = .ok (.getfield 10, 3) := by decide +kernel
theorem dX11_many_56 : decode cX11_many 56 = .ok (.getfield 333, 3) := by decide +kernel
theorem dX11_many_59 : decode cX11_many 59 = .ok (.ireturn, 1) := by decide +kernel
theorem dX11_many_60 : decode cX11_many 60 = .ok (.aload_n 0, 1) := by decide +kernel
theorem dX11_many_61 : decode cX11_many 61 = .ok (.getfield 10, 3) := by decide +kernel
theorem dX11_many_64 : decode cX11_many 64 = .ok (.getfield 109, 3) := by decide +kernel
theorem dX11_many_67 : decode cX11_many 67 = .ok (.getfield 149, 3) := by decide +kernel
theorem dX11_many_70 : decode cX11_many 70 = .ok (.ireturn, 1) := by decide +kernel
theorem dX11_many_71 : decode cX11_many 71 = .ok (.aload_n 0, 1) := by decide +kernel
theorem dX11_many_72 : decode cX11_many 72 = .ok (.getfield 10, 3) := by decide +kernel
theorem dX11_many_75 : decode cX11_many 75 = .ok (.getfield 251, 3) := by decide +kernel
theorem dX11_many_78 : decode cX11_many 78 = .ok (.ireturn, 1) := by decide +kernel
theorem dX11_many_79 : decode cX11_many 79 = .ok (.aload_n 0, 1) := by decide +kernel
theorem dX11_many_80 : decode cX11_many 80 = .ok (.getfield 34, 3) := by decide +kernel
theorem dX11_many_83 : decode cX11_many 83 = .ok (.ireturn, 1) := by decide +kernel
theorem dX11_many_84 : decode cX11_many 84 = .ok (.aload_n 0, 1) := by decide +kernel
theorem dX11_many_85 : decode cX11_many 85 = .ok (.getfield 27, 3) := by decide +kernel
theorem dX11_many_88 : decode cX11_many 88 = .ok (.ireturn, 1) := by decide +kernel
theorem dX11_many_89 : decode cX11_many 89 = .ok (.aload_n 0, 1) := by decide +kernel
theorem dX11_many_90 : decode cX11_many 90 = .ok (.getfield 52, 3) := by decide +kernel
theorem dX11_many_93 : decode cX11_many 93 = .ok (.getfield 336, 3) := by decide +kernel
theorem dX11_many_96 : decode cX11_many 96 = .ok (.ireturn, 1) := by decide +kernel
theorem dX11_many_97 : decode cX11_many 97 = .ok (.iconst (-1), 1) := by decide +kernel
theorem dX11_many_98 : decode cX11_many 98 = .ok (.ireturn, 1) := by decide +kernel
theorem dX11_keep_0 : decode cX11_keep 0 = .ok (.aload_n 0, 1) := by decide +kernel
theorem dX11_keep_1 : decode cX11_keep 1 = .ok (.getfield 16, 3) := by decide +kernel
theorem dX11_keep_4 : decode cX11_keep 4 = .ok (.aload_n 0, 1) := by decide +kernel
theorem dX11_keep_5 : decode cX11_keep 5 = .ok (.getfield 10, 3) := by decide +kernel
theorem dX11_keep_8 : decode cX11_keep 8 = .ok (.invokevirtual 337, 3) := by decide +kernel
theorem dX11_keep_11 : decode cX11_keep 11 = .ok (.aload_n 0, 1) := by decide +kernel
theorem dX11_keep_12 : decode cX11_keep 12 = .ok (.iconst 1, 1) := by decide +kernel
theorem dX11_keep_13 : decode cX11_keep 13 = .ok (.putfield 19, 3) := by decide +kernel
theorem dX11_keep_16 : decode cX11_keep 16 = .ok (.iconst 1, 1) := by decide +kernel
theorem dX11_keep_17 : decode cX11_keep 17 = .ok (.ireturn, 1) := by decide +kernel
theorem dX11_again_0 : decode cX11_again 0 = .ok (.aload_n 0, 1) := by decide +kernel
theorem dX11_again_1 : decode cX11_again 1 = .ok (.getfield 19, 3) := by decide +kernel
theorem dX11_again_4 : decode cX11_again 4 = .ok (.ifCond .ne 6, 3) := by decide +kernel
theorem dX11_again_7 : decode cX11_again 7 = .ok (.bipush (-3), 2) := by decide +kernel
theorem dX11_again_9 : decode cX11_again 9 = .ok (.ireturn, 1) := by decide +kernel
theorem dX11_again_10 : decode cX11_again 10 = .ok (.aload_n 0, 1) := by decide +kernel
theorem dX11_again_11 : decode cX11_again 11 = .ok (.getfield 10, 3) := by decide +kernel
theorem dX11_again_14 : decode cX11_again 14 = .ok (.aload_n 0, 1) := by decide +kernel
theorem dX11_again_15 : decode cX11_again 15 = .ok (.getfield 16, 3) := by decide +kernel
theorem dX11_again_18 : decode cX11_again 18 = .ok (.invokevirtual 337, 3) := by decide +kernel
theorem dX11_again_21 : decode cX11_again 21 = .ok (.aload_n 0, 1) := by decide +kernel
theorem dX11_again_22 : decode cX11_again 22 = .ok (.getfield 10, 3) := by decide +kernel
theorem dX11_again_25 : decode cX11_again 25 = .ok (.getfield 330, 3) := by decide +kernel
theorem dX11_again_28 : decode cX11_again 28 = .ok (.ireturn, 1) := by decide +kernel
theorem dX11_isIn_0 : decode cX11_isIn 0 = .ok (.iload_n 0, 1) := by decide +kernel
theorem dX11_isIn_1 : decode cX11_isIn 1 = .ok (.iload_n 1, 1) := by decide +kernel
theorem dX11_isIn_2 : decode cX11_isIn 2 = .ok (.if_icmp .lt 12, 3) := by decide +kernel
theorem dX11_isIn_5 : decode cX11_isIn 5 = .ok (.iload_n 0, 1) := by decide +kernel
theorem dX11_isIn_6 : decode cX11_isIn 6 = .ok (.iload_n 2, 1) := by decide +kernel
theorem dX11_isIn_7 : decode cX11_isIn 7 = .ok (.if_icmp .gt 7, 3) := by decide +kernel
theorem dX11_isIn_10 : decode cX11_isIn 10 = .ok (.iconst 1, 1) := by decide +kernel
theorem dX11_isIn_11 : decode cX11_isIn 11 = .ok (.goto 4, 3) := by decide +kernel
theorem dX11_isIn_14 : decode cX11_isIn 14 = .ok (.iconst 0, 1) := by decide +kernel
theorem dX11_isIn_15 : decode cX11_isIn 15 = .ok (.ireturn, 1) := by decide +kernel
theorem dX11_isPurse_0 : decode cX11_isPurse 0 = .ok (.iload_n 0, 1) := by decide +kernel
theorem dX11_isPurse_1 : decode cX11_isPurse 1 = .ok (.iconst 0, 1) := by decide +kernel
theorem dX11_isPurse_2 : decode cX11_isPurse 2 = .ok (.ldc 182, 2) := by decide +kernel
theorem dX11_isPurse_4 : decode cX11_isPurse 4 = .ok (.invokestatic 183, 3) := by decide +kernel
theorem dX11_isPurse_7 : decode cX11_isPurse 7 = .ok (.ireturn, 1) := by decide +kernel
theorem dX11_isBuilt_0 : decode cX11_isBuilt 0 = .ok (.iload_n 0, 1) := by decide +kernel
theorem dX11_isBuilt_1 : decode cX11_isBuilt 1 = .ok (.iconst 1, 1) := by decide +kernel
theorem dX11_isBuilt_2 : decode cX11_isBuilt 2 = .ok (.iconst 5, 1) := by decide +kernel
theorem dX11_isBuilt_3 : decode cX11_isBuilt 3 = .ok (.invokestatic 183, 3) := by decide +kernel
theorem dX11_isBuilt_6 : decode cX11_isBuilt 6 = .ok (.ireturn, 1) := by decide +kernel
theorem dX11_isGuessed_0 : decode cX11_isGuessed 0 = .ok (.iload_n 0, 1) := by decide +kernel
theorem dX11_isGuessed_1 : decode cX11_isGuessed 1 = .ok (.iconst 1, 1) := by decide +kernel
theorem dX11_isGuessed_2 : decode cX11_isGuessed 2 = .ok (.if_icmp .eq 13, 3) := by decide +kernel
theorem dX11_isGuessed_5 : decode cX11_isGuessed 5 = .ok (.iload_n 0, 1) := by decide +kernel
theorem dX11_isGuessed_6 : decode cX11_isGuessed 6 = .ok (.iconst 2, 1) := by decide +kernel
theorem dX11_isGuessed_7 : decode cX11_isGuessed 7 = .ok (.if_icmp .eq 8, 3) := by decide +kernel
theorem dX11_isGuessed_10 : decode cX11_isGuessed 10 = .ok (.iload_n 0, 1) := by decide +kernel
theorem dX11_isGuessed_11 : decode cX11_isGuessed 11 = .ok (.iconst 4, 1) := by decide +kernel
theorem dX11_isGuessed_12 : decode cX11_isGuessed 12 = .ok (.if_icmp .ne 7, 3) := by decide +kernel
theorem dX11_isGuessed_15 : decode cX11_isGuessed 15 = .ok (.iconst 1, 1) := by decide +kernel
theorem dX11_isGuessed_16 : decode cX11_isGuessed 16 = .ok (.goto 4, 3) := by decide +kernel
theorem dX11_isGuessed_19 : decode cX11_isGuessed 19 = .ok (.iconst 0, 1) := by decide +kernel
theorem dX11_isGuessed_20 : decode cX11_isGuessed 20 = .ok (.ireturn, 1) := by decide +kernel
theorem dX11_isTimes_0 : decode cX11_isTimes 0 = .ok (.iload_n 0, 1) := by decide +kernel
theorem dX11_isTimes_1 : decode cX11_isTimes 1 = .ok (.iconst 1, 1) := by decide +kernel
theorem dX11_isTimes_2 : decode cX11_isTimes 2 = .ok (.bipush 9, 2) := by decide +kernel
theorem dX11_isTimes_4 : decode cX11_isTimes 4 = .ok (.invokestatic 183, 3) := by decide +kernel
theorem dX11_isTimes_7 : decode cX11_isTimes 7 = .ok (.ireturn, 1) := by decide +kernel
theorem dX11_isToll_0 : decode cX11_isToll 0 = .ok (.iload_n 0, 1) := by decide +kernel
theorem dX11_isToll_1 : decode cX11_isToll 1 = .ok (.iconst 0, 1) := by decide +kernel
theorem dX11_isToll_2 : decode cX11_isToll 2 = .ok (.sipush 999, 3) := by decide +kernel
theorem dX11_isToll_5 : decode cX11_isToll 5 = .ok (.invokestatic 183, 3) := by decide +kernel
theorem dX11_isToll_8 : decode cX11_isToll 8 = .ok (.ireturn, 1) := by decide +kernel
theorem dX11_isDay_0 : decode cX11_isDay 0 = .ok (.iload_n 0, 1) := by decide +kernel
theorem dX11_isDay_1 : decode cX11_isDay 1 = .ok (.iconst 0, 1) := by decide +kernel
theorem dX11_isDay_2 : decode cX11_isDay 2 = .ok (.bipush 6, 2) := by decide +kernel
theorem dX11_isDay_4 : decode cX11_isDay 4 = .ok (.invokestatic 183, 3) := by decide +kernel
theorem dX11_isDay_7 : decode cX11_isDay 7 = .ok (.ireturn, 1) := by decide +kernel
theorem dX11_isLuck_0 : decode cX11_isLuck 0 = .ok (.iload_n 0, 1) := by decide +kernel
theorem dX11_isLuck_1 : decode cX11_isLuck 1 = .ok (.iconst 0, 1) := by decide +kernel
theorem dX11_isLuck_2 : decode cX11_isLuck 2 = .ok (.sipush 9999, 3) := by decide +kernel
theorem dX11_isLuck_5 : decode cX11_isLuck 5 = .ok (.invokestatic 183, 3) := by decide +kernel
theorem dX11_isLuck_8 : decode cX11_isLuck 8 = .ok (.ifCond .eq 26, 3) := by decide +kernel
theorem dX11_isLuck_11 : decode cX11_isLuck 11 = .ok (.iload_n 1, 1) := by decide +kernel
theorem dX11_isLuck_12 : decode cX11_isLuck 12 = .ok (.iconst 0, 1) := by decide +kernel
theorem dX11_isLuck_13 : decode cX11_isLuck 13 = .ok (.bipush 100, 2) := by decide +kernel
theorem dX11_isLuck_15 : decode cX11_isLuck 15 = .ok (.invokestatic 183, 3) := by decide +kernel
theorem dX11_isLuck_18 : decode cX11_isLuck 18 = .ok (.ifCond .eq 16, 3) := by decide +kernel
theorem dX11_isLuck_21 : decode cX11_isLuck 21 = .ok (.iload_n 2, 1) := by decide +kernel
theorem dX11_isLuck_22 : decode cX11_isLuck 22 = .ok (.iconst 0, 1) := by decide +kernel
theorem dX11_isLuck_23 : decode cX11_isLuck 23 = .ok (.iconst 4, 1) := by decide +kernel
theorem dX11_isLuck_24 : decode cX11_isLuck 24 = .ok (.invokestatic 183, 3) := by decide +kernel
theorem dX11_isLuck_27 : decode cX11_isLuck 27 = .ok (.ifCond .eq 7, 3) := by decide +kernel
theorem dX11_isLuck_30 : decode cX11_isLuck 30 = .ok (.iconst 1, 1) := by decide +kernel
theorem dX11_isLuck_31 : decode cX11_isLuck 31 = .ok (.goto 4, 3) := by decide +kernel
theorem dX11_isLuck_34 : decode cX11_isLuck 34 = .ok (.iconst 0, 1) := by decide +kernel
theorem dX11_isLuck_35 : decode cX11_isLuck 35 = .ok (.ireturn, 1) := by decide +kernel
theorem dX11_isUnder_0 : decode cX11_isUnder 0 = .ok (.iload_n 1, 1) := by decide +kernel
theorem dX11_isUnder_1 : decode cX11_isUnder 1 = .ok (.ifCond .eq 28, 3) := by decide +kernel
theorem dX11_isUnder_4 : decode cX11_isUnder 4 = .ok (.iload_n 1, 1) := by decide +kernel
theorem dX11_isUnder_5 : decode cX11_isUnder 5 = .ok (.iload_n 0, 1) := by decide +kernel
theorem dX11_isUnder_6 : decode cX11_isUnder 6 = .ok (.if_icmp .eq 23, 3) := by decide +kernel
theorem dX11_isUnder_9 : decode cX11_isUnder 9 = .ok (.iload_n 1, 1) := by decide +kernel
theorem dX11_isUnder_10 : decode cX11_isUnder 10 = .ok (.iconst 2, 1) := by decide +kernel
theorem dX11_isUnder_11 : decode cX11_isUnder 11 = .ok (.if_icmp .ne 8, 3) := by decide +kernel
theorem dX11_isUnder_14 : decode cX11_isUnder 14 = .ok (.iload_n 0, 1) := by decide +kernel
theorem dX11_isUnder_15 : decode cX11_isUnder 15 = .ok (.iconst 3, 1) := by decide +kernel
theorem dX11_isUnder_16 : decode cX11_isUnder 16 = .ok (.if_icmp .eq 13, 3) := by decide +kernel
theorem dX11_isUnder_19 : decode cX11_isUnder 19 = .ok (.iload_n 1, 1) := by decide +kernel
theorem dX11_isUnder_20 : decode cX11_isUnder 20 = .ok (.iconst 4, 1) := by decide +kernel
theorem dX11_isUnder_21 : decode cX11_isUnder 21 = .ok (.if_icmp .ne 12, 3) := by decide +kernel
theorem dX11_isUnder_24 : decode cX11_isUnder 24 = .ok (.iload_n 0, 1) := by decide +kernel
theorem dX11_isUnder_25 : decode cX11_isUnder 25 = .ok (.iconst 5, 1) := by decide +kernel
theorem dX11_isUnder_26 : decode cX11_isUnder 26 = .ok (.if_icmp .ne 7, 3) := by decide +kernel
theorem dX11_isUnder_29 : decode cX11_isUnder 29 = .ok (.iconst 1, 1) := by decide +kernel
theorem dX11_isUnder_30 : decode cX11_isUnder 30 = .ok (.goto 4, 3) := by decide +kernel
theorem dX11_isUnder_33 : decode cX11_isUnder 33 = .ok (.iconst 0, 1) := by decide +kernel
theorem dX11_isUnder_34 : decode cX11_isUnder 34 = .ok (.ireturn, 1) := by decide +kernel
theorem dX11_entryOf_0 : decode cX11_entryOf 0 = .ok (.iload_n 1, 1) := by decide +kernel
theorem dX11_entryOf_1 : decode cX11_entryOf 1 = .ok (.ifCond .lt 15, 3) := by decide +kernel
theorem dX11_entryOf_4 : decode cX11_entryOf 4 = .ok (.iload_n 1, 1) := by decide +kernel
theorem dX11_entryOf_5 : decode cX11_entryOf 5 = .ok (.aload_n 0, 1) := by decide +kernel
theorem dX11_entryOf_6 : decode cX11_entryOf 6 = .ok (.arraylength, 1) := by decide +kernel
theorem dX11_entryOf_7 : decode cX11_entryOf 7 = .ok (.if_icmp .ge 9, 3) := by decide +kernel
theorem dX11_entryOf_10 : decode cX11_entryOf 10 = .ok (.aload_n 0, 1) := by decide +kernel
theorem dX11_entryOf_11 : decode cX11_entryOf 11 = .ok (.iload_n 1, 1) := by decide +kernel
theorem dX11_entryOf_12 : decode cX11_entryOf 12 = .ok (.iaload, 1) := by decide +kernel
theorem dX11_entryOf_13 : decode cX11_entryOf 13 = .ok (.goto 4, 3) := by decide +kernel
theorem dX11_entryOf_16 : decode cX11_entryOf 16 = .ok (.iconst (-1), 1) := by decide +kernel
theorem dX11_entryOf_17 : decode cX11_entryOf 17 = .ok (.ireturn, 1) := by decide +kernel
theorem dX11_behindAll_0 : decode cX11_behindAll 0 = .ok (.iload_n 1, 1) := by decide +kernel
theorem dX11_behindAll_1 : decode cX11_behindAll 1 = .ok (.istore_n 3, 1) := by decide +kernel
theorem dX11_behindAll_2 : decode cX11_behindAll 2 = .ok (.iconst 0, 1) := by decide +kernel
theorem dX11_behindAll_3 : decode cX11_behindAll 3 = .ok (.istore 4, 2) := by decide +kernel
theorem dX11_behindAll_5 : decode cX11_behindAll 5 = .ok (.iload 4, 2) := by decide +kernel
theorem dX11_behindAll_7 : decode cX11_behindAll 7 = .ok (.iload_n 2, 1) := by decide +kernel
theorem dX11_behindAll_8 : decode cX11_behindAll 8 = .ok (.if_icmp .ge 19, 3) := by decide +kernel
theorem dX11_behindAll_11 : decode cX11_behindAll 11 = .ok (.iload_n 3, 1) := by decide +kernel
theorem dX11_behindAll_12 : decode cX11_behindAll 12 = .ok (.ifCond .lt 15, 3) := by decide +kernel
theorem dX11_behindAll_15 : decode cX11_behindAll 15 = .ok (.aload_n 0, 1) := by decide +kernel
theorem dX11_behindAll_16 : decode cX11_behindAll 16 = .ok (.iload_n 3, 1) := by decide +kernel
theorem dX11_behindAll_17 : decode cX11_behindAll 17 = .ok (.invokevirtual 173, 3) := by decide +kernel
theorem dX11_behindAll_20 : decode cX11_behindAll 20 = .ok (.istore_n 3, 1) := by decide +kernel
theorem dX11_behindAll_21 : decode cX11_behindAll 21 = .ok (.iinc 4 1, 3) := by decide +kernel
theorem dX11_behindAll_24 : decode cX11_behindAll 24 = .ok (.goto (-19), 3) := by decide +kernel
theorem dX11_behindAll_27 : decode cX11_behindAll 27 = .ok (.iload_n 3, 1) := by decide +kernel
theorem dX11_behindAll_28 : decode cX11_behindAll 28 = .ok (.ireturn, 1) := by decide +kernel
theorem dX11_leastAheadAll_0 : decode cX11_leastAheadAll 0 = .ok (.iload_n 1, 1) := by decide +kernel
theorem dX11_leastAheadAll_1 : decode cX11_leastAheadAll 1 = .ok (.istore_n 3, 1) := by decide +kernel
theorem dX11_leastAheadAll_2 : decode cX11_leastAheadAll 2 = .ok (.iconst 0, 1) := by decide +kernel
theorem dX11_leastAheadAll_3 : decode cX11_leastAheadAll 3 = .ok (.istore 4, 2) := by decide +kernel
theorem dX11_leastAheadAll_5 : decode cX11_leastAheadAll 5 = .ok (.iload 4, 2) := by decide +kernel
theorem dX11_leastAheadAll_7 : decode cX11_leastAheadAll 7 = .ok (.iload_n 2, 1) := by decide +kernel
theorem dX11_leastAheadAll_8 : decode cX11_leastAheadAll 8 = .ok (.if_icmp .ge 19, 3) := by decide +kernel
theorem dX11_leastAheadAll_11 : decode cX11_leastAheadAll 11 = .ok (.iload_n 3, 1) := by decide +kernel
theorem dX11_leastAheadAll_12 : decode cX11_leastAheadAll 12 = .ok (.ifCond .lt 15, 3) := by decide +kernel
theorem dX11_leastAheadAll_15 : decode cX11_leastAheadAll 15 = .ok (.aload_n 0, 1) := by decide +kernel
theorem dX11_leastAheadAll_16 : decode cX11_leastAheadAll 16 = .ok (.iload_n 3, 1) := by decide +kernel
theorem dX11_leastAheadAll_17 : decode cX11_leastAheadAll 17 = .ok (.invokevirtual 341, 3) := by decide +kernel
theorem dX11_leastAheadAll_20 : decode cX11_leastAheadAll 20 = .ok (.istore_n 3, 1) := by decide +kernel
theorem dX11_leastAheadAll_21 : decode cX11_leastAheadAll 21 = .ok (.iinc 4 1, 3) := by decide +kernel
theorem dX11_leastAheadAll_24 : decode cX11_leastAheadAll 24 = .ok (.goto (-19), 3) := by decide +kernel
theorem dX11_leastAheadAll_27 : decode cX11_leastAheadAll 27 = .ok (.iload_n 3, 1) := by decide +kernel
theorem dX11_leastAheadAll_28 : decode cX11_leastAheadAll 28 = .ok (.ireturn, 1) := by decide +kernel
theorem dX11_richest_0 : decode cX11_richest 0 = .ok (.aload_n 0, 1) := by decide +kernel
theorem dX11_richest_1 : decode cX11_richest 1 = .ok (.getfield 56, 3) := by decide +kernel
theorem dX11_richest_4 : decode cX11_richest 4 = .ok (.iconst 0, 1) := by decide +kernel
theorem dX11_richest_5 : decode cX11_richest 5 = .ok (.iload_n 1, 1) := by decide +kernel
theorem dX11_richest_6 : decode cX11_richest 6 = .ok (.iastore, 1) := by decide +kernel
theorem dX11_richest_7 : decode cX11_richest 7 = .ok (.iconst 1, 1) := by decide +kernel
theorem dX11_richest_8 : decode cX11_richest 8 = .ok (.istore_n 3, 1) := by decide +kernel
theorem dX11_richest_9 : decode cX11_richest 9 = .ok (.iload_n 3, 1) := by decide +kernel
theorem dX11_richest_10 : decode cX11_richest 10 = .ok (.iload_n 2, 1) := by decide +kernel
theorem dX11_richest_11 : decode cX11_richest 11 = .ok (.if_icmp .gt 37, 3) := by decide +kernel
theorem dX11_richest_14 : decode cX11_richest 14 = .ok (.iload_n 3, 1) := by decide +kernel
theorem dX11_richest_15 : decode cX11_richest 15 = .ok (.aload_n 0, 1) := by decide +kernel
theorem dX11_richest_16 : decode cX11_richest 16 = .ok (.getfield 56, 3) := by decide +kernel
theorem dX11_richest_19 : decode cX11_richest 19 = .ok (.arraylength, 1) := by decide +kernel
theorem dX11_richest_20 : decode cX11_richest 20 = .ok (.if_icmp .ge 28, 3) := by decide +kernel
theorem dX11_richest_23 : decode cX11_richest 23 = .ok (.iload_n 3, 1) := by decide +kernel
theorem dX11_richest_24 : decode cX11_richest 24 = .ok (.iload_n 2, 1) := by decide +kernel
theorem dX11_richest_25 : decode cX11_richest 25 = .ok (.iconst (-1), 1) := by decide +kernel
theorem dX11_richest_26 : decode cX11_richest 26 = .ok (.ixor, 1) := by decide +kernel
theorem dX11_richest_27 : decode cX11_richest 27 = .ok (.iand, 1) := by decide +kernel
theorem dX11_richest_28 : decode cX11_richest 28 = .ok (.ifCond .ne 14, 3) := by decide +kernel
theorem dX11_richest_31 : decode cX11_richest 31 = .ok (.aload_n 0, 1) := by decide +kernel
theorem dX11_richest_32 : decode cX11_richest 32 = .ok (.getfield 56, 3) := by decide +kernel
theorem dX11_richest_35 : decode cX11_richest 35 = .ok (.iload_n 3, 1) := by decide +kernel
theorem dX11_richest_36 : decode cX11_richest 36 = .ok (.aload_n 0, 1) := by decide +kernel
theorem dX11_richest_37 : decode cX11_richest 37 = .ok (.iload_n 3, 1) := by decide +kernel
theorem dX11_richest_38 : decode cX11_richest 38 = .ok (.invokevirtual 344, 3) := by decide +kernel
theorem dX11_richest_41 : decode cX11_richest 41 = .ok (.iastore, 1) := by decide +kernel
theorem dX11_richest_42 : decode cX11_richest 42 = .ok (.iinc 3 1, 3) := by decide +kernel
theorem dX11_richest_45 : decode cX11_richest 45 = .ok (.goto (-36), 3) := by decide +kernel
theorem dX11_richest_48 : decode cX11_richest 48 = .ok (.aload_n 0, 1) := by decide +kernel
theorem dX11_richest_49 : decode cX11_richest 49 = .ok (.getfield 56, 3) := by decide +kernel
theorem dX11_richest_52 : decode cX11_richest 52 = .ok (.iload_n 2, 1) := by decide +kernel
theorem dX11_richest_53 : decode cX11_richest 53 = .ok (.invokestatic 347, 3) := by decide +kernel
theorem dX11_richest_56 : decode cX11_richest 56 = .ok (.ireturn, 1) := by decide +kernel
theorem dX11_bestByLast_0 : decode cX11_bestByLast 0 = .ok (.iconst (-1), 1) := by decide +kernel
theorem dX11_bestByLast_1 : decode cX11_bestByLast 1 = .ok (.istore_n 2, 1) := by decide +kernel
theorem dX11_bestByLast_2 : decode cX11_bestByLast 2 = .ok (.iconst 0, 1) := by decide +kernel
theorem dX11_bestByLast_3 : decode cX11_bestByLast 3 = .ok (.istore_n 3, 1) := by decide +kernel
theorem dX11_bestByLast_4 : decode cX11_bestByLast 4 = .ok (.iload_n 3, 1) := by decide +kernel
theorem dX11_bestByLast_5 : decode cX11_bestByLast 5 = .ok (.bipush 9, 2) := by decide +kernel
theorem dX11_bestByLast_7 : decode cX11_bestByLast 7 = .ok (.if_icmp .ge 41, 3) := by decide +kernel
theorem dX11_bestByLast_10 : decode cX11_bestByLast 10 = .ok (.iload_n 1, 1) := by decide +kernel
theorem dX11_bestByLast_11 : decode cX11_bestByLast 11 = .ok (.iload_n 3, 1) := by decide +kernel
theorem dX11_bestByLast_12 : decode cX11_bestByLast 12 = .ok (.ishr, 1) := by decide +kernel
theorem dX11_bestByLast_13 : decode cX11_bestByLast 13 = .ok (.iconst 1, 1) := by decide +kernel
theorem dX11_bestByLast_14 : decode cX11_bestByLast 14 = .ok (.iand, 1) := by decide +kernel
theorem dX11_bestByLast_15 : decode cX11_bestByLast 15 = .ok (.ifCond .eq 27, 3) := by decide +kernel
theorem dX11_bestByLast_18 : decode cX11_bestByLast 18 = .ok (.iload_n 2, 1) := by decide +kernel
theorem dX11_bestByLast_19 : decode cX11_bestByLast 19 = .ok (.aload_n 0, 1) := by decide +kernel
theorem dX11_bestByLast_20 : decode cX11_bestByLast 20 = .ok (.iload_n 3, 1) := by decide +kernel
theorem dX11_bestByLast_21 : decode cX11_bestByLast 21 = .ok (.aload_n 0, 1) := by decide +kernel
theorem dX11_bestByLast_22 : decode cX11_bestByLast 22 = .ok (.getfield 56, 3) := by decide +kernel
theorem dX11_bestByLast_25 : decode cX11_bestByLast 25 = .ok (.iload_n 1, 1) := by decide +kernel
theorem dX11_bestByLast_26 : decode cX11_bestByLast 26 = .ok (.iconst 1, 1) := by decide +kernel
theorem dX11_bestByLast_27 : decode cX11_bestByLast 27 = .ok (.iload_n 3, 1) := by decide +kernel
theorem dX11_bestByLast_28 : decode cX11_bestByLast 28 = .ok (.ishl, 1) := by decide +kernel
theorem dX11_bestByLast_29 : decode cX11_bestByLast 29 = .ok (.iconst (-1), 1) := by decide +kernel
theorem dX11_bestByLast_30 : decode cX11_bestByLast 30 = .ok (.ixor, 1) := by decide +kernel
theorem dX11_bestByLast_31 : decode cX11_bestByLast 31 = .ok (.iand, 1) := by decide +kernel
theorem dX11_bestByLast_32 : decode cX11_bestByLast 32 = .ok (.invokestatic 347, 3) := by decide +kernel
theorem dX11_bestByLast_35 : decode cX11_bestByLast 35 = .ok (.invokevirtual 213, 3) := by decide +kernel
theorem dX11_bestByLast_38 : decode cX11_bestByLast 38 = .ok (.invokestatic 351, 3) := by decide +kernel
theorem dX11_bestByLast_41 : decode cX11_bestByLast 41 = .ok (.istore_n 2, 1) := by decide +kernel
theorem dX11_bestByLast_42 : decode cX11_bestByLast 42 = .ok (.iinc 3 1, 3) := by decide +kernel
theorem dX11_bestByLast_45 : decode cX11_bestByLast 45 = .ok (.goto (-41), 3) := by decide +kernel
theorem dX11_bestByLast_48 : decode cX11_bestByLast 48 = .ok (.iload_n 2, 1) := by decide +kernel
theorem dX11_bestByLast_49 : decode cX11_bestByLast 49 = .ok (.ireturn, 1) := by decide +kernel
theorem dX11_poorest_0 : decode cX11_poorest 0 = .ok (.aload_n 0, 1) := by decide +kernel
theorem dX11_poorest_1 : decode cX11_poorest 1 = .ok (.getfield 59, 3) := by decide +kernel
theorem dX11_poorest_4 : decode cX11_poorest 4 = .ok (.iconst 0, 1) := by decide +kernel
theorem dX11_poorest_5 : decode cX11_poorest 5 = .ok (.iload_n 1, 1) := by decide +kernel
theorem dX11_poorest_6 : decode cX11_poorest 6 = .ok (.iastore, 1) := by decide +kernel
theorem dX11_poorest_7 : decode cX11_poorest 7 = .ok (.iconst 1, 1) := by decide +kernel
theorem dX11_poorest_8 : decode cX11_poorest 8 = .ok (.istore_n 3, 1) := by decide +kernel
theorem dX11_poorest_9 : decode cX11_poorest 9 = .ok (.iload_n 3, 1) := by decide +kernel
theorem dX11_poorest_10 : decode cX11_poorest 10 = .ok (.iload_n 2, 1) := by decide +kernel
theorem dX11_poorest_11 : decode cX11_poorest 11 = .ok (.if_icmp .gt 37, 3) := by decide +kernel
theorem dX11_poorest_14 : decode cX11_poorest 14 = .ok (.iload_n 3, 1) := by decide +kernel
theorem dX11_poorest_15 : decode cX11_poorest 15 = .ok (.aload_n 0, 1) := by decide +kernel
theorem dX11_poorest_16 : decode cX11_poorest 16 = .ok (.getfield 59, 3) := by decide +kernel
theorem dX11_poorest_19 : decode cX11_poorest 19 = .ok (.arraylength, 1) := by decide +kernel
theorem dX11_poorest_20 : decode cX11_poorest 20 = .ok (.if_icmp .ge 28, 3) := by decide +kernel
theorem dX11_poorest_23 : decode cX11_poorest 23 = .ok (.iload_n 3, 1) := by decide +kernel
theorem dX11_poorest_24 : decode cX11_poorest 24 = .ok (.iload_n 2, 1) := by decide +kernel
theorem dX11_poorest_25 : decode cX11_poorest 25 = .ok (.iconst (-1), 1) := by decide +kernel
theorem dX11_poorest_26 : decode cX11_poorest 26 = .ok (.ixor, 1) := by decide +kernel
theorem dX11_poorest_27 : decode cX11_poorest 27 = .ok (.iand, 1) := by decide +kernel
theorem dX11_poorest_28 : decode cX11_poorest 28 = .ok (.ifCond .ne 14, 3) := by decide +kernel
theorem dX11_poorest_31 : decode cX11_poorest 31 = .ok (.aload_n 0, 1) := by decide +kernel
theorem dX11_poorest_32 : decode cX11_poorest 32 = .ok (.getfield 59, 3) := by decide +kernel
theorem dX11_poorest_35 : decode cX11_poorest 35 = .ok (.iload_n 3, 1) := by decide +kernel
theorem dX11_poorest_36 : decode cX11_poorest 36 = .ok (.aload_n 0, 1) := by decide +kernel
theorem dX11_poorest_37 : decode cX11_poorest 37 = .ok (.iload_n 3, 1) := by decide +kernel
theorem dX11_poorest_38 : decode cX11_poorest 38 = .ok (.invokevirtual 354, 3) := by decide +kernel
theorem dX11_poorest_41 : decode cX11_poorest 41 = .ok (.iastore, 1) := by decide +kernel
theorem dX11_poorest_42 : decode cX11_poorest 42 = .ok (.iinc 3 1, 3) := by decide +kernel
theorem dX11_poorest_45 : decode cX11_poorest 45 = .ok (.goto (-36), 3) := by decide +kernel
theorem dX11_poorest_48 : decode cX11_poorest 48 = .ok (.aload_n 0, 1) := by decide +kernel
theorem dX11_poorest_49 : decode cX11_poorest 49 = .ok (.getfield 59, 3) := by decide +kernel
theorem dX11_poorest_52 : decode cX11_poorest 52 = .ok (.iload_n 2, 1) := by decide +kernel
theorem dX11_poorest_53 : decode cX11_poorest 53 = .ok (.invokestatic 347, 3) := by decide +kernel
theorem dX11_poorest_56 : decode cX11_poorest 56 = .ok (.ireturn, 1) := by decide +kernel
theorem dX11_leastByFirst_0 : decode cX11_leastByFirst 0 = .ok (.iconst (-1), 1) := by decide +kernel
theorem dX11_leastByFirst_1 : decode cX11_leastByFirst 1 = .ok (.istore_n 2, 1) := by decide +kernel
theorem dX11_leastByFirst_2 : decode cX11_leastByFirst 2 = .ok (.iconst 0, 1) := by decide +kernel
theorem dX11_leastByFirst_3 : decode cX11_leastByFirst 3 = .ok (.istore_n 3, 1) := by decide +kernel
theorem dX11_leastByFirst_4 : decode cX11_leastByFirst 4 = .ok (.iload_n 3, 1) := by decide +kernel
theorem dX11_leastByFirst_5 : decode cX11_leastByFirst 5 = .ok (.bipush 9, 2) := by decide +kernel
theorem dX11_leastByFirst_7 : decode cX11_leastByFirst 7 = .ok (.if_icmp .ge 41, 3) := by decide +kernel
theorem dX11_leastByFirst_10 : decode cX11_leastByFirst 10 = .ok (.iload_n 1, 1) := by decide +kernel
theorem dX11_leastByFirst_11 : decode cX11_leastByFirst 11 = .ok (.iload_n 3, 1) := by decide +kernel
theorem dX11_leastByFirst_12 : decode cX11_leastByFirst 12 = .ok (.ishr, 1) := by decide +kernel
theorem dX11_leastByFirst_13 : decode cX11_leastByFirst 13 = .ok (.iconst 1, 1) := by decide +kernel
theorem dX11_leastByFirst_14 : decode cX11_leastByFirst 14 = .ok (.iand, 1) := by decide +kernel
theorem dX11_leastByFirst_15 : decode cX11_leastByFirst 15 = .ok (.ifCond .eq 27, 3) := by decide +kernel
theorem dX11_leastByFirst_18 : decode cX11_leastByFirst 18 = .ok (.iload_n 2, 1) := by decide +kernel
theorem dX11_leastByFirst_19 : decode cX11_leastByFirst 19 = .ok (.aload_n 0, 1) := by decide +kernel
theorem dX11_leastByFirst_20 : decode cX11_leastByFirst 20 = .ok (.iload_n 3, 1) := by decide +kernel
theorem dX11_leastByFirst_21 : decode cX11_leastByFirst 21 = .ok (.aload_n 0, 1) := by decide +kernel
theorem dX11_leastByFirst_22 : decode cX11_leastByFirst 22 = .ok (.getfield 59, 3) := by decide +kernel
theorem dX11_leastByFirst_25 : decode cX11_leastByFirst 25 = .ok (.iload_n 1, 1) := by decide +kernel
theorem dX11_leastByFirst_26 : decode cX11_leastByFirst 26 = .ok (.iconst 1, 1) := by decide +kernel
theorem dX11_leastByFirst_27 : decode cX11_leastByFirst 27 = .ok (.iload_n 3, 1) := by decide +kernel
theorem dX11_leastByFirst_28 : decode cX11_leastByFirst 28 = .ok (.ishl, 1) := by decide +kernel
theorem dX11_leastByFirst_29 : decode cX11_leastByFirst 29 = .ok (.iconst (-1), 1) := by decide +kernel
theorem dX11_leastByFirst_30 : decode cX11_leastByFirst 30 = .ok (.ixor, 1) := by decide +kernel
theorem dX11_leastByFirst_31 : decode cX11_leastByFirst 31 = .ok (.iand, 1) := by decide +kernel
theorem dX11_leastByFirst_32 : decode cX11_leastByFirst 32 = .ok (.invokestatic 347, 3) := by decide +kernel
theorem dX11_leastByFirst_35 : decode cX11_leastByFirst 35 = .ok (.invokevirtual 357, 3) := by decide +kernel
theorem dX11_leastByFirst_38 : decode cX11_leastByFirst 38 = .ok (.invokestatic 360, 3) := by decide +kernel
theorem dX11_leastByFirst_41 : decode cX11_leastByFirst 41 = .ok (.istore_n 2, 1) := by decide +kernel
theorem dX11_leastByFirst_42 : decode cX11_leastByFirst 42 = .ok (.iinc 3 1, 3) := by decide +kernel
theorem dX11_leastByFirst_45 : decode cX11_leastByFirst 45 = .ok (.goto (-41), 3) := by decide +kernel
theorem dX11_leastByFirst_48 : decode cX11_leastByFirst 48 = .ok (.iload_n 2, 1) := by decide +kernel
theorem dX11_leastByFirst_49 : decode cX11_leastByFirst 49 = .ok (.ireturn, 1) := by decide +kernel
theorem dX11_firstInOrder_0 : decode cX11_firstInOrder 0 = .ok (.iconst 0, 1) := by decide +kernel
theorem dX11_firstInOrder_1 : decode cX11_firstInOrder 1 = .ok (.istore_n 3, 1) := by decide +kernel
theorem dX11_firstInOrder_2 : decode cX11_firstInOrder 2 = .ok (.iload_n 3, 1) := by decide +kernel
theorem dX11_firstInOrder_3 : decode cX11_firstInOrder 3 = .ok (.bipush 9, 2) := by decide +kernel
theorem dX11_firstInOrder_5 : decode cX11_firstInOrder 5 = .ok (.if_icmp .ge 45, 3) := by decide +kernel
theorem dX11_firstInOrder_8 : decode cX11_firstInOrder 8 = .ok (.iload_n 2, 1) := by decide +kernel
theorem dX11_firstInOrder_9 : decode cX11_firstInOrder 9 = .ok (.iload_n 3, 1) := by decide +kernel
theorem dX11_firstInOrder_10 : decode cX11_firstInOrder 10 = .ok (.ishr, 1) := by decide +kernel
theorem dX11_firstInOrder_11 : decode cX11_firstInOrder 11 = .ok (.iconst 1, 1) := by decide +kernel
theorem dX11_firstInOrder_12 : decode cX11_firstInOrder 12 = .ok (.iand, 1) := by decide +kernel
theorem dX11_firstInOrder_13 : decode cX11_firstInOrder 13 = .ok (.ifCond .eq 31, 3) := by decide +kernel
theorem dX11_firstInOrder_16 : decode cX11_firstInOrder 16 = .ok (.aload_n 0, 1) := by decide +kernel
theorem dX11_firstInOrder_17 : decode cX11_firstInOrder 17 = .ok (.iload_n 3, 1) := by decide +kernel
theorem dX11_firstInOrder_18 : decode cX11_firstInOrder 18 = .ok (.iload_n 1, 1) := by decide +kernel
theorem dX11_firstInOrder_19 : decode cX11_firstInOrder 19 = .ok (.invokevirtual 213, 3) := by decide +kernel
theorem dX11_firstInOrder_22 : decode cX11_firstInOrder 22 = .ok (.aload_n 0, 1) := by decide +kernel
theorem dX11_firstInOrder_23 : decode cX11_firstInOrder 23 = .ok (.getfield 59, 3) := by decide +kernel
theorem dX11_firstInOrder_26 : decode cX11_firstInOrder 26 = .ok (.iload_n 2, 1) := by decide +kernel
theorem dX11_firstInOrder_27 : decode cX11_firstInOrder 27 = .ok (.iconst 1, 1) := by decide +kernel
theorem dX11_firstInOrder_28 : decode cX11_firstInOrder 28 = .ok (.iload_n 3, 1) := by decide +kernel
theorem dX11_firstInOrder_29 : decode cX11_firstInOrder 29 = .ok (.ishl, 1) := by decide +kernel
theorem dX11_firstInOrder_30 : decode cX11_firstInOrder 30 = .ok (.iconst (-1), 1) := by decide +kernel
theorem dX11_firstInOrder_31 : decode cX11_firstInOrder 31 = .ok (.ixor, 1) := by decide +kernel
theorem dX11_firstInOrder_32 : decode cX11_firstInOrder 32 = .ok (.iand, 1) := by decide +kernel
theorem dX11_firstInOrder_33 : decode cX11_firstInOrder 33 = .ok (.invokestatic 347, 3) := by decide +kernel
theorem dX11_firstInOrder_36 : decode cX11_firstInOrder 36 = .ok (.invokestatic 363, 3) := by decide +kernel
theorem dX11_firstInOrder_39 : decode cX11_firstInOrder 39 = .ok (.ifCond .eq 5, 3) := by decide +kernel
theorem dX11_firstInOrder_42 : decode cX11_firstInOrder 42 = .ok (.iload_n 3, 1) := by decide +kernel
theorem dX11_firstInOrder_43 : decode cX11_firstInOrder 43 = .ok (.ireturn, 1) := by decide +kernel
theorem dX11_firstInOrder_44 : decode cX11_firstInOrder 44 = .ok (.iinc 3 1, 3) := by decide +kernel
theorem dX11_firstInOrder_47 : decode cX11_firstInOrder 47 = .ok (.goto (-45), 3) := by decide +kernel
theorem dX11_firstInOrder_50 : decode cX11_firstInOrder 50 = .ok (.iconst (-1), 1) := by decide +kernel
theorem dX11_firstInOrder_51 : decode cX11_firstInOrder 51 = .ok (.ireturn, 1) := by decide +kernel
theorem dX11_fewest_0 : decode cX11_fewest 0 = .ok (.iload_n 1, 1) := by decide +kernel
theorem dX11_fewest_1 : decode cX11_fewest 1 = .ok (.istore_n 3, 1) := by decide +kernel
theorem dX11_fewest_2 : decode cX11_fewest 2 = .ok (.iconst 0, 1) := by decide +kernel
theorem dX11_fewest_3 : decode cX11_fewest 3 = .ok (.istore 4, 2) := by decide +kernel
theorem dX11_fewest_5 : decode cX11_fewest 5 = .ok (.iload 4, 2) := by decide +kernel
theorem dX11_fewest_7 : decode cX11_fewest 7 = .ok (.bipush 60, 2) := by decide +kernel
theorem dX11_fewest_9 : decode cX11_fewest 9 = .ok (.if_icmp .gt 27, 3) := by decide +kernel
theorem dX11_fewest_12 : decode cX11_fewest 12 = .ok (.iload_n 3, 1) := by decide +kernel
theorem dX11_fewest_13 : decode cX11_fewest 13 = .ok (.ifCond .lt 23, 3) := by decide +kernel
theorem dX11_fewest_16 : decode cX11_fewest 16 = .ok (.iload_n 3, 1) := by decide +kernel
theorem dX11_fewest_17 : decode cX11_fewest 17 = .ok (.iload_n 2, 1) := by decide +kernel
theorem dX11_fewest_18 : decode cX11_fewest 18 = .ok (.if_icmp .lt 6, 3) := by decide +kernel
theorem dX11_fewest_21 : decode cX11_fewest 21 = .ok (.iload 4, 2) := by decide +kernel
theorem dX11_fewest_23 : decode cX11_fewest 23 = .ok (.ireturn, 1) := by decide +kernel
theorem dX11_fewest_24 : decode cX11_fewest 24 = .ok (.aload_n 0, 1) := by decide +kernel
theorem dX11_fewest_25 : decode cX11_fewest 25 = .ok (.iload_n 3, 1) := by decide +kernel
theorem dX11_fewest_26 : decode cX11_fewest 26 = .ok (.invokevirtual 366, 3) := by decide +kernel
theorem dX11_fewest_29 : decode cX11_fewest 29 = .ok (.istore_n 3, 1) := by decide +kernel
theorem dX11_fewest_30 : decode cX11_fewest 30 = .ok (.iinc 4 1, 3) := by decide +kernel
theorem dX11_fewest_33 : decode cX11_fewest 33 = .ok (.goto (-28), 3) := by decide +kernel
theorem dX11_fewest_36 : decode cX11_fewest 36 = .ok (.iconst (-1), 1) := by decide +kernel
theorem dX11_fewest_37 : decode cX11_fewest 37 = .ok (.ireturn, 1) := by decide +kernel
theorem dX11_bestByAny_0 : decode cX11_bestByAny 0 = .ok (.iconst (-1), 1) := by decide +kernel
theorem dX11_bestByAny_1 : decode cX11_bestByAny 1 = .ok (.istore_n 2, 1) := by decide +kernel
theorem dX11_bestByAny_2 : decode cX11_bestByAny 2 = .ok (.iconst 0, 1) := by decide +kernel
theorem dX11_bestByAny_3 : decode cX11_bestByAny 3 = .ok (.istore_n 3, 1) := by decide +kernel
theorem dX11_bestByAny_4 : decode cX11_bestByAny 4 = .ok (.iload_n 3, 1) := by decide +kernel
theorem dX11_bestByAny_5 : decode cX11_bestByAny 5 = .ok (.aload_n 0, 1) := by decide +kernel
theorem dX11_bestByAny_6 : decode cX11_bestByAny 6 = .ok (.getfield 10, 3) := by decide +kernel
theorem dX11_bestByAny_9 : decode cX11_bestByAny 9 = .ok (.getfield 330, 3) := by decide +kernel
theorem dX11_bestByAny_12 : decode cX11_bestByAny 12 = .ok (.if_icmp .ge 20, 3) := by decide +kernel
theorem dX11_bestByAny_15 : decode cX11_bestByAny 15 = .ok (.iload_n 2, 1) := by decide +kernel
theorem dX11_bestByAny_16 : decode cX11_bestByAny 16 = .ok (.aload_n 0, 1) := by decide +kernel
theorem dX11_bestByAny_17 : decode cX11_bestByAny 17 = .ok (.iload_n 3, 1) := by decide +kernel
theorem dX11_bestByAny_18 : decode cX11_bestByAny 18 = .ok (.iload_n 1, 1) := by decide +kernel
theorem dX11_bestByAny_19 : decode cX11_bestByAny 19 = .ok (.invokevirtual 213, 3) := by decide +kernel
theorem dX11_bestByAny_22 : decode cX11_bestByAny 22 = .ok (.invokestatic 351, 3) := by decide +kernel
theorem dX11_bestByAny_25 : decode cX11_bestByAny 25 = .ok (.istore_n 2, 1) := by decide +kernel
theorem dX11_bestByAny_26 : decode cX11_bestByAny 26 = .ok (.iinc 3 1, 3) := by decide +kernel
theorem dX11_bestByAny_29 : decode cX11_bestByAny 29 = .ok (.goto (-25), 3) := by decide +kernel
theorem dX11_bestByAny_32 : decode cX11_bestByAny 32 = .ok (.iload_n 2, 1) := by decide +kernel
theorem dX11_bestByAny_33 : decode cX11_bestByAny 33 = .ok (.ireturn, 1) := by decide +kernel
theorem dX11_fillLeastSteps_0 : decode cX11_fillLeastSteps 0 = .ok (.aload_n 0, 1) := by decide +kernel
theorem dX11_fillLeastSteps_1 : decode cX11_fillLeastSteps 1 = .ok (.getfield 62, 3) := by decide +kernel
theorem dX11_fillLeastSteps_4 : decode cX11_fillLeastSteps 4 = .ok (.iconst 0, 1) := by decide +kernel
theorem dX11_fillLeastSteps_5 : decode cX11_fillLeastSteps 5 = .ok (.iload_n 1, 1) := by decide +kernel
theorem dX11_fillLeastSteps_6 : decode cX11_fillLeastSteps 6 = .ok (.iastore, 1) := by decide +kernel
theorem dX11_fillLeastSteps_7 : decode cX11_fillLeastSteps 7 = .ok (.iconst 1, 1) := by decide +kernel
theorem dX11_fillLeastSteps_8 : decode cX11_fillLeastSteps 8 = .ok (.istore_n 3, 1) := by decide +kernel
theorem dX11_fillLeastSteps_9 : decode cX11_fillLeastSteps 9 = .ok (.iload_n 3, 1) := by decide +kernel
theorem dX11_fillLeastSteps_10 : decode cX11_fillLeastSteps 10 = .ok (.iload_n 2, 1) := by decide +kernel
theorem dX11_fillLeastSteps_11 : decode cX11_fillLeastSteps 11 = .ok (.if_icmp .gt 71, 3) := by decide +kernel
theorem dX11_fillLeastSteps_14 : decode cX11_fillLeastSteps 14 = .ok (.iload_n 3, 1) := by decide +kernel
theorem dX11_fillLeastSteps_15 : decode cX11_fillLeastSteps 15 = .ok (.aload_n 0, 1) := by decide +kernel
theorem dX11_fillLeastSteps_16 : decode cX11_fillLeastSteps 16 = .ok (.getfield 62, 3) := by decide +kernel
theorem dX11_fillLeastSteps_19 : decode cX11_fillLeastSteps 19 = .ok (.arraylength, 1) := by decide +kernel
theorem dX11_fillLeastSteps_20 : decode cX11_fillLeastSteps 20 = .ok (.if_icmp .ge 62, 3) := by decide +kernel
theorem dX11_fillLeastSteps_23 : decode cX11_fillLeastSteps 23 = .ok (.iconst (-1), 1) := by decide +kernel
theorem dX11_fillLeastSteps_24 : decode cX11_fillLeastSteps 24 = .ok (.istore 4, 2) := by decide +kernel
theorem dX11_fillLeastSteps_26 : decode cX11_fillLeastSteps 26 = .ok (.iconst 0, 1) := by decide +kernel
theorem dX11_fillLeastSteps_27 : decode cX11_fillLeastSteps 27 = .ok (.istore 5, 2) := by decide +kernel
theorem dX11_fillLeastSteps_29 : decode cX11_fillLeastSteps 29 = .ok (.iload 5, 2) := by decide +kernel
theorem dX11_fillLeastSteps_31 : decode cX11_fillLeastSteps 31 = .ok (.aload_n 0, 1) := by decide +kernel
theorem dX11_fillLeastSteps_32 : decode cX11_fillLeastSteps 32 = .ok (.getfield 10, 3) := by decide +kernel
theorem dX11_fillLeastSteps_35 : decode cX11_fillLeastSteps 35 = .ok (.getfield 330, 3) := by decide +kernel
theorem dX11_fillLeastSteps_38 : decode cX11_fillLeastSteps 38 = .ok (.if_icmp .ge 30, 3) := by decide +kernel
theorem dX11_fillLeastSteps_41 : decode cX11_fillLeastSteps 41 = .ok (.iload 4, 2) := by decide +kernel
theorem dX11_fillLeastSteps_43 : decode cX11_fillLeastSteps 43 = .ok (.aload_n 0, 1) := by decide +kernel
theorem dX11_fillLeastSteps_44 : decode cX11_fillLeastSteps 44 = .ok (.iload 5, 2) := by decide +kernel
theorem dX11_fillLeastSteps_46 : decode cX11_fillLeastSteps 46 = .ok (.aload_n 0, 1) := by decide +kernel
theorem dX11_fillLeastSteps_47 : decode cX11_fillLeastSteps 47 = .ok (.getfield 62, 3) := by decide +kernel
theorem dX11_fillLeastSteps_50 : decode cX11_fillLeastSteps 50 = .ok (.iload_n 3, 1) := by decide +kernel
theorem dX11_fillLeastSteps_51 : decode cX11_fillLeastSteps 51 = .ok (.iconst 1, 1) := by decide +kernel
theorem dX11_fillLeastSteps_52 : decode cX11_fillLeastSteps 52 = .ok (.isub, 1) := by decide +kernel
theorem dX11_fillLeastSteps_53 : decode cX11_fillLeastSteps 53 = .ok (.iaload, 1) := by decide +kernel
theorem dX11_fillLeastSteps_54 : decode cX11_fillLeastSteps 54 = .ok (.invokevirtual 357, 3) := by decide +kernel
theorem dX11_fillLeastSteps_57 : decode cX11_fillLeastSteps 57 = .ok (.invokestatic 360, 3) := by decide +kernel
theorem dX11_fillLeastSteps_60 : decode cX11_fillLeastSteps 60 = .ok (.istore 4, 2) := by decide +kernel
theorem dX11_fillLeastSteps_62 : decode cX11_fillLeastSteps 62 = .ok (.iinc 5 1, 3) := by decide +kernel
theorem dX11_fillLeastSteps_65 : decode cX11_fillLeastSteps 65 = .ok (.goto (-36), 3) := by decide +kernel
theorem dX11_fillLeastSteps_68 : decode cX11_fillLeastSteps 68 = .ok (.aload_n 0, 1) := by decide +kernel
theorem dX11_fillLeastSteps_69 : decode cX11_fillLeastSteps 69 = .ok (.getfield 62, 3) := by decide +kernel
theorem dX11_fillLeastSteps_72 : decode cX11_fillLeastSteps 72 = .ok (.iload_n 3, 1) := by decide +kernel
theorem dX11_fillLeastSteps_73 : decode cX11_fillLeastSteps 73 = .ok (.iload 4, 2) := by decide +kernel
theorem dX11_fillLeastSteps_75 : decode cX11_fillLeastSteps 75 = .ok (.iastore, 1) := by decide +kernel
theorem dX11_fillLeastSteps_76 : decode cX11_fillLeastSteps 76 = .ok (.iinc 3 1, 3) := by decide +kernel
theorem dX11_fillLeastSteps_79 : decode cX11_fillLeastSteps 79 = .ok (.goto (-70), 3) := by decide +kernel
theorem dX11_fillLeastSteps_82 : decode cX11_fillLeastSteps 82 = .ok (.return_, 1) := by decide +kernel
theorem dX11_firstInRow_0 : decode cX11_firstInRow 0 = .ok (.iconst 0, 1) := by decide +kernel
theorem dX11_firstInRow_1 : decode cX11_firstInRow 1 = .ok (.istore_n 3, 1) := by decide +kernel
theorem dX11_firstInRow_2 : decode cX11_firstInRow 2 = .ok (.iload_n 3, 1) := by decide +kernel
theorem dX11_firstInRow_3 : decode cX11_firstInRow 3 = .ok (.aload_n 0, 1) := by decide +kernel
theorem dX11_firstInRow_4 : decode cX11_firstInRow 4 = .ok (.getfield 10, 3) := by decide +kernel
theorem dX11_firstInRow_7 : decode cX11_firstInRow 7 = .ok (.getfield 330, 3) := by decide +kernel
theorem dX11_firstInRow_10 : decode cX11_firstInRow 10 = .ok (.if_icmp .ge 31, 3) := by decide +kernel
theorem dX11_firstInRow_13 : decode cX11_firstInRow 13 = .ok (.aload_n 0, 1) := by decide +kernel
theorem dX11_firstInRow_14 : decode cX11_firstInRow 14 = .ok (.iload_n 3, 1) := by decide +kernel
theorem dX11_firstInRow_15 : decode cX11_firstInRow 15 = .ok (.iload_n 1, 1) := by decide +kernel
theorem dX11_firstInRow_16 : decode cX11_firstInRow 16 = .ok (.invokevirtual 213, 3) := by decide +kernel
theorem dX11_firstInRow_19 : decode cX11_firstInRow 19 = .ok (.aload_n 0, 1) := by decide +kernel
theorem dX11_firstInRow_20 : decode cX11_firstInRow 20 = .ok (.getfield 62, 3) := by decide +kernel
theorem dX11_firstInRow_23 : decode cX11_firstInRow 23 = .ok (.iload_n 2, 1) := by decide +kernel
theorem dX11_firstInRow_24 : decode cX11_firstInRow 24 = .ok (.invokestatic 347, 3) := by decide +kernel
theorem dX11_firstInRow_27 : decode cX11_firstInRow 27 = .ok (.invokestatic 363, 3) := by decide +kernel
theorem dX11_firstInRow_30 : decode cX11_firstInRow 30 = .ok (.ifCond .eq 5, 3) := by decide +kernel
theorem dX11_firstInRow_33 : decode cX11_firstInRow 33 = .ok (.iload_n 3, 1) := by decide +kernel
theorem dX11_firstInRow_34 : decode cX11_firstInRow 34 = .ok (.ireturn, 1) := by decide +kernel
theorem dX11_firstInRow_35 : decode cX11_firstInRow 35 = .ok (.iinc 3 1, 3) := by decide +kernel
theorem dX11_firstInRow_38 : decode cX11_firstInRow 38 = .ok (.goto (-36), 3) := by decide +kernel
theorem dX11_firstInRow_41 : decode cX11_firstInRow 41 = .ok (.iconst (-1), 1) := by decide +kernel
theorem dX11_firstInRow_42 : decode cX11_firstInRow 42 = .ok (.ireturn, 1) := by decide +kernel
theorem dX11_behindOf_0 : decode cX11_behindOf 0 = .ok (.aload_n 0, 1) := by decide +kernel
theorem dX11_behindOf_1 : decode cX11_behindOf 1 = .ok (.getfield 10, 3) := by decide +kernel
theorem dX11_behindOf_4 : decode cX11_behindOf 4 = .ok (.iload_n 1, 1) := by decide +kernel
theorem dX11_behindOf_5 : decode cX11_behindOf 5 = .ok (.invokevirtual 82, 3) := by decide +kernel
theorem dX11_behindOf_8 : decode cX11_behindOf 8 = .ok (.astore_n 3, 1) := by decide +kernel
theorem dX11_behindOf_9 : decode cX11_behindOf 9 = .ok (.aload_n 3, 1) := by decide +kernel
theorem dX11_behindOf_10 : decode cX11_behindOf 10 = .ok (.ifnonnull 7, 3) := by decide +kernel
theorem dX11_behindOf_13 : decode cX11_behindOf 13 = .ok (.iconst (-1), 1) := by decide +kernel
theorem dX11_behindOf_14 : decode cX11_behindOf 14 = .ok (.goto 8, 3) := by decide +kernel
theorem dX11_behindOf_17 : decode cX11_behindOf 17 = .ok (.aload_n 3, 1) := by decide +kernel
theorem dX11_behindOf_18 : decode cX11_behindOf 18 = .ok (.iload_n 2, 1) := by decide +kernel
theorem dX11_behindOf_19 : decode cX11_behindOf 19 = .ok (.invokevirtual 173, 3) := by decide +kernel
theorem dX11_behindOf_22 : decode cX11_behindOf 22 = .ok (.ireturn, 1) := by decide +kernel
theorem dX11_leastAheadOf_0 : decode cX11_leastAheadOf 0 = .ok (.aload_n 0, 1) := by decide +kernel
theorem dX11_leastAheadOf_1 : decode cX11_leastAheadOf 1 = .ok (.getfield 10, 3) := by decide +kernel
theorem dX11_leastAheadOf_4 : decode cX11_leastAheadOf 4 = .ok (.iload_n 1, 1) := by decide +kernel
theorem dX11_leastAheadOf_5 : decode cX11_leastAheadOf 5 = .ok (.invokevirtual 82, 3) := by decide +kernel
theorem dX11_leastAheadOf_8 : decode cX11_leastAheadOf 8 = .ok (.astore_n 3, 1) := by decide +kernel
theorem dX11_leastAheadOf_9 : decode cX11_leastAheadOf 9 = .ok (.aload_n 3, 1) := by decide +kernel
theorem dX11_leastAheadOf_10 : decode cX11_leastAheadOf 10 = .ok (.ifnonnull 7, 3) := by decide +kernel
theorem dX11_leastAheadOf_13 : decode cX11_leastAheadOf 13 = .ok (.iconst (-1), 1) := by decide +kernel
theorem dX11_leastAheadOf_14 : decode cX11_leastAheadOf 14 = .ok (.goto 8, 3) := by decide +kernel
theorem dX11_leastAheadOf_17 : decode cX11_leastAheadOf 17 = .ok (.aload_n 3, 1) := by decide +kernel
theorem dX11_leastAheadOf_18 : decode cX11_leastAheadOf 18 = .ok (.iload_n 2, 1) := by decide +kernel
theorem dX11_leastAheadOf_19 : decode cX11_leastAheadOf 19 = .ok (.invokevirtual 341, 3) := by decide +kernel
theorem dX11_leastAheadOf_22 : decode cX11_leastAheadOf 22 = .ok (.ireturn, 1) := by decide +kernel
theorem dX11_lesser_0 : decode cX11_lesser 0 = .ok (.iload_n 0, 1) := by decide +kernel
theorem dX11_lesser_1 : decode cX11_lesser 1 = .ok (.ifCond .lt 7, 3) := by decide +kernel
theorem dX11_lesser_4 : decode cX11_lesser 4 = .ok (.iload_n 1, 1) := by decide +kernel
theorem dX11_lesser_5 : decode cX11_lesser 5 = .ok (.ifCond .ge 9, 3) := by decide +kernel
theorem dX11_lesser_8 : decode cX11_lesser 8 = .ok (.iload_n 0, 1) := by decide +kernel
theorem dX11_lesser_9 : decode cX11_lesser 9 = .ok (.iload_n 1, 1) := by decide +kernel
theorem dX11_lesser_10 : decode cX11_lesser 10 = .ok (.invokestatic 351, 3) := by decide +kernel
theorem dX11_lesser_13 : decode cX11_lesser 13 = .ok (.ireturn, 1) := by decide +kernel
theorem dX11_lesser_14 : decode cX11_lesser 14 = .ok (.iload_n 0, 1) := by decide +kernel
theorem dX11_lesser_15 : decode cX11_lesser 15 = .ok (.iload_n 1, 1) := by decide +kernel
theorem dX11_lesser_16 : decode cX11_lesser 16 = .ok (.invokestatic 264, 3) := by decide +kernel
theorem dX11_lesser_19 : decode cX11_lesser 19 = .ok (.ireturn, 1) := by decide +kernel
theorem dX11_suffices_0 : decode cX11_suffices 0 = .ok (.iload_n 1, 1) := by decide +kernel
theorem dX11_suffices_1 : decode cX11_suffices 1 = .ok (.ifCond .lt 12, 3) := by decide +kernel
theorem dX11_suffices_4 : decode cX11_suffices 4 = .ok (.iload_n 0, 1) := by decide +kernel
theorem dX11_suffices_5 : decode cX11_suffices 5 = .ok (.iload_n 1, 1) := by decide +kernel
theorem dX11_suffices_6 : decode cX11_suffices 6 = .ok (.if_icmp .lt 7, 3) := by decide +kernel
theorem dX11_suffices_9 : decode cX11_suffices 9 = .ok (.iconst 1, 1) := by decide +kernel
theorem dX11_suffices_10 : decode cX11_suffices 10 = .ok (.goto 4, 3) := by decide +kernel
theorem dX11_suffices_13 : decode cX11_suffices 13 = .ok (.iconst 0, 1) := by decide +kernel
theorem dX11_suffices_14 : decode cX11_suffices 14 = .ok (.ireturn, 1) := by decide +kernel
theorem dX11_worthOf_0 : decode cX11_worthOf 0 = .ok (.iload_n 1, 1) := by decide +kernel
theorem dX11_worthOf_1 : decode cX11_worthOf 1 = .ok (.i2l, 1) := by decide +kernel
theorem dX11_worthOf_2 : decode cX11_worthOf 2 = .ok (.iload_n 3, 1) := by decide +kernel
theorem dX11_worthOf_3 : decode cX11_worthOf 3 = .ok (.invokestatic 241, 3) := by decide +kernel
theorem dX11_worthOf_6 : decode cX11_worthOf 6 = .ok (.lmul, 1) := by decide +kernel
theorem dX11_worthOf_7 : decode cX11_worthOf 7 = .ok (.aload_n 0, 1) := by decide +kernel
theorem dX11_worthOf_8 : decode cX11_worthOf 8 = .ok (.iload_n 1, 1) := by decide +kernel
theorem dX11_worthOf_9 : decode cX11_worthOf 9 = .ok (.iload_n 2, 1) := by decide +kernel
theorem dX11_worthOf_10 : decode cX11_worthOf 10 = .ok (.iload_n 3, 1) := by decide +kernel
theorem dX11_worthOf_11 : decode cX11_worthOf 11 = .ok (.invokestatic 245, 3) := by decide +kernel
theorem dX11_worthOf_14 : decode cX11_worthOf 14 = .ok (.invokestatic 369, 3) := by decide +kernel
theorem dX11_worthOf_17 : decode cX11_worthOf 17 = .ok (.lreturn, 1) := by decide +kernel
theorem dX11_worthOfCrossing_0 : decode cX11_worthOfCrossing 0 = .ok (.aload_n 0, 1) := by decide +kernel
theorem dX11_worthOfCrossing_1 : decode cX11_worthOfCrossing 1 = .ok (.iload_n 1, 1) := by decide +kernel
theorem dX11_worthOfCrossing_2 : decode cX11_worthOfCrossing 2 = .ok (.invokevirtual 173, 3) := by decide +kernel
theorem dX11_worthOfCrossing_5 : decode cX11_worthOfCrossing 5 = .ok (.istore 4, 2) := by decide +kernel
theorem dX11_worthOfCrossing_7 : decode cX11_worthOfCrossing 7 = .ok (.iload_n 3, 1) := by decide +kernel
theorem dX11_worthOfCrossing_8 : decode cX11_worthOfCrossing 8 = .ok (.iconst 1, 1) := by decide +kernel
theorem dX11_worthOfCrossing_9 : decode cX11_worthOfCrossing 9 = .ok (.if_icmp .lt 8, 3) := by decide +kernel
theorem dX11_worthOfCrossing_12 : decode cX11_worthOfCrossing 12 = .ok (.iload 4, 2) := by decide +kernel
theorem dX11_worthOfCrossing_14 : decode cX11_worthOfCrossing 14 = .ok (.ifCond .ge 7, 3) := by decide +kernel
theorem dX11_worthOfCrossing_17 : decode cX11_worthOfCrossing 17 = .ok (.ldc2_w 235, 3) := by decide +kernel
theorem dX11_worthOfCrossing_20 : decode cX11_worthOfCrossing 20 = .ok (.lreturn, 1) := by decide +kernel
theorem dX11_worthOfCrossing_21 : decode cX11_worthOfCrossing 21 = .ok (.aload_n 0, 1) := by decide +kernel
theorem dX11_worthOfCrossing_22 : decode cX11_worthOfCrossing 22 = .ok (.aload_n 0, 1) := by decide +kernel
theorem dX11_worthOfCrossing_23 : decode cX11_worthOfCrossing 23 = .ok (.getfield 100, 3) := by decide +kernel
theorem dX11_worthOfCrossing_26 : decode cX11_worthOfCrossing 26 = .ok (.iconst 1, 1) := by decide +kernel
theorem dX11_worthOfCrossing_27 : decode cX11_worthOfCrossing 27 = .ok (.iadd, 1) := by decide +kernel
theorem dX11_worthOfCrossing_28 : decode cX11_worthOfCrossing 28 = .ok (.iload_n 1, 1) := by decide +kernel
theorem dX11_worthOfCrossing_29 : decode cX11_worthOfCrossing 29 = .ok (.invokevirtual 372, 3) := by decide +kernel
theorem dX11_worthOfCrossing_32 : decode cX11_worthOfCrossing 32 = .ok (.istore 5, 2) := by decide +kernel
theorem dX11_worthOfCrossing_34 : decode cX11_worthOfCrossing 34 = .ok (.iload_n 2, 1) := by decide +kernel
theorem dX11_worthOfCrossing_35 : decode cX11_worthOfCrossing 35 = .ok (.i2l, 1) := by decide +kernel
theorem dX11_worthOfCrossing_36 : decode cX11_worthOfCrossing 36 = .ok (.aload_n 0, 1) := by decide +kernel
theorem dX11_worthOfCrossing_37 : decode cX11_worthOfCrossing 37 = .ok (.iload 5, 2) := by decide +kernel
theorem dX11_worthOfCrossing_39 : decode cX11_worthOfCrossing 39 = .ok (.iload_n 2, 1) := by decide +kernel
theorem dX11_worthOfCrossing_40 : decode cX11_worthOfCrossing 40 = .ok (.iload_n 3, 1) := by decide +kernel
theorem dX11_worthOfCrossing_41 : decode cX11_worthOfCrossing 41 = .ok (.iconst 1, 1) := by decide +kernel
theorem dX11_worthOfCrossing_42 : decode cX11_worthOfCrossing 42 = .ok (.isub, 1) := by decide +kernel
theorem dX11_worthOfCrossing_43 : decode cX11_worthOfCrossing 43 = .ok (.invokestatic 237, 3) := by decide +kernel
theorem dX11_worthOfCrossing_46 : decode cX11_worthOfCrossing 46 = .ok (.lmul, 1) := by decide +kernel
theorem dX11_worthOfCrossing_47 : decode cX11_worthOfCrossing 47 = .ok (.bipush 100, 2) := by decide +kernel
theorem dX11_worthOfCrossing_49 : decode cX11_worthOfCrossing 49 = .ok (.iload_n 2, 1) := by decide +kernel
theorem dX11_worthOfCrossing_50 : decode cX11_worthOfCrossing 50 = .ok (.isub, 1) := by decide +kernel
theorem dX11_worthOfCrossing_51 : decode cX11_worthOfCrossing 51 = .ok (.i2l, 1) := by decide +kernel
theorem dX11_worthOfCrossing_52 : decode cX11_worthOfCrossing 52 = .ok (.aload_n 0, 1) := by decide +kernel
theorem dX11_worthOfCrossing_53 : decode cX11_worthOfCrossing 53 = .ok (.iload 4, 2) := by decide +kernel
theorem dX11_worthOfCrossing_55 : decode cX11_worthOfCrossing 55 = .ok (.iload_n 2, 1) := by decide +kernel
theorem dX11_worthOfCrossing_56 : decode cX11_worthOfCrossing 56 = .ok (.iload_n 3, 1) := by decide +kernel
theorem dX11_worthOfCrossing_57 : decode cX11_worthOfCrossing 57 = .ok (.iconst 1, 1) := by decide +kernel
theorem dX11_worthOfCrossing_58 : decode cX11_worthOfCrossing 58 = .ok (.isub, 1) := by decide +kernel
theorem dX11_worthOfCrossing_59 : decode cX11_worthOfCrossing 59 = .ok (.invokestatic 237, 3) := by decide +kernel
theorem dX11_worthOfCrossing_62 : decode cX11_worthOfCrossing 62 = .ok (.lmul, 1) := by decide +kernel
theorem dX11_worthOfCrossing_63 : decode cX11_worthOfCrossing 63 = .ok (.ladd, 1) := by decide +kernel
theorem dX11_worthOfCrossing_64 : decode cX11_worthOfCrossing 64 = .ok (.lreturn, 1) := by decide +kernel
theorem dX11_hundredTo_0 : decode cX11_hundredTo 0 = .ok (.lconst 1, 1) := by decide +kernel
theorem dX11_hundredTo_1 : decode cX11_hundredTo 1 = .ok (.lstore_n 1, 1) := by decide +kernel
theorem dX11_hundredTo_2 : decode cX11_hundredTo 2 = .ok (.iconst 0, 1) := by decide +kernel
theorem dX11_hundredTo_3 : decode cX11_hundredTo 3 = .ok (.istore_n 3, 1) := by decide +kernel
theorem dX11_hundredTo_4 : decode cX11_hundredTo 4 = .ok (.iload_n 3, 1) := by decide +kernel
theorem dX11_hundredTo_5 : decode cX11_hundredTo 5 = .ok (.iload_n 0, 1) := by decide +kernel
theorem dX11_hundredTo_6 : decode cX11_hundredTo 6 = .ok (.if_icmp .ge 15, 3) := by decide +kernel
theorem dX11_hundredTo_9 : decode cX11_hundredTo 9 = .ok (.lload_n 1, 1) := by decide +kernel
theorem dX11_hundredTo_10 : decode cX11_hundredTo 10 = .ok (.ldc2_w 230, 3) := by decide +kernel
theorem dX11_hundredTo_13 : decode cX11_hundredTo 13 = .ok (.lmul, 1) := by decide +kernel
theorem dX11_hundredTo_14 : decode cX11_hundredTo 14 = .ok (.lstore_n 1, 1) := by decide +kernel
theorem dX11_hundredTo_15 : decode cX11_hundredTo 15 = .ok (.iinc 3 1, 3) := by decide +kernel
theorem dX11_hundredTo_18 : decode cX11_hundredTo 18 = .ok (.goto (-14), 3) := by decide +kernel
theorem dX11_hundredTo_21 : decode cX11_hundredTo 21 = .ok (.lload_n 1, 1) := by decide +kernel
theorem dX11_hundredTo_22 : decode cX11_hundredTo 22 = .ok (.lreturn, 1) := by decide +kernel
theorem dX11_isRowPart_0 : decode cX11_isRowPart 0 = .ok (.iload_n 1, 1) := by decide +kernel
theorem dX11_isRowPart_1 : decode cX11_isRowPart 1 = .ok (.ifCond .lt 24, 3) := by decide +kernel
theorem dX11_isRowPart_4 : decode cX11_isRowPart 4 = .ok (.iload_n 1, 1) := by decide +kernel
theorem dX11_isRowPart_5 : decode cX11_isRowPart 5 = .ok (.aload_n 0, 1) := by decide +kernel
theorem dX11_isRowPart_6 : decode cX11_isRowPart 6 = .ok (.getfield 34, 3) := by decide +kernel
theorem dX11_isRowPart_9 : decode cX11_isRowPart 9 = .ok (.if_icmp .ge 16, 3) := by decide +kernel
theorem dX11_isRowPart_12 : decode cX11_isRowPart 12 = .ok (.iload_n 2, 1) := by decide +kernel
theorem dX11_isRowPart_13 : decode cX11_isRowPart 13 = .ok (.iconst 0, 1) := by decide +kernel
theorem dX11_isRowPart_14 : decode cX11_isRowPart 14 = .ok (.iconst 2, 1) := by decide +kernel
theorem dX11_isRowPart_15 : decode cX11_isRowPart 15 = .ok (.invokestatic 183, 3) := by decide +kernel
theorem dX11_isRowPart_18 : decode cX11_isRowPart 18 = .ok (.ifCond .eq 7, 3) := by decide +kernel
theorem dX11_isRowPart_21 : decode cX11_isRowPart 21 = .ok (.iconst 1, 1) := by decide +kernel
theorem dX11_isRowPart_22 : decode cX11_isRowPart 22 = .ok (.goto 4, 3) := by decide +kernel
theorem dX11_isRowPart_25 : decode cX11_isRowPart 25 = .ok (.iconst 0, 1) := by decide +kernel
theorem dX11_isRowPart_26 : decode cX11_isRowPart 26 = .ok (.ireturn, 1) := by decide +kernel
theorem dX11_rowPart_0 : decode cX11_rowPart 0 = .ok (.aload_n 0, 1) := by decide +kernel
theorem dX11_rowPart_1 : decode cX11_rowPart 1 = .ok (.getfield 31, 3) := by decide +kernel
theorem dX11_rowPart_4 : decode cX11_rowPart 4 = .ok (.iload_n 1, 1) := by decide +kernel
theorem dX11_rowPart_5 : decode cX11_rowPart 5 = .ok (.iconst 3, 1) := by decide +kernel
theorem dX11_rowPart_6 : decode cX11_rowPart 6 = .ok (.imul, 1) := by decide +kernel
theorem dX11_rowPart_7 : decode cX11_rowPart 7 = .ok (.iload_n 2, 1) := by decide +kernel
theorem dX11_rowPart_8 : decode cX11_rowPart 8 = .ok (.iadd, 1) := by decide +kernel
theorem dX11_rowPart_9 : decode cX11_rowPart 9 = .ok (.invokestatic 347, 3) := by decide +kernel
theorem dX11_rowPart_12 : decode cX11_rowPart 12 = .ok (.ireturn, 1) := by decide +kernel
theorem dX11_setRowPart_0 : decode cX11_setRowPart 0 = .ok (.iload_n 1, 1) := by decide +kernel
theorem dX11_setRowPart_1 : decode cX11_setRowPart 1 = .ok (.iconst 3, 1) := by decide +kernel
theorem dX11_setRowPart_2 : decode cX11_setRowPart 2 = .ok (.imul, 1) := by decide +kernel
theorem dX11_setRowPart_3 : decode cX11_setRowPart 3 = .ok (.iload_n 2, 1) := by decide +kernel
theorem dX11_setRowPart_4 : decode cX11_setRowPart 4 = .ok (.iadd, 1) := by decide +kernel
theorem dX11_setRowPart_5 : decode cX11_setRowPart 5 = .ok (.istore 4, 2) := by decide +kernel
theorem dX11_setRowPart_7 : decode cX11_setRowPart 7 = .ok (.iload 4, 2) := by decide +kernel
theorem dX11_setRowPart_9 : decode cX11_setRowPart 9 = .ok (.ifCond .lt 21, 3) := by decide +kernel
theorem dX11_setRowPart_12 : decode cX11_setRowPart 12 = .ok (.iload 4, 2) := by decide +kernel
theorem dX11_setRowPart_14 : decode cX11_setRowPart 14 = .ok (.aload_n 0, 1) := by decide +kernel
theorem dX11_setRowPart_15 : decode cX11_setRowPart 15 = .ok (.getfield 31, 3) := by decide +kernel
theorem dX11_setRowPart_18 : decode cX11_setRowPart 18 = .ok (.arraylength, 1) := by decide +kernel
theorem dX11_setRowPart_19 : decode cX11_setRowPart 19 = .ok (.if_icmp .ge 11, 3) := by decide +kernel
theorem dX11_setRowPart_22 : decode cX11_setRowPart 22 = .ok (.aload_n 0, 1) := by decide +kernel
theorem dX11_setRowPart_23 : decode cX11_setRowPart 23 = .ok (.getfield 31, 3) := by decide +kernel
theorem dX11_setRowPart_26 : decode cX11_setRowPart 26 = .ok (.iload 4, 2) := by decide +kernel
theorem dX11_setRowPart_28 : decode cX11_setRowPart 28 = .ok (.iload_n 3, 1) := by decide +kernel
theorem dX11_setRowPart_29 : decode cX11_setRowPart 29 = .ok (.iastore, 1) := by decide +kernel
theorem dX11_setRowPart_30 : decode cX11_setRowPart 30 = .ok (.return_, 1) := by decide +kernel
theorem dX11_isRightRow_0 : decode cX11_isRightRow 0 = .ok (.aload_n 0, 1) := by decide +kernel
theorem dX11_isRightRow_1 : decode cX11_isRightRow 1 = .ok (.iload_n 1, 1) := by decide +kernel
theorem dX11_isRightRow_2 : decode cX11_isRightRow 2 = .ok (.iconst 1, 1) := by decide +kernel
theorem dX11_isRightRow_3 : decode cX11_isRightRow 3 = .ok (.invokevirtual 276, 3) := by decide +kernel
theorem dX11_isRightRow_6 : decode cX11_isRightRow 6 = .ok (.istore_n 3, 1) := by decide +kernel
theorem dX11_isRightRow_7 : decode cX11_isRightRow 7 = .ok (.iload_n 1, 1) := by decide +kernel
theorem dX11_isRightRow_8 : decode cX11_isRightRow 8 = .ok (.ifCond .ne 10, 3) := by decide +kernel
theorem dX11_isRightRow_11 : decode cX11_isRightRow 11 = .ok (.iload_n 3, 1) := by decide +kernel
theorem dX11_isRightRow_12 : decode cX11_isRightRow 12 = .ok (.invokestatic 154, 3) := by decide +kernel
theorem dX11_isRightRow_15 : decode cX11_isRightRow 15 = .ok (.goto 20, 3) := by decide +kernel
theorem dX11_isRightRow_18 : decode cX11_isRightRow 18 = .ok (.iload_n 3, 1) := by decide +kernel
theorem dX11_isRightRow_19 : decode cX11_isRightRow 19 = .ok (.aload_n 0, 1) := by decide +kernel
theorem dX11_isRightRow_20 : decode cX11_isRightRow 20 = .ok (.iload_n 1, 1) := by decide +kernel
theorem dX11_isRightRow_21 : decode cX11_isRightRow 21 = .ok (.iconst 1, 1) := by decide +kernel
theorem dX11_isRightRow_22 : decode cX11_isRightRow 22 = .ok (.isub, 1) := by decide +kernel
theorem dX11_isRightRow_23 : decode cX11_isRightRow 23 = .ok (.iconst 2, 1) := by decide +kernel
theorem dX11_isRightRow_24 : decode cX11_isRightRow 24 = .ok (.invokevirtual 276, 3) := by decide +kernel
theorem dX11_isRightRow_27 : decode cX11_isRightRow 27 = .ok (.if_icmp .ne 7, 3) := by decide +kernel
theorem dX11_isRightRow_30 : decode cX11_isRightRow 30 = .ok (.iconst 1, 1) := by decide +kernel
theorem dX11_isRightRow_31 : decode cX11_isRightRow 31 = .ok (.goto 4, 3) := by decide +kernel
theorem dX11_isRightRow_34 : decode cX11_isRightRow 34 = .ok (.iconst 0, 1) := by decide +kernel
theorem dX11_isRightRow_35 : decode cX11_isRightRow 35 = .ok (.istore 4, 2) := by decide +kernel
theorem dX11_isRightRow_37 : decode cX11_isRightRow 37 = .ok (.aload_n 2, 1) := by decide +kernel
theorem dX11_isRightRow_38 : decode cX11_isRightRow 38 = .ok (.iload_n 3, 1) := by decide +kernel
theorem dX11_isRightRow_39 : decode cX11_isRightRow 39 = .ok (.invokevirtual 173, 3) := by decide +kernel
theorem dX11_isRightRow_42 : decode cX11_isRightRow 42 = .ok (.istore 5, 2) := by decide +kernel
theorem dX11_isRightRow_44 : decode cX11_isRightRow 44 = .ok (.aload_n 0, 1) := by decide +kernel
theorem dX11_isRightRow_45 : decode cX11_isRightRow 45 = .ok (.iload_n 1, 1) := by decide +kernel
theorem dX11_isRightRow_46 : decode cX11_isRightRow 46 = .ok (.iconst 0, 1) := by decide +kernel
theorem dX11_isRightRow_47 : decode cX11_isRightRow 47 = .ok (.invokevirtual 276, 3) := by decide +kernel
theorem dX11_isRightRow_50 : decode cX11_isRightRow 50 = .ok (.iload_n 1, 1) := by decide +kernel
theorem dX11_isRightRow_51 : decode cX11_isRightRow 51 = .ok (.iconst 1, 1) := by decide +kernel
theorem dX11_isRightRow_52 : decode cX11_isRightRow 52 = .ok (.iadd, 1) := by decide +kernel
theorem dX11_isRightRow_53 : decode cX11_isRightRow 53 = .ok (.if_icmp .ne 28, 3) := by decide +kernel
theorem dX11_isRightRow_56 : decode cX11_isRightRow 56 = .ok (.iload 4, 2) := by decide +kernel
theorem dX11_isRightRow_58 : decode cX11_isRightRow 58 = .ok (.ifCond .eq 23, 3) := by decide +kernel
theorem dX11_isRightRow_61 : decode cX11_isRightRow 61 = .ok (.iload 5, 2) := by decide +kernel
theorem dX11_isRightRow_63 : decode cX11_isRightRow 63 = .ok (.ifCond .lt 18, 3) := by decide +kernel
theorem dX11_isRightRow_66 : decode cX11_isRightRow 66 = .ok (.iload 5, 2) := by decide +kernel
theorem dX11_isRightRow_68 : decode cX11_isRightRow 68 = .ok (.aload_n 0, 1) := by decide +kernel
theorem dX11_isRightRow_69 : decode cX11_isRightRow 69 = .ok (.iload_n 1, 1) := by decide +kernel
theorem dX11_isRightRow_70 : decode cX11_isRightRow 70 = .ok (.iconst 2, 1) := by decide +kernel
theorem dX11_isRightRow_71 : decode cX11_isRightRow 71 = .ok (.invokevirtual 276, 3) := by decide +kernel
theorem dX11_isRightRow_74 : decode cX11_isRightRow 74 = .ok (.if_icmp .ne 7, 3) := by decide +kernel
theorem dX11_isRightRow_77 : decode cX11_isRightRow 77 = .ok (.iconst 1, 1) := by decide +kernel
theorem dX11_isRightRow_78 : decode cX11_isRightRow 78 = .ok (.goto 4, 3) := by decide +kernel
theorem dX11_isRightRow_81 : decode cX11_isRightRow 81 = .ok (.iconst 0, 1) := by decide +kernel
theorem dX11_isRightRow_82 : decode cX11_isRightRow 82 = .ok (.ireturn, 1) := by decide +kernel
theorem dX11_made_0 : decode cX11_made 0 = .ok (.iload_n 0, 1) := by decide +kernel
theorem dX11_made_1 : decode cX11_made 1 = .ok (.tableswitch 85 2 5 #[31, 45, 58, 72], 31) := by decide +kernel
theorem dX11_made_32 : decode cX11_made 32 = .ok (.new 375, 3) := by decide +kernel
theorem dX11_made_35 : decode cX11_made 35 = .ok (.dup, 1) := by decide +kernel
theorem dX11_made_36 : decode cX11_made 36 = .ok (.iconst 2, 1) := by decide +kernel
theorem dX11_made_37 : decode cX11_made 37 = .ok (.iload_n 1, 1) := by decide +kernel
theorem dX11_made_38 : decode cX11_made 38 = .ok (.iload_n 2, 1) := by decide +kernel
theorem dX11_made_39 : decode cX11_made 39 = .ok (.iload_n 3, 1) := by decide +kernel
theorem dX11_made_40 : decode cX11_made 40 = .ok (.iload 4, 2) := by decide +kernel
theorem dX11_made_42 : decode cX11_made 42 = .ok (.invokespecial 377, 3) := by decide +kernel
theorem dX11_made_45 : decode cX11_made 45 = .ok (.areturn, 1) := by decide +kernel
theorem dX11_made_46 : decode cX11_made 46 = .ok (.new 380, 3) := by decide +kernel
theorem dX11_made_49 : decode cX11_made 49 = .ok (.dup, 1) := by decide +kernel
theorem dX11_made_50 : decode cX11_made 50 = .ok (.iload_n 1, 1) := by decide +kernel
theorem dX11_made_51 : decode cX11_made 51 = .ok (.iload_n 2, 1) := by decide +kernel
theorem dX11_made_52 : decode cX11_made 52 = .ok (.iload_n 3, 1) := by decide +kernel
theorem dX11_made_53 : decode cX11_made 53 = .ok (.iload 4, 2) := by decide +kernel
theorem dX11_made_55 : decode cX11_made 55 = .ok (.invokespecial 382, 3) := by decide +kernel
theorem dX11_made_58 : decode cX11_made 58 = .ok (.areturn, 1) := by decide +kernel
theorem dX11_made_59 : decode cX11_made 59 = .ok (.new 385, 3) := by decide +kernel
theorem dX11_made_62 : decode cX11_made 62 = .ok (.dup, 1) := by decide +kernel
theorem dX11_made_63 : decode cX11_made 63 = .ok (.iconst 4, 1) := by decide +kernel
theorem dX11_made_64 : decode cX11_made 64 = .ok (.iload_n 1, 1) := by decide +kernel
theorem dX11_made_65 : decode cX11_made 65 = .ok (.iload_n 2, 1) := by decide +kernel
theorem dX11_made_66 : decode cX11_made 66 = .ok (.iload_n 3, 1) := by decide +kernel
theorem dX11_made_67 : decode cX11_made 67 = .ok (.iload 4, 2) := by decide +kernel
theorem dX11_made_69 : decode cX11_made 69 = .ok (.invokespecial 387, 3) := by decide +kernel
theorem dX11_made_72 : decode cX11_made 72 = .ok (.areturn, 1) := by decide +kernel
theorem dX11_made_73 : decode cX11_made 73 = .ok (.new 388, 3) := by decide +kernel
theorem dX11_made_76 : decode cX11_made 76 = .ok (.dup, 1) := by decide +kernel
theorem dX11_made_77 : decode cX11_made 77 = .ok (.iload_n 1, 1) := by decide +kernel
theorem dX11_made_78 : decode cX11_made 78 = .ok (.iload_n 2, 1) := by decide +kernel
theorem dX11_made_79 : decode cX11_made 79 = .ok (.iload_n 3, 1) := by decide +kernel
theorem dX11_made_80 : decode cX11_made 80 = .ok (.iload 4, 2) := by decide +kernel
theorem dX11_made_82 : decode cX11_made 82 = .ok (.invokespecial 390, 3) := by decide +kernel
theorem dX11_made_85 : decode cX11_made 85 = .ok (.areturn, 1) := by decide +kernel
theorem dX11_made_86 : decode cX11_made 86 = .ok (.new 391, 3) := by decide +kernel
theorem dX11_made_89 : decode cX11_made 89 = .ok (.dup, 1) := by decide +kernel
theorem dX11_made_90 : decode cX11_made 90 = .ok (.iload_n 1, 1) := by decide +kernel
theorem dX11_made_91 : decode cX11_made 91 = .ok (.iload_n 2, 1) := by decide +kernel
theorem dX11_made_92 : decode cX11_made 92 = .ok (.iload_n 3, 1) := by decide +kernel
theorem dX11_made_93 : decode cX11_made 93 = .ok (.iload 4, 2) := by decide +kernel
theorem dX11_made_95 : decode cX11_made 95 = .ok (.invokespecial 393, 3) := by decide +kernel
theorem dX11_made_98 : decode cX11_made 98 = .ok (.areturn, 1) := by decide +kernel
theorem dX12_init_0 : decode cX12_init 0 = .ok (.aload_n 0, 1) := by decide +kernel
theorem dX12_init_1 : decode cX12_init 1 = .ok (.invokespecial 1, 3) := by decide +kernel
theorem dX12_init_4 : decode cX12_init 4 = .ok (.aload_n 0, 1) := by decide +kernel
theorem dX12_init_5 : decode cX12_init 5 = .ok (.sipush 303, 3) := by decide +kernel
theorem dX12_init_8 : decode cX12_init 8 = .ok (.newarray .int, 2) := by decide +kernel
theorem dX12_init_10 : decode cX12_init 10 = .ok (.putfield 7, 3) := by decide +kernel
theorem dX12_init_13 : decode cX12_init 13 = .ok (.aload_n 0, 1) := by decide +kernel
theorem dX12_init_14 : decode cX12_init 14 = .ok (.sipush 303, 3) := by decide +kernel
theorem dX12_init_17 : decode cX12_init 17 = .ok (.newarray .int, 2) := by decide +kernel
theorem dX12_init_19 : decode cX12_init 19 = .ok (.putfield 13, 3) := by decide +kernel
theorem dX12_init_22 : decode cX12_init 22 = .ok (.aload_n 0, 1) := by decide +kernel
theorem dX12_init_23 : decode cX12_init 23 = .ok (.sipush 303, 3) := by decide +kernel
theorem dX12_init_26 : decode cX12_init 26 = .ok (.newarray .int, 2) := by decide +kernel
theorem dX12_init_28 : decode cX12_init 28 = .ok (.putfield 16, 3) := by decide +kernel
theorem dX12_init_31 : decode cX12_init 31 = .ok (.aload_n 0, 1) := by decide +kernel
theorem dX12_init_32 : decode cX12_init 32 = .ok (.sipush 200, 3) := by decide +kernel
theorem dX12_init_35 : decode cX12_init 35 = .ok (.newarray .int, 2) := by decide +kernel
theorem dX12_init_37 : decode cX12_init 37 = .ok (.putfield 19, 3) := by decide +kernel
theorem dX12_init_40 : decode cX12_init 40 = .ok (.aload_n 0, 1) := by decide +kernel
theorem dX12_init_41 : decode cX12_init 41 = .ok (.sipush 200, 3) := by decide +kernel
theorem dX12_init_44 : decode cX12_init 44 = .ok (.newarray .int, 2) := by decide +kernel
theorem dX12_init_46 : decode cX12_init 46 = .ok (.putfield 22, 3) := by decide +kernel
theorem dX12_init_49 : decode cX12_init 49 = .ok (.aload_n 0, 1) := by decide +kernel
theorem dX12_init_50 : decode cX12_init 50 = .ok (.sipush 200, 3) := by decide +kernel
theorem dX12_init_53 : decode cX12_init 53 = .ok (.newarray .int, 2) := by decide +kernel
theorem dX12_init_55 : decode cX12_init 55 = .ok (.putfield 25, 3) := by decide +kernel
theorem dX12_init_58 : decode cX12_init 58 = .ok (.aload_n 0, 1) := by decide +kernel
theorem dX12_init_59 : decode cX12_init 59 = .ok (.sipush 512, 3) := by decide +kernel
theorem dX12_init_62 : decode cX12_init 62 = .ok (.newarray .int, 2) := by decide +kernel
theorem dX12_init_64 : decode cX12_init 64 = .ok (.putfield 28, 3) := by decide +kernel
theorem dX12_init_67 : decode cX12_init 67 = .ok (.aload_n 0, 1) := by decide +kernel
theorem dX12_init_68 : decode cX12_init 68 = .ok (.bipush 32, 2) := by decide +kernel
theorem dX12_init_70 : decode cX12_init 70 = .ok (.newarray .int, 2) := by decide +kernel
theorem dX12_init_72 : decode cX12_init 72 = .ok (.putfield 31, 3) := by decide +kernel
theorem dX12_init_75 : decode cX12_init 75 = .ok (.aload_n 0, 1) := by decide +kernel
theorem dX12_init_76 : decode cX12_init 76 = .ok (.bipush 32, 2) := by decide +kernel
theorem dX12_init_78 : decode cX12_init 78 = .ok (.newarray .long, 2) := by decide +kernel
theorem dX12_init_80 : decode cX12_init 80 = .ok (.putfield 34, 3) := by decide +kernel
theorem dX12_init_83 : decode cX12_init 83 = .ok (.aload_n 0, 1) := by decide +kernel
theorem dX12_init_84 : decode cX12_init 84 = .ok (.bipush 60, 2) := by decide +kernel
theorem dX12_init_86 : decode cX12_init 86 = .ok (.newarray .int, 2) := by decide +kernel
theorem dX12_init_88 : decode cX12_init 88 = .ok (.putfield 38, 3) := by decide +kernel
theorem dX12_init_91 : decode cX12_init 91 = .ok (.aload_n 0, 1) := by decide +kernel
theorem dX12_init_92 : decode cX12_init 92 = .ok (.sipush 200, 3) := by decide +kernel
theorem dX12_init_95 : decode cX12_init 95 = .ok (.newarray .int, 2) := by decide +kernel
theorem dX12_init_97 : decode cX12_init 97 = .ok (.putfield 41, 3) := by decide +kernel
theorem dX12_init_100 : decode cX12_init 100 = .ok (.aload_n 0, 1) := by decide +kernel
theorem dX12_init_101 : decode cX12_init 101 = .ok (.iconst 4, 1) := by decide +kernel
theorem dX12_init_102 : decode cX12_init 102 = .ok (.newarray .int, 2) := by decide +kernel
theorem dX12_init_104 : decode cX12_init 104 = .ok (.putfield 44, 3) := by decide +kernel
theorem dX12_init_107 : decode cX12_init 107 = .ok (.aload_n 0, 1) := by decide +kernel
theorem dX12_init_108 : decode cX12_init 108 = .ok (.iconst 4, 1) := by decide +kernel
theorem dX12_init_109 : decode cX12_init 109 = .ok (.newarray .int, 2) := by decide +kernel
theorem dX12_init_111 : decode cX12_init 111 = .ok (.putfield 47, 3) := by decide +kernel
theorem dX12_init_114 : decode cX12_init 114 = .ok (.aload_n 0, 1) := by decide +kernel
theorem dX12_init_115 : decode cX12_init 115 = .ok (.sipush 160, 3) := by decide +kernel
theorem dX12_init_118 : decode cX12_init 118 = .ok (.newarray .int, 2) := by decide +kernel
theorem dX12_init_120 : decode cX12_init 120 = .ok (.putfield 50, 3) := by decide +kernel
theorem dX12_init_123 : decode cX12_init 123 = .ok (.aload_n 0, 1) := by decide +kernel
theorem dX12_init_124 : decode cX12_init 124 = .ok (.iconst 4, 1) := by decide +kernel
theorem dX12_init_125 : decode cX12_init 125 = .ok (.newarray .int, 2) := by decide +kernel
theorem dX12_init_127 : decode cX12_init 127 = .ok (.putfield 53, 3) := by decide +kernel
theorem dX12_init_130 : decode cX12_init 130 = .ok (.aload_n 0, 1) := by decide +kernel
theorem dX12_init_131 : decode cX12_init 131 = .ok (.iconst 4, 1) := by decide +kernel
theorem dX12_init_132 : decode cX12_init 132 = .ok (.newarray .int, 2) := by decide +kernel
theorem dX12_init_134 : decode cX12_init 134 = .ok (.putfield 56, 3) := by decide +kernel
theorem dX12_init_137 : decode cX12_init 137 = .ok (.aload_n 0, 1) := by decide +kernel
theorem dX12_init_138 : decode cX12_init 138 = .ok (.iconst 4, 1) := by decide +kernel
theorem dX12_init_139 : decode cX12_init 139 = .ok (.newarray .int, 2) := by decide +kernel
theorem dX12_init_141 : decode cX12_init 141 = .ok (.putfield 59, 3) := by decide +kernel
theorem dX12_init_144 : decode cX12_init 144 = .ok (.aload_n 0, 1) := by decide +kernel
theorem dX12_init_145 : decode cX12_init 145 = .ok (.bipush 30, 2) := by decide +kernel
theorem dX12_init_147 : decode cX12_init 147 = .ok (.newarray .int, 2) := by decide +kernel
theorem dX12_init_149 : decode cX12_init 149 = .ok (.putfield 62, 3) := by decide +kernel
theorem dX12_init_152 : decode cX12_init 152 = .ok (.iconst 0, 1) := by decide +kernel
theorem dX12_init_153 : decode cX12_init 153 = .ok (.istore_n 1, 1) := by decide +kernel
theorem dX12_init_154 : decode cX12_init 154 = .ok (.iload_n 1, 1) := by decide +kernel
theorem dX12_init_155 : decode cX12_init 155 = .ok (.iconst 4, 1) := by decide +kernel
theorem dX12_init_156 : decode cX12_init 156 = .ok (.if_icmp .ge 16, 3) := by decide +kernel
theorem dX12_init_159 : decode cX12_init 159 = .ok (.aload_n 0, 1) := by decide +kernel
theorem dX12_init_160 : decode cX12_init 160 = .ok (.getfield 44, 3) := by decide +kernel
theorem dX12_init_163 : decode cX12_init 163 = .ok (.iload_n 1, 1) := by decide +kernel
theorem dX12_init_164 : decode cX12_init 164 = .ok (.iconst (-1), 1) := by decide +kernel
theorem dX12_init_165 : decode cX12_init 165 = .ok (.iastore, 1) := by decide +kernel
theorem dX12_init_166 : decode cX12_init 166 = .ok (.iinc 1 1, 3) := by decide +kernel
theorem dX12_init_169 : decode cX12_init 169 = .ok (.goto (-15), 3) := by decide +kernel
theorem dX12_init_172 : decode cX12_init 172 = .ok (.return_, 1) := by decide +kernel
theorem dX12_in_0 : decode cX12_in 0 = .ok (.lload_n 0, 1) := by decide +kernel
theorem dX12_in_1 : decode cX12_in 1 = .ok (.lload_n 2, 1) := by decide +kernel
theorem dX12_in_2 : decode cX12_in 2 = .ok (.lcmp, 1) := by decide +kernel
theorem dX12_in_3 : decode cX12_in 3 = .ok (.ifCond .lt 14, 3) := by decide +kernel
theorem dX12_in_6 : decode cX12_in 6 = .ok (.lload_n 0, 1) := by decide +kernel
theorem dX12_in_7 : decode cX12_in 7 = .ok (.lload 4, 2) := by decide +kernel
theorem dX12_in_9 : decode cX12_in 9 = .ok (.lcmp, 1) := by decide +kernel
theorem dX12_in_10 : decode cX12_in 10 = .ok (.ifCond .gt 7, 3) := by decide +kernel
theorem dX12_in_13 : decode cX12_in 13 = .ok (.iconst 1, 1) := by decide +kernel
theorem dX12_in_14 : decode cX12_in 14 = .ok (.goto 4, 3) := by decide +kernel
theorem dX12_in_17 : decode cX12_in 17 = .ok (.iconst 0, 1) := by decide +kernel
theorem dX12_in_18 : decode cX12_in 18 = .ok (.ireturn, 1) := by decide +kernel
theorem dX12_isPurse_0 : decode cX12_isPurse 0 = .ok (.lload_n 0, 1) := by decide +kernel
theorem dX12_isPurse_1 : decode cX12_isPurse 1 = .ok (.lconst 0, 1) := by decide +kernel
theorem dX12_isPurse_2 : decode cX12_isPurse 2 = .ok (.ldc2_w 65, 3) := by decide +kernel
theorem dX12_isPurse_5 : decode cX12_isPurse 5 = .ok (.invokestatic 67, 3) := by decide +kernel
theorem dX12_isPurse_8 : decode cX12_isPurse 8 = .ok (.ireturn, 1) := by decide +kernel
theorem dX12_isBridge_0 : decode cX12_isBridge 0 = .ok (.iload_n 1, 1) := by decide +kernel
theorem dX12_isBridge_1 : decode cX12_isBridge 1 = .ok (.i2l, 1) := by decide +kernel
theorem dX12_isBridge_2 : decode cX12_isBridge 2 = .ok (.lconst 0, 1) := by decide +kernel
theorem dX12_isBridge_3 : decode cX12_isBridge 3 = .ok (.aload_n 0, 1) := by decide +kernel
theorem dX12_isBridge_4 : decode cX12_isBridge 4 = .ok (.getfield 7, 3) := by decide +kernel
theorem dX12_isBridge_7 : decode cX12_isBridge 7 = .ok (.iconst 0, 1) := by decide +kernel
theorem dX12_isBridge_8 : decode cX12_isBridge 8 = .ok (.iaload, 1) := by decide +kernel
theorem dX12_isBridge_9 : decode cX12_isBridge 9 = .ok (.iconst 1, 1) := by decide +kernel
theorem dX12_isBridge_10 : decode cX12_isBridge 10 = .ok (.isub, 1) := by decide +kernel
theorem dX12_isBridge_11 : decode cX12_isBridge 11 = .ok (.i2l, 1) := by decide +kernel
theorem dX12_isBridge_12 : decode cX12_isBridge 12 = .ok (.invokestatic 67, 3) := by decide +kernel
theorem dX12_isBridge_15 : decode cX12_isBridge 15 = .ok (.ireturn, 1) := by decide +kernel
theorem dX12_isPerson_0 : decode cX12_isPerson 0 = .ok (.iload_n 1, 1) := by decide +kernel
theorem dX12_isPerson_1 : decode cX12_isPerson 1 = .ok (.i2l, 1) := by decide +kernel
theorem dX12_isPerson_2 : decode cX12_isPerson 2 = .ok (.lconst 0, 1) := by decide +kernel
theorem dX12_isPerson_3 : decode cX12_isPerson 3 = .ok (.aload_n 0, 1) := by decide +kernel
theorem dX12_isPerson_4 : decode cX12_isPerson 4 = .ok (.getfield 7, 3) := by decide +kernel
theorem dX12_isPerson_7 : decode cX12_isPerson 7 = .ok (.iconst 1, 1) := by decide +kernel
theorem dX12_isPerson_8 : decode cX12_isPerson 8 = .ok (.iaload, 1) := by decide +kernel
theorem dX12_isPerson_9 : decode cX12_isPerson 9 = .ok (.iconst 1, 1) := by decide +kernel
theorem dX12_isPerson_10 : decode cX12_isPerson 10 = .ok (.isub, 1) := by decide +kernel
theorem dX12_isPerson_11 : decode cX12_isPerson 11 = .ok (.i2l, 1) := by decide +kernel
theorem dX12_isPerson_12 : decode cX12_isPerson 12 = .ok (.invokestatic 67, 3) := by decide +kernel
theorem dX12_isPerson_15 : decode cX12_isPerson 15 = .ok (.ireturn, 1) := by decide +kernel
theorem dX12_has_0 : decode cX12_has 0 = .ok (.iload_n 0, 1) := by decide +kernel
theorem dX12_has_1 : decode cX12_has 1 = .ok (.iload_n 1, 1) := by decide +kernel
theorem dX12_has_2 : decode cX12_has 2 = .ok (.ishr, 1) := by decide +kernel
theorem dX12_has_3 : decode cX12_has 3 = .ok (.iconst 1, 1) := by decide +kernel
theorem dX12_has_4 : decode cX12_has 4 = .ok (.iand, 1) := by decide +kernel
theorem dX12_has_5 : decode cX12_has 5 = .ok (.iconst 1, 1) := by decide +kernel
theorem dX12_has_6 : decode cX12_has 6 = .ok (.if_icmp .ne 7, 3) := by decide +kernel
theorem dX12_has_9 : decode cX12_has 9 = .ok (.iconst 1, 1) := by decide +kernel
theorem dX12_has_10 : decode cX12_has 10 = .ok (.goto 4, 3) := by decide +kernel
theorem dX12_has_13 : decode cX12_has 13 = .ok (.iconst 0, 1) := by decide +kernel
theorem dX12_has_14 : decode cX12_has 14 = .ok (.ireturn, 1) := by decide +kernel
theorem dX12_puts_0 : decode cX12_puts 0 = .ok (.iconst 0, 1) := by decide +kernel
theorem dX12_puts_1 : decode cX12_puts 1 = .ok (.istore_n 1, 1) := by decide +kernel
theorem dX12_puts_2 : decode cX12_puts 2 = .ok (.iload_n 1, 1) := by decide +kernel
theorem dX12_puts_3 : decode cX12_puts 3 = .ok (.sipush 303, 3) := by decide +kernel
theorem dX12_puts_6 : decode cX12_puts 6 = .ok (.if_icmp .ge 21, 3) := by decide +kernel
theorem dX12_puts_9 : decode cX12_puts 9 = .ok (.aload_n 0, 1) := by decide +kernel
theorem dX12_puts_10 : decode cX12_puts 10 = .ok (.getfield 16, 3) := by decide +kernel
theorem dX12_puts_13 : decode cX12_puts 13 = .ok (.iload_n 1, 1) := by decide +kernel
theorem dX12_puts_14 : decode cX12_puts 14 = .ok (.aload_n 0, 1) := by decide +kernel
theorem dX12_puts_15 : decode cX12_puts 15 = .ok (.getfield 7, 3) := by decide +kernel
theorem dX12_puts_18 : decode cX12_puts 18 = .ok (.iload_n 1, 1) := by decide +kernel
theorem dX12_puts_19 : decode cX12_puts 19 = .ok (.iaload, 1) := by decide +kernel
theorem dX12_puts_20 : decode cX12_puts 20 = .ok (.iastore, 1) := by decide +kernel
theorem dX12_puts_21 : decode cX12_puts 21 = .ok (.iinc 1 1, 3) := by decide +kernel
theorem dX12_puts_24 : decode cX12_puts 24 = .ok (.goto (-22), 3) := by decide +kernel
theorem dX12_puts_27 : decode cX12_puts 27 = .ok (.return_, 1) := by decide +kernel
theorem dX12_putsBack_0 : decode cX12_putsBack 0 = .ok (.iconst 0, 1) := by decide +kernel
theorem dX12_putsBack_1 : decode cX12_putsBack 1 = .ok (.istore_n 1, 1) := by decide +kernel
theorem dX12_putsBack_2 : decode cX12_putsBack 2 = .ok (.iload_n 1, 1) := by decide +kernel
theorem dX12_putsBack_3 : decode cX12_putsBack 3 = .ok (.sipush 303, 3) := by decide +kernel
theorem dX12_putsBack_6 : decode cX12_putsBack 6 = .ok (.if_icmp .ge 21, 3) := by decide +kernel
theorem dX12_putsBack_9 : decode cX12_putsBack 9 = .ok (.aload_n 0, 1) := by decide +kernel
theorem dX12_putsBack_10 : decode cX12_putsBack 10 = .ok (.getfield 7, 3) := by decide +kernel
theorem dX12_putsBack_13 : decode cX12_putsBack 13 = .ok (.iload_n 1, 1) := by decide +kernel
theorem dX12_putsBack_14 : decode cX12_putsBack 14 = .ok (.aload_n 0, 1) := by decide +kernel
theorem dX12_putsBack_15 : decode cX12_putsBack 15 = .ok (.getfield 16, 3) := by decide +kernel
theorem dX12_putsBack_18 : decode cX12_putsBack 18 = .ok (.iload_n 1, 1) := by decide +kernel
theorem dX12_putsBack_19 : decode cX12_putsBack 19 = .ok (.iaload, 1) := by decide +kernel
theorem dX12_putsBack_20 : decode cX12_putsBack 20 = .ok (.iastore, 1) := by decide +kernel
theorem dX12_putsBack_21 : decode cX12_putsBack 21 = .ok (.iinc 1 1, 3) := by decide +kernel
theorem dX12_putsBack_24 : decode cX12_putsBack 24 = .ok (.goto (-22), 3) := by decide +kernel
theorem dX12_putsBack_27 : decode cX12_putsBack 27 = .ok (.return_, 1) := by decide +kernel
theorem dX12_at_0 : decode cX12_at 0 = .ok (.iconst 5, 1) := by decide +kernel
theorem dX12_at_1 : decode cX12_at 1 = .ok (.iconst 4, 1) := by decide +kernel
theorem dX12_at_2 : decode cX12_at 2 = .ok (.iload_n 0, 1) := by decide +kernel
theorem dX12_at_3 : decode cX12_at 3 = .ok (.imul, 1) := by decide +kernel
theorem dX12_at_4 : decode cX12_at 4 = .ok (.iadd, 1) := by decide +kernel
theorem dX12_at_5 : decode cX12_at 5 = .ok (.iload_n 1, 1) := by decide +kernel
theorem dX12_at_6 : decode cX12_at 6 = .ok (.iadd, 1) := by decide +kernel
theorem dX12_at_7 : decode cX12_at 7 = .ok (.ireturn, 1) := by decide +kernel
theorem dX12_its_0 : decode cX12_its 0 = .ok (.aload_n 0, 1) := by decide +kernel
theorem dX12_its_1 : decode cX12_its 1 = .ok (.getfield 7, 3) := by decide +kernel
theorem dX12_its_4 : decode cX12_its 4 = .ok (.iload_n 1, 1) := by decide +kernel
theorem dX12_its_5 : decode cX12_its 5 = .ok (.iload_n 2, 1) := by decide +kernel
theorem dX12_its_6 : decode cX12_its 6 = .ok (.invokestatic 71, 3) := by decide +kernel
theorem dX12_its_9 : decode cX12_its 9 = .ok (.iaload, 1) := by decide +kernel
theorem dX12_its_10 : decode cX12_its 10 = .ok (.ireturn, 1) := by decide +kernel
theorem dX12_isPart_0 : decode cX12_isPart 0 = .ok (.iload_n 0, 1) := by decide +kernel
theorem dX12_isPart_1 : decode cX12_isPart 1 = .ok (.lookupswitch 47 #[(1, 27), (2, 37)], 27) := by decide +kernel
theorem dX12_isPart_28 : decode cX12_isPart 28 = .ok (.iload_n 1, 1) := by decide +kernel
theorem dX12_isPart_29 : decode cX12_isPart 29 = .ok (.i2l, 1) := by decide +kernel
theorem dX12_isPart_30 : decode cX12_isPart 30 = .ok (.lconst 1, 1) := by decide +kernel
theorem dX12_isPart_31 : decode cX12_isPart 31 = .ok (.ldc2_w 75, 3) := by decide +kernel
theorem dX12_isPart_34 : decode cX12_isPart 34 = .ok (.invokestatic 67, 3) := by decide +kernel
theorem dX12_isPart_37 : decode cX12_isPart 37 = .ok (.ireturn, 1) := by decide +kernel
theorem dX12_isPart_38 : decode cX12_isPart 38 = .ok (.iload_n 1, 1) := by decide +kernel
theorem dX12_isPart_39 : decode cX12_isPart 39 = .ok (.i2l, 1) := by decide +kernel
theorem dX12_isPart_40 : decode cX12_isPart 40 = .ok (.lconst 0, 1) := by decide +kernel
theorem dX12_isPart_41 : decode cX12_isPart 41 = .ok (.ldc2_w 77, 3) := by decide +kernel
theorem dX12_isPart_44 : decode cX12_isPart 44 = .ok (.invokestatic 67, 3) := by decide +kernel
theorem dX12_isPart_47 : decode cX12_isPart 47 = .ok (.ireturn, 1) := by decide +kernel
theorem dX12_isPart_48 : decode cX12_isPart 48 = .ok (.iload_n 0, 1) := by decide +kernel
theorem dX12_isPart_49 : decode cX12_isPart 49 = .ok (.iconst 3, 1) := by decide +kernel
theorem dX12_isPart_50 : decode cX12_isPart 50 = .ok (.if_icmp .ne 19, 3) := by decide +kernel
theorem dX12_isPart_53 : decode cX12_isPart 53 = .ok (.iload_n 1, 1) := by decide +kernel
theorem dX12_isPart_54 : decode cX12_isPart 54 = .ok (.i2l, 1) := by decide +kernel
theorem dX12_isPart_55 : decode cX12_isPart 55 = .ok (.lconst 0, 1) := by decide +kernel
theorem dX12_isPart_56 : decode cX12_isPart 56 = .ok (.ldc2_w 79, 3) := by decide +kernel
theorem dX12_isPart_59 : decode cX12_isPart 59 = .ok (.invokestatic 67, 3) := by decide +kernel
theorem dX12_isPart_62 : decode cX12_isPart 62 = .ok (.ifCond .eq 7, 3) := by decide +kernel
theorem dX12_isPart_65 : decode cX12_isPart 65 = .ok (.iconst 1, 1) := by decide +kernel
theorem dX12_isPart_66 : decode cX12_isPart 66 = .ok (.goto 4, 3) := by decide +kernel
theorem dX12_isPart_69 : decode cX12_isPart 69 = .ok (.iconst 0, 1) := by decide +kernel
theorem dX12_isPart_70 : decode cX12_isPart 70 = .ok (.ireturn, 1) := by decide +kernel
theorem dX12_bridge_0 : decode cX12_bridge 0 = .ok (.iload_n 1, 1) := by decide +kernel
theorem dX12_bridge_1 : decode cX12_bridge 1 = .ok (.i2l, 1) := by decide +kernel
theorem dX12_bridge_2 : decode cX12_bridge 2 = .ok (.lconst 1, 1) := by decide +kernel
theorem dX12_bridge_3 : decode cX12_bridge 3 = .ok (.ldc2_w 81, 3) := by decide +kernel
theorem dX12_bridge_6 : decode cX12_bridge 6 = .ok (.invokestatic 67, 3) := by decide +kernel
theorem dX12_bridge_9 : decode cX12_bridge 9 = .ok (.ifCond .eq 28, 3) := by decide +kernel
theorem dX12_bridge_12 : decode cX12_bridge 12 = .ok (.iconst 1, 1) := by decide +kernel
theorem dX12_bridge_13 : decode cX12_bridge 13 = .ok (.iload_n 2, 1) := by decide +kernel
theorem dX12_bridge_14 : decode cX12_bridge 14 = .ok (.invokestatic 83, 3) := by decide +kernel
theorem dX12_bridge_17 : decode cX12_bridge 17 = .ok (.ifCond .eq 20, 3) := by decide +kernel
theorem dX12_bridge_20 : decode cX12_bridge 20 = .ok (.iconst 2, 1) := by decide +kernel
theorem dX12_bridge_21 : decode cX12_bridge 21 = .ok (.iload_n 3, 1) := by decide +kernel
theorem dX12_bridge_22 : decode cX12_bridge 22 = .ok (.invokestatic 83, 3) := by decide +kernel
theorem dX12_bridge_25 : decode cX12_bridge 25 = .ok (.ifCond .eq 12, 3) := by decide +kernel
theorem dX12_bridge_28 : decode cX12_bridge 28 = .ok (.iconst 3, 1) := by decide +kernel
theorem dX12_bridge_29 : decode cX12_bridge 29 = .ok (.iload 4, 2) := by decide +kernel
theorem dX12_bridge_31 : decode cX12_bridge 31 = .ok (.invokestatic 83, 3) := by decide +kernel
theorem dX12_bridge_34 : decode cX12_bridge 34 = .ok (.ifCond .ne 5, 3) := by decide +kernel
theorem dX12_bridge_37 : decode cX12_bridge 37 = .ok (.iconst (-1), 1) := by decide +kernel
theorem dX12_bridge_38 : decode cX12_bridge 38 = .ok (.ireturn, 1) := by decide +kernel
theorem dX12_bridge_39 : decode cX12_bridge 39 = .ok (.aload_n 0, 1) := by decide +kernel
theorem dX12_bridge_40 : decode cX12_bridge 40 = .ok (.getfield 7, 3) := by decide +kernel
theorem dX12_bridge_43 : decode cX12_bridge 43 = .ok (.iconst 0, 1) := by decide +kernel
theorem dX12_bridge_44 : decode cX12_bridge 44 = .ok (.iaload, 1) := by decide +kernel
theorem dX12_bridge_45 : decode cX12_bridge 45 = .ok (.bipush 9, 2) := by decide +kernel
theorem dX12_bridge_47 : decode cX12_bridge 47 = .ok (.if_icmp .ne 6, 3) := by decide +kernel
theorem dX12_bridge_50 : decode cX12_bridge 50 = .ok (.bipush (-2), 2) := by decide +kernel
theorem dX12_bridge_52 : decode cX12_bridge 52 = .ok (.ireturn, 1) := by decide +kernel
theorem dX12_bridge_53 : decode cX12_bridge 53 = .ok (.aload_n 0, 1) := by decide +kernel
theorem dX12_bridge_54 : decode cX12_bridge 54 = .ok (.getfield 7, 3) := by decide +kernel
theorem dX12_bridge_57 : decode cX12_bridge 57 = .ok (.iconst 0, 1) := by decide +kernel
theorem dX12_bridge_58 : decode cX12_bridge 58 = .ok (.iaload, 1) := by decide +kernel
theorem dX12_bridge_59 : decode cX12_bridge 59 = .ok (.istore 5, 2) := by decide +kernel
theorem dX12_bridge_61 : decode cX12_bridge 61 = .ok (.aload_n 0, 1) := by decide +kernel
theorem dX12_bridge_62 : decode cX12_bridge 62 = .ok (.getfield 7, 3) := by decide +kernel
theorem dX12_bridge_65 : decode cX12_bridge 65 = .ok (.iload 5, 2) := by decide +kernel
theorem dX12_bridge_67 : decode cX12_bridge 67 = .ok (.iconst 0, 1) := by decide +kernel
theorem dX12_bridge_68 : decode cX12_bridge 68 = .ok (.invokestatic 71, 3) := by decide +kernel
theorem dX12_bridge_71 : decode cX12_bridge 71 = .ok (.iload_n 1, 1) := by decide +kernel
theorem dX12_bridge_72 : decode cX12_bridge 72 = .ok (.iastore, 1) := by decide +kernel
theorem dX12_bridge_73 : decode cX12_bridge 73 = .ok (.aload_n 0, 1) := by decide +kernel
theorem dX12_bridge_74 : decode cX12_bridge 74 = .ok (.getfield 7, 3) := by decide +kernel
theorem dX12_bridge_77 : decode cX12_bridge 77 = .ok (.iload 5, 2) := by decide +kernel
theorem dX12_bridge_79 : decode cX12_bridge 79 = .ok (.iconst 1, 1) := by decide +kernel
theorem dX12_bridge_80 : decode cX12_bridge 80 = .ok (.invokestatic 71, 3) := by decide +kernel
theorem dX12_bridge_83 : decode cX12_bridge 83 = .ok (.iload_n 2, 1) := by decide +kernel
theorem dX12_bridge_84 : decode cX12_bridge 84 = .ok (.iastore, 1) := by decide +kernel
theorem dX12_bridge_85 : decode cX12_bridge 85 = .ok (.aload_n 0, 1) := by decide +kernel
theorem dX12_bridge_86 : decode cX12_bridge 86 = .ok (.getfield 7, 3) := by decide +kernel
theorem dX12_bridge_89 : decode cX12_bridge 89 = .ok (.iload 5, 2) := by decide +kernel
theorem dX12_bridge_91 : decode cX12_bridge 91 = .ok (.iconst 2, 1) := by decide +kernel
theorem dX12_bridge_92 : decode cX12_bridge 92 = .ok (.invokestatic 71, 3) := by decide +kernel
theorem dX12_bridge_95 : decode cX12_bridge 95 = .ok (.iload_n 3, 1) := by decide +kernel
theorem dX12_bridge_96 : decode cX12_bridge 96 = .ok (.iastore, 1) := by decide +kernel
theorem dX12_bridge_97 : decode cX12_bridge 97 = .ok (.aload_n 0, 1) := by decide +kernel
theorem dX12_bridge_98 : decode cX12_bridge 98 = .ok (.getfield 7, 3) := by decide +kernel
theorem dX12_bridge_101 : decode cX12_bridge 101 = .ok (.iload 5, 2) := by decide +kernel
theorem dX12_bridge_103 : decode cX12_bridge 103 = .ok (.iconst 3, 1) := by decide +kernel
theorem dX12_bridge_104 : decode cX12_bridge 104 = .ok (.invokestatic 71, 3) := by decide +kernel
theorem dX12_bridge_107 : decode cX12_bridge 107 = .ok (.iload 4, 2) := by decide +kernel
theorem dX12_bridge_109 : decode cX12_bridge 109 = .ok (.iastore, 1) := by decide +kernel
theorem dX12_bridge_110 : decode cX12_bridge 110 = .ok (.aload_n 0, 1) := by decide +kernel
theorem dX12_bridge_111 : decode cX12_bridge 111 = .ok (.getfield 7, 3) := by decide +kernel
theorem dX12_bridge_114 : decode cX12_bridge 114 = .ok (.iconst 0, 1) := by decide +kernel
theorem dX12_bridge_115 : decode cX12_bridge 115 = .ok (.dup2, 1) := by decide +kernel
theorem dX12_bridge_116 : decode cX12_bridge 116 = .ok (.iaload, 1) := by decide +kernel
theorem dX12_bridge_117 : decode cX12_bridge 117 = .ok (.iconst 1, 1) := by decide +kernel
theorem dX12_bridge_118 : decode cX12_bridge 118 = .ok (.iadd, 1) := by decide +kernel
theorem dX12_bridge_119 : decode cX12_bridge 119 = .ok (.iastore, 1) := by decide +kernel
theorem dX12_bridge_120 : decode cX12_bridge 120 = .ok (.iload 5, 2) := by decide +kernel
theorem dX12_bridge_122 : decode cX12_bridge 122 = .ok (.ireturn, 1) := by decide +kernel
theorem dX12_isUnder_0 : decode cX12_isUnder 0 = .ok (.iload_n 1, 1) := by decide +kernel
theorem dX12_isUnder_1 : decode cX12_isUnder 1 = .ok (.ifCond .eq 28, 3) := by decide +kernel
theorem dX12_isUnder_4 : decode cX12_isUnder 4 = .ok (.iload_n 0, 1) := by decide +kernel
theorem dX12_isUnder_5 : decode cX12_isUnder 5 = .ok (.iload_n 1, 1) := by decide +kernel
theorem dX12_isUnder_6 : decode cX12_isUnder 6 = .ok (.if_icmp .eq 23, 3) := by decide +kernel
theorem dX12_isUnder_9 : decode cX12_isUnder 9 = .ok (.iload_n 1, 1) := by decide +kernel
theorem dX12_isUnder_10 : decode cX12_isUnder 10 = .ok (.iconst 2, 1) := by decide +kernel
theorem dX12_isUnder_11 : decode cX12_isUnder 11 = .ok (.if_icmp .ne 8, 3) := by decide +kernel
theorem dX12_isUnder_14 : decode cX12_isUnder 14 = .ok (.iload_n 0, 1) := by decide +kernel
theorem dX12_isUnder_15 : decode cX12_isUnder 15 = .ok (.iconst 3, 1) := by decide +kernel
theorem dX12_isUnder_16 : decode cX12_isUnder 16 = .ok (.if_icmp .eq 13, 3) := by decide +kernel
theorem dX12_isUnder_19 : decode cX12_isUnder 19 = .ok (.iload_n 1, 1) := by decide +kernel
theorem dX12_isUnder_20 : decode cX12_isUnder 20 = .ok (.iconst 4, 1) := by decide +kernel
theorem dX12_isUnder_21 : decode cX12_isUnder 21 = .ok (.if_icmp .ne 12, 3) := by decide +kernel
theorem dX12_isUnder_24 : decode cX12_isUnder 24 = .ok (.iload_n 0, 1) := by decide +kernel
theorem dX12_isUnder_25 : decode cX12_isUnder 25 = .ok (.iconst 5, 1) := by decide +kernel
theorem dX12_isUnder_26 : decode cX12_isUnder 26 = .ok (.if_icmp .ne 7, 3) := by decide +kernel
theorem dX12_isUnder_29 : decode cX12_isUnder 29 = .ok (.iconst 1, 1) := by decide +kernel
theorem dX12_isUnder_30 : decode cX12_isUnder 30 = .ok (.goto 4, 3) := by decide +kernel
theorem dX12_isUnder_33 : decode cX12_isUnder 33 = .ok (.iconst 0, 1) := by decide +kernel
theorem dX12_isUnder_34 : decode cX12_isUnder 34 = .ok (.ireturn, 1) := by decide +kernel
theorem dX12_fact_0 : decode cX12_fact 0 = .ok (.iload_n 1, 1) := by decide +kernel
theorem dX12_fact_1 : decode cX12_fact 1 = .ok (.tableswitch 65 (-5) (-1) #[63, 56, 49, 42, 35], 35) := by decide +kernel
theorem dX12_fact_36 : decode cX12_fact 36 = .ok (.aload_n 0, 1) := by decide +kernel
theorem dX12_fact_37 : decode cX12_fact 37 = .ok (.getfield 7, 3) := by decide +kernel
theorem dX12_fact_40 : decode cX12_fact 40 = .ok (.iconst 3, 1) := by decide +kernel
theorem dX12_fact_41 : decode cX12_fact 41 = .ok (.iaload, 1) := by decide +kernel
theorem dX12_fact_42 : decode cX12_fact 42 = .ok (.ireturn, 1) := by decide +kernel
theorem dX12_fact_43 : decode cX12_fact 43 = .ok (.aload_n 0, 1) := by decide +kernel
theorem dX12_fact_44 : decode cX12_fact 44 = .ok (.iload_n 2, 1) := by decide +kernel
theorem dX12_fact_45 : decode cX12_fact 45 = .ok (.iconst 1, 1) := by decide +kernel
theorem dX12_fact_46 : decode cX12_fact 46 = .ok (.invokevirtual 87, 3) := by decide +kernel
theorem dX12_fact_49 : decode cX12_fact 49 = .ok (.ireturn, 1) := by decide +kernel
theorem dX12_fact_50 : decode cX12_fact 50 = .ok (.aload_n 0, 1) := by decide +kernel
theorem dX12_fact_51 : decode cX12_fact 51 = .ok (.iload_n 2, 1) := by decide +kernel
theorem dX12_fact_52 : decode cX12_fact 52 = .ok (.iconst 2, 1) := by decide +kernel
theorem dX12_fact_53 : decode cX12_fact 53 = .ok (.invokevirtual 87, 3) := by decide +kernel
theorem dX12_fact_56 : decode cX12_fact 56 = .ok (.ireturn, 1) := by decide +kernel
theorem dX12_fact_57 : decode cX12_fact 57 = .ok (.aload_n 0, 1) := by decide +kernel
theorem dX12_fact_58 : decode cX12_fact 58 = .ok (.iload_n 2, 1) := by decide +kernel
theorem dX12_fact_59 : decode cX12_fact 59 = .ok (.iconst 3, 1) := by decide +kernel
theorem dX12_fact_60 : decode cX12_fact 60 = .ok (.invokevirtual 87, 3) := by decide +kernel
theorem dX12_fact_63 : decode cX12_fact 63 = .ok (.ireturn, 1) := by decide +kernel
theorem dX12_fact_64 : decode cX12_fact 64 = .ok (.iload_n 2, 1) := by decide +kernel
theorem dX12_fact_65 : decode cX12_fact 65 = .ok (.ireturn, 1) := by decide +kernel
theorem dX12_fact_66 : decode cX12_fact 66 = .ok (.iload_n 1, 1) := by decide +kernel
theorem dX12_fact_67 : decode cX12_fact 67 = .ok (.ireturn, 1) := by decide +kernel
theorem dX12_isHolding_0 : decode cX12_isHolding 0 = .ok (.iload_n 0, 1) := by decide +kernel
theorem dX12_isHolding_1 : decode cX12_isHolding 1 = .ok (.lookupswitch 92 #[(-21, 76), (-13, 65), (-12, 54), (-11, 43)], 43) := by decide +kernel
theorem dX12_isHolding_44 : decode cX12_isHolding 44 = .ok (.iload_n 1, 1) := by decide +kernel
theorem dX12_isHolding_45 : decode cX12_isHolding 45 = .ok (.iload_n 2, 1) := by decide +kernel
theorem dX12_isHolding_46 : decode cX12_isHolding 46 = .ok (.if_icmp .ge 7, 3) := by decide +kernel
theorem dX12_isHolding_49 : decode cX12_isHolding 49 = .ok (.iconst 1, 1) := by decide +kernel
theorem dX12_isHolding_50 : decode cX12_isHolding 50 = .ok (.goto 4, 3) := by decide +kernel
theorem dX12_isHolding_53 : decode cX12_isHolding 53 = .ok (.iconst 0, 1) := by decide +kernel
theorem dX12_isHolding_54 : decode cX12_isHolding 54 = .ok (.ireturn, 1) := by decide +kernel
theorem dX12_isHolding_55 : decode cX12_isHolding 55 = .ok (.iload_n 1, 1) := by decide +kernel
theorem dX12_isHolding_56 : decode cX12_isHolding 56 = .ok (.iload_n 2, 1) := by decide +kernel
theorem dX12_isHolding_57 : decode cX12_isHolding 57 = .ok (.if_icmp .ne 7, 3) := by decide +kernel
theorem dX12_isHolding_60 : decode cX12_isHolding 60 = .ok (.iconst 1, 1) := by decide +kernel
theorem dX12_isHolding_61 : decode cX12_isHolding 61 = .ok (.goto 4, 3) := by decide +kernel
theorem dX12_isHolding_64 : decode cX12_isHolding 64 = .ok (.iconst 0, 1) := by decide +kernel
theorem dX12_isHolding_65 : decode cX12_isHolding 65 = .ok (.ireturn, 1) := by decide +kernel
theorem dX12_isHolding_66 : decode cX12_isHolding 66 = .ok (.iload_n 1, 1) := by decide +kernel
theorem dX12_isHolding_67 : decode cX12_isHolding 67 = .ok (.iload_n 2, 1) := by decide +kernel
theorem dX12_isHolding_68 : decode cX12_isHolding 68 = .ok (.if_icmp .le 7, 3) := by decide +kernel
theorem dX12_isHolding_71 : decode cX12_isHolding 71 = .ok (.iconst 1, 1) := by decide +kernel
theorem dX12_isHolding_72 : decode cX12_isHolding 72 = .ok (.goto 4, 3) := by decide +kernel
theorem dX12_isHolding_75 : decode cX12_isHolding 75 = .ok (.iconst 0, 1) := by decide +kernel
theorem dX12_isHolding_76 : decode cX12_isHolding 76 = .ok (.ireturn, 1) := by decide +kernel
theorem dX12_isHolding_77 : decode cX12_isHolding 77 = .ok (.iload_n 1, 1) := by decide +kernel
theorem dX12_isHolding_78 : decode cX12_isHolding 78 = .ok (.iconst 1, 1) := by decide +kernel
theorem dX12_isHolding_79 : decode cX12_isHolding 79 = .ok (.if_icmp .ne 12, 3) := by decide +kernel
theorem dX12_isHolding_82 : decode cX12_isHolding 82 = .ok (.iload_n 2, 1) := by decide +kernel
theorem dX12_isHolding_83 : decode cX12_isHolding 83 = .ok (.iconst 1, 1) := by decide +kernel
theorem dX12_isHolding_84 : decode cX12_isHolding 84 = .ok (.if_icmp .ne 7, 3) := by decide +kernel
theorem dX12_isHolding_87 : decode cX12_isHolding 87 = .ok (.iconst 1, 1) := by decide +kernel
theorem dX12_isHolding_88 : decode cX12_isHolding 88 = .ok (.goto 4, 3) := by decide +kernel
theorem dX12_isHolding_91 : decode cX12_isHolding 91 = .ok (.iconst 0, 1) := by decide +kernel
theorem dX12_isHolding_92 : decode cX12_isHolding 92 = .ok (.ireturn, 1) := by decide +kernel
theorem dX12_isHolding_93 : decode cX12_isHolding 93 = .ok (.iload_n 1, 1) := by decide +kernel
theorem dX12_isHolding_94 : decode cX12_isHolding 94 = .ok (.iconst 1, 1) := by decide +kernel
theorem dX12_isHolding_95 : decode cX12_isHolding 95 = .ok (.if_icmp .eq 8, 3) := by decide +kernel
theorem dX12_isHolding_98 : decode cX12_isHolding 98 = .ok (.iload_n 2, 1) := by decide +kernel
theorem dX12_isHolding_99 : decode cX12_isHolding 99 = .ok (.iconst 1, 1) := by decide +kernel
theorem dX12_isHolding_100 : decode cX12_isHolding 100 = .ok (.if_icmp .ne 7, 3) := by decide +kernel
theorem dX12_isHolding_103 : decode cX12_isHolding 103 = .ok (.iconst 1, 1) := by decide +kernel
theorem dX12_isHolding_104 : decode cX12_isHolding 104 = .ok (.goto 4, 3) := by decide +kernel
theorem dX12_isHolding_107 : decode cX12_isHolding 107 = .ok (.iconst 0, 1) := by decide +kernel
theorem dX12_isHolding_108 : decode cX12_isHolding 108 = .ok (.ireturn, 1) := by decide +kernel
theorem dX12_holds_0 : decode cX12_holds 0 = .ok (.iconst 0, 1) := by decide +kernel
theorem dX12_holds_1 : decode cX12_holds 1 = .ok (.istore 4, 2) := by decide +kernel
theorem dX12_holds_3 : decode cX12_holds 3 = .ok (.iload_n 1, 1) := by decide +kernel
theorem dX12_holds_4 : decode cX12_holds 4 = .ok (.istore 5, 2) := by decide +kernel
theorem dX12_holds_6 : decode cX12_holds 6 = .ok (.iload 5, 2) := by decide +kernel
theorem dX12_holds_8 : decode cX12_holds 8 = .ok (.iload_n 2, 1) := by decide +kernel
theorem dX12_holds_9 : decode cX12_holds 9 = .ok (.if_icmp .ge 119, 3) := by decide +kernel
theorem dX12_holds_12 : decode cX12_holds 12 = .ok (.aload_n 0, 1) := by decide +kernel
theorem dX12_holds_13 : decode cX12_holds 13 = .ok (.getfield 7, 3) := by decide +kernel
theorem dX12_holds_16 : decode cX12_holds 16 = .ok (.bipush 103, 2) := by decide +kernel
theorem dX12_holds_18 : decode cX12_holds 18 = .ok (.iload 5, 2) := by decide +kernel
theorem dX12_holds_20 : decode cX12_holds 20 = .ok (.iadd, 1) := by decide +kernel
theorem dX12_holds_21 : decode cX12_holds 21 = .ok (.iaload, 1) := by decide +kernel
theorem dX12_holds_22 : decode cX12_holds 22 = .ok (.istore 6, 2) := by decide +kernel
theorem dX12_holds_24 : decode cX12_holds 24 = .ok (.iload 6, 2) := by decide +kernel
theorem dX12_holds_26 : decode cX12_holds 26 = .ok (.bipush (-10), 2) := by decide +kernel
theorem dX12_holds_28 : decode cX12_holds 28 = .ok (.if_icmp .le 23, 3) := by decide +kernel
theorem dX12_holds_31 : decode cX12_holds 31 = .ok (.aload_n 0, 1) := by decide +kernel
theorem dX12_holds_32 : decode cX12_holds 32 = .ok (.getfield 19, 3) := by decide +kernel
theorem dX12_holds_35 : decode cX12_holds 35 = .ok (.iload 4, 2) := by decide +kernel
theorem dX12_holds_37 : decode cX12_holds 37 = .ok (.aload_n 0, 1) := by decide +kernel
theorem dX12_holds_38 : decode cX12_holds 38 = .ok (.iload 6, 2) := by decide +kernel
theorem dX12_holds_40 : decode cX12_holds 40 = .ok (.iload_n 3, 1) := by decide +kernel
theorem dX12_holds_41 : decode cX12_holds 41 = .ok (.invokevirtual 90, 3) := by decide +kernel
theorem dX12_holds_44 : decode cX12_holds 44 = .ok (.iastore, 1) := by decide +kernel
theorem dX12_holds_45 : decode cX12_holds 45 = .ok (.iinc 4 1, 3) := by decide +kernel
theorem dX12_holds_48 : decode cX12_holds 48 = .ok (.goto 74, 3) := by decide +kernel
theorem dX12_holds_51 : decode cX12_holds 51 = .ok (.iload 6, 2) := by decide +kernel
theorem dX12_holds_53 : decode cX12_holds 53 = .ok (.bipush (-20), 2) := by decide +kernel
theorem dX12_holds_55 : decode cX12_holds 55 = .ok (.if_icmp .ne 26, 3) := by decide +kernel
theorem dX12_holds_58 : decode cX12_holds 58 = .ok (.aload_n 0, 1) := by decide +kernel
theorem dX12_holds_59 : decode cX12_holds 59 = .ok (.getfield 19, 3) := by decide +kernel
theorem dX12_holds_62 : decode cX12_holds 62 = .ok (.iload 4, 2) := by decide +kernel
theorem dX12_holds_64 : decode cX12_holds 64 = .ok (.iconst 1, 1) := by decide +kernel
theorem dX12_holds_65 : decode cX12_holds 65 = .ok (.isub, 1) := by decide +kernel
theorem dX12_holds_66 : decode cX12_holds 66 = .ok (.iconst 1, 1) := by decide +kernel
theorem dX12_holds_67 : decode cX12_holds 67 = .ok (.aload_n 0, 1) := by decide +kernel
theorem dX12_holds_68 : decode cX12_holds 68 = .ok (.getfield 19, 3) := by decide +kernel
theorem dX12_holds_71 : decode cX12_holds 71 = .ok (.iload 4, 2) := by decide +kernel
theorem dX12_holds_73 : decode cX12_holds 73 = .ok (.iconst 1, 1) := by decide +kernel
theorem dX12_holds_74 : decode cX12_holds 74 = .ok (.isub, 1) := by decide +kernel
theorem dX12_holds_75 : decode cX12_holds 75 = .ok (.iaload, 1) := by decide +kernel
theorem dX12_holds_76 : decode cX12_holds 76 = .ok (.isub, 1) := by decide +kernel
theorem dX12_holds_77 : decode cX12_holds 77 = .ok (.iastore, 1) := by decide +kernel
theorem dX12_holds_78 : decode cX12_holds 78 = .ok (.goto 44, 3) := by decide +kernel
theorem dX12_holds_81 : decode cX12_holds 81 = .ok (.iinc 4 (-1), 3) := by decide +kernel
theorem dX12_holds_84 : decode cX12_holds 84 = .ok (.aload_n 0, 1) := by decide +kernel
theorem dX12_holds_85 : decode cX12_holds 85 = .ok (.getfield 19, 3) := by decide +kernel
theorem dX12_holds_88 : decode cX12_holds 88 = .ok (.iload 4, 2) := by decide +kernel
theorem dX12_holds_90 : decode cX12_holds 90 = .ok (.iconst 1, 1) := by decide +kernel
theorem dX12_holds_91 : decode cX12_holds 91 = .ok (.isub, 1) := by decide +kernel
theorem dX12_holds_92 : decode cX12_holds 92 = .ok (.iload 6, 2) := by decide +kernel
theorem dX12_holds_94 : decode cX12_holds 94 = .ok (.aload_n 0, 1) := by decide +kernel
theorem dX12_holds_95 : decode cX12_holds 95 = .ok (.getfield 19, 3) := by decide +kernel
theorem dX12_holds_98 : decode cX12_holds 98 = .ok (.iload 4, 2) := by decide +kernel
theorem dX12_holds_100 : decode cX12_holds 100 = .ok (.iconst 1, 1) := by decide +kernel
theorem dX12_holds_101 : decode cX12_holds 101 = .ok (.isub, 1) := by decide +kernel
theorem dX12_holds_102 : decode cX12_holds 102 = .ok (.iaload, 1) := by decide +kernel
theorem dX12_holds_103 : decode cX12_holds 103 = .ok (.aload_n 0, 1) := by decide +kernel
theorem dX12_holds_104 : decode cX12_holds 104 = .ok (.getfield 19, 3) := by decide +kernel
theorem dX12_holds_107 : decode cX12_holds 107 = .ok (.iload 4, 2) := by decide +kernel
theorem dX12_holds_109 : decode cX12_holds 109 = .ok (.iaload, 1) := by decide +kernel
theorem dX12_holds_110 : decode cX12_holds 110 = .ok (.invokestatic 93, 3) := by decide +kernel
theorem dX12_holds_113 : decode cX12_holds 113 = .ok (.ifCond .eq 7, 3) := by decide +kernel
theorem dX12_holds_116 : decode cX12_holds 116 = .ok (.iconst 1, 1) := by decide +kernel
theorem dX12_holds_117 : decode cX12_holds 117 = .ok (.goto 4, 3) := by decide +kernel
theorem dX12_holds_120 : decode cX12_holds 120 = .ok (.iconst 0, 1) := by decide +kernel
theorem dX12_holds_121 : decode cX12_holds 121 = .ok (.iastore, 1) := by decide +kernel
theorem dX12_holds_122 : decode cX12_holds 122 = .ok (.iinc 5 1, 3) := by decide +kernel
theorem dX12_holds_125 : decode cX12_holds 125 = .ok (.goto (-119), 3) := by decide +kernel
theorem dX12_holds_128 : decode cX12_holds 128 = .ok (.iload 4, 2) := by decide +kernel
theorem dX12_holds_130 : decode cX12_holds 130 = .ok (.ifCond .eq 13, 3) := by decide +kernel
theorem dX12_holds_133 : decode cX12_holds 133 = .ok (.aload_n 0, 1) := by decide +kernel
theorem dX12_holds_134 : decode cX12_holds 134 = .ok (.getfield 19, 3) := by decide +kernel
theorem dX12_holds_137 : decode cX12_holds 137 = .ok (.iconst 0, 1) := by decide +kernel
theorem dX12_holds_138 : decode cX12_holds 138 = .ok (.iaload, 1) := by decide +kernel
theorem dX12_holds_139 : decode cX12_holds 139 = .ok (.iconst 1, 1) := by decide +kernel
theorem dX12_holds_140 : decode cX12_holds 140 = .ok (.if_icmp .ne 7, 3) := by decide +kernel
theorem dX12_holds_143 : decode cX12_holds 143 = .ok (.iconst 1, 1) := by decide +kernel
theorem dX12_holds_144 : decode cX12_holds 144 = .ok (.goto 4, 3) := by decide +kernel
theorem dX12_holds_147 : decode cX12_holds 147 = .ok (.iconst 0, 1) := by decide +kernel
theorem dX12_holds_148 : decode cX12_holds 148 = .ok (.ireturn, 1) := by decide +kernel
theorem dX12_asks_0 : decode cX12_asks 0 = .ok (.aload_n 0, 1) := by decide +kernel
theorem dX12_asks_1 : decode cX12_asks 1 = .ok (.iload_n 1, 1) := by decide +kernel
theorem dX12_asks_2 : decode cX12_asks 2 = .ok (.iconst 0, 1) := by decide +kernel
theorem dX12_asks_3 : decode cX12_asks 3 = .ok (.invokevirtual 87, 3) := by decide +kernel
theorem dX12_asks_6 : decode cX12_asks 6 = .ok (.istore_n 2, 1) := by decide +kernel
theorem dX12_asks_7 : decode cX12_asks 7 = .ok (.aload_n 0, 1) := by decide +kernel
theorem dX12_asks_8 : decode cX12_asks 8 = .ok (.getfield 7, 3) := by decide +kernel
theorem dX12_asks_11 : decode cX12_asks 11 = .ok (.iconst 3, 1) := by decide +kernel
theorem dX12_asks_12 : decode cX12_asks 12 = .ok (.iaload, 1) := by decide +kernel
theorem dX12_asks_13 : decode cX12_asks 13 = .ok (.aload_n 0, 1) := by decide +kernel
theorem dX12_asks_14 : decode cX12_asks 14 = .ok (.iload_n 1, 1) := by decide +kernel
theorem dX12_asks_15 : decode cX12_asks 15 = .ok (.iconst 3, 1) := by decide +kernel
theorem dX12_asks_16 : decode cX12_asks 16 = .ok (.invokevirtual 87, 3) := by decide +kernel
theorem dX12_asks_19 : decode cX12_asks 19 = .ok (.if_icmp .ne 7, 3) := by decide +kernel
theorem dX12_asks_22 : decode cX12_asks 22 = .ok (.iconst 1, 1) := by decide +kernel
theorem dX12_asks_23 : decode cX12_asks 23 = .ok (.goto 4, 3) := by decide +kernel
theorem dX12_asks_26 : decode cX12_asks 26 = .ok (.iconst 0, 1) := by decide +kernel
theorem dX12_asks_27 : decode cX12_asks 27 = .ok (.istore_n 3, 1) := by decide +kernel
theorem dX12_asks_28 : decode cX12_asks 28 = .ok (.iconst (-1), 1) := by decide +kernel
theorem dX12_asks_29 : decode cX12_asks 29 = .ok (.istore 4, 2) := by decide +kernel
theorem dX12_asks_31 : decode cX12_asks 31 = .ok (.iconst 0, 1) := by decide +kernel
theorem dX12_asks_32 : decode cX12_asks 32 = .ok (.istore 5, 2) := by decide +kernel
theorem dX12_asks_34 : decode cX12_asks 34 = .ok (.iconst 0, 1) := by decide +kernel
theorem dX12_asks_35 : decode cX12_asks 35 = .ok (.istore 6, 2) := by decide +kernel
theorem dX12_asks_37 : decode cX12_asks 37 = .ok (.iload 6, 2) := by decide +kernel
theorem dX12_asks_39 : decode cX12_asks 39 = .ok (.aload_n 0, 1) := by decide +kernel
theorem dX12_asks_40 : decode cX12_asks 40 = .ok (.getfield 7, 3) := by decide +kernel
theorem dX12_asks_43 : decode cX12_asks 43 = .ok (.iconst 4, 1) := by decide +kernel
theorem dX12_asks_44 : decode cX12_asks 44 = .ok (.iaload, 1) := by decide +kernel
theorem dX12_asks_45 : decode cX12_asks 45 = .ok (.if_icmp .ge 77, 3) := by decide +kernel
theorem dX12_asks_48 : decode cX12_asks 48 = .ok (.iload 4, 2) := by decide +kernel
theorem dX12_asks_50 : decode cX12_asks 50 = .ok (.ifCond .ge 72, 3) := by decide +kernel
theorem dX12_asks_53 : decode cX12_asks 53 = .ok (.bipush 71, 2) := by decide +kernel
theorem dX12_asks_55 : decode cX12_asks 55 = .ok (.iconst 4, 1) := by decide +kernel
theorem dX12_asks_56 : decode cX12_asks 56 = .ok (.iload 6, 2) := by decide +kernel
theorem dX12_asks_58 : decode cX12_asks 58 = .ok (.imul, 1) := by decide +kernel
theorem dX12_asks_59 : decode cX12_asks 59 = .ok (.iadd, 1) := by decide +kernel
theorem dX12_asks_60 : decode cX12_asks 60 = .ok (.istore 7, 2) := by decide +kernel
theorem dX12_asks_62 : decode cX12_asks 62 = .ok (.iload_n 2, 1) := by decide +kernel
theorem dX12_asks_63 : decode cX12_asks 63 = .ok (.aload_n 0, 1) := by decide +kernel
theorem dX12_asks_64 : decode cX12_asks 64 = .ok (.getfield 7, 3) := by decide +kernel
theorem dX12_asks_67 : decode cX12_asks 67 = .ok (.iload 7, 2) := by decide +kernel
theorem dX12_asks_69 : decode cX12_asks 69 = .ok (.iconst 0, 1) := by decide +kernel
theorem dX12_asks_70 : decode cX12_asks 70 = .ok (.iadd, 1) := by decide +kernel
theorem dX12_asks_71 : decode cX12_asks 71 = .ok (.iaload, 1) := by decide +kernel
theorem dX12_asks_72 : decode cX12_asks 72 = .ok (.invokestatic 97, 3) := by decide +kernel
theorem dX12_asks_75 : decode cX12_asks 75 = .ok (.ifCond .eq 27, 3) := by decide +kernel
theorem dX12_asks_78 : decode cX12_asks 78 = .ok (.aload_n 0, 1) := by decide +kernel
theorem dX12_asks_79 : decode cX12_asks 79 = .ok (.iload 5, 2) := by decide +kernel
theorem dX12_asks_81 : decode cX12_asks 81 = .ok (.aload_n 0, 1) := by decide +kernel
theorem dX12_asks_82 : decode cX12_asks 82 = .ok (.getfield 7, 3) := by decide +kernel
theorem dX12_asks_85 : decode cX12_asks 85 = .ok (.iload 7, 2) := by decide +kernel
theorem dX12_asks_87 : decode cX12_asks 87 = .ok (.iconst 3, 1) := by decide +kernel
theorem dX12_asks_88 : decode cX12_asks 88 = .ok (.iadd, 1) := by decide +kernel
theorem dX12_asks_89 : decode cX12_asks 89 = .ok (.iaload, 1) := by decide +kernel
theorem dX12_asks_90 : decode cX12_asks 90 = .ok (.iload_n 1, 1) := by decide +kernel
theorem dX12_asks_91 : decode cX12_asks 91 = .ok (.invokevirtual 100, 3) := by decide +kernel
theorem dX12_asks_94 : decode cX12_asks 94 = .ok (.ifCond .eq 8, 3) := by decide +kernel
theorem dX12_asks_97 : decode cX12_asks 97 = .ok (.iload 7, 2) := by decide +kernel
theorem dX12_asks_99 : decode cX12_asks 99 = .ok (.goto 4, 3) := by decide +kernel
theorem dX12_asks_102 : decode cX12_asks 102 = .ok (.iconst (-1), 1) := by decide +kernel
theorem dX12_asks_103 : decode cX12_asks 103 = .ok (.istore 4, 2) := by decide +kernel
theorem dX12_asks_105 : decode cX12_asks 105 = .ok (.aload_n 0, 1) := by decide +kernel
theorem dX12_asks_106 : decode cX12_asks 106 = .ok (.getfield 7, 3) := by decide +kernel
theorem dX12_asks_109 : decode cX12_asks 109 = .ok (.iload 7, 2) := by decide +kernel
theorem dX12_asks_111 : decode cX12_asks 111 = .ok (.iconst 3, 1) := by decide +kernel
theorem dX12_asks_112 : decode cX12_asks 112 = .ok (.iadd, 1) := by decide +kernel
theorem dX12_asks_113 : decode cX12_asks 113 = .ok (.iaload, 1) := by decide +kernel
theorem dX12_asks_114 : decode cX12_asks 114 = .ok (.istore 5, 2) := by decide +kernel
theorem dX12_asks_116 : decode cX12_asks 116 = .ok (.iinc 6 1, 3) := by decide +kernel
theorem dX12_asks_119 : decode cX12_asks 119 = .ok (.goto (-82), 3) := by decide +kernel
theorem dX12_asks_122 : decode cX12_asks 122 = .ok (.iload 4, 2) := by decide +kernel
theorem dX12_asks_124 : decode cX12_asks 124 = .ok (.ifCond .ge 7, 3) := by decide +kernel
theorem dX12_asks_127 : decode cX12_asks 127 = .ok (.iconst (-1), 1) := by decide +kernel
theorem dX12_asks_128 : decode cX12_asks 128 = .ok (.goto 12, 3) := by decide +kernel
theorem dX12_asks_131 : decode cX12_asks 131 = .ok (.aload_n 0, 1) := by decide +kernel
theorem dX12_asks_132 : decode cX12_asks 132 = .ok (.getfield 7, 3) := by decide +kernel
theorem dX12_asks_135 : decode cX12_asks 135 = .ok (.iload 4, 2) := by decide +kernel
theorem dX12_asks_137 : decode cX12_asks 137 = .ok (.iconst 1, 1) := by decide +kernel
theorem dX12_asks_138 : decode cX12_asks 138 = .ok (.iadd, 1) := by decide +kernel
theorem dX12_asks_139 : decode cX12_asks 139 = .ok (.iaload, 1) := by decide +kernel
theorem dX12_asks_140 : decode cX12_asks 140 = .ok (.istore 6, 2) := by decide +kernel
theorem dX12_asks_142 : decode cX12_asks 142 = .ok (.aload_n 0, 1) := by decide +kernel
theorem dX12_asks_143 : decode cX12_asks 143 = .ok (.aload_n 0, 1) := by decide +kernel
theorem dX12_asks_144 : decode cX12_asks 144 = .ok (.iload_n 1, 1) := by decide +kernel
theorem dX12_asks_145 : decode cX12_asks 145 = .ok (.iconst 1, 1) := by decide +kernel
theorem dX12_asks_146 : decode cX12_asks 146 = .ok (.invokevirtual 87, 3) := by decide +kernel
theorem dX12_asks_149 : decode cX12_asks 149 = .ok (.iload 6, 2) := by decide +kernel
theorem dX12_asks_151 : decode cX12_asks 151 = .ok (.iconst 2, 1) := by decide +kernel
theorem dX12_asks_152 : decode cX12_asks 152 = .ok (.if_icmp .ne 7, 3) := by decide +kernel
theorem dX12_asks_155 : decode cX12_asks 155 = .ok (.iconst 1, 1) := by decide +kernel
theorem dX12_asks_156 : decode cX12_asks 156 = .ok (.goto 4, 3) := by decide +kernel
theorem dX12_asks_159 : decode cX12_asks 159 = .ok (.iconst 0, 1) := by decide +kernel
theorem dX12_asks_160 : decode cX12_asks 160 = .ok (.iadd, 1) := by decide +kernel
theorem dX12_asks_161 : decode cX12_asks 161 = .ok (.iload_n 2, 1) := by decide +kernel
theorem dX12_asks_162 : decode cX12_asks 162 = .ok (.iconst 3, 1) := by decide +kernel
theorem dX12_asks_163 : decode cX12_asks 163 = .ok (.if_icmp .ne 11, 3) := by decide +kernel
theorem dX12_asks_166 : decode cX12_asks 166 = .ok (.iload_n 3, 1) := by decide +kernel
theorem dX12_asks_167 : decode cX12_asks 167 = .ok (.ifCond .eq 7, 3) := by decide +kernel
theorem dX12_asks_170 : decode cX12_asks 170 = .ok (.iconst 1, 1) := by decide +kernel
theorem dX12_asks_171 : decode cX12_asks 171 = .ok (.goto 4, 3) := by decide +kernel
theorem dX12_asks_174 : decode cX12_asks 174 = .ok (.iconst 0, 1) := by decide +kernel
theorem dX12_asks_175 : decode cX12_asks 175 = .ok (.iadd, 1) := by decide +kernel
theorem dX12_asks_176 : decode cX12_asks 176 = .ok (.putfield 103, 3) := by decide +kernel
theorem dX12_asks_179 : decode cX12_asks 179 = .ok (.aload_n 0, 1) := by decide +kernel
theorem dX12_asks_180 : decode cX12_asks 180 = .ok (.iload 6, 2) := by decide +kernel
theorem dX12_asks_182 : decode cX12_asks 182 = .ok (.ifCond .ne 7, 3) := by decide +kernel
theorem dX12_asks_185 : decode cX12_asks 185 = .ok (.iconst 0, 1) := by decide +kernel
theorem dX12_asks_186 : decode cX12_asks 186 = .ok (.goto 29, 3) := by decide +kernel
theorem dX12_asks_189 : decode cX12_asks 189 = .ok (.aload_n 0, 1) := by decide +kernel
theorem dX12_asks_190 : decode cX12_asks 190 = .ok (.iload_n 1, 1) := by decide +kernel
theorem dX12_asks_191 : decode cX12_asks 191 = .ok (.iconst 2, 1) := by decide +kernel
theorem dX12_asks_192 : decode cX12_asks 192 = .ok (.invokevirtual 87, 3) := by decide +kernel
theorem dX12_asks_195 : decode cX12_asks 195 = .ok (.iload 6, 2) := by decide +kernel
theorem dX12_asks_197 : decode cX12_asks 197 = .ok (.iconst 1, 1) := by decide +kernel
theorem dX12_asks_198 : decode cX12_asks 198 = .ok (.if_icmp .ne 15, 3) := by decide +kernel
theorem dX12_asks_201 : decode cX12_asks 201 = .ok (.aload_n 0, 1) := by decide +kernel
theorem dX12_asks_202 : decode cX12_asks 202 = .ok (.getfield 7, 3) := by decide +kernel
theorem dX12_asks_205 : decode cX12_asks 205 = .ok (.iload 4, 2) := by decide +kernel
theorem dX12_asks_207 : decode cX12_asks 207 = .ok (.iconst 2, 1) := by decide +kernel
theorem dX12_asks_208 : decode cX12_asks 208 = .ok (.iadd, 1) := by decide +kernel
theorem dX12_asks_209 : decode cX12_asks 209 = .ok (.iaload, 1) := by decide +kernel
theorem dX12_asks_210 : decode cX12_asks 210 = .ok (.goto 4, 3) := by decide +kernel
theorem dX12_asks_213 : decode cX12_asks 213 = .ok (.iconst 0, 1) := by decide +kernel
theorem dX12_asks_214 : decode cX12_asks 214 = .ok (.iadd, 1) := by decide +kernel
theorem dX12_asks_215 : decode cX12_asks 215 = .ok (.putfield 107, 3) := by decide +kernel
theorem dX12_asks_218 : decode cX12_asks 218 = .ok (.aload_n 0, 1) := by decide +kernel
theorem dX12_asks_219 : decode cX12_asks 219 = .ok (.iload_n 2, 1) := by decide +kernel
theorem dX12_asks_220 : decode cX12_asks 220 = .ok (.iconst 5, 1) := by decide +kernel
theorem dX12_asks_221 : decode cX12_asks 221 = .ok (.if_icmp .ne 16, 3) := by decide +kernel
theorem dX12_asks_224 : decode cX12_asks 224 = .ok (.iload_n 3, 1) := by decide +kernel
theorem dX12_asks_225 : decode cX12_asks 225 = .ok (.ifCond .eq 12, 3) := by decide +kernel
theorem dX12_asks_228 : decode cX12_asks 228 = .ok (.aload_n 0, 1) := by decide +kernel
theorem dX12_asks_229 : decode cX12_asks 229 = .ok (.getfield 107, 3) := by decide +kernel
theorem dX12_asks_232 : decode cX12_asks 232 = .ok (.iconst 2, 1) := by decide +kernel
theorem dX12_asks_233 : decode cX12_asks 233 = .ok (.idiv, 1) := by decide +kernel
theorem dX12_asks_234 : decode cX12_asks 234 = .ok (.goto 7, 3) := by decide +kernel
theorem dX12_asks_237 : decode cX12_asks 237 = .ok (.aload_n 0, 1) := by decide +kernel
theorem dX12_asks_238 : decode cX12_asks 238 = .ok (.getfield 107, 3) := by decide +kernel
theorem dX12_asks_241 : decode cX12_asks 241 = .ok (.putfield 107, 3) := by decide +kernel
theorem dX12_asks_244 : decode cX12_asks 244 = .ok (.aload_n 0, 1) := by decide +kernel
theorem dX12_asks_245 : decode cX12_asks 245 = .ok (.iload 6, 2) := by decide +kernel
theorem dX12_asks_247 : decode cX12_asks 247 = .ok (.iconst 3, 1) := by decide +kernel
theorem dX12_asks_248 : decode cX12_asks 248 = .ok (.if_icmp .eq 7, 3) := by decide +kernel
theorem dX12_asks_251 : decode cX12_asks 251 = .ok (.iconst 1, 1) := by decide +kernel
theorem dX12_asks_252 : decode cX12_asks 252 = .ok (.goto 4, 3) := by decide +kernel
theorem dX12_asks_255 : decode cX12_asks 255 = .ok (.iconst 0, 1) := by decide +kernel
theorem dX12_asks_256 : decode cX12_asks 256 = .ok (.putfield 110, 3) := by decide +kernel
theorem dX12_asks_259 : decode cX12_asks 259 = .ok (.return_, 1) := by decide +kernel
theorem dX12_bridgeOf_0 : decode cX12_bridgeOf 0 = .ok (.aload_n 0, 1) := by decide +kernel
theorem dX12_bridgeOf_1 : decode cX12_bridgeOf 1 = .ok (.iload_n 1, 1) := by decide +kernel
theorem dX12_bridgeOf_2 : decode cX12_bridgeOf 2 = .ok (.invokevirtual 114, 3) := by decide +kernel
theorem dX12_bridgeOf_5 : decode cX12_bridgeOf 5 = .ok (.ifCond .eq 15, 3) := by decide +kernel
theorem dX12_bridgeOf_8 : decode cX12_bridgeOf 8 = .ok (.iload_n 2, 1) := by decide +kernel
theorem dX12_bridgeOf_9 : decode cX12_bridgeOf 9 = .ok (.i2l, 1) := by decide +kernel
theorem dX12_bridgeOf_10 : decode cX12_bridgeOf 10 = .ok (.lconst 0, 1) := by decide +kernel
theorem dX12_bridgeOf_11 : decode cX12_bridgeOf 11 = .ok (.ldc2_w 79, 3) := by decide +kernel
theorem dX12_bridgeOf_14 : decode cX12_bridgeOf 14 = .ok (.invokestatic 67, 3) := by decide +kernel
theorem dX12_bridgeOf_17 : decode cX12_bridgeOf 17 = .ok (.ifCond .ne 5, 3) := by decide +kernel
theorem dX12_bridgeOf_20 : decode cX12_bridgeOf 20 = .ok (.iconst (-1), 1) := by decide +kernel
theorem dX12_bridgeOf_21 : decode cX12_bridgeOf 21 = .ok (.ireturn, 1) := by decide +kernel
theorem dX12_bridgeOf_22 : decode cX12_bridgeOf 22 = .ok (.aload_n 0, 1) := by decide +kernel
theorem dX12_bridgeOf_23 : decode cX12_bridgeOf 23 = .ok (.iload_n 1, 1) := by decide +kernel
theorem dX12_bridgeOf_24 : decode cX12_bridgeOf 24 = .ok (.invokevirtual 118, 3) := by decide +kernel
theorem dX12_bridgeOf_27 : decode cX12_bridgeOf 27 = .ok (.iload_n 2, 1) := by decide +kernel
theorem dX12_bridgeOf_28 : decode cX12_bridgeOf 28 = .ok (.iconst 4, 1) := by decide +kernel
theorem dX12_bridgeOf_29 : decode cX12_bridgeOf 29 = .ok (.if_icmp .ge 12, 3) := by decide +kernel
theorem dX12_bridgeOf_32 : decode cX12_bridgeOf 32 = .ok (.aload_n 0, 1) := by decide +kernel
theorem dX12_bridgeOf_33 : decode cX12_bridgeOf 33 = .ok (.iload_n 1, 1) := by decide +kernel
theorem dX12_bridgeOf_34 : decode cX12_bridgeOf 34 = .ok (.iload_n 2, 1) := by decide +kernel
theorem dX12_bridgeOf_35 : decode cX12_bridgeOf 35 = .ok (.invokevirtual 87, 3) := by decide +kernel
theorem dX12_bridgeOf_38 : decode cX12_bridgeOf 38 = .ok (.goto 39, 3) := by decide +kernel
theorem dX12_bridgeOf_41 : decode cX12_bridgeOf 41 = .ok (.iload_n 2, 1) := by decide +kernel
theorem dX12_bridgeOf_42 : decode cX12_bridgeOf 42 = .ok (.iconst 4, 1) := by decide +kernel
theorem dX12_bridgeOf_43 : decode cX12_bridgeOf 43 = .ok (.if_icmp .ne 10, 3) := by decide +kernel
theorem dX12_bridgeOf_46 : decode cX12_bridgeOf 46 = .ok (.aload_n 0, 1) := by decide +kernel
theorem dX12_bridgeOf_47 : decode cX12_bridgeOf 47 = .ok (.getfield 103, 3) := by decide +kernel
theorem dX12_bridgeOf_50 : decode cX12_bridgeOf 50 = .ok (.goto 27, 3) := by decide +kernel
theorem dX12_bridgeOf_53 : decode cX12_bridgeOf 53 = .ok (.iload_n 2, 1) := by decide +kernel
theorem dX12_bridgeOf_54 : decode cX12_bridgeOf 54 = .ok (.iconst 5, 1) := by decide +kernel
theorem dX12_bridgeOf_55 : decode cX12_bridgeOf 55 = .ok (.if_icmp .ne 10, 3) := by decide +kernel
theorem dX12_bridgeOf_58 : decode cX12_bridgeOf 58 = .ok (.aload_n 0, 1) := by decide +kernel
theorem dX12_bridgeOf_59 : decode cX12_bridgeOf 59 = .ok (.getfield 107, 3) := by decide +kernel
theorem dX12_bridgeOf_62 : decode cX12_bridgeOf 62 = .ok (.goto 15, 3) := by decide +kernel
theorem dX12_bridgeOf_65 : decode cX12_bridgeOf 65 = .ok (.aload_n 0, 1) := by decide +kernel
theorem dX12_bridgeOf_66 : decode cX12_bridgeOf 66 = .ok (.getfield 110, 3) := by decide +kernel
theorem dX12_bridgeOf_69 : decode cX12_bridgeOf 69 = .ok (.ifCond .eq 7, 3) := by decide +kernel
theorem dX12_bridgeOf_72 : decode cX12_bridgeOf 72 = .ok (.iconst 1, 1) := by decide +kernel
theorem dX12_bridgeOf_73 : decode cX12_bridgeOf 73 = .ok (.goto 4, 3) := by decide +kernel
theorem dX12_bridgeOf_76 : decode cX12_bridgeOf 76 = .ok (.iconst 0, 1) := by decide +kernel
theorem dX12_bridgeOf_77 : decode cX12_bridgeOf 77 = .ok (.ireturn, 1) := by decide +kernel
theorem dX12_change_0 : decode cX12_change 0 = .ok (.aload_n 0, 1) := by decide +kernel
theorem dX12_change_1 : decode cX12_change 1 = .ok (.iload_n 1, 1) := by decide +kernel
theorem dX12_change_2 : decode cX12_change 2 = .ok (.invokevirtual 114, 3) := by decide +kernel
theorem dX12_change_5 : decode cX12_change 5 = .ok (.ifCond .eq 11, 3) := by decide +kernel
theorem dX12_change_8 : decode cX12_change 8 = .ok (.iload_n 2, 1) := by decide +kernel
theorem dX12_change_9 : decode cX12_change 9 = .ok (.iload_n 3, 1) := by decide +kernel
theorem dX12_change_10 : decode cX12_change 10 = .ok (.invokestatic 83, 3) := by decide +kernel
theorem dX12_change_13 : decode cX12_change 13 = .ok (.ifCond .ne 5, 3) := by decide +kernel
theorem dX12_change_16 : decode cX12_change 16 = .ok (.iconst (-1), 1) := by decide +kernel
theorem dX12_change_17 : decode cX12_change 17 = .ok (.ireturn, 1) := by decide +kernel
theorem dX12_change_18 : decode cX12_change 18 = .ok (.aload_n 0, 1) := by decide +kernel
theorem dX12_change_19 : decode cX12_change 19 = .ok (.iload_n 1, 1) := by decide +kernel
theorem dX12_change_20 : decode cX12_change 20 = .ok (.iload_n 2, 1) := by decide +kernel
theorem dX12_change_21 : decode cX12_change 21 = .ok (.invokevirtual 87, 3) := by decide +kernel
theorem dX12_change_24 : decode cX12_change 24 = .ok (.istore 4, 2) := by decide +kernel
theorem dX12_change_26 : decode cX12_change 26 = .ok (.aload_n 0, 1) := by decide +kernel
theorem dX12_change_27 : decode cX12_change 27 = .ok (.getfield 7, 3) := by decide +kernel
theorem dX12_change_30 : decode cX12_change 30 = .ok (.iload_n 1, 1) := by decide +kernel
theorem dX12_change_31 : decode cX12_change 31 = .ok (.iload_n 2, 1) := by decide +kernel
theorem dX12_change_32 : decode cX12_change 32 = .ok (.invokestatic 71, 3) := by decide +kernel
theorem dX12_change_35 : decode cX12_change 35 = .ok (.iload_n 3, 1) := by decide +kernel
theorem dX12_change_36 : decode cX12_change 36 = .ok (.iastore, 1) := by decide +kernel
theorem dX12_change_37 : decode cX12_change 37 = .ok (.iload 4, 2) := by decide +kernel
theorem dX12_change_39 : decode cX12_change 39 = .ok (.ireturn, 1) := by decide +kernel
theorem dX12_mend_0 : decode cX12_mend 0 = .ok (.aload_n 0, 1) := by decide +kernel
theorem dX12_mend_1 : decode cX12_mend 1 = .ok (.iload_n 1, 1) := by decide +kernel
theorem dX12_mend_2 : decode cX12_mend 2 = .ok (.invokevirtual 114, 3) := by decide +kernel
theorem dX12_mend_5 : decode cX12_mend 5 = .ok (.ifCond .eq 15, 3) := by decide +kernel
theorem dX12_mend_8 : decode cX12_mend 8 = .ok (.iload_n 2, 1) := by decide +kernel
theorem dX12_mend_9 : decode cX12_mend 9 = .ok (.i2l, 1) := by decide +kernel
theorem dX12_mend_10 : decode cX12_mend 10 = .ok (.lconst 1, 1) := by decide +kernel
theorem dX12_mend_11 : decode cX12_mend 11 = .ok (.ldc2_w 81, 3) := by decide +kernel
theorem dX12_mend_14 : decode cX12_mend 14 = .ok (.invokestatic 67, 3) := by decide +kernel
theorem dX12_mend_17 : decode cX12_mend 17 = .ok (.ifCond .ne 5, 3) := by decide +kernel
theorem dX12_mend_20 : decode cX12_mend 20 = .ok (.iconst (-1), 1) := by decide +kernel
theorem dX12_mend_21 : decode cX12_mend 21 = .ok (.ireturn, 1) := by decide +kernel
theorem dX12_mend_22 : decode cX12_mend 22 = .ok (.aload_n 0, 1) := by decide +kernel
theorem dX12_mend_23 : decode cX12_mend 23 = .ok (.iload_n 1, 1) := by decide +kernel
theorem dX12_mend_24 : decode cX12_mend 24 = .ok (.iconst 0, 1) := by decide +kernel
theorem dX12_mend_25 : decode cX12_mend 25 = .ok (.invokevirtual 87, 3) := by decide +kernel
theorem dX12_mend_28 : decode cX12_mend 28 = .ok (.istore_n 3, 1) := by decide +kernel
theorem dX12_mend_29 : decode cX12_mend 29 = .ok (.aload_n 0, 1) := by decide +kernel
theorem dX12_mend_30 : decode cX12_mend 30 = .ok (.getfield 7, 3) := by decide +kernel
theorem dX12_mend_33 : decode cX12_mend 33 = .ok (.iload_n 1, 1) := by decide +kernel
theorem dX12_mend_34 : decode cX12_mend 34 = .ok (.iconst 0, 1) := by decide +kernel
theorem dX12_mend_35 : decode cX12_mend 35 = .ok (.invokestatic 71, 3) := by decide +kernel
theorem dX12_mend_38 : decode cX12_mend 38 = .ok (.iload_n 2, 1) := by decide +kernel
theorem dX12_mend_39 : decode cX12_mend 39 = .ok (.iastore, 1) := by decide +kernel
theorem dX12_mend_40 : decode cX12_mend 40 = .ok (.iload_n 3, 1) := by decide +kernel
theorem dX12_mend_41 : decode cX12_mend 41 = .ok (.ireturn, 1) := by decide +kernel
theorem dX12_day_0 : decode cX12_day 0 = .ok (.iload_n 1, 1) := by decide +kernel
theorem dX12_day_1 : decode cX12_day 1 = .ok (.i2l, 1) := by decide +kernel
theorem dX12_day_2 : decode cX12_day 2 = .ok (.lconst 0, 1) := by decide +kernel
theorem dX12_day_3 : decode cX12_day 3 = .ok (.ldc2_w 79, 3) := by decide +kernel
theorem dX12_day_6 : decode cX12_day 6 = .ok (.invokestatic 67, 3) := by decide +kernel
theorem dX12_day_9 : decode cX12_day 9 = .ok (.ifCond .ne 5, 3) := by decide +kernel
theorem dX12_day_12 : decode cX12_day 12 = .ok (.iconst (-1), 1) := by decide +kernel
theorem dX12_day_13 : decode cX12_day 13 = .ok (.ireturn, 1) := by decide +kernel
theorem dX12_day_14 : decode cX12_day 14 = .ok (.aload_n 0, 1) := by decide +kernel
theorem dX12_day_15 : decode cX12_day 15 = .ok (.getfield 7, 3) := by decide +kernel
theorem dX12_day_18 : decode cX12_day 18 = .ok (.iconst 3, 1) := by decide +kernel
theorem dX12_day_19 : decode cX12_day 19 = .ok (.iaload, 1) := by decide +kernel
theorem dX12_day_20 : decode cX12_day 20 = .ok (.istore_n 2, 1) := by decide +kernel
theorem dX12_day_21 : decode cX12_day 21 = .ok (.aload_n 0, 1) := by decide +kernel
theorem dX12_day_22 : decode cX12_day 22 = .ok (.getfield 7, 3) := by decide +kernel
theorem dX12_day_25 : decode cX12_day 25 = .ok (.iconst 3, 1) := by decide +kernel
theorem dX12_day_26 : decode cX12_day 26 = .ok (.iload_n 1, 1) := by decide +kernel
theorem dX12_day_27 : decode cX12_day 27 = .ok (.iastore, 1) := by decide +kernel
theorem dX12_day_28 : decode cX12_day 28 = .ok (.iload_n 2, 1) := by decide +kernel
theorem dX12_day_29 : decode cX12_day 29 = .ok (.ireturn, 1) := by decide +kernel
theorem dX12_made_0 : decode cX12_made 0 = .ok (.iload_n 3, 1) := by decide +kernel
theorem dX12_made_1 : decode cX12_made 1 = .ok (.i2l, 1) := by decide +kernel
theorem dX12_made_2 : decode cX12_made 2 = .ok (.lload_n 1, 1) := by decide +kernel
theorem dX12_made_3 : decode cX12_made 3 = .ok (.lmul, 1) := by decide +kernel
theorem dX12_made_4 : decode cX12_made 4 = .ok (.iload 4, 2) := by decide +kernel
theorem dX12_made_6 : decode cX12_made 6 = .ok (.i2l, 1) := by decide +kernel
theorem dX12_made_7 : decode cX12_made 7 = .ok (.lsub, 1) := by decide +kernel
theorem dX12_made_8 : decode cX12_made 8 = .ok (.lstore 5, 2) := by decide +kernel
theorem dX12_made_10 : decode cX12_made 10 = .ok (.iload_n 0, 1) := by decide +kernel
theorem dX12_made_11 : decode cX12_made 11 = .ok (.iconst 2, 1) := by decide +kernel
theorem dX12_made_12 : decode cX12_made 12 = .ok (.if_icmp .eq 8, 3) := by decide +kernel
theorem dX12_made_15 : decode cX12_made 15 = .ok (.iload_n 0, 1) := by decide +kernel
theorem dX12_made_16 : decode cX12_made 16 = .ok (.iconst 3, 1) := by decide +kernel
theorem dX12_made_17 : decode cX12_made 17 = .ok (.if_icmp .ne 30, 3) := by decide +kernel
theorem dX12_made_20 : decode cX12_made 20 = .ok (.lload_n 1, 1) := by decide +kernel
theorem dX12_made_21 : decode cX12_made 21 = .ok (.iload 4, 2) := by decide +kernel
theorem dX12_made_23 : decode cX12_made 23 = .ok (.i2l, 1) := by decide +kernel
theorem dX12_made_24 : decode cX12_made 24 = .ok (.lcmp, 1) := by decide +kernel
theorem dX12_made_25 : decode cX12_made 25 = .ok (.ifCond .ge 9, 3) := by decide +kernel
theorem dX12_made_28 : decode cX12_made 28 = .ok (.ldc2_w 122, 3) := by decide +kernel
theorem dX12_made_31 : decode cX12_made 31 = .ok (.goto 11, 3) := by decide +kernel
theorem dX12_made_34 : decode cX12_made 34 = .ok (.iload_n 3, 1) := by decide +kernel
theorem dX12_made_35 : decode cX12_made 35 = .ok (.i2l, 1) := by decide +kernel
theorem dX12_made_36 : decode cX12_made 36 = .ok (.lload_n 1, 1) := by decide +kernel
theorem dX12_made_37 : decode cX12_made 37 = .ok (.iload 4, 2) := by decide +kernel
theorem dX12_made_39 : decode cX12_made 39 = .ok (.i2l, 1) := by decide +kernel
theorem dX12_made_40 : decode cX12_made 40 = .ok (.lsub, 1) := by decide +kernel
theorem dX12_made_41 : decode cX12_made 41 = .ok (.lmul, 1) := by decide +kernel
theorem dX12_made_42 : decode cX12_made 42 = .ok (.lstore 5, 2) := by decide +kernel
theorem dX12_made_44 : decode cX12_made 44 = .ok (.goto 26, 3) := by decide +kernel
theorem dX12_made_47 : decode cX12_made 47 = .ok (.iload_n 0, 1) := by decide +kernel
theorem dX12_made_48 : decode cX12_made 48 = .ok (.iconst 3, 1) := by decide +kernel
theorem dX12_made_49 : decode cX12_made 49 = .ok (.if_icmp .le 21, 3) := by decide +kernel
theorem dX12_made_52 : decode cX12_made 52 = .ok (.lload 5, 2) := by decide +kernel
theorem dX12_made_54 : decode cX12_made 54 = .ok (.lconst 0, 1) := by decide +kernel
theorem dX12_made_55 : decode cX12_made 55 = .ok (.lcmp, 1) := by decide +kernel
theorem dX12_made_56 : decode cX12_made 56 = .ok (.ifCond .le 14, 3) := by decide +kernel
theorem dX12_made_59 : decode cX12_made 59 = .ok (.lload 5, 2) := by decide +kernel
theorem dX12_made_61 : decode cX12_made 61 = .ok (.lload 5, 2) := by decide +kernel
theorem dX12_made_63 : decode cX12_made 63 = .ok (.ldc2_w 124, 3) := by decide +kernel
theorem dX12_made_66 : decode cX12_made 66 = .ok (.lrem, 1) := by decide +kernel
theorem dX12_made_67 : decode cX12_made 67 = .ok (.lsub, 1) := by decide +kernel
theorem dX12_made_68 : decode cX12_made 68 = .ok (.lstore 5, 2) := by decide +kernel
theorem dX12_made_70 : decode cX12_made 70 = .ok (.lload 5, 2) := by decide +kernel
theorem dX12_made_72 : decode cX12_made 72 = .ok (.lconst 0, 1) := by decide +kernel
theorem dX12_made_73 : decode cX12_made 73 = .ok (.lcmp, 1) := by decide +kernel
theorem dX12_made_74 : decode cX12_made 74 = .ok (.ifCond .ge 7, 3) := by decide +kernel
theorem dX12_made_77 : decode cX12_made 77 = .ok (.iconst (-1), 1) := by decide +kernel
theorem dX12_made_78 : decode cX12_made 78 = .ok (.goto 20, 3) := by decide +kernel
theorem dX12_made_81 : decode cX12_made 81 = .ok (.lload 5, 2) := by decide +kernel
theorem dX12_made_83 : decode cX12_made 83 = .ok (.ldc2_w 65, 3) := by decide +kernel
theorem dX12_made_86 : decode cX12_made 86 = .ok (.lcmp, 1) := by decide +kernel
theorem dX12_made_87 : decode cX12_made 87 = .ok (.ifCond .le 8, 3) := by decide +kernel
theorem dX12_made_90 : decode cX12_made 90 = .ok (.ldc 126, 2) := by decide +kernel
theorem dX12_made_92 : decode cX12_made 92 = .ok (.goto 6, 3) := by decide +kernel
theorem dX12_made_95 : decode cX12_made 95 = .ok (.lload 5, 2) := by decide +kernel
theorem dX12_made_97 : decode cX12_made 97 = .ok (.l2i, 1) := by decide +kernel
theorem dX12_made_98 : decode cX12_made 98 = .ok (.ireturn, 1) := by decide +kernel
theorem dX12_becomes_0 : decode cX12_becomes 0 = .ok (.aload_n 0, 1) := by decide +kernel
theorem dX12_becomes_1 : decode cX12_becomes 1 = .ok (.iload_n 1, 1) := by decide +kernel
theorem dX12_becomes_2 : decode cX12_becomes 2 = .ok (.invokevirtual 118, 3) := by decide +kernel
theorem dX12_becomes_5 : decode cX12_becomes 5 = .ok (.aload_n 0, 1) := by decide +kernel
theorem dX12_becomes_6 : decode cX12_becomes 6 = .ok (.getfield 110, 3) := by decide +kernel
theorem dX12_becomes_9 : decode cX12_becomes 9 = .ok (.ifCond .eq 24, 3) := by decide +kernel
theorem dX12_becomes_12 : decode cX12_becomes 12 = .ok (.aload_n 0, 1) := by decide +kernel
theorem dX12_becomes_13 : decode cX12_becomes 13 = .ok (.iload_n 1, 1) := by decide +kernel
theorem dX12_becomes_14 : decode cX12_becomes 14 = .ok (.iconst 0, 1) := by decide +kernel
theorem dX12_becomes_15 : decode cX12_becomes 15 = .ok (.invokevirtual 87, 3) := by decide +kernel
theorem dX12_becomes_18 : decode cX12_becomes 18 = .ok (.lload_n 2, 1) := by decide +kernel
theorem dX12_becomes_19 : decode cX12_becomes 19 = .ok (.aload_n 0, 1) := by decide +kernel
theorem dX12_becomes_20 : decode cX12_becomes 20 = .ok (.getfield 103, 3) := by decide +kernel
theorem dX12_becomes_23 : decode cX12_becomes 23 = .ok (.aload_n 0, 1) := by decide +kernel
theorem dX12_becomes_24 : decode cX12_becomes 24 = .ok (.getfield 107, 3) := by decide +kernel
theorem dX12_becomes_27 : decode cX12_becomes 27 = .ok (.invokestatic 127, 3) := by decide +kernel
theorem dX12_becomes_30 : decode cX12_becomes 30 = .ok (.goto 4, 3) := by decide +kernel
theorem dX12_becomes_33 : decode cX12_becomes 33 = .ok (.iconst (-1), 1) := by decide +kernel
theorem dX12_becomes_34 : decode cX12_becomes 34 = .ok (.ireturn, 1) := by decide +kernel
theorem dX12_afterMany_0 : decode cX12_afterMany 0 = .ok (.aload_n 0, 1) := by decide +kernel
theorem dX12_afterMany_1 : decode cX12_afterMany 1 = .ok (.iload_n 1, 1) := by decide +kernel
theorem dX12_afterMany_2 : decode cX12_afterMany 2 = .ok (.invokevirtual 118, 3) := by decide +kernel
theorem dX12_afterMany_5 : decode cX12_afterMany 5 = .ok (.aload_n 0, 1) := by decide +kernel
theorem dX12_afterMany_6 : decode cX12_afterMany 6 = .ok (.getfield 110, 3) := by decide +kernel
theorem dX12_afterMany_9 : decode cX12_afterMany 9 = .ok (.ifCond .ne 7, 3) := by decide +kernel
theorem dX12_afterMany_12 : decode cX12_afterMany 12 = .ok (.iload_n 3, 1) := by decide +kernel
theorem dX12_afterMany_13 : decode cX12_afterMany 13 = .ok (.ifCond .ne 7, 3) := by decide +kernel
theorem dX12_afterMany_16 : decode cX12_afterMany 16 = .ok (.iload_n 2, 1) := by decide +kernel
theorem dX12_afterMany_17 : decode cX12_afterMany 17 = .ok (.goto 4, 3) := by decide +kernel
theorem dX12_afterMany_20 : decode cX12_afterMany 20 = .ok (.iconst (-1), 1) := by decide +kernel
theorem dX12_afterMany_21 : decode cX12_afterMany 21 = .ok (.istore 4, 2) := by decide +kernel
theorem dX12_afterMany_23 : decode cX12_afterMany 23 = .ok (.iconst 0, 1) := by decide +kernel
theorem dX12_afterMany_24 : decode cX12_afterMany 24 = .ok (.istore 5, 2) := by decide +kernel
theorem dX12_afterMany_26 : decode cX12_afterMany 26 = .ok (.iload 5, 2) := by decide +kernel
theorem dX12_afterMany_28 : decode cX12_afterMany 28 = .ok (.iload_n 3, 1) := by decide +kernel
theorem dX12_afterMany_29 : decode cX12_afterMany 29 = .ok (.if_icmp .ge 36, 3) := by decide +kernel
theorem dX12_afterMany_32 : decode cX12_afterMany 32 = .ok (.iload 4, 2) := by decide +kernel
theorem dX12_afterMany_34 : decode cX12_afterMany 34 = .ok (.ifCond .lt 31, 3) := by decide +kernel
theorem dX12_afterMany_37 : decode cX12_afterMany 37 = .ok (.aload_n 0, 1) := by decide +kernel
theorem dX12_afterMany_38 : decode cX12_afterMany 38 = .ok (.iload_n 1, 1) := by decide +kernel
theorem dX12_afterMany_39 : decode cX12_afterMany 39 = .ok (.iconst 0, 1) := by decide +kernel
theorem dX12_afterMany_40 : decode cX12_afterMany 40 = .ok (.invokevirtual 87, 3) := by decide +kernel
theorem dX12_afterMany_43 : decode cX12_afterMany 43 = .ok (.iload 4, 2) := by decide +kernel
theorem dX12_afterMany_45 : decode cX12_afterMany 45 = .ok (.i2l, 1) := by decide +kernel
theorem dX12_afterMany_46 : decode cX12_afterMany 46 = .ok (.aload_n 0, 1) := by decide +kernel
theorem dX12_afterMany_47 : decode cX12_afterMany 47 = .ok (.getfield 103, 3) := by decide +kernel
theorem dX12_afterMany_50 : decode cX12_afterMany 50 = .ok (.aload_n 0, 1) := by decide +kernel
theorem dX12_afterMany_51 : decode cX12_afterMany 51 = .ok (.getfield 107, 3) := by decide +kernel
theorem dX12_afterMany_54 : decode cX12_afterMany 54 = .ok (.invokestatic 127, 3) := by decide +kernel
theorem dX12_afterMany_57 : decode cX12_afterMany 57 = .ok (.istore 4, 2) := by decide +kernel
theorem dX12_afterMany_59 : decode cX12_afterMany 59 = .ok (.iinc 5 1, 3) := by decide +kernel
theorem dX12_afterMany_62 : decode cX12_afterMany 62 = .ok (.goto (-36), 3) := by decide +kernel
theorem dX12_afterMany_65 : decode cX12_afterMany 65 = .ok (.iload 4, 2) := by decide +kernel
theorem dX12_afterMany_67 : decode cX12_afterMany 67 = .ok (.ireturn, 1) := by decide +kernel
theorem dX12_where_0 : decode cX12_where 0 = .ok (.bipush 41, 2) := by decide +kernel
theorem dX12_where_2 : decode cX12_where 2 = .ok (.iconst 3, 1) := by decide +kernel
theorem dX12_where_3 : decode cX12_where 3 = .ok (.iload_n 0, 1) := by decide +kernel
theorem dX12_where_4 : decode cX12_where 4 = .ok (.imul, 1) := by decide +kernel
theorem dX12_where_5 : decode cX12_where 5 = .ok (.iadd, 1) := by decide +kernel
theorem dX12_where_6 : decode cX12_where 6 = .ok (.iload_n 1, 1) := by decide +kernel
theorem dX12_where_7 : decode cX12_where 7 = .ok (.iadd, 1) := by decide +kernel
theorem dX12_where_8 : decode cX12_where 8 = .ok (.ireturn, 1) := by decide +kernel
theorem dX12_told_0 : decode cX12_told 0 = .ok (.aload_n 0, 1) := by decide +kernel
theorem dX12_told_1 : decode cX12_told 1 = .ok (.getfield 7, 3) := by decide +kernel
theorem dX12_told_4 : decode cX12_told 4 = .ok (.iload_n 1, 1) := by decide +kernel
theorem dX12_told_5 : decode cX12_told 5 = .ok (.iload_n 2, 1) := by decide +kernel
theorem dX12_told_6 : decode cX12_told 6 = .ok (.invokestatic 131, 3) := by decide +kernel
theorem dX12_told_9 : decode cX12_told 9 = .ok (.iaload, 1) := by decide +kernel
theorem dX12_told_10 : decode cX12_told 10 = .ok (.ireturn, 1) := by decide +kernel
theorem dX12_person_0 : decode cX12_person 0 = .ok (.iload_n 1, 1) := by decide +kernel
theorem dX12_person_1 : decode cX12_person 1 = .ok (.i2l, 1) := by decide +kernel
theorem dX12_person_2 : decode cX12_person 2 = .ok (.invokestatic 134, 3) := by decide +kernel
theorem dX12_person_5 : decode cX12_person 5 = .ok (.ifCond .ne 5, 3) := by decide +kernel
theorem dX12_person_8 : decode cX12_person 8 = .ok (.iconst (-1), 1) := by decide +kernel
theorem dX12_person_9 : decode cX12_person 9 = .ok (.ireturn, 1) := by decide +kernel
theorem dX12_person_10 : decode cX12_person 10 = .ok (.aload_n 0, 1) := by decide +kernel
theorem dX12_person_11 : decode cX12_person 11 = .ok (.getfield 7, 3) := by decide +kernel
theorem dX12_person_14 : decode cX12_person 14 = .ok (.iconst 1, 1) := by decide +kernel
theorem dX12_person_15 : decode cX12_person 15 = .ok (.iaload, 1) := by decide +kernel
theorem dX12_person_16 : decode cX12_person 16 = .ok (.bipush 6, 2) := by decide +kernel
theorem dX12_person_18 : decode cX12_person 18 = .ok (.if_icmp .ne 6, 3) := by decide +kernel
theorem dX12_person_21 : decode cX12_person 21 = .ok (.bipush (-2), 2) := by decide +kernel
theorem dX12_person_23 : decode cX12_person 23 = .ok (.ireturn, 1) := by decide +kernel
theorem dX12_person_24 : decode cX12_person 24 = .ok (.aload_n 0, 1) := by decide +kernel
theorem dX12_person_25 : decode cX12_person 25 = .ok (.getfield 7, 3) := by decide +kernel
theorem dX12_person_28 : decode cX12_person 28 = .ok (.iconst 1, 1) := by decide +kernel
theorem dX12_person_29 : decode cX12_person 29 = .ok (.iaload, 1) := by decide +kernel
theorem dX12_person_30 : decode cX12_person 30 = .ok (.istore_n 2, 1) := by decide +kernel
theorem dX12_person_31 : decode cX12_person 31 = .ok (.aload_n 0, 1) := by decide +kernel
theorem dX12_person_32 : decode cX12_person 32 = .ok (.getfield 7, 3) := by decide +kernel
theorem dX12_person_35 : decode cX12_person 35 = .ok (.iload_n 2, 1) := by decide +kernel
theorem dX12_person_36 : decode cX12_person 36 = .ok (.iconst 0, 1) := by decide +kernel
theorem dX12_person_37 : decode cX12_person 37 = .ok (.invokestatic 131, 3) := by decide +kernel
theorem dX12_person_40 : decode cX12_person 40 = .ok (.iload_n 1, 1) := by decide +kernel
theorem dX12_person_41 : decode cX12_person 41 = .ok (.iastore, 1) := by decide +kernel
theorem dX12_person_42 : decode cX12_person 42 = .ok (.aload_n 0, 1) := by decide +kernel
theorem dX12_person_43 : decode cX12_person 43 = .ok (.getfield 7, 3) := by decide +kernel
theorem dX12_person_46 : decode cX12_person 46 = .ok (.iload_n 2, 1) := by decide +kernel
theorem dX12_person_47 : decode cX12_person 47 = .ok (.iconst 1, 1) := by decide +kernel
theorem dX12_person_48 : decode cX12_person 48 = .ok (.invokestatic 131, 3) := by decide +kernel
theorem dX12_person_51 : decode cX12_person 51 = .ok (.iconst 0, 1) := by decide +kernel
theorem dX12_person_52 : decode cX12_person 52 = .ok (.iastore, 1) := by decide +kernel
theorem dX12_person_53 : decode cX12_person 53 = .ok (.aload_n 0, 1) := by decide +kernel
theorem dX12_person_54 : decode cX12_person 54 = .ok (.getfield 7, 3) := by decide +kernel
theorem dX12_person_57 : decode cX12_person 57 = .ok (.iload_n 2, 1) := by decide +kernel
theorem dX12_person_58 : decode cX12_person 58 = .ok (.iconst 2, 1) := by decide +kernel
theorem dX12_person_59 : decode cX12_person 59 = .ok (.invokestatic 131, 3) := by decide +kernel
theorem dX12_person_62 : decode cX12_person 62 = .ok (.bipush (-9), 2) := by decide +kernel
theorem dX12_person_64 : decode cX12_person 64 = .ok (.iastore, 1) := by decide +kernel
theorem dX12_person_65 : decode cX12_person 65 = .ok (.aload_n 0, 1) := by decide +kernel
theorem dX12_person_66 : decode cX12_person 66 = .ok (.getfield 7, 3) := by decide +kernel
theorem dX12_person_69 : decode cX12_person 69 = .ok (.iconst 1, 1) := by decide +kernel
theorem dX12_person_70 : decode cX12_person 70 = .ok (.dup2, 1) := by decide +kernel
theorem dX12_person_71 : decode cX12_person 71 = .ok (.iaload, 1) := by decide +kernel
theorem dX12_person_72 : decode cX12_person 72 = .ok (.iconst 1, 1) := by decide +kernel
theorem dX12_person_73 : decode cX12_person 73 = .ok (.iadd, 1) := by decide +kernel
theorem dX12_person_74 : decode cX12_person 74 = .ok (.iastore, 1) := by decide +kernel
theorem dX12_person_75 : decode cX12_person 75 = .ok (.iload_n 2, 1) := by decide +kernel
theorem dX12_person_76 : decode cX12_person 76 = .ok (.ireturn, 1) := by decide +kernel
theorem dX12_personOf_0 : decode cX12_personOf 0 = .ok (.aload_n 0, 1) := by decide +kernel
theorem dX12_personOf_1 : decode cX12_personOf 1 = .ok (.iload_n 1, 1) := by decide +kernel
theorem dX12_personOf_2 : decode cX12_personOf 2 = .ok (.invokevirtual 138, 3) := by decide +kernel
theorem dX12_personOf_5 : decode cX12_personOf 5 = .ok (.ifCond .eq 24, 3) := by decide +kernel
theorem dX12_personOf_8 : decode cX12_personOf 8 = .ok (.iload_n 2, 1) := by decide +kernel
theorem dX12_personOf_9 : decode cX12_personOf 9 = .ok (.i2l, 1) := by decide +kernel
theorem dX12_personOf_10 : decode cX12_personOf 10 = .ok (.lconst 0, 1) := by decide +kernel
theorem dX12_personOf_11 : decode cX12_personOf 11 = .ok (.ldc2_w 124, 3) := by decide +kernel
theorem dX12_personOf_14 : decode cX12_personOf 14 = .ok (.invokestatic 67, 3) := by decide +kernel
theorem dX12_personOf_17 : decode cX12_personOf 17 = .ok (.ifCond .eq 12, 3) := by decide +kernel
theorem dX12_personOf_20 : decode cX12_personOf 20 = .ok (.aload_n 0, 1) := by decide +kernel
theorem dX12_personOf_21 : decode cX12_personOf 21 = .ok (.iload_n 1, 1) := by decide +kernel
theorem dX12_personOf_22 : decode cX12_personOf 22 = .ok (.iload_n 2, 1) := by decide +kernel
theorem dX12_personOf_23 : decode cX12_personOf 23 = .ok (.invokevirtual 141, 3) := by decide +kernel
theorem dX12_personOf_26 : decode cX12_personOf 26 = .ok (.goto 4, 3) := by decide +kernel
theorem dX12_personOf_29 : decode cX12_personOf 29 = .ok (.iconst (-1), 1) := by decide +kernel
theorem dX12_personOf_30 : decode cX12_personOf 30 = .ok (.ireturn, 1) := by decide +kernel
theorem dX12_purse_0 : decode cX12_purse 0 = .ok (.aload_n 0, 1) := by decide +kernel
theorem dX12_purse_1 : decode cX12_purse 1 = .ok (.iload_n 1, 1) := by decide +kernel
theorem dX12_purse_2 : decode cX12_purse 2 = .ok (.invokevirtual 138, 3) := by decide +kernel
theorem dX12_purse_5 : decode cX12_purse 5 = .ok (.ifCond .eq 11, 3) := by decide +kernel
theorem dX12_purse_8 : decode cX12_purse 8 = .ok (.iload_n 2, 1) := by decide +kernel
theorem dX12_purse_9 : decode cX12_purse 9 = .ok (.i2l, 1) := by decide +kernel
theorem dX12_purse_10 : decode cX12_purse 10 = .ok (.invokestatic 134, 3) := by decide +kernel
theorem dX12_purse_13 : decode cX12_purse 13 = .ok (.ifCond .ne 5, 3) := by decide +kernel
theorem dX12_purse_16 : decode cX12_purse 16 = .ok (.iconst (-1), 1) := by decide +kernel
theorem dX12_purse_17 : decode cX12_purse 17 = .ok (.ireturn, 1) := by decide +kernel
theorem dX12_purse_18 : decode cX12_purse 18 = .ok (.aload_n 0, 1) := by decide +kernel
theorem dX12_purse_19 : decode cX12_purse 19 = .ok (.iload_n 1, 1) := by decide +kernel
theorem dX12_purse_20 : decode cX12_purse 20 = .ok (.iconst 0, 1) := by decide +kernel
theorem dX12_purse_21 : decode cX12_purse 21 = .ok (.invokevirtual 141, 3) := by decide +kernel
theorem dX12_purse_24 : decode cX12_purse 24 = .ok (.istore_n 3, 1) := by decide +kernel
theorem dX12_purse_25 : decode cX12_purse 25 = .ok (.aload_n 0, 1) := by decide +kernel
theorem dX12_purse_26 : decode cX12_purse 26 = .ok (.getfield 7, 3) := by decide +kernel
theorem dX12_purse_29 : decode cX12_purse 29 = .ok (.iload_n 1, 1) := by decide +kernel
theorem dX12_purse_30 : decode cX12_purse 30 = .ok (.iconst 0, 1) := by decide +kernel
theorem dX12_purse_31 : decode cX12_purse 31 = .ok (.invokestatic 131, 3) := by decide +kernel
theorem dX12_purse_34 : decode cX12_purse 34 = .ok (.iload_n 2, 1) := by decide +kernel
theorem dX12_purse_35 : decode cX12_purse 35 = .ok (.iastore, 1) := by decide +kernel
theorem dX12_purse_36 : decode cX12_purse 36 = .ok (.iload_n 3, 1) := by decide +kernel
theorem dX12_purse_37 : decode cX12_purse 37 = .ok (.ireturn, 1) := by decide +kernel
theorem dX12_crossed_0 : decode cX12_crossed 0 = .ok (.aload_n 0, 1) := by decide +kernel
theorem dX12_crossed_1 : decode cX12_crossed 1 = .ok (.getfield 7, 3) := by decide +kernel
theorem dX12_crossed_4 : decode cX12_crossed 4 = .ok (.iload_n 1, 1) := by decide +kernel
theorem dX12_crossed_5 : decode cX12_crossed 5 = .ok (.iconst 0, 1) := by decide +kernel
theorem dX12_crossed_6 : decode cX12_crossed 6 = .ok (.invokestatic 131, 3) := by decide +kernel
theorem dX12_crossed_9 : decode cX12_crossed 9 = .ok (.iload_n 3, 1) := by decide +kernel
theorem dX12_crossed_10 : decode cX12_crossed 10 = .ok (.iastore, 1) := by decide +kernel
theorem dX12_crossed_11 : decode cX12_crossed 11 = .ok (.aload_n 0, 1) := by decide +kernel
theorem dX12_crossed_12 : decode cX12_crossed 12 = .ok (.getfield 7, 3) := by decide +kernel
theorem dX12_crossed_15 : decode cX12_crossed 15 = .ok (.iload_n 1, 1) := by decide +kernel
theorem dX12_crossed_16 : decode cX12_crossed 16 = .ok (.iconst 1, 1) := by decide +kernel
theorem dX12_crossed_17 : decode cX12_crossed 17 = .ok (.invokestatic 131, 3) := by decide +kernel
theorem dX12_crossed_20 : decode cX12_crossed 20 = .ok (.dup2, 1) := by decide +kernel
theorem dX12_crossed_21 : decode cX12_crossed 21 = .ok (.iaload, 1) := by decide +kernel
theorem dX12_crossed_22 : decode cX12_crossed 22 = .ok (.iconst 1, 1) := by decide +kernel
theorem dX12_crossed_23 : decode cX12_crossed 23 = .ok (.iadd, 1) := by decide +kernel
theorem dX12_crossed_24 : decode cX12_crossed 24 = .ok (.iastore, 1) := by decide +kernel
theorem dX12_crossed_25 : decode cX12_crossed 25 = .ok (.aload_n 0, 1) := by decide +kernel
theorem dX12_crossed_26 : decode cX12_crossed 26 = .ok (.getfield 7, 3) := by decide +kernel
theorem dX12_crossed_29 : decode cX12_crossed 29 = .ok (.iload_n 1, 1) := by decide +kernel
theorem dX12_crossed_30 : decode cX12_crossed 30 = .ok (.iconst 2, 1) := by decide +kernel
theorem dX12_crossed_31 : decode cX12_crossed 31 = .ok (.invokestatic 131, 3) := by decide +kernel
theorem dX12_crossed_34 : decode cX12_crossed 34 = .ok (.iload_n 2, 1) := by decide +kernel
theorem dX12_crossed_35 : decode cX12_crossed 35 = .ok (.iastore, 1) := by decide +kernel
theorem dX12_crossed_36 : decode cX12_crossed 36 = .ok (.return_, 1) := by decide +kernel
theorem dX12_cross_0 : decode cX12_cross 0 = .ok (.aload_n 0, 1) := by decide +kernel
theorem dX12_cross_1 : decode cX12_cross 1 = .ok (.iload_n 1, 1) := by decide +kernel
theorem dX12_cross_2 : decode cX12_cross 2 = .ok (.invokevirtual 138, 3) := by decide +kernel
theorem dX12_cross_5 : decode cX12_cross 5 = .ok (.ifCond .eq 11, 3) := by decide +kernel
theorem dX12_cross_8 : decode cX12_cross 8 = .ok (.aload_n 0, 1) := by decide +kernel
theorem dX12_cross_9 : decode cX12_cross 9 = .ok (.iload_n 2, 1) := by decide +kernel
theorem dX12_cross_10 : decode cX12_cross 10 = .ok (.invokevirtual 114, 3) := by decide +kernel
theorem dX12_cross_13 : decode cX12_cross 13 = .ok (.ifCond .ne 5, 3) := by decide +kernel
theorem dX12_cross_16 : decode cX12_cross 16 = .ok (.iconst (-1), 1) := by decide +kernel
theorem dX12_cross_17 : decode cX12_cross 17 = .ok (.ireturn, 1) := by decide +kernel
theorem dX12_cross_18 : decode cX12_cross 18 = .ok (.aload_n 0, 1) := by decide +kernel
theorem dX12_cross_19 : decode cX12_cross 19 = .ok (.iload_n 2, 1) := by decide +kernel
theorem dX12_cross_20 : decode cX12_cross 20 = .ok (.aload_n 0, 1) := by decide +kernel
theorem dX12_cross_21 : decode cX12_cross 21 = .ok (.iload_n 1, 1) := by decide +kernel
theorem dX12_cross_22 : decode cX12_cross 22 = .ok (.iconst 0, 1) := by decide +kernel
theorem dX12_cross_23 : decode cX12_cross 23 = .ok (.invokevirtual 141, 3) := by decide +kernel
theorem dX12_cross_26 : decode cX12_cross 26 = .ok (.i2l, 1) := by decide +kernel
theorem dX12_cross_27 : decode cX12_cross 27 = .ok (.invokevirtual 144, 3) := by decide +kernel
theorem dX12_cross_30 : decode cX12_cross 30 = .ok (.istore_n 3, 1) := by decide +kernel
theorem dX12_cross_31 : decode cX12_cross 31 = .ok (.iload_n 3, 1) := by decide +kernel
theorem dX12_cross_32 : decode cX12_cross 32 = .ok (.ifCond .ge 6, 3) := by decide +kernel
theorem dX12_cross_35 : decode cX12_cross 35 = .ok (.bipush (-4), 2) := by decide +kernel
theorem dX12_cross_37 : decode cX12_cross 37 = .ok (.ireturn, 1) := by decide +kernel
theorem dX12_cross_38 : decode cX12_cross 38 = .ok (.aload_n 0, 1) := by decide +kernel
theorem dX12_cross_39 : decode cX12_cross 39 = .ok (.iload_n 1, 1) := by decide +kernel
theorem dX12_cross_40 : decode cX12_cross 40 = .ok (.iload_n 2, 1) := by decide +kernel
theorem dX12_cross_41 : decode cX12_cross 41 = .ok (.iload_n 3, 1) := by decide +kernel
theorem dX12_cross_42 : decode cX12_cross 42 = .ok (.invokevirtual 148, 3) := by decide +kernel
theorem dX12_cross_45 : decode cX12_cross 45 = .ok (.iload_n 3, 1) := by decide +kernel
theorem dX12_cross_46 : decode cX12_cross 46 = .ok (.ireturn, 1) := by decide +kernel
theorem dX12_pool_0 : decode cX12_pool 0 = .ok (.aload_n 0, 1) := by decide +kernel
theorem dX12_pool_1 : decode cX12_pool 1 = .ok (.iload_n 1, 1) := by decide +kernel
theorem dX12_pool_2 : decode cX12_pool 2 = .ok (.invokevirtual 138, 3) := by decide +kernel
theorem dX12_pool_5 : decode cX12_pool 5 = .ok (.ifCond .eq 24, 3) := by decide +kernel
theorem dX12_pool_8 : decode cX12_pool 8 = .ok (.aload_n 0, 1) := by decide +kernel
theorem dX12_pool_9 : decode cX12_pool 9 = .ok (.iload_n 2, 1) := by decide +kernel
theorem dX12_pool_10 : decode cX12_pool 10 = .ok (.invokevirtual 138, 3) := by decide +kernel
theorem dX12_pool_13 : decode cX12_pool 13 = .ok (.ifCond .eq 16, 3) := by decide +kernel
theorem dX12_pool_16 : decode cX12_pool 16 = .ok (.iload_n 1, 1) := by decide +kernel
theorem dX12_pool_17 : decode cX12_pool 17 = .ok (.iload_n 2, 1) := by decide +kernel
theorem dX12_pool_18 : decode cX12_pool 18 = .ok (.if_icmp .eq 11, 3) := by decide +kernel
theorem dX12_pool_21 : decode cX12_pool 21 = .ok (.aload_n 0, 1) := by decide +kernel
theorem dX12_pool_22 : decode cX12_pool 22 = .ok (.iload_n 3, 1) := by decide +kernel
theorem dX12_pool_23 : decode cX12_pool 23 = .ok (.invokevirtual 114, 3) := by decide +kernel
theorem dX12_pool_26 : decode cX12_pool 26 = .ok (.ifCond .ne 5, 3) := by decide +kernel
theorem dX12_pool_29 : decode cX12_pool 29 = .ok (.iconst (-1), 1) := by decide +kernel
theorem dX12_pool_30 : decode cX12_pool 30 = .ok (.ireturn, 1) := by decide +kernel
theorem dX12_pool_31 : decode cX12_pool 31 = .ok (.aload_n 0, 1) := by decide +kernel
theorem dX12_pool_32 : decode cX12_pool 32 = .ok (.iload_n 1, 1) := by decide +kernel
theorem dX12_pool_33 : decode cX12_pool 33 = .ok (.iconst 0, 1) := by decide +kernel
theorem dX12_pool_34 : decode cX12_pool 34 = .ok (.invokevirtual 141, 3) := by decide +kernel
theorem dX12_pool_37 : decode cX12_pool 37 = .ok (.i2l, 1) := by decide +kernel
theorem dX12_pool_38 : decode cX12_pool 38 = .ok (.aload_n 0, 1) := by decide +kernel
theorem dX12_pool_39 : decode cX12_pool 39 = .ok (.iload_n 2, 1) := by decide +kernel
theorem dX12_pool_40 : decode cX12_pool 40 = .ok (.iconst 0, 1) := by decide +kernel
theorem dX12_pool_41 : decode cX12_pool 41 = .ok (.invokevirtual 141, 3) := by decide +kernel
theorem dX12_pool_44 : decode cX12_pool 44 = .ok (.i2l, 1) := by decide +kernel
theorem dX12_pool_45 : decode cX12_pool 45 = .ok (.ladd, 1) := by decide +kernel
theorem dX12_pool_46 : decode cX12_pool 46 = .ok (.lstore 4, 2) := by decide +kernel
theorem dX12_pool_48 : decode cX12_pool 48 = .ok (.lload 4, 2) := by decide +kernel
theorem dX12_pool_50 : decode cX12_pool 50 = .ok (.lconst 1, 1) := by decide +kernel
theorem dX12_pool_51 : decode cX12_pool 51 = .ok (.ldc2_w 65, 3) := by decide +kernel
theorem dX12_pool_54 : decode cX12_pool 54 = .ok (.invokestatic 67, 3) := by decide +kernel
theorem dX12_pool_57 : decode cX12_pool 57 = .ok (.ifCond .ne 7, 3) := by decide +kernel
theorem dX12_pool_60 : decode cX12_pool 60 = .ok (.iconst (-1), 1) := by decide +kernel
theorem dX12_pool_61 : decode cX12_pool 61 = .ok (.goto 10, 3) := by decide +kernel
theorem dX12_pool_64 : decode cX12_pool 64 = .ok (.aload_n 0, 1) := by decide +kernel
theorem dX12_pool_65 : decode cX12_pool 65 = .ok (.iload_n 3, 1) := by decide +kernel
theorem dX12_pool_66 : decode cX12_pool 66 = .ok (.lload 4, 2) := by decide +kernel
theorem dX12_pool_68 : decode cX12_pool 68 = .ok (.invokevirtual 144, 3) := by decide +kernel
theorem dX12_pool_71 : decode cX12_pool 71 = .ok (.istore 6, 2) := by decide +kernel
theorem dX12_pool_73 : decode cX12_pool 73 = .ok (.iload 6, 2) := by decide +kernel
theorem dX12_pool_75 : decode cX12_pool 75 = .ok (.ifCond .ge 6, 3) := by decide +kernel
theorem dX12_pool_78 : decode cX12_pool 78 = .ok (.bipush (-4), 2) := by decide +kernel
theorem dX12_pool_80 : decode cX12_pool 80 = .ok (.ireturn, 1) := by decide +kernel
theorem dX12_pool_81 : decode cX12_pool 81 = .ok (.iload 6, 2) := by decide +kernel
theorem dX12_pool_83 : decode cX12_pool 83 = .ok (.i2l, 1) := by decide +kernel
theorem dX12_pool_84 : decode cX12_pool 84 = .ok (.aload_n 0, 1) := by decide +kernel
theorem dX12_pool_85 : decode cX12_pool 85 = .ok (.iload_n 1, 1) := by decide +kernel
theorem dX12_pool_86 : decode cX12_pool 86 = .ok (.iconst 0, 1) := by decide +kernel
theorem dX12_pool_87 : decode cX12_pool 87 = .ok (.invokevirtual 141, 3) := by decide +kernel
theorem dX12_pool_90 : decode cX12_pool 90 = .ok (.i2l, 1) := by decide +kernel
theorem dX12_pool_91 : decode cX12_pool 91 = .ok (.lmul, 1) := by decide +kernel
theorem dX12_pool_92 : decode cX12_pool 92 = .ok (.lload 4, 2) := by decide +kernel
theorem dX12_pool_94 : decode cX12_pool 94 = .ok (.ldiv, 1) := by decide +kernel
theorem dX12_pool_95 : decode cX12_pool 95 = .ok (.l2i, 1) := by decide +kernel
theorem dX12_pool_96 : decode cX12_pool 96 = .ok (.istore 7, 2) := by decide +kernel
theorem dX12_pool_98 : decode cX12_pool 98 = .ok (.aload_n 0, 1) := by decide +kernel
theorem dX12_pool_99 : decode cX12_pool 99 = .ok (.iload_n 1, 1) := by decide +kernel
theorem dX12_pool_100 : decode cX12_pool 100 = .ok (.iload_n 3, 1) := by decide +kernel
theorem dX12_pool_101 : decode cX12_pool 101 = .ok (.iload 7, 2) := by decide +kernel
theorem dX12_pool_103 : decode cX12_pool 103 = .ok (.invokevirtual 148, 3) := by decide +kernel
theorem dX12_pool_106 : decode cX12_pool 106 = .ok (.aload_n 0, 1) := by decide +kernel
theorem dX12_pool_107 : decode cX12_pool 107 = .ok (.iload_n 2, 1) := by decide +kernel
theorem dX12_pool_108 : decode cX12_pool 108 = .ok (.iload_n 3, 1) := by decide +kernel
theorem dX12_pool_109 : decode cX12_pool 109 = .ok (.iload 6, 2) := by decide +kernel
theorem dX12_pool_111 : decode cX12_pool 111 = .ok (.iload 7, 2) := by decide +kernel
theorem dX12_pool_113 : decode cX12_pool 113 = .ok (.isub, 1) := by decide +kernel
theorem dX12_pool_114 : decode cX12_pool 114 = .ok (.invokevirtual 148, 3) := by decide +kernel
theorem dX12_pool_117 : decode cX12_pool 117 = .ok (.iload 7, 2) := by decide +kernel
theorem dX12_pool_119 : decode cX12_pool 119 = .ok (.ireturn, 1) := by decide +kernel
