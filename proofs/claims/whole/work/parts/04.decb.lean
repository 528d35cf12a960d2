theorem dX11_init_91 : decode cX11_init 91 = .ok (.anewarray 37, 3) := by decide +kernel
theorem dX11_init_94 : decode cX11_init 94 = .ok (.putfield 46, 3) := by decide +kernel
theorem dX11_init_97 : decode cX11_init 97 = .ok (.aload_n 0, 1) := by decide +kernel
theorem dX11_init_98 : decode cX11_init 98 = .ok (.new 49, 3) := by decide +kernel
theorem dX11_init_101 : decode cX11_init 101 = .ok (.dup, 1) := by decide +kernel
theorem dX11_init_102 : decode cX11_init 102 = .ok (.invokespecial 51, 3) := by decide +kernel
theorem dX11_init_105 : decode cX11_init 105 = .ok (.putfield 52, 3) := by decide +kernel
theorem dX11_init_108 : decode cX11_init 108 = .ok (.aload_n 0, 1) := by decide +kernel
theorem dX11_init_109 : decode cX11_init 109 = .ok (.sipush 512, 3) := by decide +kernel
theorem dX11_init_112 : decode cX11_init 112 = .ok (.newarray .int, 2) := by decide +kernel
theorem dX11_init_114 : decode cX11_init 114 = .ok (.putfield 56, 3) := by decide +kernel
theorem dX11_init_117 : decode cX11_init 117 = .ok (.aload_n 0, 1) := by decide +kernel
theorem dX11_init_118 : decode cX11_init 118 = .ok (.sipush 512, 3) := by decide +kernel
theorem dX11_init_121 : decode cX11_init 121 = .ok (.newarray .int, 2) := by decide +kernel
theorem dX11_init_123 : decode cX11_init 123 = .ok (.putfield 59, 3) := by decide +kernel
theorem dX11_init_126 : decode cX11_init 126 = .ok (.aload_n 0, 1) := by decide +kernel
theorem dX11_init_127 : decode cX11_init 127 = .ok (.bipush 61, 2) := by decide +kernel
theorem dX11_init_129 : decode cX11_init 129 = .ok (.newarray .int, 2) := by decide +kernel
theorem dX11_init_131 : decode cX11_init 131 = .ok (.putfield 62, 3) := by decide +kernel
theorem dX11_init_134 : decode cX11_init 134 = .ok (.return_, 1) := by decide +kernel
theorem dX11_bridge_0 : decode cX11_bridge 0 = .ok (.iload_n 1, 1) := by decide +kernel
theorem dX11_bridge_1 : decode cX11_bridge 1 = .ok (.invokestatic 65, 3) := by decide +kernel
theorem dX11_bridge_4 : decode cX11_bridge 4 = .ok (.ifCond .eq 25, 3) := by decide +kernel
theorem dX11_bridge_7 : decode cX11_bridge 7 = .ok (.iload_n 2, 1) := by decide +kernel
theorem dX11_bridge_8 : decode cX11_bridge 8 = .ok (.invokestatic 69, 3) := by decide +kernel
theorem dX11_bridge_11 : decode cX11_bridge 11 = .ok (.ifCond .eq 18, 3) := by decide +kernel
theorem dX11_bridge_14 : decode cX11_bridge 14 = .ok (.iload_n 3, 1) := by decide +kernel
theorem dX11_bridge_15 : decode cX11_bridge 15 = .ok (.invokestatic 72, 3) := by decide +kernel
theorem dX11_bridge_18 : decode cX11_bridge 18 = .ok (.ifCond .eq 11, 3) := by decide +kernel
theorem dX11_bridge_21 : decode cX11_bridge 21 = .ok (.iload 4, 2) := by decide +kernel
theorem dX11_bridge_23 : decode cX11_bridge 23 = .ok (.invokestatic 75, 3) := by decide +kernel
theorem dX11_bridge_26 : decode cX11_bridge 26 = .ok (.ifCond .ne 5, 3) := by decide +kernel
theorem dX11_bridge_29 : decode cX11_bridge 29 = .ok (.iconst (-1), 1) := by decide +kernel
theorem dX11_bridge_30 : decode cX11_bridge 30 = .ok (.ireturn, 1) := by decide +kernel
theorem dX11_bridge_31 : decode cX11_bridge 31 = .ok (.aload_n 0, 1) := by decide +kernel
theorem dX11_bridge_32 : decode cX11_bridge 32 = .ok (.getfield 10, 3) := by decide +kernel
theorem dX11_bridge_35 : decode cX11_bridge 35 = .ok (.iload_n 1, 1) := by decide +kernel
theorem dX11_bridge_36 : decode cX11_bridge 36 = .ok (.iload_n 2, 1) := by decide +kernel
theorem dX11_bridge_37 : decode cX11_bridge 37 = .ok (.iload_n 3, 1) := by decide +kernel
theorem dX11_bridge_38 : decode cX11_bridge 38 = .ok (.iload 4, 2) := by decide +kernel
theorem dX11_bridge_40 : decode cX11_bridge 40 = .ok (.invokevirtual 78, 3) := by decide +kernel
theorem dX11_bridge_43 : decode cX11_bridge 43 = .ok (.ireturn, 1) := by decide +kernel
theorem dX11_bridgeOf_0 : decode cX11_bridgeOf 0 = .ok (.aload_n 0, 1) := by decide +kernel
theorem dX11_bridgeOf_1 : decode cX11_bridgeOf 1 = .ok (.getfield 10, 3) := by decide +kernel
theorem dX11_bridgeOf_4 : decode cX11_bridgeOf 4 = .ok (.iload_n 1, 1) := by decide +kernel
theorem dX11_bridgeOf_5 : decode cX11_bridgeOf 5 = .ok (.invokevirtual 82, 3) := by decide +kernel
theorem dX11_bridgeOf_8 : decode cX11_bridgeOf 8 = .ok (.astore_n 3, 1) := by decide +kernel
theorem dX11_bridgeOf_9 : decode cX11_bridgeOf 9 = .ok (.aload_n 3, 1) := by decide +kernel
theorem dX11_bridgeOf_10 : decode cX11_bridgeOf 10 = .ok (.ifnonnull 5, 3) := by decide +kernel
theorem dX11_bridgeOf_13 : decode cX11_bridgeOf 13 = .ok (.iconst (-1), 1) := by decide +kernel
theorem dX11_bridgeOf_14 : decode cX11_bridgeOf 14 = .ok (.ireturn, 1) := by decide +kernel
theorem dX11_bridgeOf_15 : decode cX11_bridgeOf 15 = .ok (.iload_n 2, 1) := by decide +kernel
theorem dX11_bridgeOf_16 : decode cX11_bridgeOf 16 = .ok (.tableswitch 87 0 6 #[44, 49, 54, 59, 64, 69, 74], 44) := by decide +kernel
theorem dX11_bridgeOf_60 : decode cX11_bridgeOf 60 = .ok (.aload_n 3, 1) := by decide +kernel
theorem dX11_bridgeOf_61 : decode cX11_bridgeOf 61 = .ok (.getfield 86, 3) := by decide +kernel
theorem dX11_bridgeOf_64 : decode cX11_bridgeOf 64 = .ok (.ireturn, 1) := by decide +kernel
theorem dX11_bridgeOf_65 : decode cX11_bridgeOf 65 = .ok (.aload_n 3, 1) := by decide +kernel
theorem dX11_bridgeOf_66 : decode cX11_bridgeOf 66 = .ok (.getfield 91, 3) := by decide +kernel
theorem dX11_bridgeOf_69 : decode cX11_bridgeOf 69 = .ok (.ireturn, 1) := by decide +kernel
theorem dX11_bridgeOf_70 : decode cX11_bridgeOf 70 = .ok (.aload_n 3, 1) := by decide +kernel
theorem dX11_bridgeOf_71 : decode cX11_bridgeOf 71 = .ok (.getfield 94, 3) := by decide +kernel
theorem dX11_bridgeOf_74 : decode cX11_bridgeOf 74 = .ok (.ireturn, 1) := by decide +kernel
theorem dX11_bridgeOf_75 : decode cX11_bridgeOf 75 = .ok (.aload_n 3, 1) := by decide +kernel
theorem dX11_bridgeOf_76 : decode cX11_bridgeOf 76 = .ok (.getfield 97, 3) := by decide +kernel
theorem dX11_bridgeOf_79 : decode cX11_bridgeOf 79 = .ok (.ireturn, 1) := by decide +kernel
theorem dX11_bridgeOf_80 : decode cX11_bridgeOf 80 = .ok (.aload_n 3, 1) := by decide +kernel
theorem dX11_bridgeOf_81 : decode cX11_bridgeOf 81 = .ok (.getfield 100, 3) := by decide +kernel
theorem dX11_bridgeOf_84 : decode cX11_bridgeOf 84 = .ok (.ireturn, 1) := by decide +kernel
theorem dX11_bridgeOf_85 : decode cX11_bridgeOf 85 = .ok (.aload_n 3, 1) := by decide +kernel
theorem dX11_bridgeOf_86 : decode cX11_bridgeOf 86 = .ok (.getfield 103, 3) := by decide +kernel
theorem dX11_bridgeOf_89 : decode cX11_bridgeOf 89 = .ok (.ireturn, 1) := by decide +kernel
theorem dX11_bridgeOf_90 : decode cX11_bridgeOf 90 = .ok (.aload_n 3, 1) := by decide +kernel
theorem dX11_bridgeOf_91 : decode cX11_bridgeOf 91 = .ok (.getfield 106, 3) := by decide +kernel
theorem dX11_bridgeOf_94 : decode cX11_bridgeOf 94 = .ok (.ifCond .eq 7, 3) := by decide +kernel
theorem dX11_bridgeOf_97 : decode cX11_bridgeOf 97 = .ok (.iconst 1, 1) := by decide +kernel
theorem dX11_bridgeOf_98 : decode cX11_bridgeOf 98 = .ok (.goto 4, 3) := by decide +kernel
theorem dX11_bridgeOf_101 : decode cX11_bridgeOf 101 = .ok (.iconst 0, 1) := by decide +kernel
theorem dX11_bridgeOf_102 : decode cX11_bridgeOf 102 = .ok (.ireturn, 1) := by decide +kernel
theorem dX11_bridgeOf_103 : decode cX11_bridgeOf 103 = .ok (.iconst (-1), 1) := by decide +kernel
theorem dX11_bridgeOf_104 : decode cX11_bridgeOf 104 = .ok (.ireturn, 1) := by decide +kernel
theorem dX11_change_0 : decode cX11_change 0 = .ok (.aload_n 0, 1) := by decide +kernel
theorem dX11_change_1 : decode cX11_change 1 = .ok (.getfield 10, 3) := by decide +kernel
theorem dX11_change_4 : decode cX11_change 4 = .ok (.iload_n 1, 1) := by decide +kernel
theorem dX11_change_5 : decode cX11_change 5 = .ok (.invokevirtual 82, 3) := by decide +kernel
theorem dX11_change_8 : decode cX11_change 8 = .ok (.astore 4, 2) := by decide +kernel
theorem dX11_change_10 : decode cX11_change 10 = .ok (.aload 4, 2) := by decide +kernel
theorem dX11_change_12 : decode cX11_change 12 = .ok (.ifnonnull 5, 3) := by decide +kernel
theorem dX11_change_15 : decode cX11_change 15 = .ok (.iconst (-1), 1) := by decide +kernel
theorem dX11_change_16 : decode cX11_change 16 = .ok (.ireturn, 1) := by decide +kernel
theorem dX11_change_17 : decode cX11_change 17 = .ok (.iconst (-1), 1) := by decide +kernel
theorem dX11_change_18 : decode cX11_change 18 = .ok (.istore 5, 2) := by decide +kernel
theorem dX11_change_20 : decode cX11_change 20 = .ok (.iload_n 2, 1) := by decide +kernel
theorem dX11_change_21 : decode cX11_change 21 = .ok (.iconst 1, 1) := by decide +kernel
theorem dX11_change_22 : decode cX11_change 22 = .ok (.if_icmp .ne 26, 3) := by decide +kernel
theorem dX11_change_25 : decode cX11_change 25 = .ok (.iload_n 3, 1) := by decide +kernel
theorem dX11_change_26 : decode cX11_change 26 = .ok (.invokestatic 69, 3) := by decide +kernel
theorem dX11_change_29 : decode cX11_change 29 = .ok (.ifCond .eq 19, 3) := by decide +kernel
theorem dX11_change_32 : decode cX11_change 32 = .ok (.aload 4, 2) := by decide +kernel
theorem dX11_change_34 : decode cX11_change 34 = .ok (.getfield 91, 3) := by decide +kernel
theorem dX11_change_37 : decode cX11_change 37 = .ok (.istore 5, 2) := by decide +kernel
theorem dX11_change_39 : decode cX11_change 39 = .ok (.aload 4, 2) := by decide +kernel
theorem dX11_change_41 : decode cX11_change 41 = .ok (.iload_n 3, 1) := by decide +kernel
theorem dX11_change_42 : decode cX11_change 42 = .ok (.putfield 91, 3) := by decide +kernel
theorem dX11_change_45 : decode cX11_change 45 = .ok (.goto 56, 3) := by decide +kernel
theorem dX11_change_48 : decode cX11_change 48 = .ok (.iload_n 2, 1) := by decide +kernel
theorem dX11_change_49 : decode cX11_change 49 = .ok (.iconst 2, 1) := by decide +kernel
theorem dX11_change_50 : decode cX11_change 50 = .ok (.if_icmp .ne 26, 3) := by decide +kernel
theorem dX11_change_53 : decode cX11_change 53 = .ok (.iload_n 3, 1) := by decide +kernel
theorem dX11_change_54 : decode cX11_change 54 = .ok (.invokestatic 72, 3) := by decide +kernel
theorem dX11_change_57 : decode cX11_change 57 = .ok (.ifCond .eq 19, 3) := by decide +kernel
theorem dX11_change_60 : decode cX11_change 60 = .ok (.aload 4, 2) := by decide +kernel
theorem dX11_change_62 : decode cX11_change 62 = .ok (.getfield 94, 3) := by decide +kernel
theorem dX11_change_65 : decode cX11_change 65 = .ok (.istore 5, 2) := by decide +kernel
theorem dX11_change_67 : decode cX11_change 67 = .ok (.aload 4, 2) := by decide +kernel
theorem dX11_change_69 : decode cX11_change 69 = .ok (.iload_n 3, 1) := by decide +kernel
theorem dX11_change_70 : decode cX11_change 70 = .ok (.putfield 94, 3) := by decide +kernel
theorem dX11_change_73 : decode cX11_change 73 = .ok (.goto 28, 3) := by decide +kernel
theorem dX11_change_76 : decode cX11_change 76 = .ok (.iload_n 2, 1) := by decide +kernel
theorem dX11_change_77 : decode cX11_change 77 = .ok (.iconst 3, 1) := by decide +kernel
theorem dX11_change_78 : decode cX11_change 78 = .ok (.if_icmp .ne 23, 3) := by decide +kernel
theorem dX11_change_81 : decode cX11_change 81 = .ok (.iload_n 3, 1) := by decide +kernel
theorem dX11_change_82 : decode cX11_change 82 = .ok (.invokestatic 75, 3) := by decide +kernel
theorem dX11_change_85 : decode cX11_change 85 = .ok (.ifCond .eq 16, 3) := by decide +kernel
theorem dX11_change_88 : decode cX11_change 88 = .ok (.aload 4, 2) := by decide +kernel
theorem dX11_change_90 : decode cX11_change 90 = .ok (.getfield 97, 3) := by decide +kernel
theorem dX11_change_93 : decode cX11_change 93 = .ok (.istore 5, 2) := by decide +kernel
theorem dX11_change_95 : decode cX11_change 95 = .ok (.aload 4, 2) := by decide +kernel
theorem dX11_change_97 : decode cX11_change 97 = .ok (.iload_n 3, 1) := by decide +kernel
theorem dX11_change_98 : decode cX11_change 98 = .ok (.putfield 97, 3) := by decide +kernel
theorem dX11_change_101 : decode cX11_change 101 = .ok (.aload 4, 2) := by decide +kernel
theorem dX11_change_103 : decode cX11_change 103 = .ok (.aload_n 0, 1) := by decide +kernel
theorem dX11_change_104 : decode cX11_change 104 = .ok (.getfield 10, 3) := by decide +kernel
theorem dX11_change_107 : decode cX11_change 107 = .ok (.getfield 109, 3) := by decide +kernel
theorem dX11_change_110 : decode cX11_change 110 = .ok (.aload_n 0, 1) := by decide +kernel
theorem dX11_change_111 : decode cX11_change 111 = .ok (.getfield 10, 3) := by decide +kernel
theorem dX11_change_114 : decode cX11_change 114 = .ok (.getfield 113, 3) := by decide +kernel
theorem dX11_change_117 : decode cX11_change 117 = .ok (.invokevirtual 116, 3) := by decide +kernel
theorem dX11_change_120 : decode cX11_change 120 = .ok (.iload 5, 2) := by decide +kernel
theorem dX11_change_122 : decode cX11_change 122 = .ok (.ireturn, 1) := by decide +kernel
theorem dX11_mend_0 : decode cX11_mend 0 = .ok (.aload_n 0, 1) := by decide +kernel
theorem dX11_mend_1 : decode cX11_mend 1 = .ok (.getfield 10, 3) := by decide +kernel
theorem dX11_mend_4 : decode cX11_mend 4 = .ok (.iload_n 1, 1) := by decide +kernel
theorem dX11_mend_5 : decode cX11_mend 5 = .ok (.invokevirtual 82, 3) := by decide +kernel
theorem dX11_mend_8 : decode cX11_mend 8 = .ok (.astore_n 3, 1) := by decide +kernel
theorem dX11_mend_9 : decode cX11_mend 9 = .ok (.aload_n 3, 1) := by decide +kernel
theorem dX11_mend_10 : decode cX11_mend 10 = .ok (.ifnull 10, 3) := by decide +kernel
theorem dX11_mend_13 : decode cX11_mend 13 = .ok (.iload_n 2, 1) := by decide +kernel
theorem dX11_mend_14 : decode cX11_mend 14 = .ok (.invokestatic 65, 3) := by decide +kernel
theorem dX11_mend_17 : decode cX11_mend 17 = .ok (.ifCond .ne 5, 3) := by decide +kernel
theorem dX11_mend_20 : decode cX11_mend 20 = .ok (.iconst (-1), 1) := by decide +kernel
theorem dX11_mend_21 : decode cX11_mend 21 = .ok (.ireturn, 1) := by decide +kernel
theorem dX11_mend_22 : decode cX11_mend 22 = .ok (.aload_n 0, 1) := by decide +kernel
theorem dX11_mend_23 : decode cX11_mend 23 = .ok (.getfield 10, 3) := by decide +kernel
theorem dX11_mend_26 : decode cX11_mend 26 = .ok (.iload_n 1, 1) := by decide +kernel
theorem dX11_mend_27 : decode cX11_mend 27 = .ok (.iload_n 2, 1) := by decide +kernel
theorem dX11_mend_28 : decode cX11_mend 28 = .ok (.iload_n 1, 1) := by decide +kernel
theorem dX11_mend_29 : decode cX11_mend 29 = .ok (.aload_n 3, 1) := by decide +kernel
theorem dX11_mend_30 : decode cX11_mend 30 = .ok (.getfield 91, 3) := by decide +kernel
theorem dX11_mend_33 : decode cX11_mend 33 = .ok (.aload_n 3, 1) := by decide +kernel
theorem dX11_mend_34 : decode cX11_mend 34 = .ok (.getfield 94, 3) := by decide +kernel
theorem dX11_mend_37 : decode cX11_mend 37 = .ok (.aload_n 3, 1) := by decide +kernel
theorem dX11_mend_38 : decode cX11_mend 38 = .ok (.getfield 97, 3) := by decide +kernel
theorem dX11_mend_41 : decode cX11_mend 41 = .ok (.invokestatic 120, 3) := by decide +kernel
theorem dX11_mend_44 : decode cX11_mend 44 = .ok (.invokevirtual 124, 3) := by decide +kernel
theorem dX11_mend_47 : decode cX11_mend 47 = .ok (.aload_n 3, 1) := by decide +kernel
theorem dX11_mend_48 : decode cX11_mend 48 = .ok (.getfield 86, 3) := by decide +kernel
theorem dX11_mend_51 : decode cX11_mend 51 = .ok (.ireturn, 1) := by decide +kernel
theorem dX11_day_0 : decode cX11_day 0 = .ok (.iload_n 1, 1) := by decide +kernel
theorem dX11_day_1 : decode cX11_day 1 = .ok (.invokestatic 75, 3) := by decide +kernel
theorem dX11_day_4 : decode cX11_day 4 = .ok (.ifCond .ne 5, 3) := by decide +kernel
theorem dX11_day_7 : decode cX11_day 7 = .ok (.iconst (-1), 1) := by decide +kernel
theorem dX11_day_8 : decode cX11_day 8 = .ok (.ireturn, 1) := by decide +kernel
theorem dX11_day_9 : decode cX11_day 9 = .ok (.aload_n 0, 1) := by decide +kernel
theorem dX11_day_10 : decode cX11_day 10 = .ok (.getfield 10, 3) := by decide +kernel
theorem dX11_day_13 : decode cX11_day 13 = .ok (.getfield 113, 3) := by decide +kernel
theorem dX11_day_16 : decode cX11_day 16 = .ok (.istore_n 2, 1) := by decide +kernel
theorem dX11_day_17 : decode cX11_day 17 = .ok (.aload_n 0, 1) := by decide +kernel
theorem dX11_day_18 : decode cX11_day 18 = .ok (.getfield 10, 3) := by decide +kernel
theorem dX11_day_21 : decode cX11_day 21 = .ok (.iload_n 1, 1) := by decide +kernel
theorem dX11_day_22 : decode cX11_day 22 = .ok (.putfield 113, 3) := by decide +kernel
theorem dX11_day_25 : decode cX11_day 25 = .ok (.aload_n 0, 1) := by decide +kernel
theorem dX11_day_26 : decode cX11_day 26 = .ok (.getfield 10, 3) := by decide +kernel
theorem dX11_day_29 : decode cX11_day 29 = .ok (.invokevirtual 128, 3) := by decide +kernel
theorem dX11_day_32 : decode cX11_day 32 = .ok (.iload_n 2, 1) := by decide +kernel
theorem dX11_day_33 : decode cX11_day 33 = .ok (.ireturn, 1) := by decide +kernel
theorem dX11_feed_0 : decode cX11_feed 0 = .ok (.iload_n 3, 1) := by decide +kernel
theorem dX11_feed_1 : decode cX11_feed 1 = .ok (.iconst 1, 1) := by decide +kernel
theorem dX11_feed_2 : decode cX11_feed 2 = .ok (.if_icmp .lt 9, 3) := by decide +kernel
theorem dX11_feed_5 : decode cX11_feed 5 = .ok (.iload_n 3, 1) := by decide +kernel
theorem dX11_feed_6 : decode cX11_feed 6 = .ok (.bipush 8, 2) := by decide +kernel
theorem dX11_feed_8 : decode cX11_feed 8 = .ok (.if_icmp .le 5, 3) := by decide +kernel
theorem dX11_feed_11 : decode cX11_feed 11 = .ok (.iconst (-1), 1) := by decide +kernel
theorem dX11_feed_12 : decode cX11_feed 12 = .ok (.ireturn, 1) := by decide +kernel
theorem dX11_feed_13 : decode cX11_feed 13 = .ok (.aload_n 0, 1) := by decide +kernel
theorem dX11_feed_14 : decode cX11_feed 14 = .ok (.getfield 27, 3) := by decide +kernel
theorem dX11_feed_17 : decode cX11_feed 17 = .ok (.iload_n 3, 1) := by decide +kernel
theorem dX11_feed_18 : decode cX11_feed 18 = .ok (.iadd, 1) := by decide +kernel
theorem dX11_feed_19 : decode cX11_feed 19 = .ok (.sipush 200, 3) := by decide +kernel
theorem dX11_feed_22 : decode cX11_feed 22 = .ok (.if_icmp .le 6, 3) := by decide +kernel
theorem dX11_feed_25 : decode cX11_feed 25 = .ok (.bipush (-2), 2) := by decide +kernel
theorem dX11_feed_27 : decode cX11_feed 27 = .ok (.ireturn, 1) := by decide +kernel
theorem dX11_feed_28 : decode cX11_feed 28 = .ok (.iconst 0, 1) := by decide +kernel
theorem dX11_feed_29 : decode cX11_feed 29 = .ok (.istore 4, 2) := by decide +kernel
theorem dX11_feed_31 : decode cX11_feed 31 = .ok (.iload 4, 2) := by decide +kernel
theorem dX11_feed_33 : decode cX11_feed 33 = .ok (.iload_n 3, 1) := by decide +kernel
theorem dX11_feed_34 : decode cX11_feed 34 = .ok (.if_icmp .ge 52, 3) := by decide +kernel
theorem dX11_feed_37 : decode cX11_feed 37 = .ok (.aload_n 0, 1) := by decide +kernel
theorem dX11_feed_38 : decode cX11_feed 38 = .ok (.getfield 27, 3) := by decide +kernel
theorem dX11_feed_41 : decode cX11_feed 41 = .ok (.aload_n 0, 1) := by decide +kernel
theorem dX11_feed_42 : decode cX11_feed 42 = .ok (.getfield 23, 3) := by decide +kernel
theorem dX11_feed_45 : decode cX11_feed 45 = .ok (.arraylength, 1) := by decide +kernel
theorem dX11_feed_46 : decode cX11_feed 46 = .ok (.if_icmp .ge 40, 3) := by decide +kernel
theorem dX11_feed_49 : decode cX11_feed 49 = .ok (.aload_n 0, 1) := by decide +kernel
theorem dX11_feed_50 : decode cX11_feed 50 = .ok (.getfield 23, 3) := by decide +kernel
theorem dX11_feed_53 : decode cX11_feed 53 = .ok (.aload_n 0, 1) := by decide +kernel
theorem dX11_feed_54 : decode cX11_feed 54 = .ok (.getfield 27, 3) := by decide +kernel
theorem dX11_feed_57 : decode cX11_feed 57 = .ok (.lload_n 1, 1) := by decide +kernel
theorem dX11_feed_58 : decode cX11_feed 58 = .ok (.bipush 8, 2) := by decide +kernel
theorem dX11_feed_60 : decode cX11_feed 60 = .ok (.iload 4, 2) := by decide +kernel
theorem dX11_feed_62 : decode cX11_feed 62 = .ok (.imul, 1) := by decide +kernel
theorem dX11_feed_63 : decode cX11_feed 63 = .ok (.lushr, 1) := by decide +kernel
theorem dX11_feed_64 : decode cX11_feed 64 = .ok (.l2i, 1) := by decide +kernel
theorem dX11_feed_65 : decode cX11_feed 65 = .ok (.sipush 255, 3) := by decide +kernel
theorem dX11_feed_68 : decode cX11_feed 68 = .ok (.iand, 1) := by decide +kernel
theorem dX11_feed_69 : decode cX11_feed 69 = .ok (.iastore, 1) := by decide +kernel
theorem dX11_feed_70 : decode cX11_feed 70 = .ok (.aload_n 0, 1) := by decide +kernel
theorem dX11_feed_71 : decode cX11_feed 71 = .ok (.dup, 1) := by decide +kernel
theorem dX11_feed_72 : decode cX11_feed 72 = .ok (.getfield 27, 3) := by decide +kernel
theorem dX11_feed_75 : decode cX11_feed 75 = .ok (.iconst 1, 1) := by decide +kernel
theorem dX11_feed_76 : decode cX11_feed 76 = .ok (.iadd, 1) := by decide +kernel
theorem dX11_feed_77 : decode cX11_feed 77 = .ok (.putfield 27, 3) := by decide +kernel
theorem dX11_feed_80 : decode cX11_feed 80 = .ok (.iinc 4 1, 3) := by decide +kernel
theorem dX11_feed_83 : decode cX11_feed 83 = .ok (.goto (-52), 3) := by decide +kernel
theorem dX11_feed_86 : decode cX11_feed 86 = .ok (.aload_n 0, 1) := by decide +kernel
theorem dX11_feed_87 : decode cX11_feed 87 = .ok (.getfield 27, 3) := by decide +kernel
theorem dX11_feed_90 : decode cX11_feed 90 = .ok (.ireturn, 1) := by decide +kernel
theorem dX11_law_0 : decode cX11_law 0 = .ok (.new 130, 3) := by decide +kernel
theorem dX11_law_3 : decode cX11_law 3 = .ok (.dup, 1) := by decide +kernel
theorem dX11_law_4 : decode cX11_law 4 = .ok (.aload_n 0, 1) := by decide +kernel
theorem dX11_law_5 : decode cX11_law 5 = .ok (.getfield 23, 3) := by decide +kernel
theorem dX11_law_8 : decode cX11_law 8 = .ok (.aload_n 0, 1) := by decide +kernel
theorem dX11_law_9 : decode cX11_law 9 = .ok (.getfield 27, 3) := by decide +kernel
theorem dX11_law_12 : decode cX11_law 12 = .ok (.invokespecial 132, 3) := by decide +kernel
theorem dX11_law_15 : decode cX11_law 15 = .ok (.astore_n 1, 1) := by decide +kernel
theorem dX11_law_16 : decode cX11_law 16 = .ok (.aload_n 0, 1) := by decide +kernel
theorem dX11_law_17 : decode cX11_law 17 = .ok (.iconst 0, 1) := by decide +kernel
theorem dX11_law_18 : decode cX11_law 18 = .ok (.putfield 27, 3) := by decide +kernel
theorem dX11_law_21 : decode cX11_law 21 = .ok (.aload_n 1, 1) := by decide +kernel
theorem dX11_law_22 : decode cX11_law 22 = .ok (.invokevirtual 135, 3) := by decide +kernel
theorem dX11_law_25 : decode cX11_law 25 = .ok (.iconst 0, 1) := by decide +kernel
theorem dX11_law_26 : decode cX11_law 26 = .ok (.istore_n 2, 1) := by decide +kernel
theorem dX11_law_27 : decode cX11_law 27 = .ok (.iload_n 2, 1) := by decide +kernel
theorem dX11_law_28 : decode cX11_law 28 = .ok (.bipush 8, 2) := by decide +kernel
theorem dX11_law_30 : decode cX11_law 30 = .ok (.if_icmp .gt 31, 3) := by decide +kernel
theorem dX11_law_33 : decode cX11_law 33 = .ok (.aload_n 1, 1) := by decide +kernel
theorem dX11_law_34 : decode cX11_law 34 = .ok (.getfield 138, 3) := by decide +kernel
theorem dX11_law_37 : decode cX11_law 37 = .ok (.ifCond .eq 24, 3) := by decide +kernel
theorem dX11_law_40 : decode cX11_law 40 = .ok (.aload_n 1, 1) := by decide +kernel
theorem dX11_law_41 : decode cX11_law 41 = .ok (.invokevirtual 141, 3) := by decide +kernel
theorem dX11_law_44 : decode cX11_law 44 = .ok (.ifCond .ne 11, 3) := by decide +kernel
theorem dX11_law_47 : decode cX11_law 47 = .ok (.bipush (-100), 2) := by decide +kernel
theorem dX11_law_49 : decode cX11_law 49 = .ok (.aload_n 1, 1) := by decide +kernel
theorem dX11_law_50 : decode cX11_law 50 = .ok (.getfield 145, 3) := by decide +kernel
theorem dX11_law_53 : decode cX11_law 53 = .ok (.isub, 1) := by decide +kernel
theorem dX11_law_54 : decode cX11_law 54 = .ok (.ireturn, 1) := by decide +kernel
theorem dX11_law_55 : decode cX11_law 55 = .ok (.iinc 2 1, 3) := by decide +kernel
theorem dX11_law_58 : decode cX11_law 58 = .ok (.goto (-31), 3) := by decide +kernel
theorem dX11_law_61 : decode cX11_law 61 = .ok (.aload_n 0, 1) := by decide +kernel
theorem dX11_law_62 : decode cX11_law 62 = .ok (.getfield 10, 3) := by decide +kernel
theorem dX11_law_65 : decode cX11_law 65 = .ok (.aload_n 1, 1) := by decide +kernel
theorem dX11_law_66 : decode cX11_law 66 = .ok (.getfield 148, 3) := by decide +kernel
theorem dX11_law_69 : decode cX11_law 69 = .ok (.putfield 109, 3) := by decide +kernel
theorem dX11_law_72 : decode cX11_law 72 = .ok (.aload_n 0, 1) := by decide +kernel
theorem dX11_law_73 : decode cX11_law 73 = .ok (.getfield 10, 3) := by decide +kernel
theorem dX11_law_76 : decode cX11_law 76 = .ok (.invokevirtual 128, 3) := by decide +kernel
theorem dX11_law_79 : decode cX11_law 79 = .ok (.aload_n 0, 1) := by decide +kernel
theorem dX11_law_80 : decode cX11_law 80 = .ok (.getfield 10, 3) := by decide +kernel
theorem dX11_law_83 : decode cX11_law 83 = .ok (.getfield 109, 3) := by decide +kernel
theorem dX11_law_86 : decode cX11_law 86 = .ok (.getfield 149, 3) := by decide +kernel
theorem dX11_law_89 : decode cX11_law 89 = .ok (.ireturn, 1) := by decide +kernel
theorem dX11_person_0 : decode cX11_person 0 = .ok (.iload_n 1, 1) := by decide +kernel
theorem dX11_person_1 : decode cX11_person 1 = .ok (.invokestatic 154, 3) := by decide +kernel
theorem dX11_person_4 : decode cX11_person 4 = .ok (.ifCond .ne 5, 3) := by decide +kernel
theorem dX11_person_7 : decode cX11_person 7 = .ok (.iconst (-1), 1) := by decide +kernel
theorem dX11_person_8 : decode cX11_person 8 = .ok (.ireturn, 1) := by decide +kernel
theorem dX11_person_9 : decode cX11_person 9 = .ok (.aload_n 0, 1) := by decide +kernel
theorem dX11_person_10 : decode cX11_person 10 = .ok (.getfield 10, 3) := by decide +kernel
theorem dX11_person_13 : decode cX11_person 13 = .ok (.iload_n 1, 1) := by decide +kernel
theorem dX11_person_14 : decode cX11_person 14 = .ok (.invokevirtual 157, 3) := by decide +kernel
theorem dX11_person_17 : decode cX11_person 17 = .ok (.ireturn, 1) := by decide +kernel
theorem dX11_personOf_0 : decode cX11_personOf 0 = .ok (.aload_n 0, 1) := by decide +kernel
theorem dX11_personOf_1 : decode cX11_personOf 1 = .ok (.getfield 10, 3) := by decide +kernel
theorem dX11_personOf_4 : decode cX11_personOf 4 = .ok (.iload_n 1, 1) := by decide +kernel
theorem dX11_personOf_5 : decode cX11_personOf 5 = .ok (.invokevirtual 161, 3) := by decide +kernel
theorem dX11_personOf_8 : decode cX11_personOf 8 = .ok (.ifCond .ne 5, 3) := by decide +kernel
theorem dX11_personOf_11 : decode cX11_personOf 11 = .ok (.iconst (-1), 1) := by decide +kernel
theorem dX11_personOf_12 : decode cX11_personOf 12 = .ok (.ireturn, 1) := by decide +kernel
theorem dX11_personOf_13 : decode cX11_personOf 13 = .ok (.iload_n 2, 1) := by decide +kernel
theorem dX11_personOf_14 : decode cX11_personOf 14 = .ok (.tableswitch 56 0 2 #[26, 36, 46], 26) := by decide +kernel
theorem dX11_personOf_40 : decode cX11_personOf 40 = .ok (.aload_n 0, 1) := by decide +kernel
theorem dX11_personOf_41 : decode cX11_personOf 41 = .ok (.getfield 10, 3) := by decide +kernel
theorem dX11_personOf_44 : decode cX11_personOf 44 = .ok (.getfield 164, 3) := by decide +kernel
theorem dX11_personOf_47 : decode cX11_personOf 47 = .ok (.iload_n 1, 1) := by decide +kernel
theorem dX11_personOf_48 : decode cX11_personOf 48 = .ok (.iaload, 1) := by decide +kernel
theorem dX11_personOf_49 : decode cX11_personOf 49 = .ok (.ireturn, 1) := by decide +kernel
theorem dX11_personOf_50 : decode cX11_personOf 50 = .ok (.aload_n 0, 1) := by decide +kernel
theorem dX11_personOf_51 : decode cX11_personOf 51 = .ok (.getfield 10, 3) := by decide +kernel
theorem dX11_personOf_54 : decode cX11_personOf 54 = .ok (.getfield 167, 3) := by decide +kernel
theorem dX11_personOf_57 : decode cX11_personOf 57 = .ok (.iload_n 1, 1) := by decide +kernel
theorem dX11_personOf_58 : decode cX11_personOf 58 = .ok (.iaload, 1) := by decide +kernel
theorem dX11_personOf_59 : decode cX11_personOf 59 = .ok (.ireturn, 1) := by decide +kernel
theorem dX11_personOf_60 : decode cX11_personOf 60 = .ok (.aload_n 0, 1) := by decide +kernel
theorem dX11_personOf_61 : decode cX11_personOf 61 = .ok (.getfield 10, 3) := by decide +kernel
theorem dX11_personOf_64 : decode cX11_personOf 64 = .ok (.getfield 170, 3) := by decide +kernel
theorem dX11_personOf_67 : decode cX11_personOf 67 = .ok (.iload_n 1, 1) := by decide +kernel
theorem dX11_personOf_68 : decode cX11_personOf 68 = .ok (.iaload, 1) := by decide +kernel
theorem dX11_personOf_69 : decode cX11_personOf 69 = .ok (.ireturn, 1) := by decide +kernel
theorem dX11_personOf_70 : decode cX11_personOf 70 = .ok (.iconst (-1), 1) := by decide +kernel
theorem dX11_personOf_71 : decode cX11_personOf 71 = .ok (.ireturn, 1) := by decide +kernel
theorem dX11_purse_0 : decode cX11_purse 0 = .ok (.aload_n 0, 1) := by decide +kernel
theorem dX11_purse_1 : decode cX11_purse 1 = .ok (.getfield 10, 3) := by decide +kernel
theorem dX11_purse_4 : decode cX11_purse 4 = .ok (.iload_n 1, 1) := by decide +kernel
theorem dX11_purse_5 : decode cX11_purse 5 = .ok (.invokevirtual 161, 3) := by decide +kernel
theorem dX11_purse_8 : decode cX11_purse 8 = .ok (.ifCond .eq 10, 3) := by decide +kernel
theorem dX11_purse_11 : decode cX11_purse 11 = .ok (.iload_n 2, 1) := by decide +kernel
theorem dX11_purse_12 : decode cX11_purse 12 = .ok (.invokestatic 154, 3) := by decide +kernel
theorem dX11_purse_15 : decode cX11_purse 15 = .ok (.ifCond .ne 5, 3) := by decide +kernel
theorem dX11_purse_18 : decode cX11_purse 18 = .ok (.iconst (-1), 1) := by decide +kernel
theorem dX11_purse_19 : decode cX11_purse 19 = .ok (.ireturn, 1) := by decide +kernel
theorem dX11_purse_20 : decode cX11_purse 20 = .ok (.aload_n 0, 1) := by decide +kernel
theorem dX11_purse_21 : decode cX11_purse 21 = .ok (.getfield 10, 3) := by decide +kernel
theorem dX11_purse_24 : decode cX11_purse 24 = .ok (.getfield 164, 3) := by decide +kernel
theorem dX11_purse_27 : decode cX11_purse 27 = .ok (.iload_n 1, 1) := by decide +kernel
theorem dX11_purse_28 : decode cX11_purse 28 = .ok (.iaload, 1) := by decide +kernel
theorem dX11_purse_29 : decode cX11_purse 29 = .ok (.istore_n 3, 1) := by decide +kernel
theorem dX11_purse_30 : decode cX11_purse 30 = .ok (.aload_n 0, 1) := by decide +kernel
theorem dX11_purse_31 : decode cX11_purse 31 = .ok (.getfield 10, 3) := by decide +kernel
theorem dX11_purse_34 : decode cX11_purse 34 = .ok (.getfield 164, 3) := by decide +kernel
theorem dX11_purse_37 : decode cX11_purse 37 = .ok (.iload_n 1, 1) := by decide +kernel
theorem dX11_purse_38 : decode cX11_purse 38 = .ok (.iload_n 2, 1) := by decide +kernel
theorem dX11_purse_39 : decode cX11_purse 39 = .ok (.iastore, 1) := by decide +kernel
theorem dX11_purse_40 : decode cX11_purse 40 = .ok (.iload_n 3, 1) := by decide +kernel
theorem dX11_purse_41 : decode cX11_purse 41 = .ok (.ireturn, 1) := by decide +kernel
theorem dX11_cross_0 : decode cX11_cross 0 = .ok (.aload_n 0, 1) := by decide +kernel
theorem dX11_cross_1 : decode cX11_cross 1 = .ok (.getfield 10, 3) := by decide +kernel
theorem dX11_cross_4 : decode cX11_cross 4 = .ok (.iload_n 2, 1) := by decide +kernel
theorem dX11_cross_5 : decode cX11_cross 5 = .ok (.invokevirtual 82, 3) := by decide +kernel
theorem dX11_cross_8 : decode cX11_cross 8 = .ok (.astore_n 3, 1) := by decide +kernel
theorem dX11_cross_9 : decode cX11_cross 9 = .ok (.aload_n 0, 1) := by decide +kernel
theorem dX11_cross_10 : decode cX11_cross 10 = .ok (.getfield 10, 3) := by decide +kernel
theorem dX11_cross_13 : decode cX11_cross 13 = .ok (.iload_n 1, 1) := by decide +kernel
theorem dX11_cross_14 : decode cX11_cross 14 = .ok (.invokevirtual 161, 3) := by decide +kernel
theorem dX11_cross_17 : decode cX11_cross 17 = .ok (.ifCond .eq 7, 3) := by decide +kernel
theorem dX11_cross_20 : decode cX11_cross 20 = .ok (.aload_n 3, 1) := by decide +kernel
theorem dX11_cross_21 : decode cX11_cross 21 = .ok (.ifnonnull 5, 3) := by decide +kernel
theorem dX11_cross_24 : decode cX11_cross 24 = .ok (.iconst (-1), 1) := by decide +kernel
theorem dX11_cross_25 : decode cX11_cross 25 = .ok (.ireturn, 1) := by decide +kernel
theorem dX11_cross_26 : decode cX11_cross 26 = .ok (.aload_n 3, 1) := by decide +kernel
theorem dX11_cross_27 : decode cX11_cross 27 = .ok (.aload_n 0, 1) := by decide +kernel
theorem dX11_cross_28 : decode cX11_cross 28 = .ok (.getfield 10, 3) := by decide +kernel
theorem dX11_cross_31 : decode cX11_cross 31 = .ok (.getfield 164, 3) := by decide +kernel
theorem dX11_cross_34 : decode cX11_cross 34 = .ok (.iload_n 1, 1) := by decide +kernel
theorem dX11_cross_35 : decode cX11_cross 35 = .ok (.iaload, 1) := by decide +kernel
theorem dX11_cross_36 : decode cX11_cross 36 = .ok (.invokevirtual 173, 3) := by decide +kernel
theorem dX11_cross_39 : decode cX11_cross 39 = .ok (.istore 4, 2) := by decide +kernel
theorem dX11_cross_41 : decode cX11_cross 41 = .ok (.iload 4, 2) := by decide +kernel
theorem dX11_cross_43 : decode cX11_cross 43 = .ok (.ifCond .ge 6, 3) := by decide +kernel
theorem dX11_cross_46 : decode cX11_cross 46 = .ok (.bipush (-4), 2) := by decide +kernel
theorem dX11_cross_48 : decode cX11_cross 48 = .ok (.ireturn, 1) := by decide +kernel
theorem dX11_cross_49 : decode cX11_cross 49 = .ok (.aload_n 0, 1) := by decide +kernel
theorem dX11_cross_50 : decode cX11_cross 50 = .ok (.getfield 10, 3) := by decide +kernel
theorem dX11_cross_53 : decode cX11_cross 53 = .ok (.iload_n 1, 1) := by decide +kernel
theorem dX11_cross_54 : decode cX11_cross 54 = .ok (.iload 4, 2) := by decide +kernel
theorem dX11_cross_56 : decode cX11_cross 56 = .ok (.iload_n 2, 1) := by decide +kernel
theorem dX11_cross_57 : decode cX11_cross 57 = .ok (.invokevirtual 176, 3) := by decide +kernel
theorem dX11_cross_60 : decode cX11_cross 60 = .ok (.iload 4, 2) := by decide +kernel
theorem dX11_cross_62 : decode cX11_cross 62 = .ok (.ireturn, 1) := by decide +kernel
theorem dX11_pool_0 : decode cX11_pool 0 = .ok (.aload_n 0, 1) := by decide +kernel
theorem dX11_pool_1 : decode cX11_pool 1 = .ok (.getfield 10, 3) := by decide +kernel
theorem dX11_pool_4 : decode cX11_pool 4 = .ok (.iload_n 3, 1) := by decide +kernel
theorem dX11_pool_5 : decode cX11_pool 5 = .ok (.invokevirtual 82, 3) := by decide +kernel
theorem dX11_pool_8 : decode cX11_pool 8 = .ok (.astore 4, 2) := by decide +kernel
theorem dX11_pool_10 : decode cX11_pool 10 = .ok (.aload_n 0, 1) := by decide +kernel
theorem dX11_pool_11 : decode cX11_pool 11 = .ok (.getfield 10, 3) := by decide +kernel
theorem dX11_pool_14 : decode cX11_pool 14 = .ok (.iload_n 1, 1) := by decide +kernel
theorem dX11_pool_15 : decode cX11_pool 15 = .ok (.invokevirtual 161, 3) := by decide +kernel
theorem dX11_pool_18 : decode cX11_pool 18 = .ok (.ifCond .eq 24, 3) := by decide +kernel
theorem dX11_pool_21 : decode cX11_pool 21 = .ok (.aload_n 0, 1) := by decide +kernel
theorem dX11_pool_22 : decode cX11_pool 22 = .ok (.getfield 10, 3) := by decide +kernel
theorem dX11_pool_25 : decode cX11_pool 25 = .ok (.iload_n 2, 1) := by decide +kernel
theorem dX11_pool_26 : decode cX11_pool 26 = .ok (.invokevirtual 161, 3) := by decide +kernel
theorem dX11_pool_29 : decode cX11_pool 29 = .ok (.ifCond .eq 13, 3) := by decide +kernel
theorem dX11_pool_32 : decode cX11_pool 32 = .ok (.iload_n 1, 1) := by decide +kernel
theorem dX11_pool_33 : decode cX11_pool 33 = .ok (.iload_n 2, 1) := by decide +kernel
theorem dX11_pool_34 : decode cX11_pool 34 = .ok (.if_icmp .eq 8, 3) := by decide +kernel
theorem dX11_pool_37 : decode cX11_pool 37 = .ok (.aload 4, 2) := by decide +kernel
theorem dX11_pool_39 : decode cX11_pool 39 = .ok (.ifnonnull 5, 3) := by decide +kernel
theorem dX11_pool_42 : decode cX11_pool 42 = .ok (.iconst (-1), 1) := by decide +kernel
theorem dX11_pool_43 : decode cX11_pool 43 = .ok (.ireturn, 1) := by decide +kernel
theorem dX11_pool_44 : decode cX11_pool 44 = .ok (.aload_n 0, 1) := by decide +kernel
theorem dX11_pool_45 : decode cX11_pool 45 = .ok (.getfield 10, 3) := by decide +kernel
theorem dX11_pool_48 : decode cX11_pool 48 = .ok (.getfield 164, 3) := by decide +kernel
theorem dX11_pool_51 : decode cX11_pool 51 = .ok (.iload_n 1, 1) := by decide +kernel
theorem dX11_pool_52 : decode cX11_pool 52 = .ok (.iaload, 1) := by decide +kernel
theorem dX11_pool_53 : decode cX11_pool 53 = .ok (.istore 5, 2) := by decide +kernel
theorem dX11_pool_55 : decode cX11_pool 55 = .ok (.iload 5, 2) := by decide +kernel
theorem dX11_pool_57 : decode cX11_pool 57 = .ok (.i2l, 1) := by decide +kernel
theorem dX11_pool_58 : decode cX11_pool 58 = .ok (.aload_n 0, 1) := by decide +kernel
theorem dX11_pool_59 : decode cX11_pool 59 = .ok (.getfield 10, 3) := by decide +kernel
theorem dX11_pool_62 : decode cX11_pool 62 = .ok (.getfield 164, 3) := by decide +kernel
theorem dX11_pool_65 : decode cX11_pool 65 = .ok (.iload_n 2, 1) := by decide +kernel
theorem dX11_pool_66 : decode cX11_pool 66 = .ok (.iaload, 1) := by decide +kernel
theorem dX11_pool_67 : decode cX11_pool 67 = .ok (.i2l, 1) := by decide +kernel
theorem dX11_pool_68 : decode cX11_pool 68 = .ok (.ladd, 1) := by decide +kernel
theorem dX11_pool_69 : decode cX11_pool 69 = .ok (.lstore 6, 2) := by decide +kernel
theorem dX11_pool_71 : decode cX11_pool 71 = .ok (.lload 6, 2) := by decide +kernel
theorem dX11_pool_73 : decode cX11_pool 73 = .ok (.ldc2_w 180, 3) := by decide +kernel
theorem dX11_pool_76 : decode cX11_pool 76 = .ok (.lcmp, 1) := by decide +kernel
theorem dX11_pool_77 : decode cX11_pool 77 = .ok (.ifCond .gt 10, 3) := by decide +kernel
theorem dX11_pool_80 : decode cX11_pool 80 = .ok (.lload 6, 2) := by decide +kernel
theorem dX11_pool_82 : decode cX11_pool 82 = .ok (.lconst 0, 1) := by decide +kernel
theorem dX11_pool_83 : decode cX11_pool 83 = .ok (.lcmp, 1) := by decide +kernel
theorem dX11_pool_84 : decode cX11_pool 84 = .ok (.ifCond .gt 6, 3) := by decide +kernel
theorem dX11_pool_87 : decode cX11_pool 87 = .ok (.bipush (-4), 2) := by decide +kernel
theorem dX11_pool_89 : decode cX11_pool 89 = .ok (.ireturn, 1) := by decide +kernel
theorem dX11_pool_90 : decode cX11_pool 90 = .ok (.aload 4, 2) := by decide +kernel
theorem dX11_pool_92 : decode cX11_pool 92 = .ok (.lload 6, 2) := by decide +kernel
theorem dX11_pool_94 : decode cX11_pool 94 = .ok (.l2i, 1) := by decide +kernel
theorem dX11_pool_95 : decode cX11_pool 95 = .ok (.invokevirtual 173, 3) := by decide +kernel
theorem dX11_pool_98 : decode cX11_pool 98 = .ok (.istore 8, 2) := by decide +kernel
theorem dX11_pool_100 : decode cX11_pool 100 = .ok (.iload 8, 2) := by decide +kernel
theorem dX11_pool_102 : decode cX11_pool 102 = .ok (.ifCond .ge 6, 3) := by decide +kernel
theorem dX11_pool_105 : decode cX11_pool 105 = .ok (.bipush (-4), 2) := by decide +kernel
theorem dX11_pool_107 : decode cX11_pool 107 = .ok (.ireturn, 1) := by decide +kernel
theorem dX11_pool_108 : decode cX11_pool 108 = .ok (.iload 8, 2) := by decide +kernel
theorem dX11_pool_110 : decode cX11_pool 110 = .ok (.i2l, 1) := by decide +kernel
theorem dX11_pool_111 : decode cX11_pool 111 = .ok (.iload 5, 2) := by decide +kernel
theorem dX11_pool_113 : decode cX11_pool 113 = .ok (.i2l, 1) := by decide +kernel
theorem dX11_pool_114 : decode cX11_pool 114 = .ok (.lmul, 1) := by decide +kernel
theorem dX11_pool_115 : decode cX11_pool 115 = .ok (.lload 6, 2) := by decide +kernel
theorem dX11_pool_117 : decode cX11_pool 117 = .ok (.ldiv, 1) := by decide +kernel
theorem dX11_pool_118 : decode cX11_pool 118 = .ok (.l2i, 1) := by decide +kernel
theorem dX11_pool_119 : decode cX11_pool 119 = .ok (.istore 9, 2) := by decide +kernel
theorem dX11_pool_121 : decode cX11_pool 121 = .ok (.aload_n 0, 1) := by decide +kernel
theorem dX11_pool_122 : decode cX11_pool 122 = .ok (.getfield 10, 3) := by decide +kernel
theorem dX11_pool_125 : decode cX11_pool 125 = .ok (.iload_n 1, 1) := by decide +kernel
theorem dX11_pool_126 : decode cX11_pool 126 = .ok (.iload 9, 2) := by decide +kernel
theorem dX11_pool_128 : decode cX11_pool 128 = .ok (.iload_n 3, 1) := by decide +kernel
theorem dX11_pool_129 : decode cX11_pool 129 = .ok (.invokevirtual 176, 3) := by decide +kernel
theorem dX11_pool_132 : decode cX11_pool 132 = .ok (.aload_n 0, 1) := by decide +kernel
theorem dX11_pool_133 : decode cX11_pool 133 = .ok (.getfield 10, 3) := by decide +kernel
theorem dX11_pool_136 : decode cX11_pool 136 = .ok (.iload_n 2, 1) := by decide +kernel
theorem dX11_pool_137 : decode cX11_pool 137 = .ok (.iload 8, 2) := by decide +kernel
theorem dX11_pool_139 : decode cX11_pool 139 = .ok (.iload 9, 2) := by decide +kernel
theorem dX11_pool_141 : decode cX11_pool 141 = .ok (.isub, 1) := by decide +kernel
theorem dX11_pool_142 : decode cX11_pool 142 = .ok (.iload_n 3, 1) := by decide +kernel
theorem dX11_pool_143 : decode cX11_pool 143 = .ok (.invokevirtual 176, 3) := by decide +kernel
theorem dX11_pool_146 : decode cX11_pool 146 = .ok (.iload 9, 2) := by decide +kernel
theorem dX11_pool_148 : decode cX11_pool 148 = .ok (.ireturn, 1) := by decide +kernel
theorem dX11_gives_0 : decode cX11_gives 0 = .ok (.aload_n 0, 1) := by decide +kernel
theorem dX11_gives_1 : decode cX11_gives 1 = .ok (.getfield 10, 3) := by decide +kernel
theorem dX11_gives_4 : decode cX11_gives 4 = .ok (.iload_n 1, 1) := by decide +kernel
theorem dX11_gives_5 : decode cX11_gives 5 = .ok (.invokevirtual 161, 3) := by decide +kernel
theorem dX11_gives_8 : decode cX11_gives 8 = .ok (.ifCond .eq 30, 3) := by decide +kernel
theorem dX11_gives_11 : decode cX11_gives 11 = .ok (.aload_n 0, 1) := by decide +kernel
theorem dX11_gives_12 : decode cX11_gives 12 = .ok (.getfield 10, 3) := by decide +kernel
theorem dX11_gives_15 : decode cX11_gives 15 = .ok (.iload_n 2, 1) := by decide +kernel
theorem dX11_gives_16 : decode cX11_gives 16 = .ok (.invokevirtual 161, 3) := by decide +kernel
theorem dX11_gives_19 : decode cX11_gives 19 = .ok (.ifCond .eq 19, 3) := by decide +kernel
theorem dX11_gives_22 : decode cX11_gives 22 = .ok (.iload_n 1, 1) := by decide +kernel
theorem dX11_gives_23 : decode cX11_gives 23 = .ok (.iload_n 2, 1) := by decide +kernel
theorem dX11_gives_24 : decode cX11_gives 24 = .ok (.if_icmp .eq 14, 3) := by decide +kernel
theorem dX11_gives_27 : decode cX11_gives 27 = .ok (.iload_n 3, 1) := by decide +kernel
theorem dX11_gives_28 : decode cX11_gives 28 = .ok (.iconst 1, 1) := by decide +kernel
theorem dX11_gives_29 : decode cX11_gives 29 = .ok (.if_icmp .lt 9, 3) := by decide +kernel
theorem dX11_gives_32 : decode cX11_gives 32 = .ok (.iload_n 3, 1) := by decide +kernel
theorem dX11_gives_33 : decode cX11_gives 33 = .ok (.ldc 182, 2) := by decide +kernel
theorem dX11_gives_35 : decode cX11_gives 35 = .ok (.if_icmp .le 5, 3) := by decide +kernel
theorem dX11_gives_38 : decode cX11_gives 38 = .ok (.iconst (-1), 1) := by decide +kernel
theorem dX11_gives_39 : decode cX11_gives 39 = .ok (.ireturn, 1) := by decide +kernel
theorem dX11_gives_40 : decode cX11_gives 40 = .ok (.aload_n 0, 1) := by decide +kernel
theorem dX11_gives_41 : decode cX11_gives 41 = .ok (.getfield 10, 3) := by decide +kernel
theorem dX11_gives_44 : decode cX11_gives 44 = .ok (.getfield 164, 3) := by decide +kernel
theorem dX11_gives_47 : decode cX11_gives 47 = .ok (.iload_n 2, 1) := by decide +kernel
theorem dX11_gives_48 : decode cX11_gives 48 = .ok (.iaload, 1) := by decide +kernel
theorem dX11_gives_49 : decode cX11_gives 49 = .ok (.i2l, 1) := by decide +kernel
theorem dX11_gives_50 : decode cX11_gives 50 = .ok (.iload_n 3, 1) := by decide +kernel
theorem dX11_gives_51 : decode cX11_gives 51 = .ok (.i2l, 1) := by decide +kernel
theorem dX11_gives_52 : decode cX11_gives 52 = .ok (.ladd, 1) := by decide +kernel
theorem dX11_gives_53 : decode cX11_gives 53 = .ok (.lstore 4, 2) := by decide +kernel
theorem dX11_gives_55 : decode cX11_gives 55 = .ok (.aload_n 0, 1) := by decide +kernel
theorem dX11_gives_56 : decode cX11_gives 56 = .ok (.getfield 10, 3) := by decide +kernel
theorem dX11_gives_59 : decode cX11_gives 59 = .ok (.getfield 164, 3) := by decide +kernel
theorem dX11_gives_62 : decode cX11_gives 62 = .ok (.iload_n 1, 1) := by decide +kernel
theorem dX11_gives_63 : decode cX11_gives 63 = .ok (.iaload, 1) := by decide +kernel
theorem dX11_gives_64 : decode cX11_gives 64 = .ok (.iload_n 3, 1) := by decide +kernel
theorem dX11_gives_65 : decode cX11_gives 65 = .ok (.if_icmp .lt 12, 3) := by decide +kernel
theorem dX11_gives_68 : decode cX11_gives 68 = .ok (.lload 4, 2) := by decide +kernel
theorem dX11_gives_70 : decode cX11_gives 70 = .ok (.ldc2_w 180, 3) := by decide +kernel
theorem dX11_gives_73 : decode cX11_gives 73 = .ok (.lcmp, 1) := by decide +kernel
theorem dX11_gives_74 : decode cX11_gives 74 = .ok (.ifCond .le 6, 3) := by decide +kernel
theorem dX11_gives_77 : decode cX11_gives 77 = .ok (.bipush (-4), 2) := by decide +kernel
theorem dX11_gives_79 : decode cX11_gives 79 = .ok (.ireturn, 1) := by decide +kernel
theorem dX11_gives_80 : decode cX11_gives 80 = .ok (.aload_n 0, 1) := by decide +kernel
theorem dX11_gives_81 : decode cX11_gives 81 = .ok (.getfield 10, 3) := by decide +kernel
theorem dX11_gives_84 : decode cX11_gives 84 = .ok (.getfield 164, 3) := by decide +kernel
theorem dX11_gives_87 : decode cX11_gives 87 = .ok (.iload_n 1, 1) := by decide +kernel
theorem dX11_gives_88 : decode cX11_gives 88 = .ok (.dup2, 1) := by decide +kernel
theorem dX11_gives_89 : decode cX11_gives 89 = .ok (.iaload, 1) := by decide +kernel
theorem dX11_gives_90 : decode cX11_gives 90 = .ok (.iload_n 3, 1) := by decide +kernel
theorem dX11_gives_91 : decode cX11_gives 91 = .ok (.isub, 1) := by decide +kernel
theorem dX11_gives_92 : decode cX11_gives 92 = .ok (.iastore, 1) := by decide +kernel
theorem dX11_gives_93 : decode cX11_gives 93 = .ok (.aload_n 0, 1) := by decide +kernel
theorem dX11_gives_94 : decode cX11_gives 94 = .ok (.getfield 10, 3) := by decide +kernel
theorem dX11_gives_97 : decode cX11_gives 97 = .ok (.getfield 164, 3) := by decide +kernel
theorem dX11_gives_100 : decode cX11_gives 100 = .ok (.iload_n 2, 1) := by decide +kernel
theorem dX11_gives_101 : decode cX11_gives 101 = .ok (.lload 4, 2) := by decide +kernel
theorem dX11_gives_103 : decode cX11_gives 103 = .ok (.l2i, 1) := by decide +kernel
theorem dX11_gives_104 : decode cX11_gives 104 = .ok (.iastore, 1) := by decide +kernel
theorem dX11_gives_105 : decode cX11_gives 105 = .ok (.lload 4, 2) := by decide +kernel
theorem dX11_gives_107 : decode cX11_gives 107 = .ok (.l2i, 1) := by decide +kernel
theorem dX11_gives_108 : decode cX11_gives 108 = .ok (.ireturn, 1) := by decide +kernel
theorem dX11_after_0 : decode cX11_after 0 = .ok (.aload_n 0, 1) := by decide +kernel
theorem dX11_after_1 : decode cX11_after 1 = .ok (.getfield 10, 3) := by decide +kernel
theorem dX11_after_4 : decode cX11_after 4 = .ok (.iload_n 1, 1) := by decide +kernel
theorem dX11_after_5 : decode cX11_after 5 = .ok (.invokevirtual 82, 3) := by decide +kernel
theorem dX11_after_8 : decode cX11_after 8 = .ok (.astore 4, 2) := by decide +kernel
theorem dX11_after_10 : decode cX11_after 10 = .ok (.aload 4, 2) := by decide +kernel
theorem dX11_after_12 : decode cX11_after 12 = .ok (.ifnull 20, 3) := by decide +kernel
theorem dX11_after_15 : decode cX11_after 15 = .ok (.iload_n 2, 1) := by decide +kernel
theorem dX11_after_16 : decode cX11_after 16 = .ok (.invokestatic 154, 3) := by decide +kernel
theorem dX11_after_19 : decode cX11_after 19 = .ok (.ifCond .eq 13, 3) := by decide +kernel
theorem dX11_after_22 : decode cX11_after 22 = .ok (.iload_n 3, 1) := by decide +kernel
theorem dX11_after_23 : decode cX11_after 23 = .ok (.iconst 0, 1) := by decide +kernel
theorem dX11_after_24 : decode cX11_after 24 = .ok (.bipush 60, 2) := by decide +kernel
theorem dX11_after_26 : decode cX11_after 26 = .ok (.invokestatic 183, 3) := by decide +kernel
theorem dX11_after_29 : decode cX11_after 29 = .ok (.ifCond .ne 5, 3) := by decide +kernel
theorem dX11_after_32 : decode cX11_after 32 = .ok (.iconst (-1), 1) := by decide +kernel
theorem dX11_after_33 : decode cX11_after 33 = .ok (.ireturn, 1) := by decide +kernel
theorem dX11_after_34 : decode cX11_after 34 = .ok (.aload 4, 2) := by decide +kernel
theorem dX11_after_36 : decode cX11_after 36 = .ok (.iload_n 2, 1) := by decide +kernel
theorem dX11_after_37 : decode cX11_after 37 = .ok (.iload_n 3, 1) := by decide +kernel
theorem dX11_after_38 : decode cX11_after 38 = .ok (.invokestatic 187, 3) := by decide +kernel
theorem dX11_after_41 : decode cX11_after 41 = .ok (.istore 5, 2) := by decide +kernel
theorem dX11_after_43 : decode cX11_after 43 = .ok (.iload 5, 2) := by decide +kernel
theorem dX11_after_45 : decode cX11_after 45 = .ok (.ifCond .ge 8, 3) := by decide +kernel
theorem dX11_after_48 : decode cX11_after 48 = .ok (.bipush (-3), 2) := by decide +kernel
theorem dX11_after_50 : decode cX11_after 50 = .ok (.goto 5, 3) := by decide +kernel
theorem dX11_after_53 : decode cX11_after 53 = .ok (.iload 5, 2) := by decide +kernel
theorem dX11_after_55 : decode cX11_after 55 = .ok (.ireturn, 1) := by decide +kernel
theorem dX11_need_0 : decode cX11_need 0 = .ok (.aload_n 0, 1) := by decide +kernel
theorem dX11_need_1 : decode cX11_need 1 = .ok (.getfield 10, 3) := by decide +kernel
theorem dX11_need_4 : decode cX11_need 4 = .ok (.iload_n 1, 1) := by decide +kernel
theorem dX11_need_5 : decode cX11_need 5 = .ok (.invokevirtual 82, 3) := by decide +kernel
theorem dX11_need_8 : decode cX11_need 8 = .ok (.astore_n 3, 1) := by decide +kernel
theorem dX11_need_9 : decode cX11_need 9 = .ok (.aload_n 3, 1) := by decide +kernel
theorem dX11_need_10 : decode cX11_need 10 = .ok (.ifnull 13, 3) := by decide +kernel
theorem dX11_need_13 : decode cX11_need 13 = .ok (.iload_n 2, 1) := by decide +kernel
theorem dX11_need_14 : decode cX11_need 14 = .ok (.iconst 0, 1) := by decide +kernel
theorem dX11_need_15 : decode cX11_need 15 = .ok (.bipush 60, 2) := by decide +kernel
theorem dX11_need_17 : decode cX11_need 17 = .ok (.invokestatic 183, 3) := by decide +kernel
theorem dX11_need_20 : decode cX11_need 20 = .ok (.ifCond .ne 5, 3) := by decide +kernel
theorem dX11_need_23 : decode cX11_need 23 = .ok (.iconst (-1), 1) := by decide +kernel
theorem dX11_need_24 : decode cX11_need 24 = .ok (.ireturn, 1) := by decide +kernel
theorem dX11_need_25 : decode cX11_need 25 = .ok (.aload_n 3, 1) := by decide +kernel
theorem dX11_need_26 : decode cX11_need 26 = .ok (.iconst 0, 1) := by decide +kernel
theorem dX11_need_27 : decode cX11_need 27 = .ok (.iload_n 2, 1) := by decide +kernel
theorem dX11_need_28 : decode cX11_need 28 = .ok (.invokestatic 191, 3) := by decide +kernel
theorem dX11_need_31 : decode cX11_need 31 = .ok (.istore 4, 2) := by decide +kernel
theorem dX11_need_33 : decode cX11_need 33 = .ok (.iload 4, 2) := by decide +kernel
theorem dX11_need_35 : decode cX11_need 35 = .ok (.ifCond .ge 8, 3) := by decide +kernel
theorem dX11_need_38 : decode cX11_need 38 = .ok (.bipush (-3), 2) := by decide +kernel
theorem dX11_need_40 : decode cX11_need 40 = .ok (.goto 5, 3) := by decide +kernel
theorem dX11_need_43 : decode cX11_need 43 = .ok (.iload 4, 2) := by decide +kernel
theorem dX11_need_45 : decode cX11_need 45 = .ok (.ireturn, 1) := by decide +kernel
theorem dX11_ever_0 : decode cX11_ever 0 = .ok (.aload_n 0, 1) := by decide +kernel
theorem dX11_ever_1 : decode cX11_ever 1 = .ok (.getfield 10, 3) := by decide +kernel
theorem dX11_ever_4 : decode cX11_ever 4 = .ok (.iload_n 1, 1) := by decide +kernel
theorem dX11_ever_5 : decode cX11_ever 5 = .ok (.invokevirtual 82, 3) := by decide +kernel
theorem dX11_ever_8 : decode cX11_ever 8 = .ok (.astore_n 2, 1) := by decide +kernel
theorem dX11_ever_9 : decode cX11_ever 9 = .ok (.aload_n 2, 1) := by decide +kernel
theorem dX11_ever_10 : decode cX11_ever 10 = .ok (.ifnonnull 5, 3) := by decide +kernel
theorem dX11_ever_13 : decode cX11_ever 13 = .ok (.iconst (-1), 1) := by decide +kernel
theorem dX11_ever_14 : decode cX11_ever 14 = .ok (.ireturn, 1) := by decide +kernel
theorem dX11_ever_15 : decode cX11_ever 15 = .ok (.iconst 0, 1) := by decide +kernel
theorem dX11_ever_16 : decode cX11_ever 16 = .ok (.istore_n 3, 1) := by decide +kernel
theorem dX11_ever_17 : decode cX11_ever 17 = .ok (.iload_n 3, 1) := by decide +kernel
theorem dX11_ever_18 : decode cX11_ever 18 = .ok (.sipush 9999, 3) := by decide +kernel
theorem dX11_ever_21 : decode cX11_ever 21 = .ok (.if_icmp .gt 20, 3) := by decide +kernel
theorem dX11_ever_24 : decode cX11_ever 24 = .ok (.aload_n 2, 1) := by decide +kernel
theorem dX11_ever_25 : decode cX11_ever 25 = .ok (.iload_n 3, 1) := by decide +kernel
theorem dX11_ever_26 : decode cX11_ever 26 = .ok (.invokevirtual 173, 3) := by decide +kernel
theorem dX11_ever_29 : decode cX11_ever 29 = .ok (.iload_n 3, 1) := by decide +kernel
theorem dX11_ever_30 : decode cX11_ever 30 = .ok (.if_icmp .lt 5, 3) := by decide +kernel
theorem dX11_ever_33 : decode cX11_ever 33 = .ok (.iload_n 3, 1) := by decide +kernel
theorem dX11_ever_34 : decode cX11_ever 34 = .ok (.ireturn, 1) := by decide +kernel
theorem dX11_ever_35 : decode cX11_ever 35 = .ok (.iinc 3 1, 3) := by decide +kernel
theorem dX11_ever_38 : decode cX11_ever 38 = .ok (.goto (-21), 3) := by decide +kernel
theorem dX11_ever_41 : decode cX11_ever 41 = .ok (.bipush (-3), 2) := by decide +kernel
theorem dX11_ever_43 : decode cX11_ever 43 = .ok (.ireturn, 1) := by decide +kernel
theorem dX11_same_0 : decode cX11_same 0 = .ok (.aload_n 0, 1) := by decide +kernel
theorem dX11_same_1 : decode cX11_same 1 = .ok (.getfield 10, 3) := by decide +kernel
theorem dX11_same_4 : decode cX11_same 4 = .ok (.iload_n 1, 1) := by decide +kernel
theorem dX11_same_5 : decode cX11_same 5 = .ok (.invokevirtual 82, 3) := by decide +kernel
theorem dX11_same_8 : decode cX11_same 8 = .ok (.astore_n 2, 1) := by decide +kernel
theorem dX11_same_9 : decode cX11_same 9 = .ok (.aload_n 2, 1) := by decide +kernel
theorem dX11_same_10 : decode cX11_same 10 = .ok (.ifnonnull 5, 3) := by decide +kernel
theorem dX11_same_13 : decode cX11_same 13 = .ok (.iconst (-1), 1) := by decide +kernel
theorem dX11_same_14 : decode cX11_same 14 = .ok (.ireturn, 1) := by decide +kernel
theorem dX11_same_15 : decode cX11_same 15 = .ok (.iconst 0, 1) := by decide +kernel
theorem dX11_same_16 : decode cX11_same 16 = .ok (.istore_n 3, 1) := by decide +kernel
theorem dX11_same_17 : decode cX11_same 17 = .ok (.iload_n 3, 1) := by decide +kernel
theorem dX11_same_18 : decode cX11_same 18 = .ok (.sipush 9999, 3) := by decide +kernel
theorem dX11_same_21 : decode cX11_same 21 = .ok (.if_icmp .gt 20, 3) := by decide +kernel
theorem dX11_same_24 : decode cX11_same 24 = .ok (.aload_n 2, 1) := by decide +kernel
theorem dX11_same_25 : decode cX11_same 25 = .ok (.iload_n 3, 1) := by decide +kernel
theorem dX11_same_26 : decode cX11_same 26 = .ok (.invokevirtual 173, 3) := by decide +kernel
theorem dX11_same_29 : decode cX11_same 29 = .ok (.iload_n 3, 1) := by decide +kernel
theorem dX11_same_30 : decode cX11_same 30 = .ok (.if_icmp .ne 5, 3) := by decide +kernel
theorem dX11_same_33 : decode cX11_same 33 = .ok (.iload_n 3, 1) := by decide +kernel
theorem dX11_same_34 : decode cX11_same 34 = .ok (.ireturn, 1) := by decide +kernel
theorem dX11_same_35 : decode cX11_same 35 = .ok (.iinc 3 1, 3) := by decide +kernel
theorem dX11_same_38 : decode cX11_same 38 = .ok (.goto (-21), 3) := by decide +kernel
theorem dX11_same_41 : decode cX11_same 41 = .ok (.bipush (-3), 2) := by decide +kernel
theorem dX11_same_43 : decode cX11_same 43 = .ok (.ireturn, 1) := by decide +kernel
theorem dX11_few_0 : decode cX11_few 0 = .ok (.aload_n 0, 1) := by decide +kernel
theorem dX11_few_1 : decode cX11_few 1 = .ok (.getfield 10, 3) := by decide +kernel
theorem dX11_few_4 : decode cX11_few 4 = .ok (.iload_n 1, 1) := by decide +kernel
theorem dX11_few_5 : decode cX11_few 5 = .ok (.invokevirtual 82, 3) := by decide +kernel
theorem dX11_few_8 : decode cX11_few 8 = .ok (.astore 4, 2) := by decide +kernel
theorem dX11_few_10 : decode cX11_few 10 = .ok (.aload 4, 2) := by decide +kernel
theorem dX11_few_12 : decode cX11_few 12 = .ok (.ifnull 17, 3) := by decide +kernel
theorem dX11_few_15 : decode cX11_few 15 = .ok (.iload_n 2, 1) := by decide +kernel
theorem dX11_few_16 : decode cX11_few 16 = .ok (.invokestatic 154, 3) := by decide +kernel
theorem dX11_few_19 : decode cX11_few 19 = .ok (.ifCond .eq 10, 3) := by decide +kernel
theorem dX11_few_22 : decode cX11_few 22 = .ok (.iload_n 3, 1) := by decide +kernel
theorem dX11_few_23 : decode cX11_few 23 = .ok (.invokestatic 154, 3) := by decide +kernel
theorem dX11_few_26 : decode cX11_few 26 = .ok (.ifCond .ne 5, 3) := by decide +kernel
theorem dX11_few_29 : decode cX11_few 29 = .ok (.iconst (-1), 1) := by decide +kernel
theorem dX11_few_30 : decode cX11_few 30 = .ok (.ireturn, 1) := by decide +kernel
theorem dX11_few_31 : decode cX11_few 31 = .ok (.iload_n 2, 1) := by decide +kernel
theorem dX11_few_32 : decode cX11_few 32 = .ok (.istore 5, 2) := by decide +kernel
theorem dX11_few_34 : decode cX11_few 34 = .ok (.iconst 0, 1) := by decide +kernel
theorem dX11_few_35 : decode cX11_few 35 = .ok (.istore 6, 2) := by decide +kernel
theorem dX11_few_37 : decode cX11_few 37 = .ok (.iload 6, 2) := by decide +kernel
theorem dX11_few_39 : decode cX11_few 39 = .ok (.bipush 60, 2) := by decide +kernel
theorem dX11_few_41 : decode cX11_few 41 = .ok (.if_icmp .gt 32, 3) := by decide +kernel
theorem dX11_few_44 : decode cX11_few 44 = .ok (.iload 5, 2) := by decide +kernel
theorem dX11_few_46 : decode cX11_few 46 = .ok (.ifCond .lt 27, 3) := by decide +kernel
theorem dX11_few_49 : decode cX11_few 49 = .ok (.iload 5, 2) := by decide +kernel
theorem dX11_few_51 : decode cX11_few 51 = .ok (.iload_n 3, 1) := by decide +kernel
theorem dX11_few_52 : decode cX11_few 52 = .ok (.if_icmp .lt 6, 3) := by decide +kernel
theorem dX11_few_55 : decode cX11_few 55 = .ok (.iload 6, 2) := by decide +kernel
theorem dX11_few_57 : decode cX11_few 57 = .ok (.ireturn, 1) := by decide +kernel
theorem dX11_few_58 : decode cX11_few 58 = .ok (.aload 4, 2) := by decide +kernel
theorem dX11_few_60 : decode cX11_few 60 = .ok (.iload 5, 2) := by decide +kernel
theorem dX11_few_62 : decode cX11_few 62 = .ok (.invokevirtual 173, 3) := by decide +kernel
theorem dX11_few_65 : decode cX11_few 65 = .ok (.istore 5, 2) := by decide +kernel
theorem dX11_few_67 : decode cX11_few 67 = .ok (.iinc 6 1, 3) := by decide +kernel
theorem dX11_few_70 : decode cX11_few 70 = .ok (.goto (-33), 3) := by decide +kernel
theorem dX11_few_73 : decode cX11_few 73 = .ok (.bipush (-3), 2) := by decide +kernel
theorem dX11_few_75 : decode cX11_few 75 = .ok (.ireturn, 1) := by decide +kernel
theorem dX11_back_0 : decode cX11_back 0 = .ok (.aload_n 0, 1) := by decide +kernel
theorem dX11_back_1 : decode cX11_back 1 = .ok (.getfield 10, 3) := by decide +kernel
theorem dX11_back_4 : decode cX11_back 4 = .ok (.iload_n 1, 1) := by decide +kernel
theorem dX11_back_5 : decode cX11_back 5 = .ok (.invokevirtual 82, 3) := by decide +kernel
theorem dX11_back_8 : decode cX11_back 8 = .ok (.astore 5, 2) := by decide +kernel
theorem dX11_back_10 : decode cX11_back 10 = .ok (.aload 5, 2) := by decide +kernel
theorem dX11_back_12 : decode cX11_back 12 = .ok (.ifnull 29, 3) := by decide +kernel
theorem dX11_back_15 : decode cX11_back 15 = .ok (.iload_n 2, 1) := by decide +kernel
theorem dX11_back_16 : decode cX11_back 16 = .ok (.iconst 0, 1) := by decide +kernel
theorem dX11_back_17 : decode cX11_back 17 = .ok (.ldc 194, 2) := by decide +kernel
theorem dX11_back_19 : decode cX11_back 19 = .ok (.invokestatic 183, 3) := by decide +kernel
theorem dX11_back_22 : decode cX11_back 22 = .ok (.ifCond .eq 19, 3) := by decide +kernel
theorem dX11_back_25 : decode cX11_back 25 = .ok (.iload_n 3, 1) := by decide +kernel
theorem dX11_back_26 : decode cX11_back 26 = .ok (.iconst 1, 1) := by decide +kernel
theorem dX11_back_27 : decode cX11_back 27 = .ok (.bipush 6, 2) := by decide +kernel
theorem dX11_back_29 : decode cX11_back 29 = .ok (.invokestatic 183, 3) := by decide +kernel
theorem dX11_back_32 : decode cX11_back 32 = .ok (.ifCond .eq 9, 3) := by decide +kernel
theorem dX11_back_35 : decode cX11_back 35 = .ok (.iload 4, 2) := by decide +kernel
theorem dX11_back_37 : decode cX11_back 37 = .ok (.iconst (-1), 1) := by decide +kernel
theorem dX11_back_38 : decode cX11_back 38 = .ok (.if_icmp .ge 5, 3) := by decide +kernel
theorem dX11_back_41 : decode cX11_back 41 = .ok (.iconst (-1), 1) := by decide +kernel
theorem dX11_back_42 : decode cX11_back 42 = .ok (.ireturn, 1) := by decide +kernel
theorem dX11_back_43 : decode cX11_back 43 = .ok (.aload 5, 2) := by decide +kernel
theorem dX11_back_45 : decode cX11_back 45 = .ok (.iload_n 2, 1) := by decide +kernel
theorem dX11_back_46 : decode cX11_back 46 = .ok (.iload_n 3, 1) := by decide +kernel
theorem dX11_back_47 : decode cX11_back 47 = .ok (.invokestatic 191, 3) := by decide +kernel
theorem dX11_back_50 : decode cX11_back 50 = .ok (.istore 6, 2) := by decide +kernel
theorem dX11_back_52 : decode cX11_back 52 = .ok (.aload 5, 2) := by decide +kernel
theorem dX11_back_54 : decode cX11_back 54 = .ok (.iload_n 2, 1) := by decide +kernel
theorem dX11_back_55 : decode cX11_back 55 = .ok (.iconst 1, 1) := by decide +kernel
theorem dX11_back_56 : decode cX11_back 56 = .ok (.iadd, 1) := by decide +kernel
theorem dX11_back_57 : decode cX11_back 57 = .ok (.iload_n 3, 1) := by decide +kernel
theorem dX11_back_58 : decode cX11_back 58 = .ok (.invokestatic 191, 3) := by decide +kernel
theorem dX11_back_61 : decode cX11_back 61 = .ok (.istore 7, 2) := by decide +kernel
theorem dX11_back_63 : decode cX11_back 63 = .ok (.iload 6, 2) := by decide +kernel
theorem dX11_back_65 : decode cX11_back 65 = .ok (.ifCond .lt 10, 3) := by decide +kernel
theorem dX11_back_68 : decode cX11_back 68 = .ok (.iload 7, 2) := by decide +kernel
theorem dX11_back_70 : decode cX11_back 70 = .ok (.iload 6, 2) := by decide +kernel
theorem dX11_back_72 : decode cX11_back 72 = .ok (.if_icmp .ge 7, 3) := by decide +kernel
theorem dX11_back_75 : decode cX11_back 75 = .ok (.iconst 0, 1) := by decide +kernel
theorem dX11_back_76 : decode cX11_back 76 = .ok (.goto 8, 3) := by decide +kernel
theorem dX11_back_79 : decode cX11_back 79 = .ok (.iload 7, 2) := by decide +kernel
theorem dX11_back_81 : decode cX11_back 81 = .ok (.iload 6, 2) := by decide +kernel
theorem dX11_back_83 : decode cX11_back 83 = .ok (.isub, 1) := by decide +kernel
theorem dX11_back_84 : decode cX11_back 84 = .ok (.istore 8, 2) := by decide +kernel
theorem dX11_back_86 : decode cX11_back 86 = .ok (.iload 4, 2) := by decide +kernel
theorem dX11_back_88 : decode cX11_back 88 = .ok (.iconst (-1), 1) := by decide +kernel
theorem dX11_back_89 : decode cX11_back 89 = .ok (.if_icmp .ne 6, 3) := by decide +kernel
theorem dX11_back_92 : decode cX11_back 92 = .ok (.iload 8, 2) := by decide +kernel
theorem dX11_back_94 : decode cX11_back 94 = .ok (.ireturn, 1) := by decide +kernel
theorem dX11_back_95 : decode cX11_back 95 = .ok (.iload 4, 2) := by decide +kernel
theorem dX11_back_97 : decode cX11_back 97 = .ok (.iload 8, 2) := by decide +kernel
theorem dX11_back_99 : decode cX11_back 99 = .ok (.if_icmp .ge 11, 3) := by decide +kernel
theorem dX11_back_102 : decode cX11_back 102 = .ok (.iload 6, 2) := by decide +kernel
theorem dX11_back_104 : decode cX11_back 104 = .ok (.iload 4, 2) := by decide +kernel
theorem dX11_back_106 : decode cX11_back 106 = .ok (.iadd, 1) := by decide +kernel
theorem dX11_back_107 : decode cX11_back 107 = .ok (.goto 5, 3) := by decide +kernel
theorem dX11_back_110 : decode cX11_back 110 = .ok (.bipush (-3), 2) := by decide +kernel
theorem dX11_back_112 : decode cX11_back 112 = .ok (.ireturn, 1) := by decide +kernel
theorem dX11_rich_0 : decode cX11_rich 0 = .ok (.iload_n 1, 1) := by decide +kernel
theorem dX11_rich_1 : decode cX11_rich 1 = .ok (.invokestatic 154, 3) := by decide +kernel
theorem dX11_rich_4 : decode cX11_rich 4 = .ok (.ifCond .eq 14, 3) := by decide +kernel
theorem dX11_rich_7 : decode cX11_rich 7 = .ok (.aload_n 0, 1) := by decide +kernel
theorem dX11_rich_8 : decode cX11_rich 8 = .ok (.getfield 10, 3) := by decide +kernel
theorem dX11_rich_11 : decode cX11_rich 11 = .ok (.iload_n 2, 1) := by decide +kernel
theorem dX11_rich_12 : decode cX11_rich 12 = .ok (.invokevirtual 195, 3) := by decide +kernel
theorem dX11_rich_15 : decode cX11_rich 15 = .ok (.ifCond .ne 5, 3) := by decide +kernel
theorem dX11_rich_18 : decode cX11_rich 18 = .ok (.iconst (-1), 1) := by decide +kernel
theorem dX11_rich_19 : decode cX11_rich 19 = .ok (.ireturn, 1) := by decide +kernel
theorem dX11_rich_20 : decode cX11_rich 20 = .ok (.aload_n 0, 1) := by decide +kernel
theorem dX11_rich_21 : decode cX11_rich 21 = .ok (.iload_n 1, 1) := by decide +kernel
theorem dX11_rich_22 : decode cX11_rich 22 = .ok (.iload_n 2, 1) := by decide +kernel
theorem dX11_rich_23 : decode cX11_rich 23 = .ok (.invokevirtual 198, 3) := by decide +kernel
theorem dX11_rich_26 : decode cX11_rich 26 = .ok (.istore_n 3, 1) := by decide +kernel
theorem dX11_rich_27 : decode cX11_rich 27 = .ok (.iload_n 3, 1) := by decide +kernel
theorem dX11_rich_28 : decode cX11_rich 28 = .ok (.ifCond .ge 8, 3) := by decide +kernel
theorem dX11_rich_31 : decode cX11_rich 31 = .ok (.bipush (-3), 2) := by decide +kernel
theorem dX11_rich_33 : decode cX11_rich 33 = .ok (.goto 4, 3) := by decide +kernel
theorem dX11_rich_36 : decode cX11_rich 36 = .ok (.iload_n 3, 1) := by decide +kernel
theorem dX11_rich_37 : decode cX11_rich 37 = .ok (.ireturn, 1) := by decide +kernel
theorem dX11_order_0 : decode cX11_order 0 = .ok (.iload_n 1, 1) := by decide +kernel
theorem dX11_order_1 : decode cX11_order 1 = .ok (.invokestatic 154, 3) := by decide +kernel
theorem dX11_order_4 : decode cX11_order 4 = .ok (.ifCond .eq 24, 3) := by decide +kernel
theorem dX11_order_7 : decode cX11_order 7 = .ok (.aload_n 0, 1) := by decide +kernel
theorem dX11_order_8 : decode cX11_order 8 = .ok (.getfield 10, 3) := by decide +kernel
theorem dX11_order_11 : decode cX11_order 11 = .ok (.iload_n 2, 1) := by decide +kernel
theorem dX11_order_12 : decode cX11_order 12 = .ok (.invokevirtual 195, 3) := by decide +kernel
theorem dX11_order_15 : decode cX11_order 15 = .ok (.ifCond .eq 13, 3) := by decide +kernel
theorem dX11_order_18 : decode cX11_order 18 = .ok (.iload_n 3, 1) := by decide +kernel
theorem dX11_order_19 : decode cX11_order 19 = .ok (.iconst 0, 1) := by decide +kernel
theorem dX11_order_20 : decode cX11_order 20 = .ok (.bipush 8, 2) := by decide +kernel
theorem dX11_order_22 : decode cX11_order 22 = .ok (.invokestatic 183, 3) := by decide +kernel
theorem dX11_order_25 : decode cX11_order 25 = .ok (.ifCond .ne 5, 3) := by decide +kernel
theorem dX11_order_28 : decode cX11_order 28 = .ok (.iconst (-1), 1) := by decide +kernel
theorem dX11_order_29 : decode cX11_order 29 = .ok (.ireturn, 1) := by decide +kernel
theorem dX11_order_30 : decode cX11_order 30 = .ok (.aload_n 0, 1) := by decide +kernel
theorem dX11_order_31 : decode cX11_order 31 = .ok (.iload_n 1, 1) := by decide +kernel
theorem dX11_order_32 : decode cX11_order 32 = .ok (.iload_n 2, 1) := by decide +kernel
theorem dX11_order_33 : decode cX11_order 33 = .ok (.invokevirtual 198, 3) := by decide +kernel
theorem dX11_order_36 : decode cX11_order 36 = .ok (.istore 4, 2) := by decide +kernel
theorem dX11_order_38 : decode cX11_order 38 = .ok (.iload 4, 2) := by decide +kernel
theorem dX11_order_40 : decode cX11_order 40 = .ok (.ifCond .lt 11, 3) := by decide +kernel
theorem dX11_order_43 : decode cX11_order 43 = .ok (.iload_n 3, 1) := by decide +kernel
theorem dX11_order_44 : decode cX11_order 44 = .ok (.iload_n 2, 1) := by decide +kernel
theorem dX11_order_45 : decode cX11_order 45 = .ok (.invokestatic 202, 3) := by decide +kernel
theorem dX11_order_48 : decode cX11_order 48 = .ok (.if_icmp .lt 6, 3) := by decide +kernel
theorem dX11_order_51 : decode cX11_order 51 = .ok (.bipush (-3), 2) := by decide +kernel
theorem dX11_order_53 : decode cX11_order 53 = .ok (.ireturn, 1) := by decide +kernel
theorem dX11_order_54 : decode cX11_order 54 = .ok (.aload_n 0, 1) := by decide +kernel
theorem dX11_order_55 : decode cX11_order 55 = .ok (.iload 4, 2) := by decide +kernel
theorem dX11_order_57 : decode cX11_order 57 = .ok (.iload_n 2, 1) := by decide +kernel
theorem dX11_order_58 : decode cX11_order 58 = .ok (.invokevirtual 207, 3) := by decide +kernel
theorem dX11_order_61 : decode cX11_order 61 = .ok (.pop, 1) := by decide +kernel
theorem dX11_order_62 : decode cX11_order 62 = .ok (.iload_n 1, 1) := by decide +kernel
theorem dX11_order_63 : decode cX11_order 63 = .ok (.istore 5, 2) := by decide +kernel
theorem dX11_order_65 : decode cX11_order 65 = .ok (.iload_n 2, 1) := by decide +kernel
theorem dX11_order_66 : decode cX11_order 66 = .ok (.istore 6, 2) := by decide +kernel
theorem dX11_order_68 : decode cX11_order 68 = .ok (.iconst 0, 1) := by decide +kernel
theorem dX11_order_69 : decode cX11_order 69 = .ok (.istore 7, 2) := by decide +kernel
theorem dX11_order_71 : decode cX11_order 71 = .ok (.iload 7, 2) := by decide +kernel
theorem dX11_order_73 : decode cX11_order 73 = .ok (.iload_n 3, 1) := by decide +kernel
theorem dX11_order_74 : decode cX11_order 74 = .ok (.if_icmp .ge 40, 3) := by decide +kernel
theorem dX11_order_77 : decode cX11_order 77 = .ok (.aload_n 0, 1) := by decide +kernel
theorem dX11_order_78 : decode cX11_order 78 = .ok (.iload 5, 2) := by decide +kernel
theorem dX11_order_80 : decode cX11_order 80 = .ok (.iload 6, 2) := by decide +kernel
theorem dX11_order_82 : decode cX11_order 82 = .ok (.invokevirtual 210, 3) := by decide +kernel
theorem dX11_order_85 : decode cX11_order 85 = .ok (.istore 8, 2) := by decide +kernel
theorem dX11_order_87 : decode cX11_order 87 = .ok (.aload_n 0, 1) := by decide +kernel
theorem dX11_order_88 : decode cX11_order 88 = .ok (.iload 8, 2) := by decide +kernel
theorem dX11_order_90 : decode cX11_order 90 = .ok (.iload 5, 2) := by decide +kernel
theorem dX11_order_92 : decode cX11_order 92 = .ok (.invokevirtual 213, 3) := by decide +kernel
theorem dX11_order_95 : decode cX11_order 95 = .ok (.istore 5, 2) := by decide +kernel
theorem dX11_order_97 : decode cX11_order 97 = .ok (.iload 6, 2) := by decide +kernel
theorem dX11_order_99 : decode cX11_order 99 = .ok (.iconst 1, 1) := by decide +kernel
theorem dX11_order_100 : decode cX11_order 100 = .ok (.iload 8, 2) := by decide +kernel
theorem dX11_order_102 : decode cX11_order 102 = .ok (.ishl, 1) := by decide +kernel
theorem dX11_order_103 : decode cX11_order 103 = .ok (.iconst (-1), 1) := by decide +kernel
theorem dX11_order_104 : decode cX11_order 104 = .ok (.ixor, 1) := by decide +kernel
theorem dX11_order_105 : decode cX11_order 105 = .ok (.iand, 1) := by decide +kernel
theorem dX11_order_106 : decode cX11_order 106 = .ok (.istore 6, 2) := by decide +kernel
theorem dX11_order_108 : decode cX11_order 108 = .ok (.iinc 7 1, 3) := by decide +kernel
theorem dX11_order_111 : decode cX11_order 111 = .ok (.goto (-40), 3) := by decide +kernel
theorem dX11_order_114 : decode cX11_order 114 = .ok (.aload_n 0, 1) := by decide +kernel
theorem dX11_order_115 : decode cX11_order 115 = .ok (.iload 5, 2) := by decide +kernel
theorem dX11_order_117 : decode cX11_order 117 = .ok (.iload 6, 2) := by decide +kernel
theorem dX11_order_119 : decode cX11_order 119 = .ok (.invokevirtual 210, 3) := by decide +kernel
theorem dX11_order_122 : decode cX11_order 122 = .ok (.istore 7, 2) := by decide +kernel
theorem dX11_order_124 : decode cX11_order 124 = .ok (.iload 7, 2) := by decide +kernel
theorem dX11_order_126 : decode cX11_order 126 = .ok (.ifCond .ge 8, 3) := by decide +kernel
theorem dX11_order_129 : decode cX11_order 129 = .ok (.bipush (-3), 2) := by decide +kernel
theorem dX11_order_131 : decode cX11_order 131 = .ok (.goto 5, 3) := by decide +kernel
theorem dX11_order_134 : decode cX11_order 134 = .ok (.iload 7, 2) := by decide +kernel
theorem dX11_order_136 : decode cX11_order 136 = .ok (.ireturn, 1) := by decide +kernel
theorem dX11_poor_0 : decode cX11_poor 0 = .ok (.aload_n 0, 1) := by decide +kernel
theorem dX11_poor_1 : decode cX11_poor 1 = .ok (.getfield 10, 3) := by decide +kernel
theorem dX11_poor_4 : decode cX11_poor 4 = .ok (.iload_n 1, 1) := by decide +kernel
theorem dX11_poor_5 : decode cX11_poor 5 = .ok (.invokevirtual 195, 3) := by decide +kernel
theorem dX11_poor_8 : decode cX11_poor 8 = .ok (.ifCond .ne 5, 3) := by decide +kernel
theorem dX11_poor_11 : decode cX11_poor 11 = .ok (.iconst (-1), 1) := by decide +kernel
theorem dX11_poor_12 : decode cX11_poor 12 = .ok (.ireturn, 1) := by decide +kernel
theorem dX11_poor_13 : decode cX11_poor 13 = .ok (.aload_n 0, 1) := by decide +kernel
theorem dX11_poor_14 : decode cX11_poor 14 = .ok (.iconst 0, 1) := by decide +kernel
theorem dX11_poor_15 : decode cX11_poor 15 = .ok (.iload_n 1, 1) := by decide +kernel
theorem dX11_poor_16 : decode cX11_poor 16 = .ok (.invokevirtual 207, 3) := by decide +kernel
theorem dX11_poor_19 : decode cX11_poor 19 = .ok (.istore_n 2, 1) := by decide +kernel
theorem dX11_poor_20 : decode cX11_poor 20 = .ok (.iload_n 2, 1) := by decide +kernel
theorem dX11_poor_21 : decode cX11_poor 21 = .ok (.ifCond .ge 8, 3) := by decide +kernel
theorem dX11_poor_24 : decode cX11_poor 24 = .ok (.bipush (-3), 2) := by decide +kernel
theorem dX11_poor_26 : decode cX11_poor 26 = .ok (.goto 4, 3) := by decide +kernel
theorem dX11_poor_29 : decode cX11_poor 29 = .ok (.iload_n 2, 1) := by decide +kernel
theorem dX11_poor_30 : decode cX11_poor 30 = .ok (.ireturn, 1) := by decide +kernel
theorem dX11_fast_0 : decode cX11_fast 0 = .ok (.iload_n 1, 1) := by decide +kernel
theorem dX11_fast_1 : decode cX11_fast 1 = .ok (.invokestatic 154, 3) := by decide +kernel
theorem dX11_fast_4 : decode cX11_fast 4 = .ok (.ifCond .eq 10, 3) := by decide +kernel
theorem dX11_fast_7 : decode cX11_fast 7 = .ok (.iload_n 2, 1) := by decide +kernel
theorem dX11_fast_8 : decode cX11_fast 8 = .ok (.invokestatic 154, 3) := by decide +kernel
theorem dX11_fast_11 : decode cX11_fast 11 = .ok (.ifCond .ne 5, 3) := by decide +kernel
theorem dX11_fast_14 : decode cX11_fast 14 = .ok (.iconst (-1), 1) := by decide +kernel
theorem dX11_fast_15 : decode cX11_fast 15 = .ok (.ireturn, 1) := by decide +kernel
theorem dX11_fast_16 : decode cX11_fast 16 = .ok (.aload_n 0, 1) := by decide +kernel
theorem dX11_fast_17 : decode cX11_fast 17 = .ok (.iload_n 1, 1) := by decide +kernel
theorem dX11_fast_18 : decode cX11_fast 18 = .ok (.iload_n 2, 1) := by decide +kernel
theorem dX11_fast_19 : decode cX11_fast 19 = .ok (.invokevirtual 216, 3) := by decide +kernel
theorem dX11_fast_22 : decode cX11_fast 22 = .ok (.istore_n 3, 1) := by decide +kernel
theorem dX11_fast_23 : decode cX11_fast 23 = .ok (.iload_n 3, 1) := by decide +kernel
theorem dX11_fast_24 : decode cX11_fast 24 = .ok (.ifCond .ge 8, 3) := by decide +kernel
theorem dX11_fast_27 : decode cX11_fast 27 = .ok (.bipush (-3), 2) := by decide +kernel
theorem dX11_fast_29 : decode cX11_fast 29 = .ok (.goto 4, 3) := by decide +kernel
theorem dX11_fast_32 : decode cX11_fast 32 = .ok (.iload_n 3, 1) := by decide +kernel
theorem dX11_fast_33 : decode cX11_fast 33 = .ok (.ireturn, 1) := by decide +kernel
theorem dX11_by_0 : decode cX11_by 0 = .ok (.iload_n 1, 1) := by decide +kernel
theorem dX11_by_1 : decode cX11_by 1 = .ok (.invokestatic 154, 3) := by decide +kernel
theorem dX11_by_4 : decode cX11_by 4 = .ok (.ifCond .eq 20, 3) := by decide +kernel
theorem dX11_by_7 : decode cX11_by 7 = .ok (.iload_n 2, 1) := by decide +kernel
theorem dX11_by_8 : decode cX11_by 8 = .ok (.invokestatic 154, 3) := by decide +kernel
theorem dX11_by_11 : decode cX11_by 11 = .ok (.ifCond .eq 13, 3) := by decide +kernel
theorem dX11_by_14 : decode cX11_by 14 = .ok (.iload_n 3, 1) := by decide +kernel
theorem dX11_by_15 : decode cX11_by 15 = .ok (.iconst 0, 1) := by decide +kernel
theorem dX11_by_16 : decode cX11_by 16 = .ok (.bipush 59, 2) := by decide +kernel
theorem dX11_by_18 : decode cX11_by 18 = .ok (.invokestatic 183, 3) := by decide +kernel
theorem dX11_by_21 : decode cX11_by 21 = .ok (.ifCond .ne 5, 3) := by decide +kernel
theorem dX11_by_24 : decode cX11_by 24 = .ok (.iconst (-1), 1) := by decide +kernel
theorem dX11_by_25 : decode cX11_by 25 = .ok (.ireturn, 1) := by decide +kernel
theorem dX11_by_26 : decode cX11_by 26 = .ok (.aload_n 0, 1) := by decide +kernel
theorem dX11_by_27 : decode cX11_by 27 = .ok (.iload_n 1, 1) := by decide +kernel
theorem dX11_by_28 : decode cX11_by 28 = .ok (.iload_n 2, 1) := by decide +kernel
theorem dX11_by_29 : decode cX11_by 29 = .ok (.invokevirtual 216, 3) := by decide +kernel
theorem dX11_by_32 : decode cX11_by 32 = .ok (.istore 4, 2) := by decide +kernel
theorem dX11_by_34 : decode cX11_by 34 = .ok (.iload_n 3, 1) := by decide +kernel
theorem dX11_by_35 : decode cX11_by 35 = .ok (.iload 4, 2) := by decide +kernel
theorem dX11_by_37 : decode cX11_by 37 = .ok (.if_icmp .lt 6, 3) := by decide +kernel
theorem dX11_by_40 : decode cX11_by 40 = .ok (.bipush (-3), 2) := by decide +kernel
theorem dX11_by_42 : decode cX11_by 42 = .ok (.ireturn, 1) := by decide +kernel
theorem dX11_by_43 : decode cX11_by 43 = .ok (.aload_n 0, 1) := by decide +kernel
theorem dX11_by_44 : decode cX11_by 44 = .ok (.iload_n 2, 1) := by decide +kernel
theorem dX11_by_45 : decode cX11_by 45 = .ok (.iload 4, 2) := by decide +kernel
theorem dX11_by_47 : decode cX11_by 47 = .ok (.invokevirtual 219, 3) := by decide +kernel
theorem dX11_by_50 : decode cX11_by 50 = .ok (.iload_n 1, 1) := by decide +kernel
theorem dX11_by_51 : decode cX11_by 51 = .ok (.istore 5, 2) := by decide +kernel
theorem dX11_by_53 : decode cX11_by 53 = .ok (.iconst 0, 1) := by decide +kernel
theorem dX11_by_54 : decode cX11_by 54 = .ok (.istore 6, 2) := by decide +kernel
theorem dX11_by_56 : decode cX11_by 56 = .ok (.iload 6, 2) := by decide +kernel
theorem dX11_by_58 : decode cX11_by 58 = .ok (.iload_n 3, 1) := by decide +kernel
theorem dX11_by_59 : decode cX11_by 59 = .ok (.if_icmp .ge 30, 3) := by decide +kernel
theorem dX11_by_62 : decode cX11_by 62 = .ok (.aload_n 0, 1) := by decide +kernel
theorem dX11_by_63 : decode cX11_by 63 = .ok (.aload_n 0, 1) := by decide +kernel
theorem dX11_by_64 : decode cX11_by 64 = .ok (.iload 5, 2) := by decide +kernel
theorem dX11_by_66 : decode cX11_by 66 = .ok (.iload 4, 2) := by decide +kernel
theorem dX11_by_68 : decode cX11_by 68 = .ok (.iload 6, 2) := by decide +kernel
theorem dX11_by_70 : decode cX11_by 70 = .ok (.isub, 1) := by decide +kernel
theorem dX11_by_71 : decode cX11_by 71 = .ok (.iconst 1, 1) := by decide +kernel
theorem dX11_by_72 : decode cX11_by 72 = .ok (.isub, 1) := by decide +kernel
theorem dX11_by_73 : decode cX11_by 73 = .ok (.invokevirtual 223, 3) := by decide +kernel
theorem dX11_by_76 : decode cX11_by 76 = .ok (.iload 5, 2) := by decide +kernel
theorem dX11_by_78 : decode cX11_by 78 = .ok (.invokevirtual 213, 3) := by decide +kernel
theorem dX11_by_81 : decode cX11_by 81 = .ok (.istore 5, 2) := by decide +kernel
theorem dX11_by_83 : decode cX11_by 83 = .ok (.iinc 6 1, 3) := by decide +kernel
theorem dX11_by_86 : decode cX11_by 86 = .ok (.goto (-30), 3) := by decide +kernel
theorem dX11_by_89 : decode cX11_by 89 = .ok (.aload_n 0, 1) := by decide +kernel
theorem dX11_by_90 : decode cX11_by 90 = .ok (.iload 5, 2) := by decide +kernel
theorem dX11_by_92 : decode cX11_by 92 = .ok (.iload 4, 2) := by decide +kernel
theorem dX11_by_94 : decode cX11_by 94 = .ok (.iload_n 3, 1) := by decide +kernel
theorem dX11_by_95 : decode cX11_by 95 = .ok (.isub, 1) := by decide +kernel
theorem dX11_by_96 : decode cX11_by 96 = .ok (.iconst 1, 1) := by decide +kernel
theorem dX11_by_97 : decode cX11_by 97 = .ok (.isub, 1) := by decide +kernel
theorem dX11_by_98 : decode cX11_by 98 = .ok (.invokevirtual 223, 3) := by decide +kernel
theorem dX11_by_101 : decode cX11_by 101 = .ok (.istore 6, 2) := by decide +kernel
theorem dX11_by_103 : decode cX11_by 103 = .ok (.iload 6, 2) := by decide +kernel
theorem dX11_by_105 : decode cX11_by 105 = .ok (.ifCond .ge 8, 3) := by decide +kernel
theorem dX11_by_108 : decode cX11_by 108 = .ok (.bipush (-3), 2) := by decide +kernel
theorem dX11_by_110 : decode cX11_by 110 = .ok (.goto 5, 3) := by decide +kernel
theorem dX11_by_113 : decode cX11_by 113 = .ok (.iload 6, 2) := by decide +kernel
theorem dX11_by_115 : decode cX11_by 115 = .ok (.ireturn, 1) := by decide +kernel
theorem dX11_swap_0 : decode cX11_swap 0 = .ok (.aload_n 0, 1) := by decide +kernel
theorem dX11_swap_1 : decode cX11_swap 1 = .ok (.getfield 10, 3) := by decide +kernel
theorem dX11_swap_4 : decode cX11_swap 4 = .ok (.iload_n 1, 1) := by decide +kernel
theorem dX11_swap_5 : decode cX11_swap 5 = .ok (.invokevirtual 82, 3) := by decide +kernel
theorem dX11_swap_8 : decode cX11_swap 8 = .ok (.astore 4, 2) := by decide +kernel
theorem dX11_swap_10 : decode cX11_swap 10 = .ok (.aload_n 0, 1) := by decide +kernel
theorem dX11_swap_11 : decode cX11_swap 11 = .ok (.getfield 10, 3) := by decide +kernel
theorem dX11_swap_14 : decode cX11_swap 14 = .ok (.iload_n 2, 1) := by decide +kernel
theorem dX11_swap_15 : decode cX11_swap 15 = .ok (.invokevirtual 82, 3) := by decide +kernel
theorem dX11_swap_18 : decode cX11_swap 18 = .ok (.astore 5, 2) := by decide +kernel
theorem dX11_swap_20 : decode cX11_swap 20 = .ok (.aload 4, 2) := by decide +kernel
theorem dX11_swap_22 : decode cX11_swap 22 = .ok (.ifnull 20, 3) := by decide +kernel
theorem dX11_swap_25 : decode cX11_swap 25 = .ok (.aload 5, 2) := by decide +kernel
theorem dX11_swap_27 : decode cX11_swap 27 = .ok (.ifnull 15, 3) := by decide +kernel
theorem dX11_swap_30 : decode cX11_swap 30 = .ok (.iload_n 1, 1) := by decide +kernel
theorem dX11_swap_31 : decode cX11_swap 31 = .ok (.iload_n 2, 1) := by decide +kernel
theorem dX11_swap_32 : decode cX11_swap 32 = .ok (.if_icmp .eq 10, 3) := by decide +kernel
theorem dX11_swap_35 : decode cX11_swap 35 = .ok (.iload_n 3, 1) := by decide +kernel
theorem dX11_swap_36 : decode cX11_swap 36 = .ok (.invokestatic 154, 3) := by decide +kernel
theorem dX11_swap_39 : decode cX11_swap 39 = .ok (.ifCond .ne 5, 3) := by decide +kernel
theorem dX11_swap_42 : decode cX11_swap 42 = .ok (.iconst (-1), 1) := by decide +kernel
theorem dX11_swap_43 : decode cX11_swap 43 = .ok (.ireturn, 1) := by decide +kernel
theorem dX11_swap_44 : decode cX11_swap 44 = .ok (.aload 5, 2) := by decide +kernel
theorem dX11_swap_46 : decode cX11_swap 46 = .ok (.aload 4, 2) := by decide +kernel
theorem dX11_swap_48 : decode cX11_swap 48 = .ok (.iload_n 3, 1) := by decide +kernel
theorem dX11_swap_49 : decode cX11_swap 49 = .ok (.invokevirtual 173, 3) := by decide +kernel
theorem dX11_swap_52 : decode cX11_swap 52 = .ok (.invokevirtual 173, 3) := by decide +kernel
theorem dX11_swap_55 : decode cX11_swap 55 = .ok (.istore 6, 2) := by decide +kernel
theorem dX11_swap_57 : decode cX11_swap 57 = .ok (.aload 4, 2) := by decide +kernel
theorem dX11_swap_59 : decode cX11_swap 59 = .ok (.aload 5, 2) := by decide +kernel
theorem dX11_swap_61 : decode cX11_swap 61 = .ok (.iload_n 3, 1) := by decide +kernel
theorem dX11_swap_62 : decode cX11_swap 62 = .ok (.invokevirtual 173, 3) := by decide +kernel
theorem dX11_swap_65 : decode cX11_swap 65 = .ok (.invokevirtual 173, 3) := by decide +kernel
theorem dX11_swap_68 : decode cX11_swap 68 = .ok (.istore 7, 2) := by decide +kernel
theorem dX11_swap_70 : decode cX11_swap 70 = .ok (.iload 6, 2) := by decide +kernel
theorem dX11_swap_72 : decode cX11_swap 72 = .ok (.iload 7, 2) := by decide +kernel
theorem dX11_swap_74 : decode cX11_swap 74 = .ok (.if_icmp .ne 5, 3) := by decide +kernel
theorem dX11_swap_77 : decode cX11_swap 77 = .ok (.iconst 0, 1) := by decide +kernel
theorem dX11_swap_78 : decode cX11_swap 78 = .ok (.ireturn, 1) := by decide +kernel
theorem dX11_swap_79 : decode cX11_swap 79 = .ok (.iload 6, 2) := by decide +kernel
theorem dX11_swap_81 : decode cX11_swap 81 = .ok (.iload 7, 2) := by decide +kernel
theorem dX11_swap_83 : decode cX11_swap 83 = .ok (.if_icmp .le 7, 3) := by decide +kernel
theorem dX11_swap_86 : decode cX11_swap 86 = .ok (.iconst 1, 1) := by decide +kernel
theorem dX11_swap_87 : decode cX11_swap 87 = .ok (.goto 4, 3) := by decide +kernel
theorem dX11_swap_90 : decode cX11_swap 90 = .ok (.iconst 2, 1) := by decide +kernel
theorem dX11_swap_91 : decode cX11_swap 91 = .ok (.ireturn, 1) := by decide +kernel
theorem dX11_devil_0 : decode cX11_devil 0 = .ok (.aload_n 0, 1) := by decide +kernel
theorem dX11_devil_1 : decode cX11_devil 1 = .ok (.getfield 10, 3) := by decide +kernel
theorem dX11_devil_4 : decode cX11_devil 4 = .ok (.iload_n 1, 1) := by decide +kernel
theorem dX11_devil_5 : decode cX11_devil 5 = .ok (.invokevirtual 82, 3) := by decide +kernel
theorem dX11_devil_8 : decode cX11_devil 8 = .ok (.astore 4, 2) := by decide +kernel
theorem dX11_devil_10 : decode cX11_devil 10 = .ok (.aload 4, 2) := by decide +kernel
theorem dX11_devil_12 : decode cX11_devil 12 = .ok (.ifnull 23, 3) := by decide +kernel
theorem dX11_devil_15 : decode cX11_devil 15 = .ok (.iload_n 2, 1) := by decide +kernel
theorem dX11_devil_16 : decode cX11_devil 16 = .ok (.iconst 0, 1) := by decide +kernel
theorem dX11_devil_17 : decode cX11_devil 17 = .ok (.ldc 194, 2) := by decide +kernel
theorem dX11_devil_19 : decode cX11_devil 19 = .ok (.invokestatic 183, 3) := by decide +kernel
theorem dX11_devil_22 : decode cX11_devil 22 = .ok (.ifCond .eq 13, 3) := by decide +kernel
theorem dX11_devil_25 : decode cX11_devil 25 = .ok (.iload_n 3, 1) := by decide +kernel
theorem dX11_devil_26 : decode cX11_devil 26 = .ok (.iconst 1, 1) := by decide +kernel
theorem dX11_devil_27 : decode cX11_devil 27 = .ok (.bipush 20, 2) := by decide +kernel
theorem dX11_devil_29 : decode cX11_devil 29 = .ok (.invokestatic 183, 3) := by decide +kernel
theorem dX11_devil_32 : decode cX11_devil 32 = .ok (.ifCond .ne 5, 3) := by decide +kernel
theorem dX11_devil_35 : decode cX11_devil 35 = .ok (.iconst (-1), 1) := by decide +kernel
theorem dX11_devil_36 : decode cX11_devil 36 = .ok (.ireturn, 1) := by decide +kernel
theorem dX11_devil_37 : decode cX11_devil 37 = .ok (.aload 4, 2) := by decide +kernel
theorem dX11_devil_39 : decode cX11_devil 39 = .ok (.invokevirtual 226, 3) := by decide +kernel
theorem dX11_devil_42 : decode cX11_devil 42 = .ok (.astore 5, 2) := by decide +kernel
theorem dX11_devil_44 : decode cX11_devil 44 = .ok (.sipush 999, 3) := by decide +kernel
theorem dX11_devil_47 : decode cX11_devil 47 = .ok (.istore 6, 2) := by decide +kernel
theorem dX11_devil_49 : decode cX11_devil 49 = .ok (.iload 6, 2) := by decide +kernel
theorem dX11_devil_51 : decode cX11_devil 51 = .ok (.ifCond .lt 49, 3) := by decide +kernel
theorem dX11_devil_54 : decode cX11_devil 54 = .ok (.aload 5, 2) := by decide +kernel
theorem dX11_devil_56 : decode cX11_devil 56 = .ok (.iload 6, 2) := by decide +kernel
theorem dX11_devil_58 : decode cX11_devil 58 = .ok (.putfield 94, 3) := by decide +kernel
theorem dX11_devil_61 : decode cX11_devil 61 = .ok (.aload 5, 2) := by decide +kernel
theorem dX11_devil_63 : decode cX11_devil 63 = .ok (.aload_n 0, 1) := by decide +kernel
theorem dX11_devil_64 : decode cX11_devil 64 = .ok (.getfield 10, 3) := by decide +kernel
theorem dX11_devil_67 : decode cX11_devil 67 = .ok (.getfield 109, 3) := by decide +kernel
theorem dX11_devil_70 : decode cX11_devil 70 = .ok (.aload_n 0, 1) := by decide +kernel
theorem dX11_devil_71 : decode cX11_devil 71 = .ok (.getfield 10, 3) := by decide +kernel
theorem dX11_devil_74 : decode cX11_devil 74 = .ok (.getfield 113, 3) := by decide +kernel
theorem dX11_devil_77 : decode cX11_devil 77 = .ok (.invokevirtual 116, 3) := by decide +kernel
theorem dX11_devil_80 : decode cX11_devil 80 = .ok (.aload 5, 2) := by decide +kernel
theorem dX11_devil_82 : decode cX11_devil 82 = .ok (.iload_n 2, 1) := by decide +kernel
theorem dX11_devil_83 : decode cX11_devil 83 = .ok (.iload_n 3, 1) := by decide +kernel
theorem dX11_devil_84 : decode cX11_devil 84 = .ok (.invokestatic 187, 3) := by decide +kernel
theorem dX11_devil_87 : decode cX11_devil 87 = .ok (.iload_n 2, 1) := by decide +kernel
theorem dX11_devil_88 : decode cX11_devil 88 = .ok (.if_icmp .lt 6, 3) := by decide +kernel
theorem dX11_devil_91 : decode cX11_devil 91 = .ok (.iload 6, 2) := by decide +kernel
theorem dX11_devil_93 : decode cX11_devil 93 = .ok (.ireturn, 1) := by decide +kernel
theorem dX11_devil_94 : decode cX11_devil 94 = .ok (.iinc 6 (-1), 3) := by decide +kernel
theorem dX11_devil_97 : decode cX11_devil 97 = .ok (.goto (-48), 3) := by decide +kernel
theorem dX11_devil_100 : decode cX11_devil 100 = .ok (.bipush (-3), 2) := by decide +kernel
theorem dX11_devil_102 : decode cX11_devil 102 = .ok (.ireturn, 1) := by decide +kernel
theorem dX11_rate_0 : decode cX11_rate 0 = .ok (.aload_n 0, 1) := by decide +kernel
theorem dX11_rate_1 : decode cX11_rate 1 = .ok (.getfield 10, 3) := by decide +kernel
theorem dX11_rate_4 : decode cX11_rate 4 = .ok (.iload_n 1, 1) := by decide +kernel
theorem dX11_rate_5 : decode cX11_rate 5 = .ok (.invokevirtual 82, 3) := by decide +kernel
theorem dX11_rate_8 : decode cX11_rate 8 = .ok (.astore 4, 2) := by decide +kernel
theorem dX11_rate_10 : decode cX11_rate 10 = .ok (.aload 4, 2) := by decide +kernel
theorem dX11_rate_12 : decode cX11_rate 12 = .ok (.ifnull 23, 3) := by decide +kernel
theorem dX11_rate_15 : decode cX11_rate 15 = .ok (.iload_n 2, 1) := by decide +kernel
theorem dX11_rate_16 : decode cX11_rate 16 = .ok (.iconst 0, 1) := by decide +kernel
theorem dX11_rate_17 : decode cX11_rate 17 = .ok (.ldc 194, 2) := by decide +kernel
theorem dX11_rate_19 : decode cX11_rate 19 = .ok (.invokestatic 183, 3) := by decide +kernel
theorem dX11_rate_22 : decode cX11_rate 22 = .ok (.ifCond .eq 13, 3) := by decide +kernel
theorem dX11_rate_25 : decode cX11_rate 25 = .ok (.iload_n 3, 1) := by decide +kernel
theorem dX11_rate_26 : decode cX11_rate 26 = .ok (.iconst 1, 1) := by decide +kernel
theorem dX11_rate_27 : decode cX11_rate 27 = .ok (.ldc 194, 2) := by decide +kernel
theorem dX11_rate_29 : decode cX11_rate 29 = .ok (.invokestatic 183, 3) := by decide +kernel
theorem dX11_rate_32 : decode cX11_rate 32 = .ok (.ifCond .ne 5, 3) := by decide +kernel
theorem dX11_rate_35 : decode cX11_rate 35 = .ok (.iconst (-1), 1) := by decide +kernel
theorem dX11_rate_36 : decode cX11_rate 36 = .ok (.ireturn, 1) := by decide +kernel
theorem dX11_rate_37 : decode cX11_rate 37 = .ok (.aload 4, 2) := by decide +kernel
theorem dX11_rate_39 : decode cX11_rate 39 = .ok (.iload_n 2, 1) := by decide +kernel
theorem dX11_rate_40 : decode cX11_rate 40 = .ok (.invokevirtual 173, 3) := by decide +kernel
theorem dX11_rate_43 : decode cX11_rate 43 = .ok (.i2l, 1) := by decide +kernel
theorem dX11_rate_44 : decode cX11_rate 44 = .ok (.lstore 5, 2) := by decide +kernel
theorem dX11_rate_46 : decode cX11_rate 46 = .ok (.aload 4, 2) := by decide +kernel
theorem dX11_rate_48 : decode cX11_rate 48 = .ok (.iload_n 2, 1) := by decide +kernel
theorem dX11_rate_49 : decode cX11_rate 49 = .ok (.iload_n 3, 1) := by decide +kernel
theorem dX11_rate_50 : decode cX11_rate 50 = .ok (.iadd, 1) := by decide +kernel
theorem dX11_rate_51 : decode cX11_rate 51 = .ok (.invokevirtual 173, 3) := by decide +kernel
theorem dX11_rate_54 : decode cX11_rate 54 = .ok (.i2l, 1) := by decide +kernel
theorem dX11_rate_55 : decode cX11_rate 55 = .ok (.lstore 7, 2) := by decide +kernel
theorem dX11_rate_57 : decode cX11_rate 57 = .ok (.lload 5, 2) := by decide +kernel
theorem dX11_rate_59 : decode cX11_rate 59 = .ok (.lconst 0, 1) := by decide +kernel
theorem dX11_rate_60 : decode cX11_rate 60 = .ok (.lcmp, 1) := by decide +kernel
theorem dX11_rate_61 : decode cX11_rate 61 = .ok (.ifCond .ge 6, 3) := by decide +kernel
theorem dX11_rate_64 : decode cX11_rate 64 = .ok (.bipush (-3), 2) := by decide +kernel
theorem dX11_rate_66 : decode cX11_rate 66 = .ok (.ireturn, 1) := by decide +kernel
theorem dX11_rate_67 : decode cX11_rate 67 = .ok (.lload 7, 2) := by decide +kernel
theorem dX11_rate_69 : decode cX11_rate 69 = .ok (.lload 5, 2) := by decide +kernel
theorem dX11_rate_71 : decode cX11_rate 71 = .ok (.lsub, 1) := by decide +kernel
theorem dX11_rate_72 : decode cX11_rate 72 = .ok (.iload_n 3, 1) := by decide +kernel
theorem dX11_rate_73 : decode cX11_rate 73 = .ok (.i2l, 1) := by decide +kernel
theorem dX11_rate_74 : decode cX11_rate 74 = .ok (.lsub, 1) := by decide +kernel
theorem dX11_rate_75 : decode cX11_rate 75 = .ok (.ldc2_w 230, 3) := by decide +kernel
theorem dX11_rate_78 : decode cX11_rate 78 = .ok (.lmul, 1) := by decide +kernel
theorem dX11_rate_79 : decode cX11_rate 79 = .ok (.iload_n 3, 1) := by decide +kernel
theorem dX11_rate_80 : decode cX11_rate 80 = .ok (.i2l, 1) := by decide +kernel
theorem dX11_rate_81 : decode cX11_rate 81 = .ok (.ldiv, 1) := by decide +kernel
theorem dX11_rate_82 : decode cX11_rate 82 = .ok (.l2i, 1) := by decide +kernel
theorem dX11_rate_83 : decode cX11_rate 83 = .ok (.sipush 1000, 3) := by decide +kernel
theorem dX11_rate_86 : decode cX11_rate 86 = .ok (.iadd, 1) := by decide +kernel
theorem dX11_rate_87 : decode cX11_rate 87 = .ok (.ireturn, 1) := by decide +kernel
theorem dX11_worth_0 : decode cX11_worth 0 = .ok (.aload_n 0, 1) := by decide +kernel
theorem dX11_worth_1 : decode cX11_worth 1 = .ok (.getfield 10, 3) := by decide +kernel
theorem dX11_worth_4 : decode cX11_worth 4 = .ok (.iload_n 1, 1) := by decide +kernel
theorem dX11_worth_5 : decode cX11_worth 5 = .ok (.invokevirtual 82, 3) := by decide +kernel
theorem dX11_worth_8 : decode cX11_worth 8 = .ok (.astore 5, 2) := by decide +kernel
theorem dX11_worth_10 : decode cX11_worth 10 = .ok (.aload 5, 2) := by decide +kernel
theorem dX11_worth_12 : decode cX11_worth 12 = .ok (.ifnull 13, 3) := by decide +kernel
theorem dX11_worth_15 : decode cX11_worth 15 = .ok (.iload_n 2, 1) := by decide +kernel
theorem dX11_worth_16 : decode cX11_worth 16 = .ok (.iload_n 3, 1) := by decide +kernel
theorem dX11_worth_17 : decode cX11_worth 17 = .ok (.iload 4, 2) := by decide +kernel
theorem dX11_worth_19 : decode cX11_worth 19 = .ok (.invokestatic 232, 3) := by decide +kernel
theorem dX11_worth_22 : decode cX11_worth 22 = .ok (.ifCond .ne 7, 3) := by decide +kernel
theorem dX11_worth_25 : decode cX11_worth 25 = .ok (.ldc2_w 235, 3) := by decide +kernel
theorem dX11_worth_28 : decode cX11_worth 28 = .ok (.lreturn, 1) := by decide +kernel
theorem dX11_worth_29 : decode cX11_worth 29 = .ok (.aload 5, 2) := by decide +kernel
theorem dX11_worth_31 : decode cX11_worth 31 = .ok (.iload_n 2, 1) := by decide +kernel
theorem dX11_worth_32 : decode cX11_worth 32 = .ok (.iload_n 3, 1) := by decide +kernel
theorem dX11_worth_33 : decode cX11_worth 33 = .ok (.iload 4, 2) := by decide +kernel
theorem dX11_worth_35 : decode cX11_worth 35 = .ok (.invokestatic 237, 3) := by decide +kernel
theorem dX11_worth_38 : decode cX11_worth 38 = .ok (.lreturn, 1) := by decide +kernel
theorem dX11_stops_0 : decode cX11_stops 0 = .ok (.aload_n 0, 1) := by decide +kernel
theorem dX11_stops_1 : decode cX11_stops 1 = .ok (.getfield 10, 3) := by decide +kernel
theorem dX11_stops_4 : decode cX11_stops 4 = .ok (.iload_n 1, 1) := by decide +kernel
theorem dX11_stops_5 : decode cX11_stops 5 = .ok (.invokevirtual 82, 3) := by decide +kernel
theorem dX11_stops_8 : decode cX11_stops 8 = .ok (.astore 5, 2) := by decide +kernel
theorem dX11_stops_10 : decode cX11_stops 10 = .ok (.aload 5, 2) := by decide +kernel
theorem dX11_stops_12 : decode cX11_stops 12 = .ok (.ifnull 13, 3) := by decide +kernel
theorem dX11_stops_15 : decode cX11_stops 15 = .ok (.iload_n 2, 1) := by decide +kernel
theorem dX11_stops_16 : decode cX11_stops 16 = .ok (.iload_n 3, 1) := by decide +kernel
theorem dX11_stops_17 : decode cX11_stops 17 = .ok (.iload 4, 2) := by decide +kernel
theorem dX11_stops_19 : decode cX11_stops 19 = .ok (.invokestatic 232, 3) := by decide +kernel
theorem dX11_stops_22 : decode cX11_stops 22 = .ok (.ifCond .ne 5, 3) := by decide +kernel
theorem dX11_stops_25 : decode cX11_stops 25 = .ok (.iconst (-1), 1) := by decide +kernel
theorem dX11_stops_26 : decode cX11_stops 26 = .ok (.ireturn, 1) := by decide +kernel
theorem dX11_stops_27 : decode cX11_stops 27 = .ok (.iload_n 2, 1) := by decide +kernel
theorem dX11_stops_28 : decode cX11_stops 28 = .ok (.i2l, 1) := by decide +kernel
theorem dX11_stops_29 : decode cX11_stops 29 = .ok (.iload 4, 2) := by decide +kernel
theorem dX11_stops_31 : decode cX11_stops 31 = .ok (.invokestatic 241, 3) := by decide +kernel
theorem dX11_stops_34 : decode cX11_stops 34 = .ok (.lmul, 1) := by decide +kernel
theorem dX11_stops_35 : decode cX11_stops 35 = .ok (.aload 5, 2) := by decide +kernel
theorem dX11_stops_37 : decode cX11_stops 37 = .ok (.iload_n 2, 1) := by decide +kernel
theorem dX11_stops_38 : decode cX11_stops 38 = .ok (.iload_n 3, 1) := by decide +kernel
theorem dX11_stops_39 : decode cX11_stops 39 = .ok (.iload 4, 2) := by decide +kernel
theorem dX11_stops_41 : decode cX11_stops 41 = .ok (.invokestatic 245, 3) := by decide +kernel
theorem dX11_stops_44 : decode cX11_stops 44 = .ok (.lcmp, 1) := by decide +kernel
theorem dX11_stops_45 : decode cX11_stops 45 = .ok (.ifCond .lt 7, 3) := by decide +kernel
theorem dX11_stops_48 : decode cX11_stops 48 = .ok (.iconst 1, 1) := by decide +kernel
theorem dX11_stops_49 : decode cX11_stops 49 = .ok (.goto 4, 3) := by decide +kernel
theorem dX11_stops_52 : decode cX11_stops 52 = .ok (.iconst 0, 1) := by decide +kernel
theorem dX11_stops_53 : decode cX11_stops 53 = .ok (.ireturn, 1) := by decide +kernel
theorem dX11_meet_0 : decode cX11_meet 0 = .ok (.aload_n 0, 1) := by decide +kernel
theorem dX11_meet_1 : decode cX11_meet 1 = .ok (.getfield 10, 3) := by decide +kernel
theorem dX11_meet_4 : decode cX11_meet 4 = .ok (.iload_n 3, 1) := by decide +kernel
theorem dX11_meet_5 : decode cX11_meet 5 = .ok (.invokevirtual 82, 3) := by decide +kernel
theorem dX11_meet_8 : decode cX11_meet 8 = .ok (.astore 5, 2) := by decide +kernel
theorem dX11_meet_10 : decode cX11_meet 10 = .ok (.aload_n 0, 1) := by decide +kernel
theorem dX11_meet_11 : decode cX11_meet 11 = .ok (.getfield 10, 3) := by decide +kernel
theorem dX11_meet_14 : decode cX11_meet 14 = .ok (.iload 4, 2) := by decide +kernel
theorem dX11_meet_16 : decode cX11_meet 16 = .ok (.invokevirtual 82, 3) := by decide +kernel
theorem dX11_meet_19 : decode cX11_meet 19 = .ok (.astore 6, 2) := by decide +kernel
theorem dX11_meet_21 : decode cX11_meet 21 = .ok (.aload_n 0, 1) := by decide +kernel
theorem dX11_meet_22 : decode cX11_meet 22 = .ok (.getfield 10, 3) := by decide +kernel
theorem dX11_meet_25 : decode cX11_meet 25 = .ok (.iload_n 1, 1) := by decide +kernel
theorem dX11_meet_26 : decode cX11_meet 26 = .ok (.invokevirtual 161, 3) := by decide +kernel
theorem dX11_meet_29 : decode cX11_meet 29 = .ok (.ifCond .eq 29, 3) := by decide +kernel
theorem dX11_meet_32 : decode cX11_meet 32 = .ok (.aload_n 0, 1) := by decide +kernel
theorem dX11_meet_33 : decode cX11_meet 33 = .ok (.getfield 10, 3) := by decide +kernel
theorem dX11_meet_36 : decode cX11_meet 36 = .ok (.iload_n 2, 1) := by decide +kernel
theorem dX11_meet_37 : decode cX11_meet 37 = .ok (.invokevirtual 161, 3) := by decide +kernel
theorem dX11_meet_40 : decode cX11_meet 40 = .ok (.ifCond .eq 18, 3) := by decide +kernel
theorem dX11_meet_43 : decode cX11_meet 43 = .ok (.iload_n 1, 1) := by decide +kernel
theorem dX11_meet_44 : decode cX11_meet 44 = .ok (.iload_n 2, 1) := by decide +kernel
theorem dX11_meet_45 : decode cX11_meet 45 = .ok (.if_icmp .eq 13, 3) := by decide +kernel
theorem dX11_meet_48 : decode cX11_meet 48 = .ok (.aload 5, 2) := by decide +kernel
theorem dX11_meet_50 : decode cX11_meet 50 = .ok (.ifnull 8, 3) := by decide +kernel
theorem dX11_meet_53 : decode cX11_meet 53 = .ok (.aload 6, 2) := by decide +kernel
theorem dX11_meet_55 : decode cX11_meet 55 = .ok (.ifnonnull 5, 3) := by decide +kernel
theorem dX11_meet_58 : decode cX11_meet 58 = .ok (.iconst (-1), 1) := by decide +kernel
theorem dX11_meet_59 : decode cX11_meet 59 = .ok (.ireturn, 1) := by decide +kernel
theorem dX11_meet_60 : decode cX11_meet 60 = .ok (.aload_n 0, 1) := by decide +kernel
theorem dX11_meet_61 : decode cX11_meet 61 = .ok (.getfield 10, 3) := by decide +kernel
theorem dX11_meet_64 : decode cX11_meet 64 = .ok (.getfield 164, 3) := by decide +kernel
theorem dX11_meet_67 : decode cX11_meet 67 = .ok (.iload_n 1, 1) := by decide +kernel
theorem dX11_meet_68 : decode cX11_meet 68 = .ok (.iaload, 1) := by decide +kernel
theorem dX11_meet_69 : decode cX11_meet 69 = .ok (.istore 7, 2) := by decide +kernel
theorem dX11_meet_71 : decode cX11_meet 71 = .ok (.aload_n 0, 1) := by decide +kernel
theorem dX11_meet_72 : decode cX11_meet 72 = .ok (.getfield 10, 3) := by decide +kernel
theorem dX11_meet_75 : decode cX11_meet 75 = .ok (.getfield 164, 3) := by decide +kernel
theorem dX11_meet_78 : decode cX11_meet 78 = .ok (.iload_n 2, 1) := by decide +kernel
theorem dX11_meet_79 : decode cX11_meet 79 = .ok (.iaload, 1) := by decide +kernel
theorem dX11_meet_80 : decode cX11_meet 80 = .ok (.istore 8, 2) := by decide +kernel
theorem dX11_meet_82 : decode cX11_meet 82 = .ok (.iload 7, 2) := by decide +kernel
theorem dX11_meet_84 : decode cX11_meet 84 = .ok (.iload 8, 2) := by decide +kernel
theorem dX11_meet_86 : decode cX11_meet 86 = .ok (.if_icmp .gt 7, 3) := by decide +kernel
theorem dX11_meet_89 : decode cX11_meet 89 = .ok (.iconst 1, 1) := by decide +kernel
theorem dX11_meet_90 : decode cX11_meet 90 = .ok (.goto 4, 3) := by decide +kernel
theorem dX11_meet_93 : decode cX11_meet 93 = .ok (.iconst 0, 1) := by decide +kernel
theorem dX11_meet_94 : decode cX11_meet 94 = .ok (.istore 9, 2) := by decide +kernel
theorem dX11_meet_96 : decode cX11_meet 96 = .ok (.iconst 0, 1) := by decide +kernel
theorem dX11_meet_97 : decode cX11_meet 97 = .ok (.istore 10, 2) := by decide +kernel
theorem dX11_meet_99 : decode cX11_meet 99 = .ok (.iload 10, 2) := by decide +kernel
theorem dX11_meet_101 : decode cX11_meet 101 = .ok (.bipush 60, 2) := by decide +kernel
theorem dX11_meet_103 : decode cX11_meet 103 = .ok (.if_icmp .gt 62, 3) := by decide +kernel
theorem dX11_meet_106 : decode cX11_meet 106 = .ok (.iload 7, 2) := by decide +kernel
theorem dX11_meet_108 : decode cX11_meet 108 = .ok (.ifCond .lt 57, 3) := by decide +kernel
theorem dX11_meet_111 : decode cX11_meet 111 = .ok (.iload 8, 2) := by decide +kernel
theorem dX11_meet_113 : decode cX11_meet 113 = .ok (.ifCond .lt 52, 3) := by decide +kernel
theorem dX11_meet_116 : decode cX11_meet 116 = .ok (.iload 9, 2) := by decide +kernel
theorem dX11_meet_118 : decode cX11_meet 118 = .ok (.ifCond .eq 13, 3) := by decide +kernel
theorem dX11_meet_121 : decode cX11_meet 121 = .ok (.iload 7, 2) := by decide +kernel
theorem dX11_meet_123 : decode cX11_meet 123 = .ok (.iload 8, 2) := by decide +kernel
theorem dX11_meet_125 : decode cX11_meet 125 = .ok (.if_icmp .lt 16, 3) := by decide +kernel
theorem dX11_meet_128 : decode cX11_meet 128 = .ok (.goto 10, 3) := by decide +kernel
theorem dX11_meet_131 : decode cX11_meet 131 = .ok (.iload 8, 2) := by decide +kernel
theorem dX11_meet_133 : decode cX11_meet 133 = .ok (.iload 7, 2) := by decide +kernel
theorem dX11_meet_135 : decode cX11_meet 135 = .ok (.if_icmp .lt 6, 3) := by decide +kernel
theorem dX11_meet_138 : decode cX11_meet 138 = .ok (.iload 10, 2) := by decide +kernel
theorem dX11_meet_140 : decode cX11_meet 140 = .ok (.ireturn, 1) := by decide +kernel
theorem dX11_meet_141 : decode cX11_meet 141 = .ok (.aload 5, 2) := by decide +kernel
theorem dX11_meet_143 : decode cX11_meet 143 = .ok (.iload 7, 2) := by decide +kernel
theorem dX11_meet_145 : decode cX11_meet 145 = .ok (.invokevirtual 173, 3) := by decide +kernel
theorem dX11_meet_148 : decode cX11_meet 148 = .ok (.istore 7, 2) := by decide +kernel
theorem dX11_meet_150 : decode cX11_meet 150 = .ok (.aload 6, 2) := by decide +kernel
theorem dX11_meet_152 : decode cX11_meet 152 = .ok (.iload 8, 2) := by decide +kernel
theorem dX11_meet_154 : decode cX11_meet 154 = .ok (.invokevirtual 173, 3) := by decide +kernel
theorem dX11_meet_157 : decode cX11_meet 157 = .ok (.istore 8, 2) := by decide +kernel
theorem dX11_meet_159 : decode cX11_meet 159 = .ok (.iinc 10 1, 3) := by decide +kernel
theorem dX11_meet_162 : decode cX11_meet 162 = .ok (.goto (-63), 3) := by decide +kernel
theorem dX11_meet_165 : decode cX11_meet 165 = .ok (.bipush (-3), 2) := by decide +kernel
theorem dX11_meet_167 : decode cX11_meet 167 = .ok (.ireturn, 1) := by decide +kernel
theorem dX11_tale_0 : decode cX11_tale 0 = .ok (.iload_n 1, 1) := by decide +kernel
theorem dX11_tale_1 : decode cX11_tale 1 = .ok (.iconst 0, 1) := by decide +kernel
theorem dX11_tale_2 : decode cX11_tale 2 = .ok (.ldc 194, 2) := by decide +kernel
theorem dX11_tale_4 : decode cX11_tale 4 = .ok (.invokestatic 183, 3) := by decide +kernel
theorem dX11_tale_7 : decode cX11_tale 7 = .ok (.ifCond .eq 13, 3) := by decide +kernel
theorem dX11_tale_10 : decode cX11_tale 10 = .ok (.iload_n 2, 1) := by decide +kernel
theorem dX11_tale_11 : decode cX11_tale 11 = .ok (.iconst 0, 1) := by decide +kernel
theorem dX11_tale_12 : decode cX11_tale 12 = .ok (.ldc 194, 2) := by decide +kernel
theorem dX11_tale_14 : decode cX11_tale 14 = .ok (.invokestatic 183, 3) := by decide +kernel
theorem dX11_tale_17 : decode cX11_tale 17 = .ok (.ifCond .ne 5, 3) := by decide +kernel
theorem dX11_tale_20 : decode cX11_tale 20 = .ok (.iconst (-1), 1) := by decide +kernel
theorem dX11_tale_21 : decode cX11_tale 21 = .ok (.ireturn, 1) := by decide +kernel
theorem dX11_tale_22 : decode cX11_tale 22 = .ok (.aload_n 0, 1) := by decide +kernel
theorem dX11_tale_23 : decode cX11_tale 23 = .ok (.getfield 10, 3) := by decide +kernel
theorem dX11_tale_26 : decode cX11_tale 26 = .ok (.iload_n 1, 1) := by decide +kernel
theorem dX11_tale_27 : decode cX11_tale 27 = .ok (.iload_n 2, 1) := by decide +kernel
theorem dX11_tale_28 : decode cX11_tale 28 = .ok (.invokevirtual 248, 3) := by decide +kernel
theorem dX11_tale_31 : decode cX11_tale 31 = .ok (.ireturn, 1) := by decide +kernel
theorem dX11_forget_0 : decode cX11_forget 0 = .ok (.aload_n 0, 1) := by decide +kernel
theorem dX11_forget_1 : decode cX11_forget 1 = .ok (.getfield 10, 3) := by decide +kernel
theorem dX11_forget_4 : decode cX11_forget 4 = .ok (.getfield 251, 3) := by decide +kernel
theorem dX11_forget_7 : decode cX11_forget 7 = .ok (.istore_n 1, 1) := by decide +kernel
theorem dX11_forget_8 : decode cX11_forget 8 = .ok (.aload_n 0, 1) := by decide +kernel
theorem dX11_forget_9 : decode cX11_forget 9 = .ok (.getfield 10, 3) := by decide +kernel
theorem dX11_forget_12 : decode cX11_forget 12 = .ok (.iconst 0, 1) := by decide +kernel
theorem dX11_forget_13 : decode cX11_forget 13 = .ok (.putfield 251, 3) := by decide +kernel
theorem dX11_forget_16 : decode cX11_forget 16 = .ok (.iload_n 1, 1) := by decide +kernel
theorem dX11_forget_17 : decode cX11_forget 17 = .ok (.ireturn, 1) := by decide +kernel
theorem dX11_fits_0 : decode cX11_fits 0 = .ok (.iload_n 1, 1) := by decide +kernel
theorem dX11_fits_1 : decode cX11_fits 1 = .ok (.invokestatic 254, 3) := by decide +kernel
theorem dX11_fits_4 : decode cX11_fits 4 = .ok (.ifCond .eq 12, 3) := by decide +kernel
theorem dX11_fits_7 : decode cX11_fits 7 = .ok (.iload_n 2, 1) := by decide +kernel
theorem dX11_fits_8 : decode cX11_fits 8 = .ok (.iconst 0, 1) := by decide +kernel
theorem dX11_fits_9 : decode cX11_fits 9 = .ok (.iconst 2, 1) := by decide +kernel
theorem dX11_fits_10 : decode cX11_fits 10 = .ok (.invokestatic 183, 3) := by decide +kernel
theorem dX11_fits_13 : decode cX11_fits 13 = .ok (.ifCond .ne 5, 3) := by decide +kernel
theorem dX11_fits_16 : decode cX11_fits 16 = .ok (.iconst (-1), 1) := by decide +kernel
theorem dX11_fits_17 : decode cX11_fits 17 = .ok (.ireturn, 1) := by decide +kernel
theorem dX11_fits_18 : decode cX11_fits 18 = .ok (.iload_n 1, 1) := by decide +kernel
theorem dX11_fits_19 : decode cX11_fits 19 = .ok (.iconst 0, 1) := by decide +kernel
theorem dX11_fits_20 : decode cX11_fits 20 = .ok (.iconst 1, 1) := by decide +kernel
theorem dX11_fits_21 : decode cX11_fits 21 = .ok (.iconst 0, 1) := by decide +kernel
theorem dX11_fits_22 : decode cX11_fits 22 = .ok (.iconst 0, 1) := by decide +kernel
theorem dX11_fits_23 : decode cX11_fits 23 = .ok (.invokestatic 120, 3) := by decide +kernel
theorem dX11_fits_26 : decode cX11_fits 26 = .ok (.astore_n 3, 1) := by decide +kernel
theorem dX11_fits_27 : decode cX11_fits 27 = .ok (.iconst 0, 1) := by decide +kernel
theorem dX11_fits_28 : decode cX11_fits 28 = .ok (.istore 4, 2) := by decide +kernel
theorem dX11_fits_30 : decode cX11_fits 30 = .ok (.iconst 1, 1) := by decide +kernel
theorem dX11_fits_31 : decode cX11_fits 31 = .ok (.istore 5, 2) := by decide +kernel
theorem dX11_fits_33 : decode cX11_fits 33 = .ok (.iload 5, 2) := by decide +kernel
theorem dX11_fits_35 : decode cX11_fits 35 = .ok (.bipush 9, 2) := by decide +kernel
theorem dX11_fits_37 : decode cX11_fits 37 = .ok (.if_icmp .gt 69, 3) := by decide +kernel
theorem dX11_fits_40 : decode cX11_fits 40 = .ok (.iconst 0, 1) := by decide +kernel
theorem dX11_fits_41 : decode cX11_fits 41 = .ok (.istore 6, 2) := by decide +kernel
theorem dX11_fits_43 : decode cX11_fits 43 = .ok (.iload 6, 2) := by decide +kernel
theorem dX11_fits_45 : decode cX11_fits 45 = .ok (.sipush 999, 3) := by decide +kernel
theorem dX11_fits_48 : decode cX11_fits 48 = .ok (.if_icmp .gt 52, 3) := by decide +kernel
theorem dX11_fits_51 : decode cX11_fits 51 = .ok (.aload_n 3, 1) := by decide +kernel
theorem dX11_fits_52 : decode cX11_fits 52 = .ok (.iload 5, 2) := by decide +kernel
theorem dX11_fits_54 : decode cX11_fits 54 = .ok (.iload 6, 2) := by decide +kernel
theorem dX11_fits_56 : decode cX11_fits 56 = .ok (.invokevirtual 257, 3) := by decide +kernel
theorem dX11_fits_59 : decode cX11_fits 59 = .ok (.aload_n 0, 1) := by decide +kernel
theorem dX11_fits_60 : decode cX11_fits 60 = .ok (.getfield 10, 3) := by decide +kernel
theorem dX11_fits_63 : decode cX11_fits 63 = .ok (.aload_n 3, 1) := by decide +kernel
theorem dX11_fits_64 : decode cX11_fits 64 = .ok (.invokevirtual 260, 3) := by decide +kernel
theorem dX11_fits_67 : decode cX11_fits 67 = .ok (.iconst (-1), 1) := by decide +kernel
theorem dX11_fits_68 : decode cX11_fits 68 = .ok (.if_icmp .eq 6, 3) := by decide +kernel
theorem dX11_fits_71 : decode cX11_fits 71 = .ok (.goto 23, 3) := by decide +kernel
theorem dX11_fits_74 : decode cX11_fits 74 = .ok (.iload_n 2, 1) := by decide +kernel
theorem dX11_fits_75 : decode cX11_fits 75 = .ok (.ifCond .eq 16, 3) := by decide +kernel
theorem dX11_fits_78 : decode cX11_fits 78 = .ok (.iload_n 2, 1) := by decide +kernel
theorem dX11_fits_79 : decode cX11_fits 79 = .ok (.iconst 1, 1) := by decide +kernel
theorem dX11_fits_80 : decode cX11_fits 80 = .ok (.if_icmp .ne 8, 3) := by decide +kernel
theorem dX11_fits_83 : decode cX11_fits 83 = .ok (.iload 5, 2) := by decide +kernel
theorem dX11_fits_85 : decode cX11_fits 85 = .ok (.goto 5, 3) := by decide +kernel
theorem dX11_fits_88 : decode cX11_fits 88 = .ok (.iload 6, 2) := by decide +kernel
theorem dX11_fits_90 : decode cX11_fits 90 = .ok (.ireturn, 1) := by decide +kernel
theorem dX11_fits_91 : decode cX11_fits 91 = .ok (.iinc 4 1, 3) := by decide +kernel
theorem dX11_fits_94 : decode cX11_fits 94 = .ok (.iinc 6 1, 3) := by decide +kernel
theorem dX11_fits_97 : decode cX11_fits 97 = .ok (.goto (-54), 3) := by decide +kernel
theorem dX11_fits_100 : decode cX11_fits 100 = .ok (.iinc 5 1, 3) := by decide +kernel
theorem dX11_fits_103 : decode cX11_fits 103 = .ok (.goto (-70), 3) := by decide +kernel
theorem dX11_fits_106 : decode cX11_fits 106 = .ok (.iload_n 2, 1) := by decide +kernel
theorem dX11_fits_107 : decode cX11_fits 107 = .ok (.ifCond .ne 8, 3) := by decide +kernel
theorem dX11_fits_110 : decode cX11_fits 110 = .ok (.iload 4, 2) := by decide +kernel
theorem dX11_fits_112 : decode cX11_fits 112 = .ok (.goto 5, 3) := by decide +kernel
theorem dX11_fits_115 : decode cX11_fits 115 = .ok (.bipush (-3), 2) := by decide +kernel
theorem dX11_fits_117 : decode cX11_fits 117 = .ok (.ireturn, 1) := by decide +kernel
theorem dX11_liar_0 : decode cX11_liar 0 = .ok (.iload_n 1, 1) := by decide +kernel
theorem dX11_liar_1 : decode cX11_liar 1 = .ok (.invokestatic 254, 3) := by decide +kernel
theorem dX11_liar_4 : decode cX11_liar 4 = .ok (.ifCond .ne 5, 3) := by decide +kernel
theorem dX11_liar_7 : decode cX11_liar 7 = .ok (.iconst (-1), 1) := by decide +kernel
theorem dX11_liar_8 : decode cX11_liar 8 = .ok (.ireturn, 1) := by decide +kernel
theorem dX11_liar_9 : decode cX11_liar 9 = .ok (.iload_n 1, 1) := by decide +kernel
theorem dX11_liar_10 : decode cX11_liar 10 = .ok (.iconst 0, 1) := by decide +kernel
theorem dX11_liar_11 : decode cX11_liar 11 = .ok (.iconst 1, 1) := by decide +kernel
theorem dX11_liar_12 : decode cX11_liar 12 = .ok (.iconst 0, 1) := by decide +kernel
theorem dX11_liar_13 : decode cX11_liar 13 = .ok (.iconst 0, 1) := by decide +kernel
theorem dX11_liar_14 : decode cX11_liar 14 = .ok (.invokestatic 120, 3) := by decide +kernel
theorem dX11_liar_17 : decode cX11_liar 17 = .ok (.astore_n 2, 1) := by decide +kernel
theorem dX11_liar_18 : decode cX11_liar 18 = .ok (.bipush 6, 2) := by decide +kernel
theorem dX11_liar_20 : decode cX11_liar 20 = .ok (.istore_n 3, 1) := by decide +kernel
theorem dX11_liar_21 : decode cX11_liar 21 = .ok (.iconst 1, 1) := by decide +kernel
theorem dX11_liar_22 : decode cX11_liar 22 = .ok (.istore 4, 2) := by decide +kernel
theorem dX11_liar_24 : decode cX11_liar 24 = .ok (.iload 4, 2) := by decide +kernel
theorem dX11_liar_26 : decode cX11_liar 26 = .ok (.bipush 9, 2) := by decide +kernel
theorem dX11_liar_28 : decode cX11_liar 28 = .ok (.if_icmp .gt 67, 3) := by decide +kernel
theorem dX11_liar_31 : decode cX11_liar 31 = .ok (.iconst 0, 1) := by decide +kernel
theorem dX11_liar_32 : decode cX11_liar 32 = .ok (.istore 5, 2) := by decide +kernel
theorem dX11_liar_34 : decode cX11_liar 34 = .ok (.iload 5, 2) := by decide +kernel
theorem dX11_liar_36 : decode cX11_liar 36 = .ok (.sipush 999, 3) := by decide +kernel
theorem dX11_liar_39 : decode cX11_liar 39 = .ok (.if_icmp .gt 50, 3) := by decide +kernel
theorem dX11_liar_42 : decode cX11_liar 42 = .ok (.aload_n 2, 1) := by decide +kernel
theorem dX11_liar_43 : decode cX11_liar 43 = .ok (.iload 4, 2) := by decide +kernel
theorem dX11_liar_45 : decode cX11_liar 45 = .ok (.iload 5, 2) := by decide +kernel
theorem dX11_liar_47 : decode cX11_liar 47 = .ok (.invokevirtual 257, 3) := by decide +kernel
theorem dX11_liar_50 : decode cX11_liar 50 = .ok (.aload_n 0, 1) := by decide +kernel
theorem dX11_liar_51 : decode cX11_liar 51 = .ok (.getfield 10, 3) := by decide +kernel
theorem dX11_liar_54 : decode cX11_liar 54 = .ok (.aload_n 2, 1) := by decide +kernel
theorem dX11_liar_55 : decode cX11_liar 55 = .ok (.invokevirtual 260, 3) := by decide +kernel
theorem dX11_liar_58 : decode cX11_liar 58 = .ok (.istore 6, 2) := by decide +kernel
theorem dX11_liar_60 : decode cX11_liar 60 = .ok (.iload 6, 2) := by decide +kernel
theorem dX11_liar_62 : decode cX11_liar 62 = .ok (.iconst (-1), 1) := by decide +kernel
theorem dX11_liar_63 : decode cX11_liar 63 = .ok (.if_icmp .ne 6, 3) := by decide +kernel
theorem dX11_liar_66 : decode cX11_liar 66 = .ok (.bipush (-3), 2) := by decide +kernel
theorem dX11_liar_68 : decode cX11_liar 68 = .ok (.ireturn, 1) := by decide +kernel
theorem dX11_liar_69 : decode cX11_liar 69 = .ok (.iload 6, 2) := by decide +kernel
theorem dX11_liar_71 : decode cX11_liar 71 = .ok (.bipush (-2), 2) := by decide +kernel
theorem dX11_liar_73 : decode cX11_liar 73 = .ok (.if_icmp .eq 10, 3) := by decide +kernel
theorem dX11_liar_76 : decode cX11_liar 76 = .ok (.iload_n 3, 1) := by decide +kernel
theorem dX11_liar_77 : decode cX11_liar 77 = .ok (.iload 6, 2) := by decide +kernel
theorem dX11_liar_79 : decode cX11_liar 79 = .ok (.invokestatic 264, 3) := by decide +kernel
theorem dX11_liar_82 : decode cX11_liar 82 = .ok (.istore_n 3, 1) := by decide +kernel
theorem dX11_liar_83 : decode cX11_liar 83 = .ok (.iinc 5 1, 3) := by decide +kernel
theorem dX11_liar_86 : decode cX11_liar 86 = .ok (.goto (-52), 3) := by decide +kernel
theorem dX11_liar_89 : decode cX11_liar 89 = .ok (.iinc 4 1, 3) := by decide +kernel
theorem dX11_liar_92 : decode cX11_liar 92 = .ok (.goto (-68), 3) := by decide +kernel
theorem dX11_liar_95 : decode cX11_liar 95 = .ok (.iload_n 3, 1) := by decide +kernel
theorem dX11_liar_96 : decode cX11_liar 96 = .ok (.bipush 6, 2) := by decide +kernel
theorem dX11_liar_98 : decode cX11_liar 98 = .ok (.if_icmp .ge 7, 3) := by decide +kernel
theorem dX11_liar_101 : decode cX11_liar 101 = .ok (.iload_n 3, 1) := by decide +kernel
theorem dX11_liar_102 : decode cX11_liar 102 = .ok (.goto 5, 3) := by decide +kernel
theorem dX11_liar_105 : decode cX11_liar 105 = .ok (.bipush (-3), 2) := by decide +kernel
theorem dX11_liar_107 : decode cX11_liar 107 = .ok (.ireturn, 1) := by decide +kernel
theorem dX11_prove_0 : decode cX11_prove 0 = .ok (.aload_n 0, 1) := by decide +kernel
theorem dX11_prove_1 : decode cX11_prove 1 = .ok (.getfield 10, 3) := by decide +kernel
theorem dX11_prove_4 : decode cX11_prove 4 = .ok (.iload_n 1, 1) := by decide +kernel
theorem dX11_prove_5 : decode cX11_prove 5 = .ok (.invokevirtual 82, 3) := by decide +kernel
theorem dX11_prove_8 : decode cX11_prove 8 = .ok (.astore 4, 2) := by decide +kernel
theorem dX11_prove_10 : decode cX11_prove 10 = .ok (.aload 4, 2) := by decide +kernel
theorem dX11_prove_12 : decode cX11_prove 12 = .ok (.ifnull 20, 3) := by decide +kernel
theorem dX11_prove_15 : decode cX11_prove 15 = .ok (.iload_n 2, 1) := by decide +kernel
theorem dX11_prove_16 : decode cX11_prove 16 = .ok (.invokestatic 154, 3) := by decide +kernel
theorem dX11_prove_19 : decode cX11_prove 19 = .ok (.ifCond .eq 13, 3) := by decide +kernel
theorem dX11_prove_22 : decode cX11_prove 22 = .ok (.iload_n 3, 1) := by decide +kernel
theorem dX11_prove_23 : decode cX11_prove 23 = .ok (.iconst 1, 1) := by decide +kernel
theorem dX11_prove_24 : decode cX11_prove 24 = .ok (.bipush 20, 2) := by decide +kernel
theorem dX11_prove_26 : decode cX11_prove 26 = .ok (.invokestatic 183, 3) := by decide +kernel
theorem dX11_prove_29 : decode cX11_prove 29 = .ok (.ifCond .ne 5, 3) := by decide +kernel
theorem dX11_prove_32 : decode cX11_prove 32 = .ok (.iconst (-1), 1) := by decide +kernel
theorem dX11_prove_33 : decode cX11_prove 33 = .ok (.ireturn, 1) := by decide +kernel
theorem dX11_prove_34 : decode cX11_prove 34 = .ok (.aload_n 0, 1) := by decide +kernel
theorem dX11_prove_35 : decode cX11_prove 35 = .ok (.iconst 0, 1) := by decide +kernel
theorem dX11_prove_36 : decode cX11_prove 36 = .ok (.putfield 34, 3) := by decide +kernel
theorem dX11_prove_39 : decode cX11_prove 39 = .ok (.iload_n 2, 1) := by decide +kernel
theorem dX11_prove_40 : decode cX11_prove 40 = .ok (.istore 5, 2) := by decide +kernel
theorem dX11_prove_42 : decode cX11_prove 42 = .ok (.iconst 0, 1) := by decide +kernel
theorem dX11_prove_43 : decode cX11_prove 43 = .ok (.istore 6, 2) := by decide +kernel
theorem dX11_prove_45 : decode cX11_prove 45 = .ok (.iload 6, 2) := by decide +kernel
theorem dX11_prove_47 : decode cX11_prove 47 = .ok (.iload_n 3, 1) := by decide +kernel
theorem dX11_prove_48 : decode cX11_prove 48 = .ok (.if_icmp .ge 67, 3) := by decide +kernel
theorem dX11_prove_51 : decode cX11_prove 51 = .ok (.aload 4, 2) := by decide +kernel
theorem dX11_prove_53 : decode cX11_prove 53 = .ok (.iload 5, 2) := by decide +kernel
theorem dX11_prove_55 : decode cX11_prove 55 = .ok (.invokevirtual 173, 3) := by decide +kernel
theorem dX11_prove_58 : decode cX11_prove 58 = .ok (.istore 7, 2) := by decide +kernel
theorem dX11_prove_60 : decode cX11_prove 60 = .ok (.iload 7, 2) := by decide +kernel
theorem dX11_prove_62 : decode cX11_prove 62 = .ok (.ifCond .ge 6, 3) := by decide +kernel
theorem dX11_prove_65 : decode cX11_prove 65 = .ok (.goto 50, 3) := by decide +kernel
theorem dX11_prove_68 : decode cX11_prove 68 = .ok (.aload_n 0, 1) := by decide +kernel
theorem dX11_prove_69 : decode cX11_prove 69 = .ok (.iload 6, 2) := by decide +kernel
theorem dX11_prove_71 : decode cX11_prove 71 = .ok (.iconst 1, 1) := by decide +kernel
theorem dX11_prove_72 : decode cX11_prove 72 = .ok (.iadd, 1) := by decide +kernel
theorem dX11_prove_73 : decode cX11_prove 73 = .ok (.putfield 34, 3) := by decide +kernel
theorem dX11_prove_76 : decode cX11_prove 76 = .ok (.aload_n 0, 1) := by decide +kernel
theorem dX11_prove_77 : decode cX11_prove 77 = .ok (.iload 6, 2) := by decide +kernel
theorem dX11_prove_79 : decode cX11_prove 79 = .ok (.iconst 0, 1) := by decide +kernel
theorem dX11_prove_80 : decode cX11_prove 80 = .ok (.iload 6, 2) := by decide +kernel
theorem dX11_prove_82 : decode cX11_prove 82 = .ok (.iconst 1, 1) := by decide +kernel
theorem dX11_prove_83 : decode cX11_prove 83 = .ok (.iadd, 1) := by decide +kernel
theorem dX11_prove_84 : decode cX11_prove 84 = .ok (.invokevirtual 269, 3) := by decide +kernel
theorem dX11_prove_87 : decode cX11_prove 87 = .ok (.aload_n 0, 1) := by decide +kernel
theorem dX11_prove_88 : decode cX11_prove 88 = .ok (.iload 6, 2) := by decide +kernel
theorem dX11_prove_90 : decode cX11_prove 90 = .ok (.iconst 1, 1) := by decide +kernel
theorem dX11_prove_91 : decode cX11_prove 91 = .ok (.iload 5, 2) := by decide +kernel
theorem dX11_prove_93 : decode cX11_prove 93 = .ok (.invokevirtual 269, 3) := by decide +kernel
theorem dX11_prove_96 : decode cX11_prove 96 = .ok (.aload_n 0, 1) := by decide +kernel
theorem dX11_prove_97 : decode cX11_prove 97 = .ok (.iload 6, 2) := by decide +kernel
theorem dX11_prove_99 : decode cX11_prove 99 = .ok (.iconst 2, 1) := by decide +kernel
theorem dX11_prove_100 : decode cX11_prove 100 = .ok (.iload 7, 2) := by decide +kernel
theorem dX11_prove_102 : decode cX11_prove 102 = .ok (.invokevirtual 269, 3) := by decide +kernel
theorem dX11_prove_105 : decode cX11_prove 105 = .ok (.iload 7, 2) := by decide +kernel
theorem dX11_prove_107 : decode cX11_prove 107 = .ok (.istore 5, 2) := by decide +kernel
theorem dX11_prove_109 : decode cX11_prove 109 = .ok (.iinc 6 1, 3) := by decide +kernel
theorem dX11_prove_112 : decode cX11_prove 112 = .ok (.goto (-67), 3) := by decide +kernel
theorem dX11_prove_115 : decode cX11_prove 115 = .ok (.aload_n 0, 1) := by decide +kernel
theorem dX11_prove_116 : decode cX11_prove 116 = .ok (.getfield 34, 3) := by decide +kernel
theorem dX11_prove_119 : decode cX11_prove 119 = .ok (.ireturn, 1) := by decide +kernel
theorem dX11_row_0 : decode cX11_row 0 = .ok (.aload_n 0, 1) := by decide +kernel
theorem dX11_row_1 : decode cX11_row 1 = .ok (.iload_n 1, 1) := by decide +kernel
theorem dX11_row_2 : decode cX11_row 2 = .ok (.iload_n 2, 1) := by decide +kernel
theorem dX11_row_3 : decode cX11_row 3 = .ok (.invokevirtual 272, 3) := by decide +kernel
theorem dX11_row_6 : decode cX11_row 6 = .ok (.ifCond .eq 12, 3) := by decide +kernel
theorem dX11_row_9 : decode cX11_row 9 = .ok (.aload_n 0, 1) := by decide +kernel
theorem dX11_row_10 : decode cX11_row 10 = .ok (.iload_n 1, 1) := by decide +kernel
theorem dX11_row_11 : decode cX11_row 11 = .ok (.iload_n 2, 1) := by decide +kernel
theorem dX11_row_12 : decode cX11_row 12 = .ok (.invokevirtual 276, 3) := by decide +kernel
theorem dX11_row_15 : decode cX11_row 15 = .ok (.goto 5, 3) := by decide +kernel
theorem dX11_row_18 : decode cX11_row 18 = .ok (.bipush (-9), 2) := by decide +kernel
theorem dX11_row_20 : decode cX11_row 20 = .ok (.ireturn, 1) := by decide +kernel
theorem dX11_alterRow_0 : decode cX11_alterRow 0 = .ok (.aload_n 0, 1) := by decide +kernel
theorem dX11_alterRow_1 : decode cX11_alterRow 1 = .ok (.iload_n 1, 1) := by decide +kernel
theorem dX11_alterRow_2 : decode cX11_alterRow 2 = .ok (.iload_n 2, 1) := by decide +kernel
theorem dX11_alterRow_3 : decode cX11_alterRow 3 = .ok (.invokevirtual 272, 3) := by decide +kernel
theorem dX11_alterRow_6 : decode cX11_alterRow 6 = .ok (.ifCond .ne 6, 3) := by decide +kernel
theorem dX11_alterRow_9 : decode cX11_alterRow 9 = .ok (.bipush (-9), 2) := by decide +kernel
theorem dX11_alterRow_11 : decode cX11_alterRow 11 = .ok (.ireturn, 1) := by decide +kernel
theorem dX11_alterRow_12 : decode cX11_alterRow 12 = .ok (.aload_n 0, 1) := by decide +kernel
theorem dX11_alterRow_13 : decode cX11_alterRow 13 = .ok (.iload_n 1, 1) := by decide +kernel
theorem dX11_alterRow_14 : decode cX11_alterRow 14 = .ok (.iload_n 2, 1) := by decide +kernel
theorem dX11_alterRow_15 : decode cX11_alterRow 15 = .ok (.invokevirtual 276, 3) := by decide +kernel
theorem dX11_alterRow_18 : decode cX11_alterRow 18 = .ok (.istore 4, 2) := by decide +kernel
theorem dX11_alterRow_20 : decode cX11_alterRow 20 = .ok (.aload_n 0, 1) := by decide +kernel
theorem dX11_alterRow_21 : decode cX11_alterRow 21 = .ok (.iload_n 1, 1) := by decide +kernel
theorem dX11_alterRow_22 : decode cX11_alterRow 22 = .ok (.iload_n 2, 1) := by decide +kernel
theorem dX11_alterRow_23 : decode cX11_alterRow 23 = .ok (.iload_n 3, 1) := by decide +kernel
theorem dX11_alterRow_24 : decode cX11_alterRow 24 = .ok (.invokevirtual 269, 3) := by decide +kernel
theorem dX11_alterRow_27 : decode cX11_alterRow 27 = .ok (.iload 4, 2) := by decide +kernel
theorem dX11_alterRow_29 : decode cX11_alterRow 29 = .ok (.ireturn, 1) := by decide +kernel
theorem dX11_judge_0 : decode cX11_judge 0 = .ok (.aload_n 0, 1) := by decide +kernel
theorem dX11_judge_1 : decode cX11_judge 1 = .ok (.getfield 10, 3) := by decide +kernel
theorem dX11_judge_4 : decode cX11_judge 4 = .ok (.iload_n 1, 1) := by decide +kernel
theorem dX11_judge_5 : decode cX11_judge 5 = .ok (.invokevirtual 82, 3) := by decide +kernel
theorem dX11_judge_8 : decode cX11_judge 8 = .ok (.astore_n 2, 1) := by decide +kernel
theorem dX11_judge_9 : decode cX11_judge 9 = .ok (.aload_n 2, 1) := by decide +kernel
theorem dX11_judge_10 : decode cX11_judge 10 = .ok (.ifnonnull 5, 3) := by decide +kernel
theorem dX11_judge_13 : decode cX11_judge 13 = .ok (.iconst (-1), 1) := by decide +kernel
theorem dX11_judge_14 : decode cX11_judge 14 = .ok (.ireturn, 1) := by decide +kernel
theorem dX11_judge_15 : decode cX11_judge 15 = .ok (.iconst 0, 1) := by decide +kernel
theorem dX11_judge_16 : decode cX11_judge 16 = .ok (.istore_n 3, 1) := by decide +kernel
theorem dX11_judge_17 : decode cX11_judge 17 = .ok (.iload_n 3, 1) := by decide +kernel
theorem dX11_judge_18 : decode cX11_judge 18 = .ok (.aload_n 0, 1) := by decide +kernel
theorem dX11_judge_19 : decode cX11_judge 19 = .ok (.getfield 34, 3) := by decide +kernel
theorem dX11_judge_22 : decode cX11_judge 22 = .ok (.if_icmp .ge 22, 3) := by decide +kernel
theorem dX11_judge_25 : decode cX11_judge 25 = .ok (.aload_n 0, 1) := by decide +kernel
theorem dX11_judge_26 : decode cX11_judge 26 = .ok (.iload_n 3, 1) := by decide +kernel
theorem dX11_judge_27 : decode cX11_judge 27 = .ok (.aload_n 2, 1) := by decide +kernel
theorem dX11_judge_28 : decode cX11_judge 28 = .ok (.invokevirtual 279, 3) := by decide +kernel
theorem dX11_judge_31 : decode cX11_judge 31 = .ok (.ifCond .ne 7, 3) := by decide +kernel
theorem dX11_judge_34 : decode cX11_judge 34 = .ok (.iload_n 3, 1) := by decide +kernel
theorem dX11_judge_35 : decode cX11_judge 35 = .ok (.iconst 1, 1) := by decide +kernel
theorem dX11_judge_36 : decode cX11_judge 36 = .ok (.iadd, 1) := by decide +kernel
theorem dX11_judge_37 : decode cX11_judge 37 = .ok (.ireturn, 1) := by decide +kernel
theorem dX11_judge_38 : decode cX11_judge 38 = .ok (.iinc 3 1, 3) := by decide +kernel
theorem dX11_judge_41 : decode cX11_judge 41 = .ok (.goto (-24), 3) := by decide +kernel
theorem dX11_judge_44 : decode cX11_judge 44 = .ok (.iconst 0, 1) := by decide +kernel
theorem dX11_judge_45 : decode cX11_judge 45 = .ok (.ireturn, 1) := by decide +kernel
theorem dX11_sheet_0 : decode cX11_sheet 0 = .ok (.iload_n 1, 1) := by decide +kernel
theorem dX11_sheet_1 : decode cX11_sheet 1 = .ok (.iconst 0, 1) := by decide +kernel
theorem dX11_sheet_2 : decode cX11_sheet 2 = .ok (.iconst 3, 1) := by decide +kernel
theorem dX11_sheet_3 : decode cX11_sheet 3 = .ok (.invokestatic 183, 3) := by decide +kernel
theorem dX11_sheet_6 : decode cX11_sheet 6 = .ok (.ifCond .eq 12, 3) := by decide +kernel
theorem dX11_sheet_9 : decode cX11_sheet 9 = .ok (.iload_n 2, 1) := by decide +kernel
theorem dX11_sheet_10 : decode cX11_sheet 10 = .ok (.iconst (-1), 1) := by decide +kernel
theorem dX11_sheet_11 : decode cX11_sheet 11 = .ok (.iconst 4, 1) := by decide +kernel
theorem dX11_sheet_12 : decode cX11_sheet 12 = .ok (.invokestatic 183, 3) := by decide +kernel
theorem dX11_sheet_15 : decode cX11_sheet 15 = .ok (.ifCond .ne 5, 3) := by decide +kernel
theorem dX11_sheet_18 : decode cX11_sheet 18 = .ok (.iconst (-1), 1) := by decide +kernel
theorem dX11_sheet_19 : decode cX11_sheet 19 = .ok (.ireturn, 1) := by decide +kernel
theorem dX11_sheet_20 : decode cX11_sheet 20 = .ok (.iload_n 2, 1) := by decide +kernel
theorem dX11_sheet_21 : decode cX11_sheet 21 = .ok (.iconst (-1), 1) := by decide +kernel
theorem dX11_sheet_22 : decode cX11_sheet 22 = .ok (.if_icmp .ne 12, 3) := by decide +kernel
theorem dX11_sheet_25 : decode cX11_sheet 25 = .ok (.aload_n 0, 1) := by decide +kernel
theorem dX11_sheet_26 : decode cX11_sheet 26 = .ok (.getfield 39, 3) := by decide +kernel
theorem dX11_sheet_29 : decode cX11_sheet 29 = .ok (.iload_n 1, 1) := by decide +kernel
theorem dX11_sheet_30 : decode cX11_sheet 30 = .ok (.aconst_null, 1) := by decide +kernel
theorem dX11_sheet_31 : decode cX11_sheet 31 = .ok (.aastore, 1) := by decide +kernel
theorem dX11_sheet_32 : decode cX11_sheet 32 = .ok (.iconst 1, 1) := by decide +kernel
theorem dX11_sheet_33 : decode cX11_sheet 33 = .ok (.ireturn, 1) := by decide +kernel
theorem dX11_sheet_34 : decode cX11_sheet 34 = .ok (.iload_n 3, 1) := by decide +kernel
theorem dX11_sheet_35 : decode cX11_sheet 35 = .ok (.bipush 40, 2) := by decide +kernel
theorem dX11_sheet_37 : decode cX11_sheet 37 = .ok (.if_icmp .le 5, 3) := by decide +kernel
theorem dX11_sheet_40 : decode cX11_sheet 40 = .ok (.iconst (-1), 1) := by decide +kernel
theorem dX11_sheet_41 : decode cX11_sheet 41 = .ok (.ireturn, 1) := by decide +kernel
theorem dX11_sheet_42 : decode cX11_sheet 42 = .ok (.iload_n 3, 1) := by decide +kernel
theorem dX11_sheet_43 : decode cX11_sheet 43 = .ok (.ifCond .ge 6, 3) := by decide +kernel
theorem dX11_sheet_46 : decode cX11_sheet 46 = .ok (.bipush (-14), 2) := by decide +kernel
theorem dX11_sheet_48 : decode cX11_sheet 48 = .ok (.ireturn, 1) := by decide +kernel
theorem dX11_sheet_49 : decode cX11_sheet 49 = .ok (.aload_n 0, 1) := by decide +kernel
theorem dX11_sheet_50 : decode cX11_sheet 50 = .ok (.getfield 39, 3) := by decide +kernel
theorem dX11_sheet_53 : decode cX11_sheet 53 = .ok (.iload_n 1, 1) := by decide +kernel
theorem dX11_sheet_54 : decode cX11_sheet 54 = .ok (.new 37, 3) := by decide +kernel
theorem dX11_sheet_57 : decode cX11_sheet 57 = .ok (.dup, 1) := by decide +kernel
theorem dX11_sheet_58 : decode cX11_sheet 58 = .ok (.iload_n 2, 1) := by decide +kernel
theorem dX11_sheet_59 : decode cX11_sheet 59 = .ok (.iload_n 3, 1) := by decide +kernel
theorem dX11_sheet_60 : decode cX11_sheet 60 = .ok (.invokespecial 283, 3) := by decide +kernel
theorem dX11_sheet_63 : decode cX11_sheet 63 = .ok (.aastore, 1) := by decide +kernel
theorem dX11_sheet_64 : decode cX11_sheet 64 = .ok (.iconst 1, 1) := by decide +kernel
theorem dX11_sheet_65 : decode cX11_sheet 65 = .ok (.ireturn, 1) := by decide +kernel
theorem dX11_write_0 : decode cX11_write 0 = .ok (.iload_n 1, 1) := by decide +kernel
theorem dX11_write_1 : decode cX11_write 1 = .ok (.iconst 0, 1) := by decide +kernel
theorem dX11_write_2 : decode cX11_write 2 = .ok (.iconst 3, 1) := by decide +kernel
theorem dX11_write_3 : decode cX11_write 3 = .ok (.invokestatic 183, 3) := by decide +kernel
theorem dX11_write_6 : decode cX11_write 6 = .ok (.ifCond .ne 5, 3) := by decide +kernel
theorem dX11_write_9 : decode cX11_write 9 = .ok (.iconst (-1), 1) := by decide +kernel
theorem dX11_write_10 : decode cX11_write 10 = .ok (.ireturn, 1) := by decide +kernel
theorem dX11_write_11 : decode cX11_write 11 = .ok (.aload_n 0, 1) := by decide +kernel
theorem dX11_write_12 : decode cX11_write 12 = .ok (.getfield 39, 3) := by decide +kernel
theorem dX11_write_15 : decode cX11_write 15 = .ok (.iload_n 1, 1) := by decide +kernel
theorem dX11_write_16 : decode cX11_write 16 = .ok (.aaload, 1) := by decide +kernel
theorem dX11_write_17 : decode cX11_write 17 = .ok (.astore 4, 2) := by decide +kernel
theorem dX11_write_19 : decode cX11_write 19 = .ok (.aload 4, 2) := by decide +kernel
theorem dX11_write_21 : decode cX11_write 21 = .ok (.ifnonnull 6, 3) := by decide +kernel
theorem dX11_write_24 : decode cX11_write 24 = .ok (.bipush (-11), 2) := by decide +kernel
theorem dX11_write_26 : decode cX11_write 26 = .ok (.ireturn, 1) := by decide +kernel
theorem dX11_write_27 : decode cX11_write 27 = .ok (.aload 4, 2) := by decide +kernel
theorem dX11_write_29 : decode cX11_write 29 = .ok (.iload_n 2, 1) := by decide +kernel
theorem dX11_write_30 : decode cX11_write 30 = .ok (.invokevirtual 285, 3) := by decide +kernel
theorem dX11_write_33 : decode cX11_write 33 = .ok (.ifCond .ne 6, 3) := by decide +kernel
theorem dX11_write_36 : decode cX11_write 36 = .ok (.bipush (-12), 2) := by decide +kernel
theorem dX11_write_38 : decode cX11_write 38 = .ok (.ireturn, 1) := by decide +kernel
theorem dX11_write_39 : decode cX11_write 39 = .ok (.aload 4, 2) := by decide +kernel
theorem dX11_write_41 : decode cX11_write 41 = .ok (.iload_n 2, 1) := by decide +kernel
theorem dX11_write_42 : decode cX11_write 42 = .ok (.iload_n 3, 1) := by decide +kernel
theorem dX11_write_43 : decode cX11_write 43 = .ok (.invokevirtual 288, 3) := by decide +kernel
theorem dX11_write_46 : decode cX11_write 46 = .ok (.iconst 1, 1) := by decide +kernel
theorem dX11_write_47 : decode cX11_write 47 = .ok (.ireturn, 1) := by decide +kernel
theorem dX11_item_0 : decode cX11_item 0 = .ok (.iload_n 1, 1) := by decide +kernel
theorem dX11_item_1 : decode cX11_item 1 = .ok (.iconst 0, 1) := by decide +kernel
theorem dX11_item_2 : decode cX11_item 2 = .ok (.iconst 3, 1) := by decide +kernel
theorem dX11_item_3 : decode cX11_item 3 = .ok (.invokestatic 183, 3) := by decide +kernel
theorem dX11_item_6 : decode cX11_item 6 = .ok (.ifCond .eq 12, 3) := by decide +kernel
theorem dX11_item_9 : decode cX11_item 9 = .ok (.iload_n 2, 1) := by decide +kernel
theorem dX11_item_10 : decode cX11_item 10 = .ok (.iconst 0, 1) := by decide +kernel
theorem dX11_item_11 : decode cX11_item 11 = .ok (.iconst 4, 1) := by decide +kernel
theorem dX11_item_12 : decode cX11_item 12 = .ok (.invokestatic 183, 3) := by decide +kernel
theorem dX11_item_15 : decode cX11_item 15 = .ok (.ifCond .ne 5, 3) := by decide +kernel
theorem dX11_item_18 : decode cX11_item 18 = .ok (.iconst (-1), 1) := by decide +kernel
theorem dX11_item_19 : decode cX11_item 19 = .ok (.ireturn, 1) := by decide +kernel
theorem dX11_item_20 : decode cX11_item 20 = .ok (.aload_n 0, 1) := by decide +kernel
theorem dX11_item_21 : decode cX11_item 21 = .ok (.getfield 39, 3) := by decide +kernel
theorem dX11_item_24 : decode cX11_item 24 = .ok (.iload_n 1, 1) := by decide +kernel
theorem dX11_item_25 : decode cX11_item 25 = .ok (.aaload, 1) := by decide +kernel
theorem dX11_item_26 : decode cX11_item 26 = .ok (.astore 4, 2) := by decide +kernel
theorem dX11_item_28 : decode cX11_item 28 = .ok (.aload 4, 2) := by decide +kernel
theorem dX11_item_30 : decode cX11_item 30 = .ok (.ifnonnull 6, 3) := by decide +kernel
theorem dX11_item_33 : decode cX11_item 33 = .ok (.bipush (-11), 2) := by decide +kernel
theorem dX11_item_35 : decode cX11_item 35 = .ok (.ireturn, 1) := by decide +kernel
theorem dX11_item_36 : decode cX11_item 36 = .ok (.aload 4, 2) := by decide +kernel
theorem dX11_item_38 : decode cX11_item 38 = .ok (.getfield 291, 3) := by decide +kernel
theorem dX11_item_41 : decode cX11_item 41 = .ok (.iload_n 2, 1) := by decide +kernel
theorem dX11_item_42 : decode cX11_item 42 = .ok (.if_icmp .eq 6, 3) := by decide +kernel
theorem dX11_item_45 : decode cX11_item 45 = .ok (.bipush (-13), 2) := by decide +kernel
theorem dX11_item_47 : decode cX11_item 47 = .ok (.ireturn, 1) := by decide +kernel
theorem dX11_item_48 : decode cX11_item 48 = .ok (.aload 4, 2) := by decide +kernel
theorem dX11_item_50 : decode cX11_item 50 = .ok (.iload_n 3, 1) := by decide +kernel
theorem dX11_item_51 : decode cX11_item 51 = .ok (.invokevirtual 285, 3) := by decide +kernel
theorem dX11_item_54 : decode cX11_item 54 = .ok (.ifCond .eq 12, 3) := by decide +kernel
theorem dX11_item_57 : decode cX11_item 57 = .ok (.aload 4, 2) := by decide +kernel
theorem dX11_item_59 : decode cX11_item 59 = .ok (.iload_n 3, 1) := by decide +kernel
theorem dX11_item_60 : decode cX11_item 60 = .ok (.invokevirtual 292, 3) := by decide +kernel
theorem dX11_item_63 : decode cX11_item 63 = .ok (.goto 5, 3) := by decide +kernel
theorem dX11_item_66 : decode cX11_item 66 = .ok (.bipush (-12), 2) := by decide +kernel
theorem dX11_item_68 : decode cX11_item 68 = .ok (.ireturn, 1) := by decide +kernel
theorem dX11_walks_0 : decode cX11_walks 0 = .ok (.aload_n 0, 1) := by decide +kernel
theorem dX11_walks_1 : decode cX11_walks 1 = .ok (.getfield 10, 3) := by decide +kernel
theorem dX11_walks_4 : decode cX11_walks 4 = .ok (.iload_n 1, 1) := by decide +kernel
theorem dX11_walks_5 : decode cX11_walks 5 = .ok (.invokevirtual 161, 3) := by decide +kernel
theorem dX11_walks_8 : decode cX11_walks 8 = .ok (.ifCond .eq 23, 3) := by decide +kernel
theorem dX11_walks_11 : decode cX11_walks 11 = .ok (.iload_n 2, 1) := by decide +kernel
theorem dX11_walks_12 : decode cX11_walks 12 = .ok (.iconst 0, 1) := by decide +kernel
theorem dX11_walks_13 : decode cX11_walks 13 = .ok (.iconst 3, 1) := by decide +kernel
theorem dX11_walks_14 : decode cX11_walks 14 = .ok (.invokestatic 183, 3) := by decide +kernel
theorem dX11_walks_17 : decode cX11_walks 17 = .ok (.ifCond .eq 14, 3) := by decide +kernel
theorem dX11_walks_20 : decode cX11_walks 20 = .ok (.iload 4, 2) := by decide +kernel
theorem dX11_walks_22 : decode cX11_walks 22 = .ok (.iconst 0, 1) := by decide +kernel
theorem dX11_walks_23 : decode cX11_walks 23 = .ok (.bipush 20, 2) := by decide +kernel
theorem dX11_walks_25 : decode cX11_walks 25 = .ok (.invokestatic 183, 3) := by decide +kernel
theorem dX11_walks_28 : decode cX11_walks 28 = .ok (.ifCond .ne 5, 3) := by decide +kernel
theorem dX11_walks_31 : decode cX11_walks 31 = .ok (.iconst (-1), 1) := by decide +kernel
theorem dX11_walks_32 : decode cX11_walks 32 = .ok (.ireturn, 1) := by decide +kernel
theorem dX11_walks_33 : decode cX11_walks 33 = .ok (.aload_n 0, 1) := by decide +kernel
theorem dX11_walks_34 : decode cX11_walks 34 = .ok (.getfield 39, 3) := by decide +kernel
theorem dX11_walks_37 : decode cX11_walks 37 = .ok (.iload_n 2, 1) := by decide +kernel
theorem dX11_walks_38 : decode cX11_walks 38 = .ok (.aaload, 1) := by decide +kernel
theorem dX11_walks_39 : decode cX11_walks 39 = .ok (.astore 5, 2) := by decide +kernel
theorem dX11_walks_41 : decode cX11_walks 41 = .ok (.aload 5, 2) := by decide +kernel
theorem dX11_walks_43 : decode cX11_walks 43 = .ok (.ifnonnull 6, 3) := by decide +kernel
theorem dX11_walks_46 : decode cX11_walks 46 = .ok (.bipush (-11), 2) := by decide +kernel
theorem dX11_walks_48 : decode cX11_walks 48 = .ok (.ireturn, 1) := by decide +kernel
theorem dX11_walks_49 : decode cX11_walks 49 = .ok (.aload 5, 2) := by decide +kernel
theorem dX11_walks_51 : decode cX11_walks 51 = .ok (.getfield 291, 3) := by decide +kernel
theorem dX11_walks_54 : decode cX11_walks 54 = .ok (.ifCond .eq 6, 3) := by decide +kernel
theorem dX11_walks_57 : decode cX11_walks 57 = .ok (.bipush (-13), 2) := by decide +kernel
theorem dX11_walks_59 : decode cX11_walks 59 = .ok (.ireturn, 1) := by decide +kernel
theorem dX11_walks_60 : decode cX11_walks 60 = .ok (.iconst 0, 1) := by decide +kernel
theorem dX11_walks_61 : decode cX11_walks 61 = .ok (.istore 6, 2) := by decide +kernel
theorem dX11_walks_63 : decode cX11_walks 63 = .ok (.iconst 0, 1) := by decide +kernel
theorem dX11_walks_64 : decode cX11_walks 64 = .ok (.istore 7, 2) := by decide +kernel
theorem dX11_walks_66 : decode cX11_walks 66 = .ok (.iload 7, 2) := by decide +kernel
theorem dX11_walks_68 : decode cX11_walks 68 = .ok (.iload 4, 2) := by decide +kernel
theorem dX11_walks_70 : decode cX11_walks 70 = .ok (.if_icmp .ge 44, 3) := by decide +kernel
theorem dX11_walks_73 : decode cX11_walks 73 = .ok (.aload 5, 2) := by decide +kernel
theorem dX11_walks_75 : decode cX11_walks 75 = .ok (.iload_n 3, 1) := by decide +kernel
theorem dX11_walks_76 : decode cX11_walks 76 = .ok (.iload 7, 2) := by decide +kernel
theorem dX11_walks_78 : decode cX11_walks 78 = .ok (.iadd, 1) := by decide +kernel
theorem dX11_walks_79 : decode cX11_walks 79 = .ok (.invokevirtual 285, 3) := by decide +kernel
theorem dX11_walks_82 : decode cX11_walks 82 = .ok (.ifCond .ne 6, 3) := by decide +kernel
theorem dX11_walks_85 : decode cX11_walks 85 = .ok (.bipush (-12), 2) := by decide +kernel
theorem dX11_walks_87 : decode cX11_walks 87 = .ok (.ireturn, 1) := by decide +kernel
theorem dX11_walks_88 : decode cX11_walks 88 = .ok (.aload_n 0, 1) := by decide +kernel
theorem dX11_walks_89 : decode cX11_walks 89 = .ok (.iload_n 1, 1) := by decide +kernel
theorem dX11_walks_90 : decode cX11_walks 90 = .ok (.aload 5, 2) := by decide +kernel
theorem dX11_walks_92 : decode cX11_walks 92 = .ok (.iload_n 3, 1) := by decide +kernel
theorem dX11_walks_93 : decode cX11_walks 93 = .ok (.iload 7, 2) := by decide +kernel
theorem dX11_walks_95 : decode cX11_walks 95 = .ok (.iadd, 1) := by decide +kernel
theorem dX11_walks_96 : decode cX11_walks 96 = .ok (.invokevirtual 292, 3) := by decide +kernel
theorem dX11_walks_99 : decode cX11_walks 99 = .ok (.invokevirtual 295, 3) := by decide +kernel
theorem dX11_walks_102 : decode cX11_walks 102 = .ok (.ifCond .lt 6, 3) := by decide +kernel
theorem dX11_walks_105 : decode cX11_walks 105 = .ok (.iinc 6 1, 3) := by decide +kernel
theorem dX11_walks_108 : decode cX11_walks 108 = .ok (.iinc 7 1, 3) := by decide +kernel
theorem dX11_walks_111 : decode cX11_walks 111 = .ok (.goto (-45), 3) := by decide +kernel
theorem dX11_walks_114 : decode cX11_walks 114 = .ok (.iload 6, 2) := by decide +kernel
theorem dX11_walks_116 : decode cX11_walks 116 = .ok (.ireturn, 1) := by decide +kernel
theorem dX11_shelf_0 : decode cX11_shelf 0 = .ok (.iload_n 1, 1) := by decide +kernel
theorem dX11_shelf_1 : decode cX11_shelf 1 = .ok (.iconst 0, 1) := by decide +kernel
theorem dX11_shelf_2 : decode cX11_shelf 2 = .ok (.iconst 3, 1) := by decide +kernel
theorem dX11_shelf_3 : decode cX11_shelf 3 = .ok (.invokestatic 183, 3) := by decide +kernel
theorem dX11_shelf_6 : decode cX11_shelf 6 = .ok (.ifCond .eq 12, 3) := by decide +kernel
theorem dX11_shelf_9 : decode cX11_shelf 9 = .ok (.iload_n 2, 1) := by decide +kernel
theorem dX11_shelf_10 : decode cX11_shelf 10 = .ok (.iconst 0, 1) := by decide +kernel
theorem dX11_shelf_11 : decode cX11_shelf 11 = .ok (.iconst 2, 1) := by decide +kernel
theorem dX11_shelf_12 : decode cX11_shelf 12 = .ok (.invokestatic 183, 3) := by decide +kernel
theorem dX11_shelf_15 : decode cX11_shelf 15 = .ok (.ifCond .ne 5, 3) := by decide +kernel
theorem dX11_shelf_18 : decode cX11_shelf 18 = .ok (.iconst (-1), 1) := by decide +kernel
theorem dX11_shelf_19 : decode cX11_shelf 19 = .ok (.ireturn, 1) := by decide +kernel
theorem dX11_shelf_20 : decode cX11_shelf 20 = .ok (.iload_n 2, 1) := by decide +kernel
theorem dX11_shelf_21 : decode cX11_shelf 21 = .ok (.ifCond .ne 16, 3) := by decide +kernel
theorem dX11_shelf_24 : decode cX11_shelf 24 = .ok (.aload_n 0, 1) := by decide +kernel
theorem dX11_shelf_25 : decode cX11_shelf 25 = .ok (.getfield 10, 3) := by decide +kernel
theorem dX11_shelf_28 : decode cX11_shelf 28 = .ok (.iload_n 3, 1) := by decide +kernel
theorem dX11_shelf_29 : decode cX11_shelf 29 = .ok (.invokevirtual 82, 3) := by decide +kernel
theorem dX11_shelf_32 : decode cX11_shelf 32 = .ok (.ifnonnull 5, 3) := by decide +kernel
theorem dX11_shelf_35 : decode cX11_shelf 35 = .ok (.iconst (-1), 1) := by decide +kernel
theorem dX11_shelf_36 : decode cX11_shelf 36 = .ok (.ireturn, 1) := by decide +kernel
theorem dX11_shelf_37 : decode cX11_shelf 37 = .ok (.iload_n 2, 1) := by decide +kernel
theorem dX11_shelf_38 : decode cX11_shelf 38 = .ok (.iconst 1, 1) := by decide +kernel
theorem dX11_shelf_39 : decode cX11_shelf 39 = .ok (.if_icmp .ne 14, 3) := by decide +kernel
theorem dX11_shelf_42 : decode cX11_shelf 42 = .ok (.iload_n 3, 1) := by decide +kernel
theorem dX11_shelf_43 : decode cX11_shelf 43 = .ok (.iconst 0, 1) := by decide +kernel
theorem dX11_shelf_44 : decode cX11_shelf 44 = .ok (.iconst 3, 1) := by decide +kernel
theorem dX11_shelf_45 : decode cX11_shelf 45 = .ok (.invokestatic 183, 3) := by decide +kernel
theorem dX11_shelf_48 : decode cX11_shelf 48 = .ok (.ifCond .ne 5, 3) := by decide +kernel
theorem dX11_shelf_51 : decode cX11_shelf 51 = .ok (.iconst (-1), 1) := by decide +kernel
theorem dX11_shelf_52 : decode cX11_shelf 52 = .ok (.ireturn, 1) := by decide +kernel
theorem dX11_shelf_53 : decode cX11_shelf 53 = .ok (.aload_n 0, 1) := by decide +kernel
theorem dX11_shelf_54 : decode cX11_shelf 54 = .ok (.getfield 43, 3) := by decide +kernel
theorem dX11_shelf_57 : decode cX11_shelf 57 = .ok (.iload_n 1, 1) := by decide +kernel
theorem dX11_shelf_58 : decode cX11_shelf 58 = .ok (.iload_n 2, 1) := by decide +kernel
theorem dX11_shelf_59 : decode cX11_shelf 59 = .ok (.ifCond .ne 7, 3) := by decide +kernel
theorem dX11_shelf_62 : decode cX11_shelf 62 = .ok (.iload_n 3, 1) := by decide +kernel
theorem dX11_shelf_63 : decode cX11_shelf 63 = .ok (.goto 4, 3) := by decide +kernel
theorem dX11_shelf_66 : decode cX11_shelf 66 = .ok (.iconst (-1), 1) := by decide +kernel
theorem dX11_shelf_67 : decode cX11_shelf 67 = .ok (.iastore, 1) := by decide +kernel
theorem dX11_shelf_68 : decode cX11_shelf 68 = .ok (.aload_n 0, 1) := by decide +kernel
theorem dX11_shelf_69 : decode cX11_shelf 69 = .ok (.getfield 46, 3) := by decide +kernel
theorem dX11_shelf_72 : decode cX11_shelf 72 = .ok (.iload_n 1, 1) := by decide +kernel
theorem dX11_shelf_73 : decode cX11_shelf 73 = .ok (.iload_n 2, 1) := by decide +kernel
theorem dX11_shelf_74 : decode cX11_shelf 74 = .ok (.iconst 1, 1) := by decide +kernel
theorem dX11_shelf_75 : decode cX11_shelf 75 = .ok (.if_icmp .ne 12, 3) := by decide +kernel
theorem dX11_shelf_78 : decode cX11_shelf 78 = .ok (.aload_n 0, 1) := by decide +kernel
theorem dX11_shelf_79 : decode cX11_shelf 79 = .ok (.getfield 39, 3) := by decide +kernel
theorem dX11_shelf_82 : decode cX11_shelf 82 = .ok (.iload_n 3, 1) := by decide +kernel
theorem dX11_shelf_83 : decode cX11_shelf 83 = .ok (.aaload, 1) := by decide +kernel
theorem dX11_shelf_84 : decode cX11_shelf 84 = .ok (.goto 4, 3) := by decide +kernel
theorem dX11_shelf_87 : decode cX11_shelf 87 = .ok (.aconst_null, 1) := by decide +kernel
theorem dX11_shelf_88 : decode cX11_shelf 88 = .ok (.aastore, 1) := by decide +kernel
theorem dX11_shelf_89 : decode cX11_shelf 89 = .ok (.iconst 1, 1) := by decide +kernel
theorem dX11_shelf_90 : decode cX11_shelf 90 = .ok (.ireturn, 1) := by decide +kernel
theorem dX11_taken_0 : decode cX11_taken 0 = .ok (.iload_n 2, 1) := by decide +kernel
theorem dX11_taken_1 : decode cX11_taken 1 = .ok (.iconst 0, 1) := by decide +kernel
theorem dX11_taken_2 : decode cX11_taken 2 = .ok (.iconst 5, 1) := by decide +kernel
theorem dX11_taken_3 : decode cX11_taken 3 = .ok (.invokestatic 183, 3) := by decide +kernel
theorem dX11_taken_6 : decode cX11_taken 6 = .ok (.istore_n 3, 1) := by decide +kernel
theorem dX11_taken_7 : decode cX11_taken 7 = .ok (.iload_n 2, 1) := by decide +kernel
theorem dX11_taken_8 : decode cX11_taken 8 = .ok (.bipush 10, 2) := by decide +kernel
theorem dX11_taken_10 : decode cX11_taken 10 = .ok (.bipush 14, 2) := by decide +kernel
theorem dX11_taken_12 : decode cX11_taken 12 = .ok (.invokestatic 183, 3) := by decide +kernel
theorem dX11_taken_15 : decode cX11_taken 15 = .ok (.istore 4, 2) := by decide +kernel
theorem dX11_taken_17 : decode cX11_taken 17 = .ok (.iload_n 1, 1) := by decide +kernel
theorem dX11_taken_18 : decode cX11_taken 18 = .ok (.iconst 0, 1) := by decide +kernel
theorem dX11_taken_19 : decode cX11_taken 19 = .ok (.iconst 3, 1) := by decide +kernel
theorem dX11_taken_20 : decode cX11_taken 20 = .ok (.invokestatic 183, 3) := by decide +kernel
theorem dX11_taken_23 : decode cX11_taken 23 = .ok (.ifCond .eq 12, 3) := by decide +kernel
theorem dX11_taken_26 : decode cX11_taken 26 = .ok (.iload_n 3, 1) := by decide +kernel
theorem dX11_taken_27 : decode cX11_taken 27 = .ok (.ifCond .ne 10, 3) := by decide +kernel
theorem dX11_taken_30 : decode cX11_taken 30 = .ok (.iload 4, 2) := by decide +kernel
theorem dX11_taken_32 : decode cX11_taken 32 = .ok (.ifCond .ne 5, 3) := by decide +kernel
theorem dX11_taken_35 : decode cX11_taken 35 = .ok (.iconst (-1), 1) := by decide +kernel
theorem dX11_taken_36 : decode cX11_taken 36 = .ok (.ireturn, 1) := by decide +kernel
theorem dX11_taken_37 : decode cX11_taken 37 = .ok (.aload_n 0, 1) := by decide +kernel
theorem dX11_taken_38 : decode cX11_taken 38 = .ok (.getfield 10, 3) := by decide +kernel
theorem dX11_taken_41 : decode cX11_taken 41 = .ok (.aload_n 0, 1) := by decide +kernel
theorem dX11_taken_42 : decode cX11_taken 42 = .ok (.getfield 43, 3) := by decide +kernel
theorem dX11_taken_45 : decode cX11_taken 45 = .ok (.iload_n 1, 1) := by decide +kernel
theorem dX11_taken_46 : decode cX11_taken 46 = .ok (.iaload, 1) := by decide +kernel
theorem dX11_taken_47 : decode cX11_taken 47 = .ok (.invokevirtual 82, 3) := by decide +kernel
theorem dX11_taken_50 : decode cX11_taken 50 = .ok (.astore 5, 2) := by decide +kernel
theorem dX11_taken_52 : decode cX11_taken 52 = .ok (.aload 5, 2) := by decide +kernel
theorem dX11_taken_54 : decode cX11_taken 54 = .ok (.ifnull 30, 3) := by decide +kernel
theorem dX11_taken_57 : decode cX11_taken 57 = .ok (.iload_n 3, 1) := by decide +kernel
theorem dX11_taken_58 : decode cX11_taken 58 = .ok (.ifCond .eq 23, 3) := by decide +kernel
theorem dX11_taken_61 : decode cX11_taken 61 = .ok (.aload 5, 2) := by decide +kernel
theorem dX11_taken_63 : decode cX11_taken 63 = .ok (.getfield 86, 3) := by decide +kernel
theorem dX11_taken_66 : decode cX11_taken 66 = .ok (.iload_n 2, 1) := by decide +kernel
theorem dX11_taken_67 : decode cX11_taken 67 = .ok (.invokestatic 298, 3) := by decide +kernel
theorem dX11_taken_70 : decode cX11_taken 70 = .ok (.ifCond .eq 11, 3) := by decide +kernel
theorem dX11_taken_73 : decode cX11_taken 73 = .ok (.aload 5, 2) := by decide +kernel
theorem dX11_taken_75 : decode cX11_taken 75 = .ok (.getfield 301, 3) := by decide +kernel
theorem dX11_taken_78 : decode cX11_taken 78 = .ok (.goto 5, 3) := by decide +kernel
theorem dX11_taken_81 : decode cX11_taken 81 = .ok (.bipush (-13), 2) := by decide +kernel
theorem dX11_taken_83 : decode cX11_taken 83 = .ok (.ireturn, 1) := by decide +kernel
theorem dX11_taken_84 : decode cX11_taken 84 = .ok (.aload_n 0, 1) := by decide +kernel
theorem dX11_taken_85 : decode cX11_taken 85 = .ok (.getfield 46, 3) := by decide +kernel
theorem dX11_taken_88 : decode cX11_taken 88 = .ok (.iload_n 1, 1) := by decide +kernel
theorem dX11_taken_89 : decode cX11_taken 89 = .ok (.aaload, 1) := by decide +kernel
theorem dX11_taken_90 : decode cX11_taken 90 = .ok (.astore 6, 2) := by decide +kernel
theorem dX11_taken_92 : decode cX11_taken 92 = .ok (.aload 6, 2) := by decide +kernel
theorem dX11_taken_94 : decode cX11_taken 94 = .ok (.ifnull 31, 3) := by decide +kernel
theorem dX11_taken_97 : decode cX11_taken 97 = .ok (.iload 4, 2) := by decide +kernel
theorem dX11_taken_99 : decode cX11_taken 99 = .ok (.ifCond .eq 23, 3) := by decide +kernel
theorem dX11_taken_102 : decode cX11_taken 102 = .ok (.aload 6, 2) := by decide +kernel
theorem dX11_taken_104 : decode cX11_taken 104 = .ok (.getfield 291, 3) := by decide +kernel
theorem dX11_taken_107 : decode cX11_taken 107 = .ok (.iload_n 2, 1) := by decide +kernel
theorem dX11_taken_108 : decode cX11_taken 108 = .ok (.bipush 10, 2) := by decide +kernel
theorem dX11_taken_110 : decode cX11_taken 110 = .ok (.isub, 1) := by decide +kernel
theorem dX11_taken_111 : decode cX11_taken 111 = .ok (.if_icmp .ne 11, 3) := by decide +kernel
theorem dX11_taken_114 : decode cX11_taken 114 = .ok (.aload 6, 2) := by decide +kernel
theorem dX11_taken_116 : decode cX11_taken 116 = .ok (.invokevirtual 304, 3) := by decide +kernel
theorem dX11_taken_119 : decode cX11_taken 119 = .ok (.goto 5, 3) := by decide +kernel
theorem dX11_taken_122 : decode cX11_taken 122 = .ok (.bipush (-13), 2) := by decide +kernel
theorem dX11_taken_124 : decode cX11_taken 124 = .ok (.ireturn, 1) := by decide +kernel
theorem dX11_taken_125 : decode cX11_taken 125 = .ok (.bipush (-11), 2) := by decide +kernel
