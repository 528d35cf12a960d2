theorem dX12_gives_0 : decode cX12_gives 0 = .ok (.aload_n 0, 1) := by decide +kernel
theorem dX12_gives_1 : decode cX12_gives 1 = .ok (.iload_n 1, 1) := by decide +kernel
theorem dX12_gives_2 : decode cX12_gives 2 = .ok (.invokevirtual 138, 3) := by decide +kernel
theorem dX12_gives_5 : decode cX12_gives 5 = .ok (.ifCond .eq 28, 3) := by decide +kernel
theorem dX12_gives_8 : decode cX12_gives 8 = .ok (.aload_n 0, 1) := by decide +kernel
theorem dX12_gives_9 : decode cX12_gives 9 = .ok (.iload_n 2, 1) := by decide +kernel
theorem dX12_gives_10 : decode cX12_gives 10 = .ok (.invokevirtual 138, 3) := by decide +kernel
theorem dX12_gives_13 : decode cX12_gives 13 = .ok (.ifCond .eq 20, 3) := by decide +kernel
theorem dX12_gives_16 : decode cX12_gives 16 = .ok (.iload_n 1, 1) := by decide +kernel
theorem dX12_gives_17 : decode cX12_gives 17 = .ok (.iload_n 2, 1) := by decide +kernel
theorem dX12_gives_18 : decode cX12_gives 18 = .ok (.if_icmp .eq 15, 3) := by decide +kernel
theorem dX12_gives_21 : decode cX12_gives 21 = .ok (.iload_n 3, 1) := by decide +kernel
theorem dX12_gives_22 : decode cX12_gives 22 = .ok (.i2l, 1) := by decide +kernel
theorem dX12_gives_23 : decode cX12_gives 23 = .ok (.lconst 1, 1) := by decide +kernel
theorem dX12_gives_24 : decode cX12_gives 24 = .ok (.ldc2_w 65, 3) := by decide +kernel
theorem dX12_gives_27 : decode cX12_gives 27 = .ok (.invokestatic 67, 3) := by decide +kernel
theorem dX12_gives_30 : decode cX12_gives 30 = .ok (.ifCond .ne 5, 3) := by decide +kernel
theorem dX12_gives_33 : decode cX12_gives 33 = .ok (.iconst (-1), 1) := by decide +kernel
theorem dX12_gives_34 : decode cX12_gives 34 = .ok (.ireturn, 1) := by decide +kernel
theorem dX12_gives_35 : decode cX12_gives 35 = .ok (.aload_n 0, 1) := by decide +kernel
theorem dX12_gives_36 : decode cX12_gives 36 = .ok (.iload_n 1, 1) := by decide +kernel
theorem dX12_gives_37 : decode cX12_gives 37 = .ok (.iconst 0, 1) := by decide +kernel
theorem dX12_gives_38 : decode cX12_gives 38 = .ok (.invokevirtual 141, 3) := by decide +kernel
theorem dX12_gives_41 : decode cX12_gives 41 = .ok (.iload_n 3, 1) := by decide +kernel
theorem dX12_gives_42 : decode cX12_gives 42 = .ok (.if_icmp .lt 19, 3) := by decide +kernel
theorem dX12_gives_45 : decode cX12_gives 45 = .ok (.aload_n 0, 1) := by decide +kernel
theorem dX12_gives_46 : decode cX12_gives 46 = .ok (.iload_n 2, 1) := by decide +kernel
theorem dX12_gives_47 : decode cX12_gives 47 = .ok (.iconst 0, 1) := by decide +kernel
theorem dX12_gives_48 : decode cX12_gives 48 = .ok (.invokevirtual 141, 3) := by decide +kernel
theorem dX12_gives_51 : decode cX12_gives 51 = .ok (.i2l, 1) := by decide +kernel
theorem dX12_gives_52 : decode cX12_gives 52 = .ok (.iload_n 3, 1) := by decide +kernel
theorem dX12_gives_53 : decode cX12_gives 53 = .ok (.i2l, 1) := by decide +kernel
theorem dX12_gives_54 : decode cX12_gives 54 = .ok (.ladd, 1) := by decide +kernel
theorem dX12_gives_55 : decode cX12_gives 55 = .ok (.invokestatic 134, 3) := by decide +kernel
theorem dX12_gives_58 : decode cX12_gives 58 = .ok (.ifCond .ne 6, 3) := by decide +kernel
theorem dX12_gives_61 : decode cX12_gives 61 = .ok (.bipush (-4), 2) := by decide +kernel
theorem dX12_gives_63 : decode cX12_gives 63 = .ok (.ireturn, 1) := by decide +kernel
theorem dX12_gives_64 : decode cX12_gives 64 = .ok (.aload_n 0, 1) := by decide +kernel
theorem dX12_gives_65 : decode cX12_gives 65 = .ok (.getfield 7, 3) := by decide +kernel
theorem dX12_gives_68 : decode cX12_gives 68 = .ok (.iload_n 1, 1) := by decide +kernel
theorem dX12_gives_69 : decode cX12_gives 69 = .ok (.iconst 0, 1) := by decide +kernel
theorem dX12_gives_70 : decode cX12_gives 70 = .ok (.invokestatic 131, 3) := by decide +kernel
theorem dX12_gives_73 : decode cX12_gives 73 = .ok (.dup2, 1) := by decide +kernel
theorem dX12_gives_74 : decode cX12_gives 74 = .ok (.iaload, 1) := by decide +kernel
theorem dX12_gives_75 : decode cX12_gives 75 = .ok (.iload_n 3, 1) := by decide +kernel
theorem dX12_gives_76 : decode cX12_gives 76 = .ok (.isub, 1) := by decide +kernel
theorem dX12_gives_77 : decode cX12_gives 77 = .ok (.iastore, 1) := by decide +kernel
theorem dX12_gives_78 : decode cX12_gives 78 = .ok (.aload_n 0, 1) := by decide +kernel
theorem dX12_gives_79 : decode cX12_gives 79 = .ok (.getfield 7, 3) := by decide +kernel
theorem dX12_gives_82 : decode cX12_gives 82 = .ok (.iload_n 2, 1) := by decide +kernel
theorem dX12_gives_83 : decode cX12_gives 83 = .ok (.iconst 0, 1) := by decide +kernel
theorem dX12_gives_84 : decode cX12_gives 84 = .ok (.invokestatic 131, 3) := by decide +kernel
theorem dX12_gives_87 : decode cX12_gives 87 = .ok (.dup2, 1) := by decide +kernel
theorem dX12_gives_88 : decode cX12_gives 88 = .ok (.iaload, 1) := by decide +kernel
theorem dX12_gives_89 : decode cX12_gives 89 = .ok (.iload_n 3, 1) := by decide +kernel
theorem dX12_gives_90 : decode cX12_gives 90 = .ok (.iadd, 1) := by decide +kernel
theorem dX12_gives_91 : decode cX12_gives 91 = .ok (.iastore, 1) := by decide +kernel
theorem dX12_gives_92 : decode cX12_gives 92 = .ok (.aload_n 0, 1) := by decide +kernel
theorem dX12_gives_93 : decode cX12_gives 93 = .ok (.iload_n 2, 1) := by decide +kernel
theorem dX12_gives_94 : decode cX12_gives 94 = .ok (.iconst 0, 1) := by decide +kernel
theorem dX12_gives_95 : decode cX12_gives 95 = .ok (.invokevirtual 141, 3) := by decide +kernel
theorem dX12_gives_98 : decode cX12_gives 98 = .ok (.ireturn, 1) := by decide +kernel
theorem dX12_noneOf_0 : decode cX12_noneOf 0 = .ok (.iload_n 0, 1) := by decide +kernel
theorem dX12_noneOf_1 : decode cX12_noneOf 1 = .ok (.ifCond .ge 8, 3) := by decide +kernel
theorem dX12_noneOf_4 : decode cX12_noneOf 4 = .ok (.bipush (-3), 2) := by decide +kernel
theorem dX12_noneOf_6 : decode cX12_noneOf 6 = .ok (.goto 4, 3) := by decide +kernel
theorem dX12_noneOf_9 : decode cX12_noneOf 9 = .ok (.iload_n 0, 1) := by decide +kernel
theorem dX12_noneOf_10 : decode cX12_noneOf 10 = .ok (.ireturn, 1) := by decide +kernel
theorem dX12_after_0 : decode cX12_after 0 = .ok (.aload_n 0, 1) := by decide +kernel
theorem dX12_after_1 : decode cX12_after 1 = .ok (.iload_n 1, 1) := by decide +kernel
theorem dX12_after_2 : decode cX12_after 2 = .ok (.invokevirtual 114, 3) := by decide +kernel
theorem dX12_after_5 : decode cX12_after 5 = .ok (.ifCond .eq 36, 3) := by decide +kernel
theorem dX12_after_8 : decode cX12_after 8 = .ok (.iload_n 2, 1) := by decide +kernel
theorem dX12_after_9 : decode cX12_after 9 = .ok (.i2l, 1) := by decide +kernel
theorem dX12_after_10 : decode cX12_after 10 = .ok (.invokestatic 134, 3) := by decide +kernel
theorem dX12_after_13 : decode cX12_after 13 = .ok (.ifCond .eq 28, 3) := by decide +kernel
theorem dX12_after_16 : decode cX12_after 16 = .ok (.iload_n 3, 1) := by decide +kernel
theorem dX12_after_17 : decode cX12_after 17 = .ok (.i2l, 1) := by decide +kernel
theorem dX12_after_18 : decode cX12_after 18 = .ok (.lconst 0, 1) := by decide +kernel
theorem dX12_after_19 : decode cX12_after 19 = .ok (.ldc2_w 152, 3) := by decide +kernel
theorem dX12_after_22 : decode cX12_after 22 = .ok (.invokestatic 67, 3) := by decide +kernel
theorem dX12_after_25 : decode cX12_after 25 = .ok (.ifCond .eq 16, 3) := by decide +kernel
theorem dX12_after_28 : decode cX12_after 28 = .ok (.aload_n 0, 1) := by decide +kernel
theorem dX12_after_29 : decode cX12_after 29 = .ok (.iload_n 1, 1) := by decide +kernel
theorem dX12_after_30 : decode cX12_after 30 = .ok (.iload_n 2, 1) := by decide +kernel
theorem dX12_after_31 : decode cX12_after 31 = .ok (.iload_n 3, 1) := by decide +kernel
theorem dX12_after_32 : decode cX12_after 32 = .ok (.invokevirtual 154, 3) := by decide +kernel
theorem dX12_after_35 : decode cX12_after 35 = .ok (.invokestatic 158, 3) := by decide +kernel
theorem dX12_after_38 : decode cX12_after 38 = .ok (.goto 4, 3) := by decide +kernel
theorem dX12_after_41 : decode cX12_after 41 = .ok (.iconst (-1), 1) := by decide +kernel
theorem dX12_after_42 : decode cX12_after 42 = .ok (.ireturn, 1) := by decide +kernel
theorem dX12_need_0 : decode cX12_need 0 = .ok (.aload_n 0, 1) := by decide +kernel
theorem dX12_need_1 : decode cX12_need 1 = .ok (.iload_n 1, 1) := by decide +kernel
theorem dX12_need_2 : decode cX12_need 2 = .ok (.invokevirtual 114, 3) := by decide +kernel
theorem dX12_need_5 : decode cX12_need 5 = .ok (.ifCond .eq 15, 3) := by decide +kernel
theorem dX12_need_8 : decode cX12_need 8 = .ok (.iload_n 2, 1) := by decide +kernel
theorem dX12_need_9 : decode cX12_need 9 = .ok (.i2l, 1) := by decide +kernel
theorem dX12_need_10 : decode cX12_need 10 = .ok (.lconst 0, 1) := by decide +kernel
theorem dX12_need_11 : decode cX12_need 11 = .ok (.ldc2_w 152, 3) := by decide +kernel
theorem dX12_need_14 : decode cX12_need 14 = .ok (.invokestatic 67, 3) := by decide +kernel
theorem dX12_need_17 : decode cX12_need 17 = .ok (.ifCond .ne 5, 3) := by decide +kernel
theorem dX12_need_20 : decode cX12_need 20 = .ok (.iconst (-1), 1) := by decide +kernel
theorem dX12_need_21 : decode cX12_need 21 = .ok (.ireturn, 1) := by decide +kernel
theorem dX12_need_22 : decode cX12_need 22 = .ok (.aload_n 0, 1) := by decide +kernel
theorem dX12_need_23 : decode cX12_need 23 = .ok (.iload_n 1, 1) := by decide +kernel
theorem dX12_need_24 : decode cX12_need 24 = .ok (.ldc 126, 2) := by decide +kernel
theorem dX12_need_26 : decode cX12_need 26 = .ok (.iload_n 2, 1) := by decide +kernel
theorem dX12_need_27 : decode cX12_need 27 = .ok (.invokevirtual 154, 3) := by decide +kernel
theorem dX12_need_30 : decode cX12_need 30 = .ok (.ifCond .ge 6, 3) := by decide +kernel
theorem dX12_need_33 : decode cX12_need 33 = .ok (.bipush (-3), 2) := by decide +kernel
theorem dX12_need_35 : decode cX12_need 35 = .ok (.ireturn, 1) := by decide +kernel
theorem dX12_need_36 : decode cX12_need 36 = .ok (.iconst (-1), 1) := by decide +kernel
theorem dX12_need_37 : decode cX12_need 37 = .ok (.istore_n 3, 1) := by decide +kernel
theorem dX12_need_38 : decode cX12_need 38 = .ok (.ldc 126, 2) := by decide +kernel
theorem dX12_need_40 : decode cX12_need 40 = .ok (.istore 4, 2) := by decide +kernel
theorem dX12_need_42 : decode cX12_need 42 = .ok (.iload 4, 2) := by decide +kernel
theorem dX12_need_44 : decode cX12_need 44 = .ok (.iload_n 3, 1) := by decide +kernel
theorem dX12_need_45 : decode cX12_need 45 = .ok (.isub, 1) := by decide +kernel
theorem dX12_need_46 : decode cX12_need 46 = .ok (.iconst 1, 1) := by decide +kernel
theorem dX12_need_47 : decode cX12_need 47 = .ok (.if_icmp .le 35, 3) := by decide +kernel
theorem dX12_need_50 : decode cX12_need 50 = .ok (.iload_n 3, 1) := by decide +kernel
theorem dX12_need_51 : decode cX12_need 51 = .ok (.iload 4, 2) := by decide +kernel
theorem dX12_need_53 : decode cX12_need 53 = .ok (.iadd, 1) := by decide +kernel
theorem dX12_need_54 : decode cX12_need 54 = .ok (.iconst 2, 1) := by decide +kernel
theorem dX12_need_55 : decode cX12_need 55 = .ok (.idiv, 1) := by decide +kernel
theorem dX12_need_56 : decode cX12_need 56 = .ok (.istore 5, 2) := by decide +kernel
theorem dX12_need_58 : decode cX12_need 58 = .ok (.aload_n 0, 1) := by decide +kernel
theorem dX12_need_59 : decode cX12_need 59 = .ok (.iload_n 1, 1) := by decide +kernel
theorem dX12_need_60 : decode cX12_need 60 = .ok (.iload 5, 2) := by decide +kernel
theorem dX12_need_62 : decode cX12_need 62 = .ok (.iload_n 2, 1) := by decide +kernel
theorem dX12_need_63 : decode cX12_need 63 = .ok (.invokevirtual 154, 3) := by decide +kernel
theorem dX12_need_66 : decode cX12_need 66 = .ok (.ifCond .ge 9, 3) := by decide +kernel
theorem dX12_need_69 : decode cX12_need 69 = .ok (.iload 5, 2) := by decide +kernel
theorem dX12_need_71 : decode cX12_need 71 = .ok (.istore_n 3, 1) := by decide +kernel
theorem dX12_need_72 : decode cX12_need 72 = .ok (.goto 7, 3) := by decide +kernel
theorem dX12_need_75 : decode cX12_need 75 = .ok (.iload 5, 2) := by decide +kernel
theorem dX12_need_77 : decode cX12_need 77 = .ok (.istore 4, 2) := by decide +kernel
theorem dX12_need_79 : decode cX12_need 79 = .ok (.goto (-37), 3) := by decide +kernel
theorem dX12_need_82 : decode cX12_need 82 = .ok (.iload 4, 2) := by decide +kernel
theorem dX12_need_84 : decode cX12_need 84 = .ok (.ireturn, 1) := by decide +kernel
theorem dX12_ever_0 : decode cX12_ever 0 = .ok (.aload_n 0, 1) := by decide +kernel
theorem dX12_ever_1 : decode cX12_ever 1 = .ok (.iload_n 1, 1) := by decide +kernel
theorem dX12_ever_2 : decode cX12_ever 2 = .ok (.invokevirtual 114, 3) := by decide +kernel
theorem dX12_ever_5 : decode cX12_ever 5 = .ok (.ifCond .ne 5, 3) := by decide +kernel
theorem dX12_ever_8 : decode cX12_ever 8 = .ok (.iconst (-1), 1) := by decide +kernel
theorem dX12_ever_9 : decode cX12_ever 9 = .ok (.ireturn, 1) := by decide +kernel
theorem dX12_ever_10 : decode cX12_ever 10 = .ok (.iconst 0, 1) := by decide +kernel
theorem dX12_ever_11 : decode cX12_ever 11 = .ok (.istore_n 2, 1) := by decide +kernel
theorem dX12_ever_12 : decode cX12_ever 12 = .ok (.iload_n 2, 1) := by decide +kernel
theorem dX12_ever_13 : decode cX12_ever 13 = .ok (.sipush 10000, 3) := by decide +kernel
theorem dX12_ever_16 : decode cX12_ever 16 = .ok (.if_icmp .ge 20, 3) := by decide +kernel
theorem dX12_ever_19 : decode cX12_ever 19 = .ok (.aload_n 0, 1) := by decide +kernel
theorem dX12_ever_20 : decode cX12_ever 20 = .ok (.iload_n 1, 1) := by decide +kernel
theorem dX12_ever_21 : decode cX12_ever 21 = .ok (.iload_n 2, 1) := by decide +kernel
theorem dX12_ever_22 : decode cX12_ever 22 = .ok (.i2l, 1) := by decide +kernel
theorem dX12_ever_23 : decode cX12_ever 23 = .ok (.invokevirtual 144, 3) := by decide +kernel
theorem dX12_ever_26 : decode cX12_ever 26 = .ok (.iload_n 2, 1) := by decide +kernel
theorem dX12_ever_27 : decode cX12_ever 27 = .ok (.if_icmp .ge 9, 3) := by decide +kernel
theorem dX12_ever_30 : decode cX12_ever 30 = .ok (.iinc 2 1, 3) := by decide +kernel
theorem dX12_ever_33 : decode cX12_ever 33 = .ok (.goto (-21), 3) := by decide +kernel
theorem dX12_ever_36 : decode cX12_ever 36 = .ok (.iload_n 2, 1) := by decide +kernel
theorem dX12_ever_37 : decode cX12_ever 37 = .ok (.sipush 9999, 3) := by decide +kernel
theorem dX12_ever_40 : decode cX12_ever 40 = .ok (.if_icmp .le 8, 3) := by decide +kernel
theorem dX12_ever_43 : decode cX12_ever 43 = .ok (.bipush (-3), 2) := by decide +kernel
theorem dX12_ever_45 : decode cX12_ever 45 = .ok (.goto 4, 3) := by decide +kernel
theorem dX12_ever_48 : decode cX12_ever 48 = .ok (.iload_n 2, 1) := by decide +kernel
theorem dX12_ever_49 : decode cX12_ever 49 = .ok (.ireturn, 1) := by decide +kernel
theorem dX12_same_0 : decode cX12_same 0 = .ok (.aload_n 0, 1) := by decide +kernel
theorem dX12_same_1 : decode cX12_same 1 = .ok (.iload_n 1, 1) := by decide +kernel
theorem dX12_same_2 : decode cX12_same 2 = .ok (.invokevirtual 114, 3) := by decide +kernel
theorem dX12_same_5 : decode cX12_same 5 = .ok (.ifCond .ne 5, 3) := by decide +kernel
theorem dX12_same_8 : decode cX12_same 8 = .ok (.iconst (-1), 1) := by decide +kernel
theorem dX12_same_9 : decode cX12_same 9 = .ok (.ireturn, 1) := by decide +kernel
theorem dX12_same_10 : decode cX12_same 10 = .ok (.iconst 0, 1) := by decide +kernel
theorem dX12_same_11 : decode cX12_same 11 = .ok (.istore_n 2, 1) := by decide +kernel
theorem dX12_same_12 : decode cX12_same 12 = .ok (.iload_n 2, 1) := by decide +kernel
theorem dX12_same_13 : decode cX12_same 13 = .ok (.sipush 10000, 3) := by decide +kernel
theorem dX12_same_16 : decode cX12_same 16 = .ok (.if_icmp .ge 20, 3) := by decide +kernel
theorem dX12_same_19 : decode cX12_same 19 = .ok (.aload_n 0, 1) := by decide +kernel
theorem dX12_same_20 : decode cX12_same 20 = .ok (.iload_n 1, 1) := by decide +kernel
theorem dX12_same_21 : decode cX12_same 21 = .ok (.iload_n 2, 1) := by decide +kernel
theorem dX12_same_22 : decode cX12_same 22 = .ok (.i2l, 1) := by decide +kernel
theorem dX12_same_23 : decode cX12_same 23 = .ok (.invokevirtual 144, 3) := by decide +kernel
theorem dX12_same_26 : decode cX12_same 26 = .ok (.iload_n 2, 1) := by decide +kernel
theorem dX12_same_27 : decode cX12_same 27 = .ok (.if_icmp .eq 9, 3) := by decide +kernel
theorem dX12_same_30 : decode cX12_same 30 = .ok (.iinc 2 1, 3) := by decide +kernel
theorem dX12_same_33 : decode cX12_same 33 = .ok (.goto (-21), 3) := by decide +kernel
theorem dX12_same_36 : decode cX12_same 36 = .ok (.iload_n 2, 1) := by decide +kernel
theorem dX12_same_37 : decode cX12_same 37 = .ok (.sipush 9999, 3) := by decide +kernel
theorem dX12_same_40 : decode cX12_same 40 = .ok (.if_icmp .le 8, 3) := by decide +kernel
theorem dX12_same_43 : decode cX12_same 43 = .ok (.bipush (-3), 2) := by decide +kernel
theorem dX12_same_45 : decode cX12_same 45 = .ok (.goto 4, 3) := by decide +kernel
theorem dX12_same_48 : decode cX12_same 48 = .ok (.iload_n 2, 1) := by decide +kernel
theorem dX12_same_49 : decode cX12_same 49 = .ok (.ireturn, 1) := by decide +kernel
theorem dX12_few_0 : decode cX12_few 0 = .ok (.aload_n 0, 1) := by decide +kernel
theorem dX12_few_1 : decode cX12_few 1 = .ok (.iload_n 1, 1) := by decide +kernel
theorem dX12_few_2 : decode cX12_few 2 = .ok (.invokevirtual 114, 3) := by decide +kernel
theorem dX12_few_5 : decode cX12_few 5 = .ok (.ifCond .eq 19, 3) := by decide +kernel
theorem dX12_few_8 : decode cX12_few 8 = .ok (.iload_n 2, 1) := by decide +kernel
theorem dX12_few_9 : decode cX12_few 9 = .ok (.i2l, 1) := by decide +kernel
theorem dX12_few_10 : decode cX12_few 10 = .ok (.invokestatic 134, 3) := by decide +kernel
theorem dX12_few_13 : decode cX12_few 13 = .ok (.ifCond .eq 11, 3) := by decide +kernel
theorem dX12_few_16 : decode cX12_few 16 = .ok (.iload_n 3, 1) := by decide +kernel
theorem dX12_few_17 : decode cX12_few 17 = .ok (.i2l, 1) := by decide +kernel
theorem dX12_few_18 : decode cX12_few 18 = .ok (.invokestatic 134, 3) := by decide +kernel
theorem dX12_few_21 : decode cX12_few 21 = .ok (.ifCond .ne 5, 3) := by decide +kernel
theorem dX12_few_24 : decode cX12_few 24 = .ok (.iconst (-1), 1) := by decide +kernel
theorem dX12_few_25 : decode cX12_few 25 = .ok (.ireturn, 1) := by decide +kernel
theorem dX12_few_26 : decode cX12_few 26 = .ok (.iconst 0, 1) := by decide +kernel
theorem dX12_few_27 : decode cX12_few 27 = .ok (.istore 4, 2) := by decide +kernel
theorem dX12_few_29 : decode cX12_few 29 = .ok (.iload_n 2, 1) := by decide +kernel
theorem dX12_few_30 : decode cX12_few 30 = .ok (.istore 5, 2) := by decide +kernel
theorem dX12_few_32 : decode cX12_few 32 = .ok (.iload 4, 2) := by decide +kernel
theorem dX12_few_34 : decode cX12_few 34 = .ok (.bipush 61, 2) := by decide +kernel
theorem dX12_few_36 : decode cX12_few 36 = .ok (.if_icmp .ge 30, 3) := by decide +kernel
theorem dX12_few_39 : decode cX12_few 39 = .ok (.iload 5, 2) := by decide +kernel
theorem dX12_few_41 : decode cX12_few 41 = .ok (.ifCond .lt 25, 3) := by decide +kernel
theorem dX12_few_44 : decode cX12_few 44 = .ok (.iload 5, 2) := by decide +kernel
theorem dX12_few_46 : decode cX12_few 46 = .ok (.iload_n 3, 1) := by decide +kernel
theorem dX12_few_47 : decode cX12_few 47 = .ok (.if_icmp .ge 19, 3) := by decide +kernel
theorem dX12_few_50 : decode cX12_few 50 = .ok (.aload_n 0, 1) := by decide +kernel
theorem dX12_few_51 : decode cX12_few 51 = .ok (.iload_n 1, 1) := by decide +kernel
theorem dX12_few_52 : decode cX12_few 52 = .ok (.iload 5, 2) := by decide +kernel
theorem dX12_few_54 : decode cX12_few 54 = .ok (.i2l, 1) := by decide +kernel
theorem dX12_few_55 : decode cX12_few 55 = .ok (.invokevirtual 144, 3) := by decide +kernel
theorem dX12_few_58 : decode cX12_few 58 = .ok (.istore 5, 2) := by decide +kernel
theorem dX12_few_60 : decode cX12_few 60 = .ok (.iinc 4 1, 3) := by decide +kernel
theorem dX12_few_63 : decode cX12_few 63 = .ok (.goto (-31), 3) := by decide +kernel
theorem dX12_few_66 : decode cX12_few 66 = .ok (.iload 4, 2) := by decide +kernel
theorem dX12_few_68 : decode cX12_few 68 = .ok (.bipush 60, 2) := by decide +kernel
theorem dX12_few_70 : decode cX12_few 70 = .ok (.if_icmp .gt 8, 3) := by decide +kernel
theorem dX12_few_73 : decode cX12_few 73 = .ok (.iload 5, 2) := by decide +kernel
theorem dX12_few_75 : decode cX12_few 75 = .ok (.ifCond .ge 8, 3) := by decide +kernel
theorem dX12_few_78 : decode cX12_few 78 = .ok (.bipush (-3), 2) := by decide +kernel
theorem dX12_few_80 : decode cX12_few 80 = .ok (.goto 5, 3) := by decide +kernel
theorem dX12_few_83 : decode cX12_few 83 = .ok (.iload 4, 2) := by decide +kernel
theorem dX12_few_85 : decode cX12_few 85 = .ok (.ireturn, 1) := by decide +kernel
theorem dX12_addsBack_0 : decode cX12_addsBack 0 = .ok (.iload_n 1, 1) := by decide +kernel
theorem dX12_addsBack_1 : decode cX12_addsBack 1 = .ok (.i2l, 1) := by decide +kernel
theorem dX12_addsBack_2 : decode cX12_addsBack 2 = .ok (.invokestatic 134, 3) := by decide +kernel
theorem dX12_addsBack_5 : decode cX12_addsBack 5 = .ok (.ifCond .eq 18, 3) := by decide +kernel
theorem dX12_addsBack_8 : decode cX12_addsBack 8 = .ok (.aload_n 0, 1) := by decide +kernel
theorem dX12_addsBack_9 : decode cX12_addsBack 9 = .ok (.iload_n 2, 1) := by decide +kernel
theorem dX12_addsBack_10 : decode cX12_addsBack 10 = .ok (.iload_n 1, 1) := by decide +kernel
theorem dX12_addsBack_11 : decode cX12_addsBack 11 = .ok (.i2l, 1) := by decide +kernel
theorem dX12_addsBack_12 : decode cX12_addsBack 12 = .ok (.invokevirtual 144, 3) := by decide +kernel
theorem dX12_addsBack_15 : decode cX12_addsBack 15 = .ok (.iload_n 3, 1) := by decide +kernel
theorem dX12_addsBack_16 : decode cX12_addsBack 16 = .ok (.if_icmp .ne 7, 3) := by decide +kernel
theorem dX12_addsBack_19 : decode cX12_addsBack 19 = .ok (.iconst 1, 1) := by decide +kernel
theorem dX12_addsBack_20 : decode cX12_addsBack 20 = .ok (.goto 4, 3) := by decide +kernel
theorem dX12_addsBack_23 : decode cX12_addsBack 23 = .ok (.iconst 0, 1) := by decide +kernel
theorem dX12_addsBack_24 : decode cX12_addsBack 24 = .ok (.istore 4, 2) := by decide +kernel
theorem dX12_addsBack_26 : decode cX12_addsBack 26 = .ok (.aload_n 0, 1) := by decide +kernel
theorem dX12_addsBack_27 : decode cX12_addsBack 27 = .ok (.getfield 162, 3) := by decide +kernel
theorem dX12_addsBack_30 : decode cX12_addsBack 30 = .ok (.istore 5, 2) := by decide +kernel
theorem dX12_addsBack_32 : decode cX12_addsBack 32 = .ok (.iconst 0, 1) := by decide +kernel
theorem dX12_addsBack_33 : decode cX12_addsBack 33 = .ok (.istore 6, 2) := by decide +kernel
theorem dX12_addsBack_35 : decode cX12_addsBack 35 = .ok (.iload 6, 2) := by decide +kernel
theorem dX12_addsBack_37 : decode cX12_addsBack 37 = .ok (.aload_n 0, 1) := by decide +kernel
theorem dX12_addsBack_38 : decode cX12_addsBack 38 = .ok (.getfield 162, 3) := by decide +kernel
theorem dX12_addsBack_41 : decode cX12_addsBack 41 = .ok (.if_icmp .ge 32, 3) := by decide +kernel
theorem dX12_addsBack_44 : decode cX12_addsBack 44 = .ok (.iload 4, 2) := by decide +kernel
theorem dX12_addsBack_46 : decode cX12_addsBack 46 = .ok (.ifCond .eq 18, 3) := by decide +kernel
theorem dX12_addsBack_49 : decode cX12_addsBack 49 = .ok (.aload_n 0, 1) := by decide +kernel
theorem dX12_addsBack_50 : decode cX12_addsBack 50 = .ok (.getfield 22, 3) := by decide +kernel
theorem dX12_addsBack_53 : decode cX12_addsBack 53 = .ok (.iload 6, 2) := by decide +kernel
theorem dX12_addsBack_55 : decode cX12_addsBack 55 = .ok (.iaload, 1) := by decide +kernel
theorem dX12_addsBack_56 : decode cX12_addsBack 56 = .ok (.iload_n 1, 1) := by decide +kernel
theorem dX12_addsBack_57 : decode cX12_addsBack 57 = .ok (.if_icmp .eq 7, 3) := by decide +kernel
theorem dX12_addsBack_60 : decode cX12_addsBack 60 = .ok (.iconst 1, 1) := by decide +kernel
theorem dX12_addsBack_61 : decode cX12_addsBack 61 = .ok (.goto 4, 3) := by decide +kernel
theorem dX12_addsBack_64 : decode cX12_addsBack 64 = .ok (.iconst 0, 1) := by decide +kernel
theorem dX12_addsBack_65 : decode cX12_addsBack 65 = .ok (.istore 4, 2) := by decide +kernel
theorem dX12_addsBack_67 : decode cX12_addsBack 67 = .ok (.iinc 6 1, 3) := by decide +kernel
theorem dX12_addsBack_70 : decode cX12_addsBack 70 = .ok (.goto (-35), 3) := by decide +kernel
theorem dX12_addsBack_73 : decode cX12_addsBack 73 = .ok (.iload 4, 2) := by decide +kernel
theorem dX12_addsBack_75 : decode cX12_addsBack 75 = .ok (.ifCond .eq 61, 3) := by decide +kernel
theorem dX12_addsBack_78 : decode cX12_addsBack 78 = .ok (.iload 5, 2) := by decide +kernel
theorem dX12_addsBack_80 : decode cX12_addsBack 80 = .ok (.ifCond .le 38, 3) := by decide +kernel
theorem dX12_addsBack_83 : decode cX12_addsBack 83 = .ok (.aload_n 0, 1) := by decide +kernel
theorem dX12_addsBack_84 : decode cX12_addsBack 84 = .ok (.getfield 22, 3) := by decide +kernel
theorem dX12_addsBack_87 : decode cX12_addsBack 87 = .ok (.iload 5, 2) := by decide +kernel
theorem dX12_addsBack_89 : decode cX12_addsBack 89 = .ok (.iconst 1, 1) := by decide +kernel
theorem dX12_addsBack_90 : decode cX12_addsBack 90 = .ok (.isub, 1) := by decide +kernel
theorem dX12_addsBack_91 : decode cX12_addsBack 91 = .ok (.iaload, 1) := by decide +kernel
theorem dX12_addsBack_92 : decode cX12_addsBack 92 = .ok (.iload_n 1, 1) := by decide +kernel
theorem dX12_addsBack_93 : decode cX12_addsBack 93 = .ok (.if_icmp .le 25, 3) := by decide +kernel
theorem dX12_addsBack_96 : decode cX12_addsBack 96 = .ok (.aload_n 0, 1) := by decide +kernel
theorem dX12_addsBack_97 : decode cX12_addsBack 97 = .ok (.getfield 22, 3) := by decide +kernel
theorem dX12_addsBack_100 : decode cX12_addsBack 100 = .ok (.iload 5, 2) := by decide +kernel
theorem dX12_addsBack_102 : decode cX12_addsBack 102 = .ok (.aload_n 0, 1) := by decide +kernel
theorem dX12_addsBack_103 : decode cX12_addsBack 103 = .ok (.getfield 22, 3) := by decide +kernel
theorem dX12_addsBack_106 : decode cX12_addsBack 106 = .ok (.iload 5, 2) := by decide +kernel
theorem dX12_addsBack_108 : decode cX12_addsBack 108 = .ok (.iconst 1, 1) := by decide +kernel
theorem dX12_addsBack_109 : decode cX12_addsBack 109 = .ok (.isub, 1) := by decide +kernel
theorem dX12_addsBack_110 : decode cX12_addsBack 110 = .ok (.iaload, 1) := by decide +kernel
theorem dX12_addsBack_111 : decode cX12_addsBack 111 = .ok (.iastore, 1) := by decide +kernel
theorem dX12_addsBack_112 : decode cX12_addsBack 112 = .ok (.iinc 5 (-1), 3) := by decide +kernel
theorem dX12_addsBack_115 : decode cX12_addsBack 115 = .ok (.goto (-37), 3) := by decide +kernel
theorem dX12_addsBack_118 : decode cX12_addsBack 118 = .ok (.aload_n 0, 1) := by decide +kernel
theorem dX12_addsBack_119 : decode cX12_addsBack 119 = .ok (.getfield 22, 3) := by decide +kernel
theorem dX12_addsBack_122 : decode cX12_addsBack 122 = .ok (.iload 5, 2) := by decide +kernel
theorem dX12_addsBack_124 : decode cX12_addsBack 124 = .ok (.iload_n 1, 1) := by decide +kernel
theorem dX12_addsBack_125 : decode cX12_addsBack 125 = .ok (.iastore, 1) := by decide +kernel
theorem dX12_addsBack_126 : decode cX12_addsBack 126 = .ok (.aload_n 0, 1) := by decide +kernel
theorem dX12_addsBack_127 : decode cX12_addsBack 127 = .ok (.dup, 1) := by decide +kernel
theorem dX12_addsBack_128 : decode cX12_addsBack 128 = .ok (.getfield 162, 3) := by decide +kernel
theorem dX12_addsBack_131 : decode cX12_addsBack 131 = .ok (.iconst 1, 1) := by decide +kernel
theorem dX12_addsBack_132 : decode cX12_addsBack 132 = .ok (.iadd, 1) := by decide +kernel
theorem dX12_addsBack_133 : decode cX12_addsBack 133 = .ok (.putfield 162, 3) := by decide +kernel
theorem dX12_addsBack_136 : decode cX12_addsBack 136 = .ok (.return_, 1) := by decide +kernel
theorem dX12_back_0 : decode cX12_back 0 = .ok (.aload_n 0, 1) := by decide +kernel
theorem dX12_back_1 : decode cX12_back 1 = .ok (.iload_n 1, 1) := by decide +kernel
theorem dX12_back_2 : decode cX12_back 2 = .ok (.invokevirtual 114, 3) := by decide +kernel
theorem dX12_back_5 : decode cX12_back 5 = .ok (.ifCond .eq 33, 3) := by decide +kernel
theorem dX12_back_8 : decode cX12_back 8 = .ok (.iload_n 2, 1) := by decide +kernel
theorem dX12_back_9 : decode cX12_back 9 = .ok (.i2l, 1) := by decide +kernel
theorem dX12_back_10 : decode cX12_back 10 = .ok (.lconst 0, 1) := by decide +kernel
theorem dX12_back_11 : decode cX12_back 11 = .ok (.ldc2_w 165, 3) := by decide +kernel
theorem dX12_back_14 : decode cX12_back 14 = .ok (.invokestatic 67, 3) := by decide +kernel
theorem dX12_back_17 : decode cX12_back 17 = .ok (.ifCond .eq 21, 3) := by decide +kernel
theorem dX12_back_20 : decode cX12_back 20 = .ok (.iload_n 3, 1) := by decide +kernel
theorem dX12_back_21 : decode cX12_back 21 = .ok (.i2l, 1) := by decide +kernel
theorem dX12_back_22 : decode cX12_back 22 = .ok (.lconst 1, 1) := by decide +kernel
theorem dX12_back_23 : decode cX12_back 23 = .ok (.ldc2_w 79, 3) := by decide +kernel
theorem dX12_back_26 : decode cX12_back 26 = .ok (.invokestatic 67, 3) := by decide +kernel
theorem dX12_back_29 : decode cX12_back 29 = .ok (.ifCond .eq 9, 3) := by decide +kernel
theorem dX12_back_32 : decode cX12_back 32 = .ok (.iload 4, 2) := by decide +kernel
theorem dX12_back_34 : decode cX12_back 34 = .ok (.iconst (-1), 1) := by decide +kernel
theorem dX12_back_35 : decode cX12_back 35 = .ok (.if_icmp .ge 5, 3) := by decide +kernel
theorem dX12_back_38 : decode cX12_back 38 = .ok (.iconst (-1), 1) := by decide +kernel
theorem dX12_back_39 : decode cX12_back 39 = .ok (.ireturn, 1) := by decide +kernel
theorem dX12_back_40 : decode cX12_back 40 = .ok (.aload_n 0, 1) := by decide +kernel
theorem dX12_back_41 : decode cX12_back 41 = .ok (.getfield 22, 3) := by decide +kernel
theorem dX12_back_44 : decode cX12_back 44 = .ok (.iconst 0, 1) := by decide +kernel
theorem dX12_back_45 : decode cX12_back 45 = .ok (.iload_n 2, 1) := by decide +kernel
theorem dX12_back_46 : decode cX12_back 46 = .ok (.iastore, 1) := by decide +kernel
theorem dX12_back_47 : decode cX12_back 47 = .ok (.aload_n 0, 1) := by decide +kernel
theorem dX12_back_48 : decode cX12_back 48 = .ok (.iconst 1, 1) := by decide +kernel
theorem dX12_back_49 : decode cX12_back 49 = .ok (.putfield 162, 3) := by decide +kernel
theorem dX12_back_52 : decode cX12_back 52 = .ok (.aload_n 0, 1) := by decide +kernel
theorem dX12_back_53 : decode cX12_back 53 = .ok (.iload_n 1, 1) := by decide +kernel
theorem dX12_back_54 : decode cX12_back 54 = .ok (.invokevirtual 118, 3) := by decide +kernel
theorem dX12_back_57 : decode cX12_back 57 = .ok (.aload_n 0, 1) := by decide +kernel
theorem dX12_back_58 : decode cX12_back 58 = .ok (.getfield 103, 3) := by decide +kernel
theorem dX12_back_61 : decode cX12_back 61 = .ok (.istore 5, 2) := by decide +kernel
theorem dX12_back_63 : decode cX12_back 63 = .ok (.aload_n 0, 1) := by decide +kernel
theorem dX12_back_64 : decode cX12_back 64 = .ok (.getfield 107, 3) := by decide +kernel
theorem dX12_back_67 : decode cX12_back 67 = .ok (.istore 6, 2) := by decide +kernel
theorem dX12_back_69 : decode cX12_back 69 = .ok (.iconst 0, 1) := by decide +kernel
theorem dX12_back_70 : decode cX12_back 70 = .ok (.istore 7, 2) := by decide +kernel
theorem dX12_back_72 : decode cX12_back 72 = .ok (.iload 7, 2) := by decide +kernel
theorem dX12_back_74 : decode cX12_back 74 = .ok (.iload_n 3, 1) := by decide +kernel
theorem dX12_back_75 : decode cX12_back 75 = .ok (.if_icmp .ge 122, 3) := by decide +kernel
theorem dX12_back_78 : decode cX12_back 78 = .ok (.aload_n 0, 1) := by decide +kernel
theorem dX12_back_79 : decode cX12_back 79 = .ok (.getfield 162, 3) := by decide +kernel
theorem dX12_back_82 : decode cX12_back 82 = .ok (.istore 8, 2) := by decide +kernel
theorem dX12_back_84 : decode cX12_back 84 = .ok (.iconst 0, 1) := by decide +kernel
theorem dX12_back_85 : decode cX12_back 85 = .ok (.istore 9, 2) := by decide +kernel
theorem dX12_back_87 : decode cX12_back 87 = .ok (.iload 9, 2) := by decide +kernel
theorem dX12_back_89 : decode cX12_back 89 = .ok (.iload 8, 2) := by decide +kernel
theorem dX12_back_91 : decode cX12_back 91 = .ok (.if_icmp .ge 23, 3) := by decide +kernel
theorem dX12_back_94 : decode cX12_back 94 = .ok (.aload_n 0, 1) := by decide +kernel
theorem dX12_back_95 : decode cX12_back 95 = .ok (.getfield 25, 3) := by decide +kernel
theorem dX12_back_98 : decode cX12_back 98 = .ok (.iload 9, 2) := by decide +kernel
theorem dX12_back_100 : decode cX12_back 100 = .ok (.aload_n 0, 1) := by decide +kernel
theorem dX12_back_101 : decode cX12_back 101 = .ok (.getfield 22, 3) := by decide +kernel
theorem dX12_back_104 : decode cX12_back 104 = .ok (.iload 9, 2) := by decide +kernel
theorem dX12_back_106 : decode cX12_back 106 = .ok (.iaload, 1) := by decide +kernel
theorem dX12_back_107 : decode cX12_back 107 = .ok (.iastore, 1) := by decide +kernel
theorem dX12_back_108 : decode cX12_back 108 = .ok (.iinc 9 1, 3) := by decide +kernel
theorem dX12_back_111 : decode cX12_back 111 = .ok (.goto (-24), 3) := by decide +kernel
theorem dX12_back_114 : decode cX12_back 114 = .ok (.aload_n 0, 1) := by decide +kernel
theorem dX12_back_115 : decode cX12_back 115 = .ok (.iconst 0, 1) := by decide +kernel
theorem dX12_back_116 : decode cX12_back 116 = .ok (.putfield 162, 3) := by decide +kernel
theorem dX12_back_119 : decode cX12_back 119 = .ok (.iconst 0, 1) := by decide +kernel
theorem dX12_back_120 : decode cX12_back 120 = .ok (.istore 9, 2) := by decide +kernel
theorem dX12_back_122 : decode cX12_back 122 = .ok (.iload 9, 2) := by decide +kernel
theorem dX12_back_124 : decode cX12_back 124 = .ok (.iload 8, 2) := by decide +kernel
theorem dX12_back_126 : decode cX12_back 126 = .ok (.if_icmp .ge 65, 3) := by decide +kernel
theorem dX12_back_129 : decode cX12_back 129 = .ok (.aload_n 0, 1) := by decide +kernel
theorem dX12_back_130 : decode cX12_back 130 = .ok (.getfield 25, 3) := by decide +kernel
theorem dX12_back_133 : decode cX12_back 133 = .ok (.iload 9, 2) := by decide +kernel
theorem dX12_back_135 : decode cX12_back 135 = .ok (.iaload, 1) := by decide +kernel
theorem dX12_back_136 : decode cX12_back 136 = .ok (.istore 10, 2) := by decide +kernel
theorem dX12_back_138 : decode cX12_back 138 = .ok (.aload_n 0, 1) := by decide +kernel
theorem dX12_back_139 : decode cX12_back 139 = .ok (.iload 10, 2) := by decide +kernel
theorem dX12_back_141 : decode cX12_back 141 = .ok (.iload 5, 2) := by decide +kernel
theorem dX12_back_143 : decode cX12_back 143 = .ok (.idiv, 1) := by decide +kernel
theorem dX12_back_144 : decode cX12_back 144 = .ok (.iload 6, 2) := by decide +kernel
theorem dX12_back_146 : decode cX12_back 146 = .ok (.iadd, 1) := by decide +kernel
theorem dX12_back_147 : decode cX12_back 147 = .ok (.iload_n 1, 1) := by decide +kernel
theorem dX12_back_148 : decode cX12_back 148 = .ok (.iload 10, 2) := by decide +kernel
theorem dX12_back_150 : decode cX12_back 150 = .ok (.invokevirtual 167, 3) := by decide +kernel
theorem dX12_back_153 : decode cX12_back 153 = .ok (.aload_n 0, 1) := by decide +kernel
theorem dX12_back_154 : decode cX12_back 154 = .ok (.iload 10, 2) := by decide +kernel
theorem dX12_back_156 : decode cX12_back 156 = .ok (.iload 6, 2) := by decide +kernel
theorem dX12_back_158 : decode cX12_back 158 = .ok (.iadd, 1) := by decide +kernel
theorem dX12_back_159 : decode cX12_back 159 = .ok (.iload 5, 2) := by decide +kernel
theorem dX12_back_161 : decode cX12_back 161 = .ok (.idiv, 1) := by decide +kernel
theorem dX12_back_162 : decode cX12_back 162 = .ok (.iload_n 1, 1) := by decide +kernel
theorem dX12_back_163 : decode cX12_back 163 = .ok (.iload 10, 2) := by decide +kernel
theorem dX12_back_165 : decode cX12_back 165 = .ok (.invokevirtual 167, 3) := by decide +kernel
theorem dX12_back_168 : decode cX12_back 168 = .ok (.aload_n 0, 1) := by decide +kernel
theorem dX12_back_169 : decode cX12_back 169 = .ok (.iload 10, 2) := by decide +kernel
theorem dX12_back_171 : decode cX12_back 171 = .ok (.iload 6, 2) := by decide +kernel
theorem dX12_back_173 : decode cX12_back 173 = .ok (.iadd, 1) := by decide +kernel
theorem dX12_back_174 : decode cX12_back 174 = .ok (.iconst 1, 1) := by decide +kernel
theorem dX12_back_175 : decode cX12_back 175 = .ok (.iadd, 1) := by decide +kernel
theorem dX12_back_176 : decode cX12_back 176 = .ok (.iload 5, 2) := by decide +kernel
theorem dX12_back_178 : decode cX12_back 178 = .ok (.idiv, 1) := by decide +kernel
theorem dX12_back_179 : decode cX12_back 179 = .ok (.iload_n 1, 1) := by decide +kernel
theorem dX12_back_180 : decode cX12_back 180 = .ok (.iload 10, 2) := by decide +kernel
theorem dX12_back_182 : decode cX12_back 182 = .ok (.invokevirtual 167, 3) := by decide +kernel
theorem dX12_back_185 : decode cX12_back 185 = .ok (.iinc 9 1, 3) := by decide +kernel
theorem dX12_back_188 : decode cX12_back 188 = .ok (.goto (-66), 3) := by decide +kernel
theorem dX12_back_191 : decode cX12_back 191 = .ok (.iinc 7 1, 3) := by decide +kernel
theorem dX12_back_194 : decode cX12_back 194 = .ok (.goto (-122), 3) := by decide +kernel
theorem dX12_back_197 : decode cX12_back 197 = .ok (.iload 4, 2) := by decide +kernel
theorem dX12_back_199 : decode cX12_back 199 = .ok (.ifCond .ge 10, 3) := by decide +kernel
theorem dX12_back_202 : decode cX12_back 202 = .ok (.aload_n 0, 1) := by decide +kernel
theorem dX12_back_203 : decode cX12_back 203 = .ok (.getfield 162, 3) := by decide +kernel
theorem dX12_back_206 : decode cX12_back 206 = .ok (.goto 24, 3) := by decide +kernel
theorem dX12_back_209 : decode cX12_back 209 = .ok (.iload 4, 2) := by decide +kernel
theorem dX12_back_211 : decode cX12_back 211 = .ok (.aload_n 0, 1) := by decide +kernel
theorem dX12_back_212 : decode cX12_back 212 = .ok (.getfield 162, 3) := by decide +kernel
theorem dX12_back_215 : decode cX12_back 215 = .ok (.if_icmp .ge 13, 3) := by decide +kernel
theorem dX12_back_218 : decode cX12_back 218 = .ok (.aload_n 0, 1) := by decide +kernel
theorem dX12_back_219 : decode cX12_back 219 = .ok (.getfield 22, 3) := by decide +kernel
theorem dX12_back_222 : decode cX12_back 222 = .ok (.iload 4, 2) := by decide +kernel
theorem dX12_back_224 : decode cX12_back 224 = .ok (.iaload, 1) := by decide +kernel
theorem dX12_back_225 : decode cX12_back 225 = .ok (.goto 5, 3) := by decide +kernel
theorem dX12_back_228 : decode cX12_back 228 = .ok (.bipush (-3), 2) := by decide +kernel
theorem dX12_back_230 : decode cX12_back 230 = .ok (.ireturn, 1) := by decide +kernel
theorem dX12_richest_0 : decode cX12_richest 0 = .ok (.aload_n 0, 1) := by decide +kernel
theorem dX12_richest_1 : decode cX12_richest 1 = .ok (.getfield 28, 3) := by decide +kernel
theorem dX12_richest_4 : decode cX12_richest 4 = .ok (.iconst 0, 1) := by decide +kernel
theorem dX12_richest_5 : decode cX12_richest 5 = .ok (.iload_n 1, 1) := by decide +kernel
theorem dX12_richest_6 : decode cX12_richest 6 = .ok (.iastore, 1) := by decide +kernel
theorem dX12_richest_7 : decode cX12_richest 7 = .ok (.iconst 1, 1) := by decide +kernel
theorem dX12_richest_8 : decode cX12_richest 8 = .ok (.istore_n 3, 1) := by decide +kernel
theorem dX12_richest_9 : decode cX12_richest 9 = .ok (.iload_n 3, 1) := by decide +kernel
theorem dX12_richest_10 : decode cX12_richest 10 = .ok (.iload_n 2, 1) := by decide +kernel
theorem dX12_richest_11 : decode cX12_richest 11 = .ok (.if_icmp .gt 120, 3) := by decide +kernel
theorem dX12_richest_14 : decode cX12_richest 14 = .ok (.aload_n 0, 1) := by decide +kernel
theorem dX12_richest_15 : decode cX12_richest 15 = .ok (.getfield 28, 3) := by decide +kernel
theorem dX12_richest_18 : decode cX12_richest 18 = .ok (.iload_n 3, 1) := by decide +kernel
theorem dX12_richest_19 : decode cX12_richest 19 = .ok (.iconst (-1), 1) := by decide +kernel
theorem dX12_richest_20 : decode cX12_richest 20 = .ok (.iastore, 1) := by decide +kernel
theorem dX12_richest_21 : decode cX12_richest 21 = .ok (.iconst 0, 1) := by decide +kernel
theorem dX12_richest_22 : decode cX12_richest 22 = .ok (.istore 4, 2) := by decide +kernel
theorem dX12_richest_24 : decode cX12_richest 24 = .ok (.iload 4, 2) := by decide +kernel
theorem dX12_richest_26 : decode cX12_richest 26 = .ok (.aload_n 0, 1) := by decide +kernel
theorem dX12_richest_27 : decode cX12_richest 27 = .ok (.getfield 7, 3) := by decide +kernel
theorem dX12_richest_30 : decode cX12_richest 30 = .ok (.iconst 0, 1) := by decide +kernel
theorem dX12_richest_31 : decode cX12_richest 31 = .ok (.iaload, 1) := by decide +kernel
theorem dX12_richest_32 : decode cX12_richest 32 = .ok (.if_icmp .ge 93, 3) := by decide +kernel
theorem dX12_richest_35 : decode cX12_richest 35 = .ok (.iload_n 3, 1) := by decide +kernel
theorem dX12_richest_36 : decode cX12_richest 36 = .ok (.iload_n 2, 1) := by decide +kernel
theorem dX12_richest_37 : decode cX12_richest 37 = .ok (.iconst (-1), 1) := by decide +kernel
theorem dX12_richest_38 : decode cX12_richest 38 = .ok (.ixor, 1) := by decide +kernel
theorem dX12_richest_39 : decode cX12_richest 39 = .ok (.iand, 1) := by decide +kernel
theorem dX12_richest_40 : decode cX12_richest 40 = .ok (.ifCond .ne 85, 3) := by decide +kernel
theorem dX12_richest_43 : decode cX12_richest 43 = .ok (.iload_n 3, 1) := by decide +kernel
theorem dX12_richest_44 : decode cX12_richest 44 = .ok (.iload 4, 2) := by decide +kernel
theorem dX12_richest_46 : decode cX12_richest 46 = .ok (.invokestatic 170, 3) := by decide +kernel
theorem dX12_richest_49 : decode cX12_richest 49 = .ok (.ifCond .eq 19, 3) := by decide +kernel
theorem dX12_richest_52 : decode cX12_richest 52 = .ok (.aload_n 0, 1) := by decide +kernel
theorem dX12_richest_53 : decode cX12_richest 53 = .ok (.getfield 28, 3) := by decide +kernel
theorem dX12_richest_56 : decode cX12_richest 56 = .ok (.iload_n 3, 1) := by decide +kernel
theorem dX12_richest_57 : decode cX12_richest 57 = .ok (.iconst 1, 1) := by decide +kernel
theorem dX12_richest_58 : decode cX12_richest 58 = .ok (.iload 4, 2) := by decide +kernel
theorem dX12_richest_60 : decode cX12_richest 60 = .ok (.ishl, 1) := by decide +kernel
theorem dX12_richest_61 : decode cX12_richest 61 = .ok (.iconst (-1), 1) := by decide +kernel
theorem dX12_richest_62 : decode cX12_richest 62 = .ok (.ixor, 1) := by decide +kernel
theorem dX12_richest_63 : decode cX12_richest 63 = .ok (.iand, 1) := by decide +kernel
theorem dX12_richest_64 : decode cX12_richest 64 = .ok (.iaload, 1) := by decide +kernel
theorem dX12_richest_65 : decode cX12_richest 65 = .ok (.goto 4, 3) := by decide +kernel
theorem dX12_richest_68 : decode cX12_richest 68 = .ok (.iconst (-1), 1) := by decide +kernel
theorem dX12_richest_69 : decode cX12_richest 69 = .ok (.istore 5, 2) := by decide +kernel
theorem dX12_richest_71 : decode cX12_richest 71 = .ok (.iload 5, 2) := by decide +kernel
theorem dX12_richest_73 : decode cX12_richest 73 = .ok (.ifCond .ge 7, 3) := by decide +kernel
theorem dX12_richest_76 : decode cX12_richest 76 = .ok (.iconst (-1), 1) := by decide +kernel
theorem dX12_richest_77 : decode cX12_richest 77 = .ok (.goto 12, 3) := by decide +kernel
theorem dX12_richest_80 : decode cX12_richest 80 = .ok (.aload_n 0, 1) := by decide +kernel
theorem dX12_richest_81 : decode cX12_richest 81 = .ok (.iload 4, 2) := by decide +kernel
theorem dX12_richest_83 : decode cX12_richest 83 = .ok (.iload 5, 2) := by decide +kernel
theorem dX12_richest_85 : decode cX12_richest 85 = .ok (.i2l, 1) := by decide +kernel
theorem dX12_richest_86 : decode cX12_richest 86 = .ok (.invokevirtual 144, 3) := by decide +kernel
theorem dX12_richest_89 : decode cX12_richest 89 = .ok (.istore 6, 2) := by decide +kernel
theorem dX12_richest_91 : decode cX12_richest 91 = .ok (.aload_n 0, 1) := by decide +kernel
theorem dX12_richest_92 : decode cX12_richest 92 = .ok (.getfield 28, 3) := by decide +kernel
theorem dX12_richest_95 : decode cX12_richest 95 = .ok (.iload_n 3, 1) := by decide +kernel
theorem dX12_richest_96 : decode cX12_richest 96 = .ok (.iload 6, 2) := by decide +kernel
theorem dX12_richest_98 : decode cX12_richest 98 = .ok (.aload_n 0, 1) := by decide +kernel
theorem dX12_richest_99 : decode cX12_richest 99 = .ok (.getfield 28, 3) := by decide +kernel
theorem dX12_richest_102 : decode cX12_richest 102 = .ok (.iload_n 3, 1) := by decide +kernel
theorem dX12_richest_103 : decode cX12_richest 103 = .ok (.iaload, 1) := by decide +kernel
theorem dX12_richest_104 : decode cX12_richest 104 = .ok (.if_icmp .le 8, 3) := by decide +kernel
theorem dX12_richest_107 : decode cX12_richest 107 = .ok (.iload 6, 2) := by decide +kernel
theorem dX12_richest_109 : decode cX12_richest 109 = .ok (.goto 9, 3) := by decide +kernel
theorem dX12_richest_112 : decode cX12_richest 112 = .ok (.aload_n 0, 1) := by decide +kernel
theorem dX12_richest_113 : decode cX12_richest 113 = .ok (.getfield 28, 3) := by decide +kernel
theorem dX12_richest_116 : decode cX12_richest 116 = .ok (.iload_n 3, 1) := by decide +kernel
theorem dX12_richest_117 : decode cX12_richest 117 = .ok (.iaload, 1) := by decide +kernel
theorem dX12_richest_118 : decode cX12_richest 118 = .ok (.iastore, 1) := by decide +kernel
theorem dX12_richest_119 : decode cX12_richest 119 = .ok (.iinc 4 1, 3) := by decide +kernel
theorem dX12_richest_122 : decode cX12_richest 122 = .ok (.goto (-98), 3) := by decide +kernel
theorem dX12_richest_125 : decode cX12_richest 125 = .ok (.iinc 3 1, 3) := by decide +kernel
theorem dX12_richest_128 : decode cX12_richest 128 = .ok (.goto (-119), 3) := by decide +kernel
theorem dX12_richest_131 : decode cX12_richest 131 = .ok (.aload_n 0, 1) := by decide +kernel
theorem dX12_richest_132 : decode cX12_richest 132 = .ok (.getfield 28, 3) := by decide +kernel
theorem dX12_richest_135 : decode cX12_richest 135 = .ok (.iload_n 2, 1) := by decide +kernel
theorem dX12_richest_136 : decode cX12_richest 136 = .ok (.iaload, 1) := by decide +kernel
theorem dX12_richest_137 : decode cX12_richest 137 = .ok (.ireturn, 1) := by decide +kernel
theorem dX12_isSet_0 : decode cX12_isSet 0 = .ok (.iload_n 1, 1) := by decide +kernel
theorem dX12_isSet_1 : decode cX12_isSet 1 = .ok (.i2l, 1) := by decide +kernel
theorem dX12_isSet_2 : decode cX12_isSet 2 = .ok (.lconst 0, 1) := by decide +kernel
theorem dX12_isSet_3 : decode cX12_isSet 3 = .ok (.iconst 1, 1) := by decide +kernel
theorem dX12_isSet_4 : decode cX12_isSet 4 = .ok (.aload_n 0, 1) := by decide +kernel
theorem dX12_isSet_5 : decode cX12_isSet 5 = .ok (.getfield 7, 3) := by decide +kernel
theorem dX12_isSet_8 : decode cX12_isSet 8 = .ok (.iconst 0, 1) := by decide +kernel
theorem dX12_isSet_9 : decode cX12_isSet 9 = .ok (.iaload, 1) := by decide +kernel
theorem dX12_isSet_10 : decode cX12_isSet 10 = .ok (.ishl, 1) := by decide +kernel
theorem dX12_isSet_11 : decode cX12_isSet 11 = .ok (.iconst 1, 1) := by decide +kernel
theorem dX12_isSet_12 : decode cX12_isSet 12 = .ok (.isub, 1) := by decide +kernel
theorem dX12_isSet_13 : decode cX12_isSet 13 = .ok (.i2l, 1) := by decide +kernel
theorem dX12_isSet_14 : decode cX12_isSet 14 = .ok (.invokestatic 67, 3) := by decide +kernel
theorem dX12_isSet_17 : decode cX12_isSet 17 = .ok (.ireturn, 1) := by decide +kernel
theorem dX12_rich_0 : decode cX12_rich 0 = .ok (.iload_n 1, 1) := by decide +kernel
theorem dX12_rich_1 : decode cX12_rich 1 = .ok (.i2l, 1) := by decide +kernel
theorem dX12_rich_2 : decode cX12_rich 2 = .ok (.invokestatic 134, 3) := by decide +kernel
theorem dX12_rich_5 : decode cX12_rich 5 = .ok (.ifCond .eq 23, 3) := by decide +kernel
theorem dX12_rich_8 : decode cX12_rich 8 = .ok (.aload_n 0, 1) := by decide +kernel
theorem dX12_rich_9 : decode cX12_rich 9 = .ok (.iload_n 2, 1) := by decide +kernel
theorem dX12_rich_10 : decode cX12_rich 10 = .ok (.invokevirtual 173, 3) := by decide +kernel
theorem dX12_rich_13 : decode cX12_rich 13 = .ok (.ifCond .eq 15, 3) := by decide +kernel
theorem dX12_rich_16 : decode cX12_rich 16 = .ok (.aload_n 0, 1) := by decide +kernel
theorem dX12_rich_17 : decode cX12_rich 17 = .ok (.iload_n 1, 1) := by decide +kernel
theorem dX12_rich_18 : decode cX12_rich 18 = .ok (.iload_n 2, 1) := by decide +kernel
theorem dX12_rich_19 : decode cX12_rich 19 = .ok (.invokevirtual 176, 3) := by decide +kernel
theorem dX12_rich_22 : decode cX12_rich 22 = .ok (.invokestatic 158, 3) := by decide +kernel
theorem dX12_rich_25 : decode cX12_rich 25 = .ok (.goto 4, 3) := by decide +kernel
theorem dX12_rich_28 : decode cX12_rich 28 = .ok (.iconst (-1), 1) := by decide +kernel
theorem dX12_rich_29 : decode cX12_rich 29 = .ok (.ireturn, 1) := by decide +kernel
theorem dX12_order_0 : decode cX12_order 0 = .ok (.iload_n 1, 1) := by decide +kernel
theorem dX12_order_1 : decode cX12_order 1 = .ok (.i2l, 1) := by decide +kernel
theorem dX12_order_2 : decode cX12_order 2 = .ok (.invokestatic 134, 3) := by decide +kernel
theorem dX12_order_5 : decode cX12_order 5 = .ok (.ifCond .eq 23, 3) := by decide +kernel
theorem dX12_order_8 : decode cX12_order 8 = .ok (.aload_n 0, 1) := by decide +kernel
theorem dX12_order_9 : decode cX12_order 9 = .ok (.iload_n 2, 1) := by decide +kernel
theorem dX12_order_10 : decode cX12_order 10 = .ok (.invokevirtual 173, 3) := by decide +kernel
theorem dX12_order_13 : decode cX12_order 13 = .ok (.ifCond .eq 15, 3) := by decide +kernel
theorem dX12_order_16 : decode cX12_order 16 = .ok (.iload_n 3, 1) := by decide +kernel
theorem dX12_order_17 : decode cX12_order 17 = .ok (.i2l, 1) := by decide +kernel
theorem dX12_order_18 : decode cX12_order 18 = .ok (.lconst 0, 1) := by decide +kernel
theorem dX12_order_19 : decode cX12_order 19 = .ok (.ldc2_w 179, 3) := by decide +kernel
theorem dX12_order_22 : decode cX12_order 22 = .ok (.invokestatic 67, 3) := by decide +kernel
theorem dX12_order_25 : decode cX12_order 25 = .ok (.ifCond .ne 5, 3) := by decide +kernel
theorem dX12_order_28 : decode cX12_order 28 = .ok (.iconst (-1), 1) := by decide +kernel
theorem dX12_order_29 : decode cX12_order 29 = .ok (.ireturn, 1) := by decide +kernel
theorem dX12_order_30 : decode cX12_order 30 = .ok (.aload_n 0, 1) := by decide +kernel
theorem dX12_order_31 : decode cX12_order 31 = .ok (.iload_n 1, 1) := by decide +kernel
theorem dX12_order_32 : decode cX12_order 32 = .ok (.iload_n 2, 1) := by decide +kernel
theorem dX12_order_33 : decode cX12_order 33 = .ok (.invokevirtual 176, 3) := by decide +kernel
theorem dX12_order_36 : decode cX12_order 36 = .ok (.istore 4, 2) := by decide +kernel
theorem dX12_order_38 : decode cX12_order 38 = .ok (.iload_n 2, 1) := by decide +kernel
theorem dX12_order_39 : decode cX12_order 39 = .ok (.istore 5, 2) := by decide +kernel
theorem dX12_order_41 : decode cX12_order 41 = .ok (.iload_n 1, 1) := by decide +kernel
theorem dX12_order_42 : decode cX12_order 42 = .ok (.istore 6, 2) := by decide +kernel
theorem dX12_order_44 : decode cX12_order 44 = .ok (.iconst (-1), 1) := by decide +kernel
theorem dX12_order_45 : decode cX12_order 45 = .ok (.istore 7, 2) := by decide +kernel
theorem dX12_order_47 : decode cX12_order 47 = .ok (.iconst 0, 1) := by decide +kernel
theorem dX12_order_48 : decode cX12_order 48 = .ok (.istore 8, 2) := by decide +kernel
theorem dX12_order_50 : decode cX12_order 50 = .ok (.iload 8, 2) := by decide +kernel
theorem dX12_order_52 : decode cX12_order 52 = .ok (.iload_n 3, 1) := by decide +kernel
theorem dX12_order_53 : decode cX12_order 53 = .ok (.if_icmp .gt 130, 3) := by decide +kernel
theorem dX12_order_56 : decode cX12_order 56 = .ok (.iload 4, 2) := by decide +kernel
theorem dX12_order_58 : decode cX12_order 58 = .ok (.ifCond .lt 125, 3) := by decide +kernel
theorem dX12_order_61 : decode cX12_order 61 = .ok (.iconst (-1), 1) := by decide +kernel
theorem dX12_order_62 : decode cX12_order 62 = .ok (.istore 7, 2) := by decide +kernel
theorem dX12_order_64 : decode cX12_order 64 = .ok (.iconst 0, 1) := by decide +kernel
theorem dX12_order_65 : decode cX12_order 65 = .ok (.istore 9, 2) := by decide +kernel
theorem dX12_order_67 : decode cX12_order 67 = .ok (.iload 9, 2) := by decide +kernel
theorem dX12_order_69 : decode cX12_order 69 = .ok (.aload_n 0, 1) := by decide +kernel
theorem dX12_order_70 : decode cX12_order 70 = .ok (.getfield 7, 3) := by decide +kernel
theorem dX12_order_73 : decode cX12_order 73 = .ok (.iconst 0, 1) := by decide +kernel
theorem dX12_order_74 : decode cX12_order 74 = .ok (.iaload, 1) := by decide +kernel
theorem dX12_order_75 : decode cX12_order 75 = .ok (.if_icmp .ge 72, 3) := by decide +kernel
theorem dX12_order_78 : decode cX12_order 78 = .ok (.iload 7, 2) := by decide +kernel
theorem dX12_order_80 : decode cX12_order 80 = .ok (.ifCond .ge 67, 3) := by decide +kernel
theorem dX12_order_83 : decode cX12_order 83 = .ok (.iload 5, 2) := by decide +kernel
theorem dX12_order_85 : decode cX12_order 85 = .ok (.iload 9, 2) := by decide +kernel
theorem dX12_order_87 : decode cX12_order 87 = .ok (.invokestatic 170, 3) := by decide +kernel
theorem dX12_order_90 : decode cX12_order 90 = .ok (.ifCond .eq 15, 3) := by decide +kernel
theorem dX12_order_93 : decode cX12_order 93 = .ok (.aload_n 0, 1) := by decide +kernel
theorem dX12_order_94 : decode cX12_order 94 = .ok (.iload 9, 2) := by decide +kernel
theorem dX12_order_96 : decode cX12_order 96 = .ok (.iload 6, 2) := by decide +kernel
theorem dX12_order_98 : decode cX12_order 98 = .ok (.i2l, 1) := by decide +kernel
theorem dX12_order_99 : decode cX12_order 99 = .ok (.invokevirtual 144, 3) := by decide +kernel
theorem dX12_order_102 : decode cX12_order 102 = .ok (.goto 4, 3) := by decide +kernel
theorem dX12_order_105 : decode cX12_order 105 = .ok (.iconst (-1), 1) := by decide +kernel
theorem dX12_order_106 : decode cX12_order 106 = .ok (.istore 10, 2) := by decide +kernel
theorem dX12_order_108 : decode cX12_order 108 = .ok (.iload 10, 2) := by decide +kernel
theorem dX12_order_110 : decode cX12_order 110 = .ok (.ifCond .lt 28, 3) := by decide +kernel
theorem dX12_order_113 : decode cX12_order 113 = .ok (.aload_n 0, 1) := by decide +kernel
theorem dX12_order_114 : decode cX12_order 114 = .ok (.iload 10, 2) := by decide +kernel
theorem dX12_order_116 : decode cX12_order 116 = .ok (.iload 5, 2) := by decide +kernel
theorem dX12_order_118 : decode cX12_order 118 = .ok (.iconst 1, 1) := by decide +kernel
theorem dX12_order_119 : decode cX12_order 119 = .ok (.iload 9, 2) := by decide +kernel
theorem dX12_order_121 : decode cX12_order 121 = .ok (.ishl, 1) := by decide +kernel
theorem dX12_order_122 : decode cX12_order 122 = .ok (.iconst (-1), 1) := by decide +kernel
theorem dX12_order_123 : decode cX12_order 123 = .ok (.ixor, 1) := by decide +kernel
theorem dX12_order_124 : decode cX12_order 124 = .ok (.iand, 1) := by decide +kernel
theorem dX12_order_125 : decode cX12_order 125 = .ok (.invokevirtual 176, 3) := by decide +kernel
theorem dX12_order_128 : decode cX12_order 128 = .ok (.iload 4, 2) := by decide +kernel
theorem dX12_order_130 : decode cX12_order 130 = .ok (.if_icmp .ne 8, 3) := by decide +kernel
theorem dX12_order_133 : decode cX12_order 133 = .ok (.iload 9, 2) := by decide +kernel
theorem dX12_order_135 : decode cX12_order 135 = .ok (.goto 4, 3) := by decide +kernel
theorem dX12_order_138 : decode cX12_order 138 = .ok (.iconst (-1), 1) := by decide +kernel
theorem dX12_order_139 : decode cX12_order 139 = .ok (.istore 7, 2) := by decide +kernel
theorem dX12_order_141 : decode cX12_order 141 = .ok (.iinc 9 1, 3) := by decide +kernel
theorem dX12_order_144 : decode cX12_order 144 = .ok (.goto (-77), 3) := by decide +kernel
theorem dX12_order_147 : decode cX12_order 147 = .ok (.iload 7, 2) := by decide +kernel
theorem dX12_order_149 : decode cX12_order 149 = .ok (.ifCond .ge 6, 3) := by decide +kernel
theorem dX12_order_152 : decode cX12_order 152 = .ok (.bipush (-3), 2) := by decide +kernel
theorem dX12_order_154 : decode cX12_order 154 = .ok (.ireturn, 1) := by decide +kernel
theorem dX12_order_155 : decode cX12_order 155 = .ok (.aload_n 0, 1) := by decide +kernel
theorem dX12_order_156 : decode cX12_order 156 = .ok (.iload 7, 2) := by decide +kernel
theorem dX12_order_158 : decode cX12_order 158 = .ok (.iload 6, 2) := by decide +kernel
theorem dX12_order_160 : decode cX12_order 160 = .ok (.i2l, 1) := by decide +kernel
theorem dX12_order_161 : decode cX12_order 161 = .ok (.invokevirtual 144, 3) := by decide +kernel
theorem dX12_order_164 : decode cX12_order 164 = .ok (.istore 6, 2) := by decide +kernel
theorem dX12_order_166 : decode cX12_order 166 = .ok (.iload 5, 2) := by decide +kernel
theorem dX12_order_168 : decode cX12_order 168 = .ok (.iconst 1, 1) := by decide +kernel
theorem dX12_order_169 : decode cX12_order 169 = .ok (.iload 7, 2) := by decide +kernel
theorem dX12_order_171 : decode cX12_order 171 = .ok (.ishl, 1) := by decide +kernel
theorem dX12_order_172 : decode cX12_order 172 = .ok (.iconst (-1), 1) := by decide +kernel
theorem dX12_order_173 : decode cX12_order 173 = .ok (.ixor, 1) := by decide +kernel
theorem dX12_order_174 : decode cX12_order 174 = .ok (.iand, 1) := by decide +kernel
theorem dX12_order_175 : decode cX12_order 175 = .ok (.istore 5, 2) := by decide +kernel
theorem dX12_order_177 : decode cX12_order 177 = .ok (.iinc 8 1, 3) := by decide +kernel
theorem dX12_order_180 : decode cX12_order 180 = .ok (.goto (-130), 3) := by decide +kernel
theorem dX12_order_183 : decode cX12_order 183 = .ok (.iload 7, 2) := by decide +kernel
theorem dX12_order_185 : decode cX12_order 185 = .ok (.invokestatic 158, 3) := by decide +kernel
theorem dX12_order_188 : decode cX12_order 188 = .ok (.ireturn, 1) := by decide +kernel
theorem dX12_poor_0 : decode cX12_poor 0 = .ok (.aload_n 0, 1) := by decide +kernel
theorem dX12_poor_1 : decode cX12_poor 1 = .ok (.iload_n 1, 1) := by decide +kernel
theorem dX12_poor_2 : decode cX12_poor 2 = .ok (.invokevirtual 173, 3) := by decide +kernel
theorem dX12_poor_5 : decode cX12_poor 5 = .ok (.ifCond .ne 5, 3) := by decide +kernel
theorem dX12_poor_8 : decode cX12_poor 8 = .ok (.iconst (-1), 1) := by decide +kernel
theorem dX12_poor_9 : decode cX12_poor 9 = .ok (.ireturn, 1) := by decide +kernel
theorem dX12_poor_10 : decode cX12_poor 10 = .ok (.aload_n 0, 1) := by decide +kernel
theorem dX12_poor_11 : decode cX12_poor 11 = .ok (.ldc 126, 2) := by decide +kernel
theorem dX12_poor_13 : decode cX12_poor 13 = .ok (.iload_n 1, 1) := by decide +kernel
theorem dX12_poor_14 : decode cX12_poor 14 = .ok (.invokevirtual 176, 3) := by decide +kernel
theorem dX12_poor_17 : decode cX12_poor 17 = .ok (.ifCond .ge 6, 3) := by decide +kernel
theorem dX12_poor_20 : decode cX12_poor 20 = .ok (.bipush (-3), 2) := by decide +kernel
theorem dX12_poor_22 : decode cX12_poor 22 = .ok (.ireturn, 1) := by decide +kernel
theorem dX12_poor_23 : decode cX12_poor 23 = .ok (.iconst (-1), 1) := by decide +kernel
theorem dX12_poor_24 : decode cX12_poor 24 = .ok (.istore_n 2, 1) := by decide +kernel
theorem dX12_poor_25 : decode cX12_poor 25 = .ok (.ldc 126, 2) := by decide +kernel
theorem dX12_poor_27 : decode cX12_poor 27 = .ok (.istore_n 3, 1) := by decide +kernel
theorem dX12_poor_28 : decode cX12_poor 28 = .ok (.iload_n 3, 1) := by decide +kernel
theorem dX12_poor_29 : decode cX12_poor 29 = .ok (.iload_n 2, 1) := by decide +kernel
theorem dX12_poor_30 : decode cX12_poor 30 = .ok (.isub, 1) := by decide +kernel
theorem dX12_poor_31 : decode cX12_poor 31 = .ok (.iconst 1, 1) := by decide +kernel
theorem dX12_poor_32 : decode cX12_poor 32 = .ok (.if_icmp .le 32, 3) := by decide +kernel
theorem dX12_poor_35 : decode cX12_poor 35 = .ok (.iload_n 2, 1) := by decide +kernel
theorem dX12_poor_36 : decode cX12_poor 36 = .ok (.iload_n 3, 1) := by decide +kernel
theorem dX12_poor_37 : decode cX12_poor 37 = .ok (.iadd, 1) := by decide +kernel
theorem dX12_poor_38 : decode cX12_poor 38 = .ok (.iconst 2, 1) := by decide +kernel
theorem dX12_poor_39 : decode cX12_poor 39 = .ok (.idiv, 1) := by decide +kernel
theorem dX12_poor_40 : decode cX12_poor 40 = .ok (.istore 4, 2) := by decide +kernel
theorem dX12_poor_42 : decode cX12_poor 42 = .ok (.aload_n 0, 1) := by decide +kernel
theorem dX12_poor_43 : decode cX12_poor 43 = .ok (.iload 4, 2) := by decide +kernel
theorem dX12_poor_45 : decode cX12_poor 45 = .ok (.iload_n 1, 1) := by decide +kernel
theorem dX12_poor_46 : decode cX12_poor 46 = .ok (.invokevirtual 176, 3) := by decide +kernel
theorem dX12_poor_49 : decode cX12_poor 49 = .ok (.ifCond .ge 9, 3) := by decide +kernel
theorem dX12_poor_52 : decode cX12_poor 52 = .ok (.iload 4, 2) := by decide +kernel
theorem dX12_poor_54 : decode cX12_poor 54 = .ok (.istore_n 2, 1) := by decide +kernel
theorem dX12_poor_55 : decode cX12_poor 55 = .ok (.goto 6, 3) := by decide +kernel
theorem dX12_poor_58 : decode cX12_poor 58 = .ok (.iload 4, 2) := by decide +kernel
theorem dX12_poor_60 : decode cX12_poor 60 = .ok (.istore_n 3, 1) := by decide +kernel
theorem dX12_poor_61 : decode cX12_poor 61 = .ok (.goto (-33), 3) := by decide +kernel
theorem dX12_poor_64 : decode cX12_poor 64 = .ok (.iload_n 3, 1) := by decide +kernel
theorem dX12_poor_65 : decode cX12_poor 65 = .ok (.ireturn, 1) := by decide +kernel
theorem dX12_stepped_0 : decode cX12_stepped 0 = .ok (.iconst (-1), 1) := by decide +kernel
theorem dX12_stepped_1 : decode cX12_stepped 1 = .ok (.istore_n 2, 1) := by decide +kernel
theorem dX12_stepped_2 : decode cX12_stepped 2 = .ok (.iconst 0, 1) := by decide +kernel
theorem dX12_stepped_3 : decode cX12_stepped 3 = .ok (.istore_n 3, 1) := by decide +kernel
theorem dX12_stepped_4 : decode cX12_stepped 4 = .ok (.iload_n 3, 1) := by decide +kernel
theorem dX12_stepped_5 : decode cX12_stepped 5 = .ok (.aload_n 0, 1) := by decide +kernel
theorem dX12_stepped_6 : decode cX12_stepped 6 = .ok (.getfield 7, 3) := by decide +kernel
theorem dX12_stepped_9 : decode cX12_stepped 9 = .ok (.iconst 0, 1) := by decide +kernel
theorem dX12_stepped_10 : decode cX12_stepped 10 = .ok (.iaload, 1) := by decide +kernel
theorem dX12_stepped_11 : decode cX12_stepped 11 = .ok (.if_icmp .ge 35, 3) := by decide +kernel
theorem dX12_stepped_14 : decode cX12_stepped 14 = .ok (.iload_n 1, 1) := by decide +kernel
theorem dX12_stepped_15 : decode cX12_stepped 15 = .ok (.ifCond .lt 31, 3) := by decide +kernel
theorem dX12_stepped_18 : decode cX12_stepped 18 = .ok (.aload_n 0, 1) := by decide +kernel
theorem dX12_stepped_19 : decode cX12_stepped 19 = .ok (.iload_n 3, 1) := by decide +kernel
theorem dX12_stepped_20 : decode cX12_stepped 20 = .ok (.iload_n 1, 1) := by decide +kernel
theorem dX12_stepped_21 : decode cX12_stepped 21 = .ok (.i2l, 1) := by decide +kernel
theorem dX12_stepped_22 : decode cX12_stepped 22 = .ok (.invokevirtual 144, 3) := by decide +kernel
theorem dX12_stepped_25 : decode cX12_stepped 25 = .ok (.istore 4, 2) := by decide +kernel
theorem dX12_stepped_27 : decode cX12_stepped 27 = .ok (.iload 4, 2) := by decide +kernel
theorem dX12_stepped_29 : decode cX12_stepped 29 = .ok (.iload_n 2, 1) := by decide +kernel
theorem dX12_stepped_30 : decode cX12_stepped 30 = .ok (.if_icmp .le 8, 3) := by decide +kernel
theorem dX12_stepped_33 : decode cX12_stepped 33 = .ok (.iload 4, 2) := by decide +kernel
theorem dX12_stepped_35 : decode cX12_stepped 35 = .ok (.goto 4, 3) := by decide +kernel
theorem dX12_stepped_38 : decode cX12_stepped 38 = .ok (.iload_n 2, 1) := by decide +kernel
theorem dX12_stepped_39 : decode cX12_stepped 39 = .ok (.istore_n 2, 1) := by decide +kernel
theorem dX12_stepped_40 : decode cX12_stepped 40 = .ok (.iinc 3 1, 3) := by decide +kernel
theorem dX12_stepped_43 : decode cX12_stepped 43 = .ok (.goto (-39), 3) := by decide +kernel
theorem dX12_stepped_46 : decode cX12_stepped 46 = .ok (.iload_n 2, 1) := by decide +kernel
theorem dX12_stepped_47 : decode cX12_stepped 47 = .ok (.ireturn, 1) := by decide +kernel
theorem dX12_fastest_0 : decode cX12_fastest 0 = .ok (.iconst 0, 1) := by decide +kernel
theorem dX12_fastest_1 : decode cX12_fastest 1 = .ok (.istore_n 3, 1) := by decide +kernel
theorem dX12_fastest_2 : decode cX12_fastest 2 = .ok (.iload_n 1, 1) := by decide +kernel
theorem dX12_fastest_3 : decode cX12_fastest 3 = .ok (.istore 4, 2) := by decide +kernel
theorem dX12_fastest_5 : decode cX12_fastest 5 = .ok (.iload_n 3, 1) := by decide +kernel
theorem dX12_fastest_6 : decode cX12_fastest 6 = .ok (.bipush 61, 2) := by decide +kernel
theorem dX12_fastest_8 : decode cX12_fastest 8 = .ok (.if_icmp .ge 28, 3) := by decide +kernel
theorem dX12_fastest_11 : decode cX12_fastest 11 = .ok (.iload 4, 2) := by decide +kernel
theorem dX12_fastest_13 : decode cX12_fastest 13 = .ok (.ifCond .lt 23, 3) := by decide +kernel
theorem dX12_fastest_16 : decode cX12_fastest 16 = .ok (.iload 4, 2) := by decide +kernel
theorem dX12_fastest_18 : decode cX12_fastest 18 = .ok (.iload_n 2, 1) := by decide +kernel
theorem dX12_fastest_19 : decode cX12_fastest 19 = .ok (.if_icmp .ge 17, 3) := by decide +kernel
theorem dX12_fastest_22 : decode cX12_fastest 22 = .ok (.aload_n 0, 1) := by decide +kernel
theorem dX12_fastest_23 : decode cX12_fastest 23 = .ok (.iload 4, 2) := by decide +kernel
theorem dX12_fastest_25 : decode cX12_fastest 25 = .ok (.invokevirtual 181, 3) := by decide +kernel
theorem dX12_fastest_28 : decode cX12_fastest 28 = .ok (.istore 4, 2) := by decide +kernel
theorem dX12_fastest_30 : decode cX12_fastest 30 = .ok (.iinc 3 1, 3) := by decide +kernel
theorem dX12_fastest_33 : decode cX12_fastest 33 = .ok (.goto (-28), 3) := by decide +kernel
theorem dX12_fastest_36 : decode cX12_fastest 36 = .ok (.iload_n 3, 1) := by decide +kernel
theorem dX12_fastest_37 : decode cX12_fastest 37 = .ok (.bipush 60, 2) := by decide +kernel
theorem dX12_fastest_39 : decode cX12_fastest 39 = .ok (.if_icmp .gt 8, 3) := by decide +kernel
theorem dX12_fastest_42 : decode cX12_fastest 42 = .ok (.iload 4, 2) := by decide +kernel
theorem dX12_fastest_44 : decode cX12_fastest 44 = .ok (.ifCond .ge 7, 3) := by decide +kernel
theorem dX12_fastest_47 : decode cX12_fastest 47 = .ok (.iconst (-1), 1) := by decide +kernel
theorem dX12_fastest_48 : decode cX12_fastest 48 = .ok (.goto 4, 3) := by decide +kernel
theorem dX12_fastest_51 : decode cX12_fastest 51 = .ok (.iload_n 3, 1) := by decide +kernel
theorem dX12_fastest_52 : decode cX12_fastest 52 = .ok (.ireturn, 1) := by decide +kernel
theorem dX12_fast_0 : decode cX12_fast 0 = .ok (.iload_n 1, 1) := by decide +kernel
theorem dX12_fast_1 : decode cX12_fast 1 = .ok (.i2l, 1) := by decide +kernel
theorem dX12_fast_2 : decode cX12_fast 2 = .ok (.invokestatic 134, 3) := by decide +kernel
theorem dX12_fast_5 : decode cX12_fast 5 = .ok (.ifCond .eq 23, 3) := by decide +kernel
theorem dX12_fast_8 : decode cX12_fast 8 = .ok (.iload_n 2, 1) := by decide +kernel
theorem dX12_fast_9 : decode cX12_fast 9 = .ok (.i2l, 1) := by decide +kernel
theorem dX12_fast_10 : decode cX12_fast 10 = .ok (.invokestatic 134, 3) := by decide +kernel
theorem dX12_fast_13 : decode cX12_fast 13 = .ok (.ifCond .eq 15, 3) := by decide +kernel
theorem dX12_fast_16 : decode cX12_fast 16 = .ok (.aload_n 0, 1) := by decide +kernel
theorem dX12_fast_17 : decode cX12_fast 17 = .ok (.iload_n 1, 1) := by decide +kernel
theorem dX12_fast_18 : decode cX12_fast 18 = .ok (.iload_n 2, 1) := by decide +kernel
theorem dX12_fast_19 : decode cX12_fast 19 = .ok (.invokevirtual 184, 3) := by decide +kernel
theorem dX12_fast_22 : decode cX12_fast 22 = .ok (.invokestatic 158, 3) := by decide +kernel
theorem dX12_fast_25 : decode cX12_fast 25 = .ok (.goto 4, 3) := by decide +kernel
theorem dX12_fast_28 : decode cX12_fast 28 = .ok (.iconst (-1), 1) := by decide +kernel
theorem dX12_fast_29 : decode cX12_fast 29 = .ok (.ireturn, 1) := by decide +kernel
theorem dX12_isReached_0 : decode cX12_isReached 0 = .ok (.iload_n 1, 1) := by decide +kernel
theorem dX12_isReached_1 : decode cX12_isReached 1 = .ok (.istore 4, 2) := by decide +kernel
theorem dX12_isReached_3 : decode cX12_isReached 3 = .ok (.iconst 0, 1) := by decide +kernel
theorem dX12_isReached_4 : decode cX12_isReached 4 = .ok (.istore 5, 2) := by decide +kernel
theorem dX12_isReached_6 : decode cX12_isReached 6 = .ok (.iload 5, 2) := by decide +kernel
theorem dX12_isReached_8 : decode cX12_isReached 8 = .ok (.iload_n 3, 1) := by decide +kernel
theorem dX12_isReached_9 : decode cX12_isReached 9 = .ok (.if_icmp .ge 17, 3) := by decide +kernel
theorem dX12_isReached_12 : decode cX12_isReached 12 = .ok (.aload_n 0, 1) := by decide +kernel
theorem dX12_isReached_13 : decode cX12_isReached 13 = .ok (.iload 4, 2) := by decide +kernel
theorem dX12_isReached_15 : decode cX12_isReached 15 = .ok (.invokevirtual 181, 3) := by decide +kernel
theorem dX12_isReached_18 : decode cX12_isReached 18 = .ok (.istore 4, 2) := by decide +kernel
theorem dX12_isReached_20 : decode cX12_isReached 20 = .ok (.iinc 5 1, 3) := by decide +kernel
theorem dX12_isReached_23 : decode cX12_isReached 23 = .ok (.goto (-17), 3) := by decide +kernel
theorem dX12_isReached_26 : decode cX12_isReached 26 = .ok (.iload 4, 2) := by decide +kernel
theorem dX12_isReached_28 : decode cX12_isReached 28 = .ok (.iload_n 2, 1) := by decide +kernel
theorem dX12_isReached_29 : decode cX12_isReached 29 = .ok (.if_icmp .lt 7, 3) := by decide +kernel
theorem dX12_isReached_32 : decode cX12_isReached 32 = .ok (.iconst 1, 1) := by decide +kernel
theorem dX12_isReached_33 : decode cX12_isReached 33 = .ok (.goto 4, 3) := by decide +kernel
theorem dX12_isReached_36 : decode cX12_isReached 36 = .ok (.iconst 0, 1) := by decide +kernel
theorem dX12_isReached_37 : decode cX12_isReached 37 = .ok (.ireturn, 1) := by decide +kernel
theorem dX12_by_0 : decode cX12_by 0 = .ok (.iload_n 1, 1) := by decide +kernel
theorem dX12_by_1 : decode cX12_by 1 = .ok (.i2l, 1) := by decide +kernel
theorem dX12_by_2 : decode cX12_by 2 = .ok (.invokestatic 134, 3) := by decide +kernel
theorem dX12_by_5 : decode cX12_by 5 = .ok (.ifCond .eq 23, 3) := by decide +kernel
theorem dX12_by_8 : decode cX12_by 8 = .ok (.iload_n 2, 1) := by decide +kernel
theorem dX12_by_9 : decode cX12_by 9 = .ok (.i2l, 1) := by decide +kernel
theorem dX12_by_10 : decode cX12_by 10 = .ok (.invokestatic 134, 3) := by decide +kernel
theorem dX12_by_13 : decode cX12_by 13 = .ok (.ifCond .eq 15, 3) := by decide +kernel
theorem dX12_by_16 : decode cX12_by 16 = .ok (.iload_n 3, 1) := by decide +kernel
theorem dX12_by_17 : decode cX12_by 17 = .ok (.i2l, 1) := by decide +kernel
theorem dX12_by_18 : decode cX12_by 18 = .ok (.lconst 0, 1) := by decide +kernel
theorem dX12_by_19 : decode cX12_by 19 = .ok (.ldc2_w 187, 3) := by decide +kernel
theorem dX12_by_22 : decode cX12_by 22 = .ok (.invokestatic 67, 3) := by decide +kernel
theorem dX12_by_25 : decode cX12_by 25 = .ok (.ifCond .ne 5, 3) := by decide +kernel
theorem dX12_by_28 : decode cX12_by 28 = .ok (.iconst (-1), 1) := by decide +kernel
theorem dX12_by_29 : decode cX12_by 29 = .ok (.ireturn, 1) := by decide +kernel
theorem dX12_by_30 : decode cX12_by 30 = .ok (.aload_n 0, 1) := by decide +kernel
theorem dX12_by_31 : decode cX12_by 31 = .ok (.iload_n 1, 1) := by decide +kernel
theorem dX12_by_32 : decode cX12_by 32 = .ok (.iload_n 2, 1) := by decide +kernel
theorem dX12_by_33 : decode cX12_by 33 = .ok (.invokevirtual 184, 3) := by decide +kernel
theorem dX12_by_36 : decode cX12_by 36 = .ok (.istore 4, 2) := by decide +kernel
theorem dX12_by_38 : decode cX12_by 38 = .ok (.iload_n 1, 1) := by decide +kernel
theorem dX12_by_39 : decode cX12_by 39 = .ok (.istore 5, 2) := by decide +kernel
theorem dX12_by_41 : decode cX12_by 41 = .ok (.iconst (-1), 1) := by decide +kernel
theorem dX12_by_42 : decode cX12_by 42 = .ok (.istore 6, 2) := by decide +kernel
theorem dX12_by_44 : decode cX12_by 44 = .ok (.iconst 0, 1) := by decide +kernel
theorem dX12_by_45 : decode cX12_by 45 = .ok (.istore 7, 2) := by decide +kernel
theorem dX12_by_47 : decode cX12_by 47 = .ok (.iload 7, 2) := by decide +kernel
theorem dX12_by_49 : decode cX12_by 49 = .ok (.iload_n 3, 1) := by decide +kernel
theorem dX12_by_50 : decode cX12_by 50 = .ok (.if_icmp .gt 95, 3) := by decide +kernel
theorem dX12_by_53 : decode cX12_by 53 = .ok (.iload_n 3, 1) := by decide +kernel
theorem dX12_by_54 : decode cX12_by 54 = .ok (.iload 4, 2) := by decide +kernel
theorem dX12_by_56 : decode cX12_by 56 = .ok (.if_icmp .ge 89, 3) := by decide +kernel
theorem dX12_by_59 : decode cX12_by 59 = .ok (.iconst (-1), 1) := by decide +kernel
theorem dX12_by_60 : decode cX12_by 60 = .ok (.istore 6, 2) := by decide +kernel
theorem dX12_by_62 : decode cX12_by 62 = .ok (.iconst 0, 1) := by decide +kernel
theorem dX12_by_63 : decode cX12_by 63 = .ok (.istore 8, 2) := by decide +kernel
theorem dX12_by_65 : decode cX12_by 65 = .ok (.iload 8, 2) := by decide +kernel
theorem dX12_by_67 : decode cX12_by 67 = .ok (.aload_n 0, 1) := by decide +kernel
theorem dX12_by_68 : decode cX12_by 68 = .ok (.getfield 7, 3) := by decide +kernel
theorem dX12_by_71 : decode cX12_by 71 = .ok (.iconst 0, 1) := by decide +kernel
theorem dX12_by_72 : decode cX12_by 72 = .ok (.iaload, 1) := by decide +kernel
theorem dX12_by_73 : decode cX12_by 73 = .ok (.if_icmp .ge 55, 3) := by decide +kernel
theorem dX12_by_76 : decode cX12_by 76 = .ok (.iload 6, 2) := by decide +kernel
theorem dX12_by_78 : decode cX12_by 78 = .ok (.ifCond .ge 50, 3) := by decide +kernel
theorem dX12_by_81 : decode cX12_by 81 = .ok (.aload_n 0, 1) := by decide +kernel
theorem dX12_by_82 : decode cX12_by 82 = .ok (.iload 8, 2) := by decide +kernel
theorem dX12_by_84 : decode cX12_by 84 = .ok (.iload 5, 2) := by decide +kernel
theorem dX12_by_86 : decode cX12_by 86 = .ok (.i2l, 1) := by decide +kernel
theorem dX12_by_87 : decode cX12_by 87 = .ok (.invokevirtual 144, 3) := by decide +kernel
theorem dX12_by_90 : decode cX12_by 90 = .ok (.istore 9, 2) := by decide +kernel
theorem dX12_by_92 : decode cX12_by 92 = .ok (.iload 9, 2) := by decide +kernel
theorem dX12_by_94 : decode cX12_by 94 = .ok (.ifCond .lt 25, 3) := by decide +kernel
theorem dX12_by_97 : decode cX12_by 97 = .ok (.aload_n 0, 1) := by decide +kernel
theorem dX12_by_98 : decode cX12_by 98 = .ok (.iload 9, 2) := by decide +kernel
theorem dX12_by_100 : decode cX12_by 100 = .ok (.iload_n 2, 1) := by decide +kernel
theorem dX12_by_101 : decode cX12_by 101 = .ok (.iload 4, 2) := by decide +kernel
theorem dX12_by_103 : decode cX12_by 103 = .ok (.iload 7, 2) := by decide +kernel
theorem dX12_by_105 : decode cX12_by 105 = .ok (.isub, 1) := by decide +kernel
theorem dX12_by_106 : decode cX12_by 106 = .ok (.iconst 1, 1) := by decide +kernel
theorem dX12_by_107 : decode cX12_by 107 = .ok (.isub, 1) := by decide +kernel
theorem dX12_by_108 : decode cX12_by 108 = .ok (.invokevirtual 189, 3) := by decide +kernel
theorem dX12_by_111 : decode cX12_by 111 = .ok (.ifCond .eq 8, 3) := by decide +kernel
theorem dX12_by_114 : decode cX12_by 114 = .ok (.iload 8, 2) := by decide +kernel
theorem dX12_by_116 : decode cX12_by 116 = .ok (.goto 4, 3) := by decide +kernel
theorem dX12_by_119 : decode cX12_by 119 = .ok (.iconst (-1), 1) := by decide +kernel
theorem dX12_by_120 : decode cX12_by 120 = .ok (.istore 6, 2) := by decide +kernel
theorem dX12_by_122 : decode cX12_by 122 = .ok (.iinc 8 1, 3) := by decide +kernel
theorem dX12_by_125 : decode cX12_by 125 = .ok (.goto (-60), 3) := by decide +kernel
theorem dX12_by_128 : decode cX12_by 128 = .ok (.aload_n 0, 1) := by decide +kernel
theorem dX12_by_129 : decode cX12_by 129 = .ok (.iload 6, 2) := by decide +kernel
theorem dX12_by_131 : decode cX12_by 131 = .ok (.iload 5, 2) := by decide +kernel
theorem dX12_by_133 : decode cX12_by 133 = .ok (.i2l, 1) := by decide +kernel
theorem dX12_by_134 : decode cX12_by 134 = .ok (.invokevirtual 144, 3) := by decide +kernel
theorem dX12_by_137 : decode cX12_by 137 = .ok (.istore 5, 2) := by decide +kernel
theorem dX12_by_139 : decode cX12_by 139 = .ok (.iinc 7 1, 3) := by decide +kernel
theorem dX12_by_142 : decode cX12_by 142 = .ok (.goto (-95), 3) := by decide +kernel
theorem dX12_by_145 : decode cX12_by 145 = .ok (.iload 6, 2) := by decide +kernel
theorem dX12_by_147 : decode cX12_by 147 = .ok (.invokestatic 158, 3) := by decide +kernel
theorem dX12_by_150 : decode cX12_by 150 = .ok (.ireturn, 1) := by decide +kernel
theorem dX12_both_0 : decode cX12_both 0 = .ok (.aload_n 0, 1) := by decide +kernel
theorem dX12_both_1 : decode cX12_both 1 = .ok (.iload_n 1, 1) := by decide +kernel
theorem dX12_both_2 : decode cX12_both 2 = .ok (.iload_n 3, 1) := by decide +kernel
theorem dX12_both_3 : decode cX12_both 3 = .ok (.i2l, 1) := by decide +kernel
theorem dX12_both_4 : decode cX12_both 4 = .ok (.invokevirtual 144, 3) := by decide +kernel
theorem dX12_both_7 : decode cX12_both 7 = .ok (.istore 4, 2) := by decide +kernel
theorem dX12_both_9 : decode cX12_both 9 = .ok (.iload 4, 2) := by decide +kernel
theorem dX12_both_11 : decode cX12_both 11 = .ok (.ifCond .ge 7, 3) := by decide +kernel
theorem dX12_both_14 : decode cX12_both 14 = .ok (.iconst (-1), 1) := by decide +kernel
theorem dX12_both_15 : decode cX12_both 15 = .ok (.goto 11, 3) := by decide +kernel
theorem dX12_both_18 : decode cX12_both 18 = .ok (.aload_n 0, 1) := by decide +kernel
theorem dX12_both_19 : decode cX12_both 19 = .ok (.iload_n 2, 1) := by decide +kernel
theorem dX12_both_20 : decode cX12_both 20 = .ok (.iload 4, 2) := by decide +kernel
theorem dX12_both_22 : decode cX12_both 22 = .ok (.i2l, 1) := by decide +kernel
theorem dX12_both_23 : decode cX12_both 23 = .ok (.invokevirtual 144, 3) := by decide +kernel
theorem dX12_both_26 : decode cX12_both 26 = .ok (.ireturn, 1) := by decide +kernel
theorem dX12_swap_0 : decode cX12_swap 0 = .ok (.aload_n 0, 1) := by decide +kernel
theorem dX12_swap_1 : decode cX12_swap 1 = .ok (.iload_n 1, 1) := by decide +kernel
theorem dX12_swap_2 : decode cX12_swap 2 = .ok (.invokevirtual 114, 3) := by decide +kernel
theorem dX12_swap_5 : decode cX12_swap 5 = .ok (.ifCond .eq 24, 3) := by decide +kernel
theorem dX12_swap_8 : decode cX12_swap 8 = .ok (.aload_n 0, 1) := by decide +kernel
theorem dX12_swap_9 : decode cX12_swap 9 = .ok (.iload_n 2, 1) := by decide +kernel
theorem dX12_swap_10 : decode cX12_swap 10 = .ok (.invokevirtual 114, 3) := by decide +kernel
theorem dX12_swap_13 : decode cX12_swap 13 = .ok (.ifCond .eq 16, 3) := by decide +kernel
theorem dX12_swap_16 : decode cX12_swap 16 = .ok (.iload_n 1, 1) := by decide +kernel
theorem dX12_swap_17 : decode cX12_swap 17 = .ok (.iload_n 2, 1) := by decide +kernel
theorem dX12_swap_18 : decode cX12_swap 18 = .ok (.if_icmp .eq 11, 3) := by decide +kernel
theorem dX12_swap_21 : decode cX12_swap 21 = .ok (.iload_n 3, 1) := by decide +kernel
theorem dX12_swap_22 : decode cX12_swap 22 = .ok (.i2l, 1) := by decide +kernel
theorem dX12_swap_23 : decode cX12_swap 23 = .ok (.invokestatic 134, 3) := by decide +kernel
theorem dX12_swap_26 : decode cX12_swap 26 = .ok (.ifCond .ne 5, 3) := by decide +kernel
theorem dX12_swap_29 : decode cX12_swap 29 = .ok (.iconst (-1), 1) := by decide +kernel
theorem dX12_swap_30 : decode cX12_swap 30 = .ok (.ireturn, 1) := by decide +kernel
theorem dX12_swap_31 : decode cX12_swap 31 = .ok (.aload_n 0, 1) := by decide +kernel
theorem dX12_swap_32 : decode cX12_swap 32 = .ok (.iload_n 1, 1) := by decide +kernel
theorem dX12_swap_33 : decode cX12_swap 33 = .ok (.iload_n 2, 1) := by decide +kernel
theorem dX12_swap_34 : decode cX12_swap 34 = .ok (.iload_n 3, 1) := by decide +kernel
theorem dX12_swap_35 : decode cX12_swap 35 = .ok (.invokevirtual 192, 3) := by decide +kernel
theorem dX12_swap_38 : decode cX12_swap 38 = .ok (.istore 4, 2) := by decide +kernel
theorem dX12_swap_40 : decode cX12_swap 40 = .ok (.aload_n 0, 1) := by decide +kernel
theorem dX12_swap_41 : decode cX12_swap 41 = .ok (.iload_n 2, 1) := by decide +kernel
theorem dX12_swap_42 : decode cX12_swap 42 = .ok (.iload_n 1, 1) := by decide +kernel
theorem dX12_swap_43 : decode cX12_swap 43 = .ok (.iload_n 3, 1) := by decide +kernel
theorem dX12_swap_44 : decode cX12_swap 44 = .ok (.invokevirtual 192, 3) := by decide +kernel
theorem dX12_swap_47 : decode cX12_swap 47 = .ok (.istore 5, 2) := by decide +kernel
theorem dX12_swap_49 : decode cX12_swap 49 = .ok (.iload 4, 2) := by decide +kernel
theorem dX12_swap_51 : decode cX12_swap 51 = .ok (.iload 5, 2) := by decide +kernel
theorem dX12_swap_53 : decode cX12_swap 53 = .ok (.if_icmp .le 7, 3) := by decide +kernel
theorem dX12_swap_56 : decode cX12_swap 56 = .ok (.iconst 1, 1) := by decide +kernel
theorem dX12_swap_57 : decode cX12_swap 57 = .ok (.goto 15, 3) := by decide +kernel
theorem dX12_swap_60 : decode cX12_swap 60 = .ok (.iload 4, 2) := by decide +kernel
theorem dX12_swap_62 : decode cX12_swap 62 = .ok (.iload 5, 2) := by decide +kernel
theorem dX12_swap_64 : decode cX12_swap 64 = .ok (.if_icmp .ge 7, 3) := by decide +kernel
theorem dX12_swap_67 : decode cX12_swap 67 = .ok (.iconst 2, 1) := by decide +kernel
theorem dX12_swap_68 : decode cX12_swap 68 = .ok (.goto 4, 3) := by decide +kernel
theorem dX12_swap_71 : decode cX12_swap 71 = .ok (.iconst 0, 1) := by decide +kernel
theorem dX12_swap_72 : decode cX12_swap 72 = .ok (.ireturn, 1) := by decide +kernel
theorem dX12_devil_0 : decode cX12_devil 0 = .ok (.aload_n 0, 1) := by decide +kernel
theorem dX12_devil_1 : decode cX12_devil 1 = .ok (.iload_n 1, 1) := by decide +kernel
theorem dX12_devil_2 : decode cX12_devil 2 = .ok (.invokevirtual 114, 3) := by decide +kernel
theorem dX12_devil_5 : decode cX12_devil 5 = .ok (.ifCond .eq 27, 3) := by decide +kernel
theorem dX12_devil_8 : decode cX12_devil 8 = .ok (.iload_n 2, 1) := by decide +kernel
theorem dX12_devil_9 : decode cX12_devil 9 = .ok (.i2l, 1) := by decide +kernel
theorem dX12_devil_10 : decode cX12_devil 10 = .ok (.lconst 0, 1) := by decide +kernel
theorem dX12_devil_11 : decode cX12_devil 11 = .ok (.ldc2_w 165, 3) := by decide +kernel
theorem dX12_devil_14 : decode cX12_devil 14 = .ok (.invokestatic 67, 3) := by decide +kernel
theorem dX12_devil_17 : decode cX12_devil 17 = .ok (.ifCond .eq 15, 3) := by decide +kernel
theorem dX12_devil_20 : decode cX12_devil 20 = .ok (.iload_n 3, 1) := by decide +kernel
theorem dX12_devil_21 : decode cX12_devil 21 = .ok (.i2l, 1) := by decide +kernel
theorem dX12_devil_22 : decode cX12_devil 22 = .ok (.lconst 1, 1) := by decide +kernel
theorem dX12_devil_23 : decode cX12_devil 23 = .ok (.ldc2_w 195, 3) := by decide +kernel
theorem dX12_devil_26 : decode cX12_devil 26 = .ok (.invokestatic 67, 3) := by decide +kernel
theorem dX12_devil_29 : decode cX12_devil 29 = .ok (.ifCond .ne 5, 3) := by decide +kernel
theorem dX12_devil_32 : decode cX12_devil 32 = .ok (.iconst (-1), 1) := by decide +kernel
theorem dX12_devil_33 : decode cX12_devil 33 = .ok (.ireturn, 1) := by decide +kernel
theorem dX12_devil_34 : decode cX12_devil 34 = .ok (.aload_n 0, 1) := by decide +kernel
theorem dX12_devil_35 : decode cX12_devil 35 = .ok (.iload_n 1, 1) := by decide +kernel
theorem dX12_devil_36 : decode cX12_devil 36 = .ok (.iconst 2, 1) := by decide +kernel
theorem dX12_devil_37 : decode cX12_devil 37 = .ok (.invokevirtual 87, 3) := by decide +kernel
theorem dX12_devil_40 : decode cX12_devil 40 = .ok (.istore 4, 2) := by decide +kernel
theorem dX12_devil_42 : decode cX12_devil 42 = .ok (.iconst (-1), 1) := by decide +kernel
theorem dX12_devil_43 : decode cX12_devil 43 = .ok (.istore 5, 2) := by decide +kernel
theorem dX12_devil_45 : decode cX12_devil 45 = .ok (.sipush 999, 3) := by decide +kernel
theorem dX12_devil_48 : decode cX12_devil 48 = .ok (.istore 6, 2) := by decide +kernel
theorem dX12_devil_50 : decode cX12_devil 50 = .ok (.iload 6, 2) := by decide +kernel
theorem dX12_devil_52 : decode cX12_devil 52 = .ok (.ifCond .lt 45, 3) := by decide +kernel
theorem dX12_devil_55 : decode cX12_devil 55 = .ok (.iload 5, 2) := by decide +kernel
theorem dX12_devil_57 : decode cX12_devil 57 = .ok (.ifCond .ge 40, 3) := by decide +kernel
theorem dX12_devil_60 : decode cX12_devil 60 = .ok (.aload_n 0, 1) := by decide +kernel
theorem dX12_devil_61 : decode cX12_devil 61 = .ok (.getfield 7, 3) := by decide +kernel
theorem dX12_devil_64 : decode cX12_devil 64 = .ok (.iload_n 1, 1) := by decide +kernel
theorem dX12_devil_65 : decode cX12_devil 65 = .ok (.iconst 2, 1) := by decide +kernel
theorem dX12_devil_66 : decode cX12_devil 66 = .ok (.invokestatic 71, 3) := by decide +kernel
theorem dX12_devil_69 : decode cX12_devil 69 = .ok (.iload 6, 2) := by decide +kernel
theorem dX12_devil_71 : decode cX12_devil 71 = .ok (.iastore, 1) := by decide +kernel
theorem dX12_devil_72 : decode cX12_devil 72 = .ok (.aload_n 0, 1) := by decide +kernel
theorem dX12_devil_73 : decode cX12_devil 73 = .ok (.iload_n 1, 1) := by decide +kernel
theorem dX12_devil_74 : decode cX12_devil 74 = .ok (.iload_n 2, 1) := by decide +kernel
theorem dX12_devil_75 : decode cX12_devil 75 = .ok (.iload_n 3, 1) := by decide +kernel
theorem dX12_devil_76 : decode cX12_devil 76 = .ok (.invokevirtual 154, 3) := by decide +kernel
theorem dX12_devil_79 : decode cX12_devil 79 = .ok (.iload_n 2, 1) := by decide +kernel
theorem dX12_devil_80 : decode cX12_devil 80 = .ok (.if_icmp .lt 8, 3) := by decide +kernel
theorem dX12_devil_83 : decode cX12_devil 83 = .ok (.iload 6, 2) := by decide +kernel
theorem dX12_devil_85 : decode cX12_devil 85 = .ok (.goto 4, 3) := by decide +kernel
theorem dX12_devil_88 : decode cX12_devil 88 = .ok (.iconst (-1), 1) := by decide +kernel
theorem dX12_devil_89 : decode cX12_devil 89 = .ok (.istore 5, 2) := by decide +kernel
theorem dX12_devil_91 : decode cX12_devil 91 = .ok (.iinc 6 (-1), 3) := by decide +kernel
theorem dX12_devil_94 : decode cX12_devil 94 = .ok (.goto (-44), 3) := by decide +kernel
theorem dX12_devil_97 : decode cX12_devil 97 = .ok (.aload_n 0, 1) := by decide +kernel
theorem dX12_devil_98 : decode cX12_devil 98 = .ok (.getfield 7, 3) := by decide +kernel
theorem dX12_devil_101 : decode cX12_devil 101 = .ok (.iload_n 1, 1) := by decide +kernel
theorem dX12_devil_102 : decode cX12_devil 102 = .ok (.iconst 2, 1) := by decide +kernel
theorem dX12_devil_103 : decode cX12_devil 103 = .ok (.invokestatic 71, 3) := by decide +kernel
theorem dX12_devil_106 : decode cX12_devil 106 = .ok (.iload 4, 2) := by decide +kernel
theorem dX12_devil_108 : decode cX12_devil 108 = .ok (.iastore, 1) := by decide +kernel
theorem dX12_devil_109 : decode cX12_devil 109 = .ok (.iload 5, 2) := by decide +kernel
theorem dX12_devil_111 : decode cX12_devil 111 = .ok (.invokestatic 158, 3) := by decide +kernel
theorem dX12_devil_114 : decode cX12_devil 114 = .ok (.ireturn, 1) := by decide +kernel
theorem dX12_rate_0 : decode cX12_rate 0 = .ok (.aload_n 0, 1) := by decide +kernel
theorem dX12_rate_1 : decode cX12_rate 1 = .ok (.iload_n 1, 1) := by decide +kernel
theorem dX12_rate_2 : decode cX12_rate 2 = .ok (.invokevirtual 114, 3) := by decide +kernel
theorem dX12_rate_5 : decode cX12_rate 5 = .ok (.ifCond .eq 27, 3) := by decide +kernel
theorem dX12_rate_8 : decode cX12_rate 8 = .ok (.iload_n 2, 1) := by decide +kernel
theorem dX12_rate_9 : decode cX12_rate 9 = .ok (.i2l, 1) := by decide +kernel
theorem dX12_rate_10 : decode cX12_rate 10 = .ok (.lconst 0, 1) := by decide +kernel
theorem dX12_rate_11 : decode cX12_rate 11 = .ok (.ldc2_w 165, 3) := by decide +kernel
theorem dX12_rate_14 : decode cX12_rate 14 = .ok (.invokestatic 67, 3) := by decide +kernel
theorem dX12_rate_17 : decode cX12_rate 17 = .ok (.ifCond .eq 15, 3) := by decide +kernel
theorem dX12_rate_20 : decode cX12_rate 20 = .ok (.iload_n 3, 1) := by decide +kernel
theorem dX12_rate_21 : decode cX12_rate 21 = .ok (.i2l, 1) := by decide +kernel
theorem dX12_rate_22 : decode cX12_rate 22 = .ok (.lconst 1, 1) := by decide +kernel
theorem dX12_rate_23 : decode cX12_rate 23 = .ok (.ldc2_w 165, 3) := by decide +kernel
theorem dX12_rate_26 : decode cX12_rate 26 = .ok (.invokestatic 67, 3) := by decide +kernel
theorem dX12_rate_29 : decode cX12_rate 29 = .ok (.ifCond .ne 5, 3) := by decide +kernel
theorem dX12_rate_32 : decode cX12_rate 32 = .ok (.iconst (-1), 1) := by decide +kernel
theorem dX12_rate_33 : decode cX12_rate 33 = .ok (.ireturn, 1) := by decide +kernel
theorem dX12_rate_34 : decode cX12_rate 34 = .ok (.aload_n 0, 1) := by decide +kernel
theorem dX12_rate_35 : decode cX12_rate 35 = .ok (.iload_n 1, 1) := by decide +kernel
theorem dX12_rate_36 : decode cX12_rate 36 = .ok (.iload_n 2, 1) := by decide +kernel
theorem dX12_rate_37 : decode cX12_rate 37 = .ok (.i2l, 1) := by decide +kernel
theorem dX12_rate_38 : decode cX12_rate 38 = .ok (.invokevirtual 144, 3) := by decide +kernel
theorem dX12_rate_41 : decode cX12_rate 41 = .ok (.istore 4, 2) := by decide +kernel
theorem dX12_rate_43 : decode cX12_rate 43 = .ok (.iload 4, 2) := by decide +kernel
theorem dX12_rate_45 : decode cX12_rate 45 = .ok (.ifCond .ge 6, 3) := by decide +kernel
theorem dX12_rate_48 : decode cX12_rate 48 = .ok (.bipush (-3), 2) := by decide +kernel
theorem dX12_rate_50 : decode cX12_rate 50 = .ok (.ireturn, 1) := by decide +kernel
theorem dX12_rate_51 : decode cX12_rate 51 = .ok (.aload_n 0, 1) := by decide +kernel
theorem dX12_rate_52 : decode cX12_rate 52 = .ok (.iload_n 1, 1) := by decide +kernel
theorem dX12_rate_53 : decode cX12_rate 53 = .ok (.iload_n 2, 1) := by decide +kernel
theorem dX12_rate_54 : decode cX12_rate 54 = .ok (.iload_n 3, 1) := by decide +kernel
theorem dX12_rate_55 : decode cX12_rate 55 = .ok (.iadd, 1) := by decide +kernel
theorem dX12_rate_56 : decode cX12_rate 56 = .ok (.i2l, 1) := by decide +kernel
theorem dX12_rate_57 : decode cX12_rate 57 = .ok (.invokevirtual 144, 3) := by decide +kernel
theorem dX12_rate_60 : decode cX12_rate 60 = .ok (.i2l, 1) := by decide +kernel
theorem dX12_rate_61 : decode cX12_rate 61 = .ok (.iload 4, 2) := by decide +kernel
theorem dX12_rate_63 : decode cX12_rate 63 = .ok (.i2l, 1) := by decide +kernel
theorem dX12_rate_64 : decode cX12_rate 64 = .ok (.lsub, 1) := by decide +kernel
theorem dX12_rate_65 : decode cX12_rate 65 = .ok (.iload_n 3, 1) := by decide +kernel
theorem dX12_rate_66 : decode cX12_rate 66 = .ok (.i2l, 1) := by decide +kernel
theorem dX12_rate_67 : decode cX12_rate 67 = .ok (.lsub, 1) := by decide +kernel
theorem dX12_rate_68 : decode cX12_rate 68 = .ok (.lstore 5, 2) := by decide +kernel
theorem dX12_rate_70 : decode cX12_rate 70 = .ok (.lload 5, 2) := by decide +kernel
theorem dX12_rate_72 : decode cX12_rate 72 = .ok (.ldc2_w 197, 3) := by decide +kernel
theorem dX12_rate_75 : decode cX12_rate 75 = .ok (.lmul, 1) := by decide +kernel
theorem dX12_rate_76 : decode cX12_rate 76 = .ok (.iload_n 3, 1) := by decide +kernel
theorem dX12_rate_77 : decode cX12_rate 77 = .ok (.i2l, 1) := by decide +kernel
theorem dX12_rate_78 : decode cX12_rate 78 = .ok (.ldiv, 1) := by decide +kernel
theorem dX12_rate_79 : decode cX12_rate 79 = .ok (.l2i, 1) := by decide +kernel
theorem dX12_rate_80 : decode cX12_rate 80 = .ok (.sipush 1000, 3) := by decide +kernel
theorem dX12_rate_83 : decode cX12_rate 83 = .ok (.iadd, 1) := by decide +kernel
theorem dX12_rate_84 : decode cX12_rate 84 = .ok (.ireturn, 1) := by decide +kernel
theorem dX12_findWorth_0 : decode cX12_findWorth 0 = .ok (.aload_n 0, 1) := by decide +kernel
theorem dX12_findWorth_1 : decode cX12_findWorth 1 = .ok (.iload_n 1, 1) := by decide +kernel
theorem dX12_findWorth_2 : decode cX12_findWorth 2 = .ok (.invokevirtual 118, 3) := by decide +kernel
theorem dX12_findWorth_5 : decode cX12_findWorth 5 = .ok (.aload_n 0, 1) := by decide +kernel
theorem dX12_findWorth_6 : decode cX12_findWorth 6 = .ok (.iload_n 1, 1) := by decide +kernel
theorem dX12_findWorth_7 : decode cX12_findWorth 7 = .ok (.iconst 0, 1) := by decide +kernel
theorem dX12_findWorth_8 : decode cX12_findWorth 8 = .ok (.invokevirtual 87, 3) := by decide +kernel
theorem dX12_findWorth_11 : decode cX12_findWorth 11 = .ok (.istore 5, 2) := by decide +kernel
theorem dX12_findWorth_13 : decode cX12_findWorth 13 = .ok (.aload_n 0, 1) := by decide +kernel
theorem dX12_findWorth_14 : decode cX12_findWorth 14 = .ok (.getfield 31, 3) := by decide +kernel
theorem dX12_findWorth_17 : decode cX12_findWorth 17 = .ok (.iconst 1, 1) := by decide +kernel
theorem dX12_findWorth_18 : decode cX12_findWorth 18 = .ok (.iload_n 2, 1) := by decide +kernel
theorem dX12_findWorth_19 : decode cX12_findWorth 19 = .ok (.iastore, 1) := by decide +kernel
theorem dX12_findWorth_20 : decode cX12_findWorth 20 = .ok (.iconst 1, 1) := by decide +kernel
theorem dX12_findWorth_21 : decode cX12_findWorth 21 = .ok (.istore 6, 2) := by decide +kernel
theorem dX12_findWorth_23 : decode cX12_findWorth 23 = .ok (.iload 6, 2) := by decide +kernel
theorem dX12_findWorth_25 : decode cX12_findWorth 25 = .ok (.iconst 1, 1) := by decide +kernel
theorem dX12_findWorth_26 : decode cX12_findWorth 26 = .ok (.iload 4, 2) := by decide +kernel
theorem dX12_findWorth_28 : decode cX12_findWorth 28 = .ok (.ishl, 1) := by decide +kernel
theorem dX12_findWorth_29 : decode cX12_findWorth 29 = .ok (.if_icmp .ge 107, 3) := by decide +kernel
theorem dX12_findWorth_32 : decode cX12_findWorth 32 = .ok (.aload_n 0, 1) := by decide +kernel
theorem dX12_findWorth_33 : decode cX12_findWorth 33 = .ok (.getfield 31, 3) := by decide +kernel
theorem dX12_findWorth_36 : decode cX12_findWorth 36 = .ok (.iload 6, 2) := by decide +kernel
theorem dX12_findWorth_38 : decode cX12_findWorth 38 = .ok (.iaload, 1) := by decide +kernel
theorem dX12_findWorth_39 : decode cX12_findWorth 39 = .ok (.ifCond .lt 10, 3) := by decide +kernel
theorem dX12_findWorth_42 : decode cX12_findWorth 42 = .ok (.aload_n 0, 1) := by decide +kernel
theorem dX12_findWorth_43 : decode cX12_findWorth 43 = .ok (.getfield 110, 3) := by decide +kernel
theorem dX12_findWorth_46 : decode cX12_findWorth 46 = .ok (.ifCond .ne 7, 3) := by decide +kernel
theorem dX12_findWorth_49 : decode cX12_findWorth 49 = .ok (.iconst (-1), 1) := by decide +kernel
theorem dX12_findWorth_50 : decode cX12_findWorth 50 = .ok (.goto 24, 3) := by decide +kernel
theorem dX12_findWorth_53 : decode cX12_findWorth 53 = .ok (.iload 5, 2) := by decide +kernel
theorem dX12_findWorth_55 : decode cX12_findWorth 55 = .ok (.aload_n 0, 1) := by decide +kernel
theorem dX12_findWorth_56 : decode cX12_findWorth 56 = .ok (.getfield 31, 3) := by decide +kernel
theorem dX12_findWorth_59 : decode cX12_findWorth 59 = .ok (.iload 6, 2) := by decide +kernel
theorem dX12_findWorth_61 : decode cX12_findWorth 61 = .ok (.iaload, 1) := by decide +kernel
theorem dX12_findWorth_62 : decode cX12_findWorth 62 = .ok (.i2l, 1) := by decide +kernel
theorem dX12_findWorth_63 : decode cX12_findWorth 63 = .ok (.aload_n 0, 1) := by decide +kernel
theorem dX12_findWorth_64 : decode cX12_findWorth 64 = .ok (.getfield 103, 3) := by decide +kernel
theorem dX12_findWorth_67 : decode cX12_findWorth 67 = .ok (.aload_n 0, 1) := by decide +kernel
theorem dX12_findWorth_68 : decode cX12_findWorth 68 = .ok (.getfield 107, 3) := by decide +kernel
theorem dX12_findWorth_71 : decode cX12_findWorth 71 = .ok (.invokestatic 127, 3) := by decide +kernel
theorem dX12_findWorth_74 : decode cX12_findWorth 74 = .ok (.istore 7, 2) := by decide +kernel
theorem dX12_findWorth_76 : decode cX12_findWorth 76 = .ok (.aload_n 0, 1) := by decide +kernel
theorem dX12_findWorth_77 : decode cX12_findWorth 77 = .ok (.getfield 31, 3) := by decide +kernel
theorem dX12_findWorth_80 : decode cX12_findWorth 80 = .ok (.iconst 2, 1) := by decide +kernel
theorem dX12_findWorth_81 : decode cX12_findWorth 81 = .ok (.iload 6, 2) := by decide +kernel
theorem dX12_findWorth_83 : decode cX12_findWorth 83 = .ok (.imul, 1) := by decide +kernel
theorem dX12_findWorth_84 : decode cX12_findWorth 84 = .ok (.iload 7, 2) := by decide +kernel
theorem dX12_findWorth_86 : decode cX12_findWorth 86 = .ok (.ifCond .ge 7, 3) := by decide +kernel
theorem dX12_findWorth_89 : decode cX12_findWorth 89 = .ok (.iconst (-1), 1) := by decide +kernel
theorem dX12_findWorth_90 : decode cX12_findWorth 90 = .ok (.goto 26, 3) := by decide +kernel
theorem dX12_findWorth_93 : decode cX12_findWorth 93 = .ok (.iload 5, 2) := by decide +kernel
theorem dX12_findWorth_95 : decode cX12_findWorth 95 = .ok (.aload_n 0, 1) := by decide +kernel
theorem dX12_findWorth_96 : decode cX12_findWorth 96 = .ok (.getfield 31, 3) := by decide +kernel
theorem dX12_findWorth_99 : decode cX12_findWorth 99 = .ok (.iload 6, 2) := by decide +kernel
theorem dX12_findWorth_101 : decode cX12_findWorth 101 = .ok (.iaload, 1) := by decide +kernel
theorem dX12_findWorth_102 : decode cX12_findWorth 102 = .ok (.i2l, 1) := by decide +kernel
theorem dX12_findWorth_103 : decode cX12_findWorth 103 = .ok (.aload_n 0, 1) := by decide +kernel
theorem dX12_findWorth_104 : decode cX12_findWorth 104 = .ok (.getfield 103, 3) := by decide +kernel
theorem dX12_findWorth_107 : decode cX12_findWorth 107 = .ok (.iconst 1, 1) := by decide +kernel
theorem dX12_findWorth_108 : decode cX12_findWorth 108 = .ok (.iadd, 1) := by decide +kernel
theorem dX12_findWorth_109 : decode cX12_findWorth 109 = .ok (.aload_n 0, 1) := by decide +kernel
theorem dX12_findWorth_110 : decode cX12_findWorth 110 = .ok (.getfield 107, 3) := by decide +kernel
theorem dX12_findWorth_113 : decode cX12_findWorth 113 = .ok (.invokestatic 127, 3) := by decide +kernel
theorem dX12_findWorth_116 : decode cX12_findWorth 116 = .ok (.iastore, 1) := by decide +kernel
theorem dX12_findWorth_117 : decode cX12_findWorth 117 = .ok (.aload_n 0, 1) := by decide +kernel
theorem dX12_findWorth_118 : decode cX12_findWorth 118 = .ok (.getfield 31, 3) := by decide +kernel
theorem dX12_findWorth_121 : decode cX12_findWorth 121 = .ok (.iconst 2, 1) := by decide +kernel
theorem dX12_findWorth_122 : decode cX12_findWorth 122 = .ok (.iload 6, 2) := by decide +kernel
theorem dX12_findWorth_124 : decode cX12_findWorth 124 = .ok (.imul, 1) := by decide +kernel
theorem dX12_findWorth_125 : decode cX12_findWorth 125 = .ok (.iconst 1, 1) := by decide +kernel
theorem dX12_findWorth_126 : decode cX12_findWorth 126 = .ok (.iadd, 1) := by decide +kernel
theorem dX12_findWorth_127 : decode cX12_findWorth 127 = .ok (.iload 7, 2) := by decide +kernel
theorem dX12_findWorth_129 : decode cX12_findWorth 129 = .ok (.iastore, 1) := by decide +kernel
theorem dX12_findWorth_130 : decode cX12_findWorth 130 = .ok (.iinc 6 1, 3) := by decide +kernel
theorem dX12_findWorth_133 : decode cX12_findWorth 133 = .ok (.goto (-110), 3) := by decide +kernel
theorem dX12_findWorth_136 : decode cX12_findWorth 136 = .ok (.iconst 1, 1) := by decide +kernel
theorem dX12_findWorth_137 : decode cX12_findWorth 137 = .ok (.istore 6, 2) := by decide +kernel
theorem dX12_findWorth_139 : decode cX12_findWorth 139 = .ok (.lconst 1, 1) := by decide +kernel
theorem dX12_findWorth_140 : decode cX12_findWorth 140 = .ok (.lstore 7, 2) := by decide +kernel
theorem dX12_findWorth_142 : decode cX12_findWorth 142 = .ok (.iload 4, 2) := by decide +kernel
theorem dX12_findWorth_144 : decode cX12_findWorth 144 = .ok (.istore 9, 2) := by decide +kernel
theorem dX12_findWorth_146 : decode cX12_findWorth 146 = .ok (.iload 9, 2) := by decide +kernel
theorem dX12_findWorth_148 : decode cX12_findWorth 148 = .ok (.ifCond .lt 157, 3) := by decide +kernel
theorem dX12_findWorth_151 : decode cX12_findWorth 151 = .ok (.iconst 1, 1) := by decide +kernel
theorem dX12_findWorth_152 : decode cX12_findWorth 152 = .ok (.iload 9, 2) := by decide +kernel
theorem dX12_findWorth_154 : decode cX12_findWorth 154 = .ok (.ishl, 1) := by decide +kernel
theorem dX12_findWorth_155 : decode cX12_findWorth 155 = .ok (.istore 10, 2) := by decide +kernel
theorem dX12_findWorth_157 : decode cX12_findWorth 157 = .ok (.iload 10, 2) := by decide +kernel
theorem dX12_findWorth_159 : decode cX12_findWorth 159 = .ok (.iconst 2, 1) := by decide +kernel
theorem dX12_findWorth_160 : decode cX12_findWorth 160 = .ok (.iload 9, 2) := by decide +kernel
theorem dX12_findWorth_162 : decode cX12_findWorth 162 = .ok (.ishl, 1) := by decide +kernel
theorem dX12_findWorth_163 : decode cX12_findWorth 163 = .ok (.if_icmp .ge 128, 3) := by decide +kernel
theorem dX12_findWorth_166 : decode cX12_findWorth 166 = .ok (.aload_n 0, 1) := by decide +kernel
theorem dX12_findWorth_167 : decode cX12_findWorth 167 = .ok (.getfield 34, 3) := by decide +kernel
theorem dX12_findWorth_170 : decode cX12_findWorth 170 = .ok (.iload 10, 2) := by decide +kernel
theorem dX12_findWorth_172 : decode cX12_findWorth 172 = .ok (.lload 7, 2) := by decide +kernel
theorem dX12_findWorth_174 : decode cX12_findWorth 174 = .ok (.aload_n 0, 1) := by decide +kernel
theorem dX12_findWorth_175 : decode cX12_findWorth 175 = .ok (.getfield 31, 3) := by decide +kernel
theorem dX12_findWorth_178 : decode cX12_findWorth 178 = .ok (.iload 10, 2) := by decide +kernel
theorem dX12_findWorth_180 : decode cX12_findWorth 180 = .ok (.iaload, 1) := by decide +kernel
theorem dX12_findWorth_181 : decode cX12_findWorth 181 = .ok (.i2l, 1) := by decide +kernel
theorem dX12_findWorth_182 : decode cX12_findWorth 182 = .ok (.lmul, 1) := by decide +kernel
theorem dX12_findWorth_183 : decode cX12_findWorth 183 = .ok (.lastore, 1) := by decide +kernel
theorem dX12_findWorth_184 : decode cX12_findWorth 184 = .ok (.iload 9, 2) := by decide +kernel
theorem dX12_findWorth_186 : decode cX12_findWorth 186 = .ok (.iload 4, 2) := by decide +kernel
theorem dX12_findWorth_188 : decode cX12_findWorth 188 = .ok (.if_icmp .ge 97, 3) := by decide +kernel
theorem dX12_findWorth_191 : decode cX12_findWorth 191 = .ok (.aload_n 0, 1) := by decide +kernel
theorem dX12_findWorth_192 : decode cX12_findWorth 192 = .ok (.getfield 31, 3) := by decide +kernel
theorem dX12_findWorth_195 : decode cX12_findWorth 195 = .ok (.iconst 2, 1) := by decide +kernel
theorem dX12_findWorth_196 : decode cX12_findWorth 196 = .ok (.iload 10, 2) := by decide +kernel
theorem dX12_findWorth_198 : decode cX12_findWorth 198 = .ok (.imul, 1) := by decide +kernel
theorem dX12_findWorth_199 : decode cX12_findWorth 199 = .ok (.iaload, 1) := by decide +kernel
theorem dX12_findWorth_200 : decode cX12_findWorth 200 = .ok (.ifCond .ge 9, 3) := by decide +kernel
theorem dX12_findWorth_203 : decode cX12_findWorth 203 = .ok (.ldc2_w 122, 3) := by decide +kernel
theorem dX12_findWorth_206 : decode cX12_findWorth 206 = .ok (.goto 33, 3) := by decide +kernel
theorem dX12_findWorth_209 : decode cX12_findWorth 209 = .ok (.iload_n 3, 1) := by decide +kernel
theorem dX12_findWorth_210 : decode cX12_findWorth 210 = .ok (.i2l, 1) := by decide +kernel
theorem dX12_findWorth_211 : decode cX12_findWorth 211 = .ok (.aload_n 0, 1) := by decide +kernel
theorem dX12_findWorth_212 : decode cX12_findWorth 212 = .ok (.getfield 34, 3) := by decide +kernel
theorem dX12_findWorth_215 : decode cX12_findWorth 215 = .ok (.iconst 2, 1) := by decide +kernel
theorem dX12_findWorth_216 : decode cX12_findWorth 216 = .ok (.iload 10, 2) := by decide +kernel
theorem dX12_findWorth_218 : decode cX12_findWorth 218 = .ok (.imul, 1) := by decide +kernel
theorem dX12_findWorth_219 : decode cX12_findWorth 219 = .ok (.laload, 1) := by decide +kernel
theorem dX12_findWorth_220 : decode cX12_findWorth 220 = .ok (.lmul, 1) := by decide +kernel
theorem dX12_findWorth_221 : decode cX12_findWorth 221 = .ok (.bipush 100, 2) := by decide +kernel
theorem dX12_findWorth_223 : decode cX12_findWorth 223 = .ok (.iload_n 3, 1) := by decide +kernel
theorem dX12_findWorth_224 : decode cX12_findWorth 224 = .ok (.isub, 1) := by decide +kernel
theorem dX12_findWorth_225 : decode cX12_findWorth 225 = .ok (.i2l, 1) := by decide +kernel
theorem dX12_findWorth_226 : decode cX12_findWorth 226 = .ok (.aload_n 0, 1) := by decide +kernel
theorem dX12_findWorth_227 : decode cX12_findWorth 227 = .ok (.getfield 34, 3) := by decide +kernel
theorem dX12_findWorth_230 : decode cX12_findWorth 230 = .ok (.iconst 2, 1) := by decide +kernel
theorem dX12_findWorth_231 : decode cX12_findWorth 231 = .ok (.iload 10, 2) := by decide +kernel
theorem dX12_findWorth_233 : decode cX12_findWorth 233 = .ok (.imul, 1) := by decide +kernel
theorem dX12_findWorth_234 : decode cX12_findWorth 234 = .ok (.iconst 1, 1) := by decide +kernel
theorem dX12_findWorth_235 : decode cX12_findWorth 235 = .ok (.iadd, 1) := by decide +kernel
theorem dX12_findWorth_236 : decode cX12_findWorth 236 = .ok (.laload, 1) := by decide +kernel
theorem dX12_findWorth_237 : decode cX12_findWorth 237 = .ok (.lmul, 1) := by decide +kernel
theorem dX12_findWorth_238 : decode cX12_findWorth 238 = .ok (.ladd, 1) := by decide +kernel
theorem dX12_findWorth_239 : decode cX12_findWorth 239 = .ok (.lstore 11, 2) := by decide +kernel
theorem dX12_findWorth_241 : decode cX12_findWorth 241 = .ok (.aload_n 0, 1) := by decide +kernel
theorem dX12_findWorth_242 : decode cX12_findWorth 242 = .ok (.getfield 34, 3) := by decide +kernel
theorem dX12_findWorth_245 : decode cX12_findWorth 245 = .ok (.iload 10, 2) := by decide +kernel
theorem dX12_findWorth_247 : decode cX12_findWorth 247 = .ok (.laload, 1) := by decide +kernel
theorem dX12_findWorth_248 : decode cX12_findWorth 248 = .ok (.lload 11, 2) := by decide +kernel
theorem dX12_findWorth_250 : decode cX12_findWorth 250 = .ok (.lcmp, 1) := by decide +kernel
theorem dX12_findWorth_251 : decode cX12_findWorth 251 = .ok (.ifCond .lt 7, 3) := by decide +kernel
theorem dX12_findWorth_254 : decode cX12_findWorth 254 = .ok (.iconst 1, 1) := by decide +kernel
theorem dX12_findWorth_255 : decode cX12_findWorth 255 = .ok (.goto 4, 3) := by decide +kernel
theorem dX12_findWorth_258 : decode cX12_findWorth 258 = .ok (.iconst 0, 1) := by decide +kernel
theorem dX12_findWorth_259 : decode cX12_findWorth 259 = .ok (.istore 6, 2) := by decide +kernel
theorem dX12_findWorth_261 : decode cX12_findWorth 261 = .ok (.aload_n 0, 1) := by decide +kernel
theorem dX12_findWorth_262 : decode cX12_findWorth 262 = .ok (.getfield 34, 3) := by decide +kernel
theorem dX12_findWorth_265 : decode cX12_findWorth 265 = .ok (.iload 10, 2) := by decide +kernel
theorem dX12_findWorth_267 : decode cX12_findWorth 267 = .ok (.iload 6, 2) := by decide +kernel
theorem dX12_findWorth_269 : decode cX12_findWorth 269 = .ok (.ifCond .eq 13, 3) := by decide +kernel
theorem dX12_findWorth_272 : decode cX12_findWorth 272 = .ok (.aload_n 0, 1) := by decide +kernel
theorem dX12_findWorth_273 : decode cX12_findWorth 273 = .ok (.getfield 34, 3) := by decide +kernel
theorem dX12_findWorth_276 : decode cX12_findWorth 276 = .ok (.iload 10, 2) := by decide +kernel
theorem dX12_findWorth_278 : decode cX12_findWorth 278 = .ok (.laload, 1) := by decide +kernel
theorem dX12_findWorth_279 : decode cX12_findWorth 279 = .ok (.goto 5, 3) := by decide +kernel
theorem dX12_findWorth_282 : decode cX12_findWorth 282 = .ok (.lload 11, 2) := by decide +kernel
theorem dX12_findWorth_284 : decode cX12_findWorth 284 = .ok (.lastore, 1) := by decide +kernel
theorem dX12_findWorth_285 : decode cX12_findWorth 285 = .ok (.iinc 10 1, 3) := by decide +kernel
theorem dX12_findWorth_288 : decode cX12_findWorth 288 = .ok (.goto (-131), 3) := by decide +kernel
theorem dX12_findWorth_291 : decode cX12_findWorth 291 = .ok (.lload 7, 2) := by decide +kernel
theorem dX12_findWorth_293 : decode cX12_findWorth 293 = .ok (.ldc2_w 197, 3) := by decide +kernel
theorem dX12_findWorth_296 : decode cX12_findWorth 296 = .ok (.lmul, 1) := by decide +kernel
theorem dX12_findWorth_297 : decode cX12_findWorth 297 = .ok (.lstore 7, 2) := by decide +kernel
theorem dX12_findWorth_299 : decode cX12_findWorth 299 = .ok (.iinc 9 (-1), 3) := by decide +kernel
theorem dX12_findWorth_302 : decode cX12_findWorth 302 = .ok (.goto (-156), 3) := by decide +kernel
theorem dX12_findWorth_305 : decode cX12_findWorth 305 = .ok (.iload 6, 2) := by decide +kernel
theorem dX12_findWorth_307 : decode cX12_findWorth 307 = .ok (.ireturn, 1) := by decide +kernel
theorem dX12_isLuck_0 : decode cX12_isLuck 0 = .ok (.aload_n 0, 1) := by decide +kernel
theorem dX12_isLuck_1 : decode cX12_isLuck 1 = .ok (.iload_n 1, 1) := by decide +kernel
theorem dX12_isLuck_2 : decode cX12_isLuck 2 = .ok (.invokevirtual 114, 3) := by decide +kernel
theorem dX12_isLuck_5 : decode cX12_isLuck 5 = .ok (.ifCond .eq 44, 3) := by decide +kernel
theorem dX12_isLuck_8 : decode cX12_isLuck 8 = .ok (.iload_n 2, 1) := by decide +kernel
theorem dX12_isLuck_9 : decode cX12_isLuck 9 = .ok (.i2l, 1) := by decide +kernel
theorem dX12_isLuck_10 : decode cX12_isLuck 10 = .ok (.lconst 0, 1) := by decide +kernel
theorem dX12_isLuck_11 : decode cX12_isLuck 11 = .ok (.ldc2_w 199, 3) := by decide +kernel
theorem dX12_isLuck_14 : decode cX12_isLuck 14 = .ok (.invokestatic 67, 3) := by decide +kernel
theorem dX12_isLuck_17 : decode cX12_isLuck 17 = .ok (.ifCond .eq 32, 3) := by decide +kernel
theorem dX12_isLuck_20 : decode cX12_isLuck 20 = .ok (.iload_n 3, 1) := by decide +kernel
theorem dX12_isLuck_21 : decode cX12_isLuck 21 = .ok (.i2l, 1) := by decide +kernel
theorem dX12_isLuck_22 : decode cX12_isLuck 22 = .ok (.lconst 0, 1) := by decide +kernel
theorem dX12_isLuck_23 : decode cX12_isLuck 23 = .ok (.ldc2_w 197, 3) := by decide +kernel
theorem dX12_isLuck_26 : decode cX12_isLuck 26 = .ok (.invokestatic 67, 3) := by decide +kernel
theorem dX12_isLuck_29 : decode cX12_isLuck 29 = .ok (.ifCond .eq 20, 3) := by decide +kernel
theorem dX12_isLuck_32 : decode cX12_isLuck 32 = .ok (.iload 4, 2) := by decide +kernel
theorem dX12_isLuck_34 : decode cX12_isLuck 34 = .ok (.i2l, 1) := by decide +kernel
theorem dX12_isLuck_35 : decode cX12_isLuck 35 = .ok (.lconst 0, 1) := by decide +kernel
theorem dX12_isLuck_36 : decode cX12_isLuck 36 = .ok (.ldc2_w 201, 3) := by decide +kernel
theorem dX12_isLuck_39 : decode cX12_isLuck 39 = .ok (.invokestatic 67, 3) := by decide +kernel
theorem dX12_isLuck_42 : decode cX12_isLuck 42 = .ok (.ifCond .eq 7, 3) := by decide +kernel
theorem dX12_isLuck_45 : decode cX12_isLuck 45 = .ok (.iconst 1, 1) := by decide +kernel
theorem dX12_isLuck_46 : decode cX12_isLuck 46 = .ok (.goto 4, 3) := by decide +kernel
theorem dX12_isLuck_49 : decode cX12_isLuck 49 = .ok (.iconst 0, 1) := by decide +kernel
theorem dX12_isLuck_50 : decode cX12_isLuck 50 = .ok (.ireturn, 1) := by decide +kernel
theorem dX12_worth_0 : decode cX12_worth 0 = .ok (.aload_n 0, 1) := by decide +kernel
theorem dX12_worth_1 : decode cX12_worth 1 = .ok (.iload_n 1, 1) := by decide +kernel
theorem dX12_worth_2 : decode cX12_worth 2 = .ok (.iload_n 2, 1) := by decide +kernel
theorem dX12_worth_3 : decode cX12_worth 3 = .ok (.iload_n 3, 1) := by decide +kernel
theorem dX12_worth_4 : decode cX12_worth 4 = .ok (.iload 4, 2) := by decide +kernel
theorem dX12_worth_6 : decode cX12_worth 6 = .ok (.invokevirtual 203, 3) := by decide +kernel
theorem dX12_worth_9 : decode cX12_worth 9 = .ok (.ifCond .ne 7, 3) := by decide +kernel
theorem dX12_worth_12 : decode cX12_worth 12 = .ok (.ldc2_w 122, 3) := by decide +kernel
theorem dX12_worth_15 : decode cX12_worth 15 = .ok (.lreturn, 1) := by decide +kernel
theorem dX12_worth_16 : decode cX12_worth 16 = .ok (.aload_n 0, 1) := by decide +kernel
theorem dX12_worth_17 : decode cX12_worth 17 = .ok (.iload_n 1, 1) := by decide +kernel
theorem dX12_worth_18 : decode cX12_worth 18 = .ok (.iload_n 2, 1) := by decide +kernel
theorem dX12_worth_19 : decode cX12_worth 19 = .ok (.iload_n 3, 1) := by decide +kernel
theorem dX12_worth_20 : decode cX12_worth 20 = .ok (.iload 4, 2) := by decide +kernel
theorem dX12_worth_22 : decode cX12_worth 22 = .ok (.invokevirtual 207, 3) := by decide +kernel
theorem dX12_worth_25 : decode cX12_worth 25 = .ok (.istore 5, 2) := by decide +kernel
theorem dX12_worth_27 : decode cX12_worth 27 = .ok (.aload_n 0, 1) := by decide +kernel
theorem dX12_worth_28 : decode cX12_worth 28 = .ok (.getfield 34, 3) := by decide +kernel
theorem dX12_worth_31 : decode cX12_worth 31 = .ok (.iconst 1, 1) := by decide +kernel
theorem dX12_worth_32 : decode cX12_worth 32 = .ok (.laload, 1) := by decide +kernel
theorem dX12_worth_33 : decode cX12_worth 33 = .ok (.lreturn, 1) := by decide +kernel
theorem dX12_stops_0 : decode cX12_stops 0 = .ok (.aload_n 0, 1) := by decide +kernel
theorem dX12_stops_1 : decode cX12_stops 1 = .ok (.iload_n 1, 1) := by decide +kernel
theorem dX12_stops_2 : decode cX12_stops 2 = .ok (.iload_n 2, 1) := by decide +kernel
theorem dX12_stops_3 : decode cX12_stops 3 = .ok (.iload_n 3, 1) := by decide +kernel
theorem dX12_stops_4 : decode cX12_stops 4 = .ok (.iload 4, 2) := by decide +kernel
theorem dX12_stops_6 : decode cX12_stops 6 = .ok (.invokevirtual 203, 3) := by decide +kernel
theorem dX12_stops_9 : decode cX12_stops 9 = .ok (.ifCond .ne 5, 3) := by decide +kernel
theorem dX12_stops_12 : decode cX12_stops 12 = .ok (.iconst (-1), 1) := by decide +kernel
theorem dX12_stops_13 : decode cX12_stops 13 = .ok (.ireturn, 1) := by decide +kernel
theorem dX12_stops_14 : decode cX12_stops 14 = .ok (.aload_n 0, 1) := by decide +kernel
theorem dX12_stops_15 : decode cX12_stops 15 = .ok (.iload_n 1, 1) := by decide +kernel
theorem dX12_stops_16 : decode cX12_stops 16 = .ok (.iload_n 2, 1) := by decide +kernel
theorem dX12_stops_17 : decode cX12_stops 17 = .ok (.iload_n 3, 1) := by decide +kernel
theorem dX12_stops_18 : decode cX12_stops 18 = .ok (.iload 4, 2) := by decide +kernel
theorem dX12_stops_20 : decode cX12_stops 20 = .ok (.invokevirtual 207, 3) := by decide +kernel
theorem dX12_stops_23 : decode cX12_stops 23 = .ok (.ifCond .eq 7, 3) := by decide +kernel
theorem dX12_stops_26 : decode cX12_stops 26 = .ok (.iconst 1, 1) := by decide +kernel
theorem dX12_stops_27 : decode cX12_stops 27 = .ok (.goto 4, 3) := by decide +kernel
theorem dX12_stops_30 : decode cX12_stops 30 = .ok (.iconst 0, 1) := by decide +kernel
theorem dX12_stops_31 : decode cX12_stops 31 = .ok (.ireturn, 1) := by decide +kernel
theorem dX12_meet_0 : decode cX12_meet 0 = .ok (.aload_n 0, 1) := by decide +kernel
theorem dX12_meet_1 : decode cX12_meet 1 = .ok (.iload_n 1, 1) := by decide +kernel
theorem dX12_meet_2 : decode cX12_meet 2 = .ok (.invokevirtual 138, 3) := by decide +kernel
theorem dX12_meet_5 : decode cX12_meet 5 = .ok (.ifCond .eq 33, 3) := by decide +kernel
theorem dX12_meet_8 : decode cX12_meet 8 = .ok (.aload_n 0, 1) := by decide +kernel
theorem dX12_meet_9 : decode cX12_meet 9 = .ok (.iload_n 2, 1) := by decide +kernel
theorem dX12_meet_10 : decode cX12_meet 10 = .ok (.invokevirtual 138, 3) := by decide +kernel
theorem dX12_meet_13 : decode cX12_meet 13 = .ok (.ifCond .eq 25, 3) := by decide +kernel
theorem dX12_meet_16 : decode cX12_meet 16 = .ok (.iload_n 1, 1) := by decide +kernel
theorem dX12_meet_17 : decode cX12_meet 17 = .ok (.iload_n 2, 1) := by decide +kernel
theorem dX12_meet_18 : decode cX12_meet 18 = .ok (.if_icmp .eq 20, 3) := by decide +kernel
theorem dX12_meet_21 : decode cX12_meet 21 = .ok (.aload_n 0, 1) := by decide +kernel
theorem dX12_meet_22 : decode cX12_meet 22 = .ok (.iload_n 3, 1) := by decide +kernel
theorem dX12_meet_23 : decode cX12_meet 23 = .ok (.invokevirtual 114, 3) := by decide +kernel
theorem dX12_meet_26 : decode cX12_meet 26 = .ok (.ifCond .eq 12, 3) := by decide +kernel
theorem dX12_meet_29 : decode cX12_meet 29 = .ok (.aload_n 0, 1) := by decide +kernel
theorem dX12_meet_30 : decode cX12_meet 30 = .ok (.iload 4, 2) := by decide +kernel
theorem dX12_meet_32 : decode cX12_meet 32 = .ok (.invokevirtual 114, 3) := by decide +kernel
theorem dX12_meet_35 : decode cX12_meet 35 = .ok (.ifCond .ne 5, 3) := by decide +kernel
theorem dX12_meet_38 : decode cX12_meet 38 = .ok (.iconst (-1), 1) := by decide +kernel
theorem dX12_meet_39 : decode cX12_meet 39 = .ok (.ireturn, 1) := by decide +kernel
theorem dX12_meet_40 : decode cX12_meet 40 = .ok (.aload_n 0, 1) := by decide +kernel
theorem dX12_meet_41 : decode cX12_meet 41 = .ok (.iload_n 1, 1) := by decide +kernel
theorem dX12_meet_42 : decode cX12_meet 42 = .ok (.iconst 0, 1) := by decide +kernel
theorem dX12_meet_43 : decode cX12_meet 43 = .ok (.invokevirtual 141, 3) := by decide +kernel
theorem dX12_meet_46 : decode cX12_meet 46 = .ok (.istore 5, 2) := by decide +kernel
theorem dX12_meet_48 : decode cX12_meet 48 = .ok (.aload_n 0, 1) := by decide +kernel
theorem dX12_meet_49 : decode cX12_meet 49 = .ok (.iload_n 2, 1) := by decide +kernel
theorem dX12_meet_50 : decode cX12_meet 50 = .ok (.iconst 0, 1) := by decide +kernel
theorem dX12_meet_51 : decode cX12_meet 51 = .ok (.invokevirtual 141, 3) := by decide +kernel
theorem dX12_meet_54 : decode cX12_meet 54 = .ok (.istore 6, 2) := by decide +kernel
theorem dX12_meet_56 : decode cX12_meet 56 = .ok (.iload 5, 2) := by decide +kernel
theorem dX12_meet_58 : decode cX12_meet 58 = .ok (.iload 6, 2) := by decide +kernel
theorem dX12_meet_60 : decode cX12_meet 60 = .ok (.if_icmp .gt 7, 3) := by decide +kernel
theorem dX12_meet_63 : decode cX12_meet 63 = .ok (.iconst 1, 1) := by decide +kernel
theorem dX12_meet_64 : decode cX12_meet 64 = .ok (.goto 4, 3) := by decide +kernel
theorem dX12_meet_67 : decode cX12_meet 67 = .ok (.iconst 0, 1) := by decide +kernel
theorem dX12_meet_68 : decode cX12_meet 68 = .ok (.istore 7, 2) := by decide +kernel
theorem dX12_meet_70 : decode cX12_meet 70 = .ok (.iconst 0, 1) := by decide +kernel
theorem dX12_meet_71 : decode cX12_meet 71 = .ok (.istore 8, 2) := by decide +kernel
theorem dX12_meet_73 : decode cX12_meet 73 = .ok (.iload 8, 2) := by decide +kernel
theorem dX12_meet_75 : decode cX12_meet 75 = .ok (.bipush 61, 2) := by decide +kernel
theorem dX12_meet_77 : decode cX12_meet 77 = .ok (.if_icmp .ge 62, 3) := by decide +kernel
theorem dX12_meet_80 : decode cX12_meet 80 = .ok (.iload 5, 2) := by decide +kernel
theorem dX12_meet_82 : decode cX12_meet 82 = .ok (.ifCond .lt 57, 3) := by decide +kernel
theorem dX12_meet_85 : decode cX12_meet 85 = .ok (.iload 6, 2) := by decide +kernel
theorem dX12_meet_87 : decode cX12_meet 87 = .ok (.ifCond .lt 52, 3) := by decide +kernel
theorem dX12_meet_90 : decode cX12_meet 90 = .ok (.iload 7, 2) := by decide +kernel
theorem dX12_meet_92 : decode cX12_meet 92 = .ok (.ifCond .eq 13, 3) := by decide +kernel
theorem dX12_meet_95 : decode cX12_meet 95 = .ok (.iload 5, 2) := by decide +kernel
theorem dX12_meet_97 : decode cX12_meet 97 = .ok (.iload 6, 2) := by decide +kernel
theorem dX12_meet_99 : decode cX12_meet 99 = .ok (.if_icmp .ge 40, 3) := by decide +kernel
theorem dX12_meet_102 : decode cX12_meet 102 = .ok (.goto 10, 3) := by decide +kernel
theorem dX12_meet_105 : decode cX12_meet 105 = .ok (.iload 6, 2) := by decide +kernel
theorem dX12_meet_107 : decode cX12_meet 107 = .ok (.iload 5, 2) := by decide +kernel
theorem dX12_meet_109 : decode cX12_meet 109 = .ok (.if_icmp .ge 30, 3) := by decide +kernel
theorem dX12_meet_112 : decode cX12_meet 112 = .ok (.aload_n 0, 1) := by decide +kernel
theorem dX12_meet_113 : decode cX12_meet 113 = .ok (.iload_n 3, 1) := by decide +kernel
theorem dX12_meet_114 : decode cX12_meet 114 = .ok (.iload 5, 2) := by decide +kernel
theorem dX12_meet_116 : decode cX12_meet 116 = .ok (.i2l, 1) := by decide +kernel
theorem dX12_meet_117 : decode cX12_meet 117 = .ok (.invokevirtual 144, 3) := by decide +kernel
theorem dX12_meet_120 : decode cX12_meet 120 = .ok (.istore 5, 2) := by decide +kernel
theorem dX12_meet_122 : decode cX12_meet 122 = .ok (.aload_n 0, 1) := by decide +kernel
theorem dX12_meet_123 : decode cX12_meet 123 = .ok (.iload 4, 2) := by decide +kernel
theorem dX12_meet_125 : decode cX12_meet 125 = .ok (.iload 6, 2) := by decide +kernel
theorem dX12_meet_127 : decode cX12_meet 127 = .ok (.i2l, 1) := by decide +kernel
theorem dX12_meet_128 : decode cX12_meet 128 = .ok (.invokevirtual 144, 3) := by decide +kernel
theorem dX12_meet_131 : decode cX12_meet 131 = .ok (.istore 6, 2) := by decide +kernel
theorem dX12_meet_133 : decode cX12_meet 133 = .ok (.iinc 8 1, 3) := by decide +kernel
theorem dX12_meet_136 : decode cX12_meet 136 = .ok (.goto (-63), 3) := by decide +kernel
theorem dX12_meet_139 : decode cX12_meet 139 = .ok (.iload 8, 2) := by decide +kernel
theorem dX12_meet_141 : decode cX12_meet 141 = .ok (.bipush 60, 2) := by decide +kernel
theorem dX12_meet_143 : decode cX12_meet 143 = .ok (.if_icmp .gt 13, 3) := by decide +kernel
theorem dX12_meet_146 : decode cX12_meet 146 = .ok (.iload 5, 2) := by decide +kernel
theorem dX12_meet_148 : decode cX12_meet 148 = .ok (.ifCond .lt 8, 3) := by decide +kernel
theorem dX12_meet_151 : decode cX12_meet 151 = .ok (.iload 6, 2) := by decide +kernel
theorem dX12_meet_153 : decode cX12_meet 153 = .ok (.ifCond .ge 8, 3) := by decide +kernel
theorem dX12_meet_156 : decode cX12_meet 156 = .ok (.bipush (-3), 2) := by decide +kernel
theorem dX12_meet_158 : decode cX12_meet 158 = .ok (.goto 5, 3) := by decide +kernel
theorem dX12_meet_161 : decode cX12_meet 161 = .ok (.iload 8, 2) := by decide +kernel
theorem dX12_meet_163 : decode cX12_meet 163 = .ok (.ireturn, 1) := by decide +kernel
theorem dX12_tale_0 : decode cX12_tale 0 = .ok (.iload_n 1, 1) := by decide +kernel
theorem dX12_tale_1 : decode cX12_tale 1 = .ok (.i2l, 1) := by decide +kernel
theorem dX12_tale_2 : decode cX12_tale 2 = .ok (.lconst 0, 1) := by decide +kernel
theorem dX12_tale_3 : decode cX12_tale 3 = .ok (.ldc2_w 165, 3) := by decide +kernel
theorem dX12_tale_6 : decode cX12_tale 6 = .ok (.invokestatic 67, 3) := by decide +kernel
theorem dX12_tale_9 : decode cX12_tale 9 = .ok (.ifCond .eq 15, 3) := by decide +kernel
theorem dX12_tale_12 : decode cX12_tale 12 = .ok (.iload_n 2, 1) := by decide +kernel
theorem dX12_tale_13 : decode cX12_tale 13 = .ok (.i2l, 1) := by decide +kernel
theorem dX12_tale_14 : decode cX12_tale 14 = .ok (.lconst 0, 1) := by decide +kernel
theorem dX12_tale_15 : decode cX12_tale 15 = .ok (.ldc2_w 165, 3) := by decide +kernel
theorem dX12_tale_18 : decode cX12_tale 18 = .ok (.invokestatic 67, 3) := by decide +kernel
theorem dX12_tale_21 : decode cX12_tale 21 = .ok (.ifCond .ne 5, 3) := by decide +kernel
theorem dX12_tale_24 : decode cX12_tale 24 = .ok (.iconst (-1), 1) := by decide +kernel
theorem dX12_tale_25 : decode cX12_tale 25 = .ok (.ireturn, 1) := by decide +kernel
theorem dX12_tale_26 : decode cX12_tale 26 = .ok (.aload_n 0, 1) := by decide +kernel
theorem dX12_tale_27 : decode cX12_tale 27 = .ok (.getfield 7, 3) := by decide +kernel
theorem dX12_tale_30 : decode cX12_tale 30 = .ok (.iconst 2, 1) := by decide +kernel
theorem dX12_tale_31 : decode cX12_tale 31 = .ok (.iaload, 1) := by decide +kernel
theorem dX12_tale_32 : decode cX12_tale 32 = .ok (.bipush 6, 2) := by decide +kernel
theorem dX12_tale_34 : decode cX12_tale 34 = .ok (.if_icmp .ne 6, 3) := by decide +kernel
theorem dX12_tale_37 : decode cX12_tale 37 = .ok (.bipush (-2), 2) := by decide +kernel
theorem dX12_tale_39 : decode cX12_tale 39 = .ok (.ireturn, 1) := by decide +kernel
theorem dX12_tale_40 : decode cX12_tale 40 = .ok (.aload_n 0, 1) := by decide +kernel
theorem dX12_tale_41 : decode cX12_tale 41 = .ok (.getfield 7, 3) := by decide +kernel
theorem dX12_tale_44 : decode cX12_tale 44 = .ok (.bipush 59, 2) := by decide +kernel
theorem dX12_tale_46 : decode cX12_tale 46 = .ok (.iconst 2, 1) := by decide +kernel
theorem dX12_tale_47 : decode cX12_tale 47 = .ok (.aload_n 0, 1) := by decide +kernel
theorem dX12_tale_48 : decode cX12_tale 48 = .ok (.getfield 7, 3) := by decide +kernel
theorem dX12_tale_51 : decode cX12_tale 51 = .ok (.iconst 2, 1) := by decide +kernel
theorem dX12_tale_52 : decode cX12_tale 52 = .ok (.iaload, 1) := by decide +kernel
theorem dX12_tale_53 : decode cX12_tale 53 = .ok (.imul, 1) := by decide +kernel
theorem dX12_tale_54 : decode cX12_tale 54 = .ok (.iadd, 1) := by decide +kernel
theorem dX12_tale_55 : decode cX12_tale 55 = .ok (.iload_n 1, 1) := by decide +kernel
theorem dX12_tale_56 : decode cX12_tale 56 = .ok (.iastore, 1) := by decide +kernel
theorem dX12_tale_57 : decode cX12_tale 57 = .ok (.aload_n 0, 1) := by decide +kernel
theorem dX12_tale_58 : decode cX12_tale 58 = .ok (.getfield 7, 3) := by decide +kernel
theorem dX12_tale_61 : decode cX12_tale 61 = .ok (.bipush 59, 2) := by decide +kernel
theorem dX12_tale_63 : decode cX12_tale 63 = .ok (.iconst 2, 1) := by decide +kernel
theorem dX12_tale_64 : decode cX12_tale 64 = .ok (.aload_n 0, 1) := by decide +kernel
theorem dX12_tale_65 : decode cX12_tale 65 = .ok (.getfield 7, 3) := by decide +kernel
theorem dX12_tale_68 : decode cX12_tale 68 = .ok (.iconst 2, 1) := by decide +kernel
theorem dX12_tale_69 : decode cX12_tale 69 = .ok (.iaload, 1) := by decide +kernel
theorem dX12_tale_70 : decode cX12_tale 70 = .ok (.imul, 1) := by decide +kernel
theorem dX12_tale_71 : decode cX12_tale 71 = .ok (.iadd, 1) := by decide +kernel
theorem dX12_tale_72 : decode cX12_tale 72 = .ok (.iconst 1, 1) := by decide +kernel
theorem dX12_tale_73 : decode cX12_tale 73 = .ok (.iadd, 1) := by decide +kernel
theorem dX12_tale_74 : decode cX12_tale 74 = .ok (.iload_n 2, 1) := by decide +kernel
theorem dX12_tale_75 : decode cX12_tale 75 = .ok (.iastore, 1) := by decide +kernel
theorem dX12_tale_76 : decode cX12_tale 76 = .ok (.aload_n 0, 1) := by decide +kernel
theorem dX12_tale_77 : decode cX12_tale 77 = .ok (.getfield 7, 3) := by decide +kernel
theorem dX12_tale_80 : decode cX12_tale 80 = .ok (.iconst 2, 1) := by decide +kernel
theorem dX12_tale_81 : decode cX12_tale 81 = .ok (.dup2, 1) := by decide +kernel
theorem dX12_tale_82 : decode cX12_tale 82 = .ok (.iaload, 1) := by decide +kernel
theorem dX12_tale_83 : decode cX12_tale 83 = .ok (.iconst 1, 1) := by decide +kernel
theorem dX12_tale_84 : decode cX12_tale 84 = .ok (.iadd, 1) := by decide +kernel
theorem dX12_tale_85 : decode cX12_tale 85 = .ok (.iastore, 1) := by decide +kernel
theorem dX12_tale_86 : decode cX12_tale 86 = .ok (.aload_n 0, 1) := by decide +kernel
theorem dX12_tale_87 : decode cX12_tale 87 = .ok (.getfield 7, 3) := by decide +kernel
theorem dX12_tale_90 : decode cX12_tale 90 = .ok (.iconst 2, 1) := by decide +kernel
theorem dX12_tale_91 : decode cX12_tale 91 = .ok (.iaload, 1) := by decide +kernel
theorem dX12_tale_92 : decode cX12_tale 92 = .ok (.iconst 1, 1) := by decide +kernel
theorem dX12_tale_93 : decode cX12_tale 93 = .ok (.isub, 1) := by decide +kernel
theorem dX12_tale_94 : decode cX12_tale 94 = .ok (.ireturn, 1) := by decide +kernel
theorem dX12_forget_0 : decode cX12_forget 0 = .ok (.aload_n 0, 1) := by decide +kernel
theorem dX12_forget_1 : decode cX12_forget 1 = .ok (.getfield 7, 3) := by decide +kernel
theorem dX12_forget_4 : decode cX12_forget 4 = .ok (.iconst 2, 1) := by decide +kernel
theorem dX12_forget_5 : decode cX12_forget 5 = .ok (.iaload, 1) := by decide +kernel
theorem dX12_forget_6 : decode cX12_forget 6 = .ok (.istore_n 1, 1) := by decide +kernel
theorem dX12_forget_7 : decode cX12_forget 7 = .ok (.aload_n 0, 1) := by decide +kernel
theorem dX12_forget_8 : decode cX12_forget 8 = .ok (.getfield 7, 3) := by decide +kernel
theorem dX12_forget_11 : decode cX12_forget 11 = .ok (.iconst 2, 1) := by decide +kernel
theorem dX12_forget_12 : decode cX12_forget 12 = .ok (.iconst 0, 1) := by decide +kernel
theorem dX12_forget_13 : decode cX12_forget 13 = .ok (.iastore, 1) := by decide +kernel
theorem dX12_forget_14 : decode cX12_forget 14 = .ok (.iload_n 1, 1) := by decide +kernel
theorem dX12_forget_15 : decode cX12_forget 15 = .ok (.ireturn, 1) := by decide +kernel
theorem dX12_isAgreed_0 : decode cX12_isAgreed 0 = .ok (.iconst 1, 1) := by decide +kernel
theorem dX12_isAgreed_1 : decode cX12_isAgreed 1 = .ok (.istore 5, 2) := by decide +kernel
theorem dX12_isAgreed_3 : decode cX12_isAgreed 3 = .ok (.iconst 0, 1) := by decide +kernel
theorem dX12_isAgreed_4 : decode cX12_isAgreed 4 = .ok (.istore 6, 2) := by decide +kernel
theorem dX12_isAgreed_6 : decode cX12_isAgreed 6 = .ok (.iload 6, 2) := by decide +kernel
theorem dX12_isAgreed_8 : decode cX12_isAgreed 8 = .ok (.aload_n 0, 1) := by decide +kernel
theorem dX12_isAgreed_9 : decode cX12_isAgreed 9 = .ok (.getfield 7, 3) := by decide +kernel
theorem dX12_isAgreed_12 : decode cX12_isAgreed 12 = .ok (.iconst 2, 1) := by decide +kernel
theorem dX12_isAgreed_13 : decode cX12_isAgreed 13 = .ok (.iaload, 1) := by decide +kernel
theorem dX12_isAgreed_14 : decode cX12_isAgreed 14 = .ok (.if_icmp .ge 64, 3) := by decide +kernel
theorem dX12_isAgreed_17 : decode cX12_isAgreed 17 = .ok (.iload 5, 2) := by decide +kernel
theorem dX12_isAgreed_19 : decode cX12_isAgreed 19 = .ok (.ifCond .eq 59, 3) := by decide +kernel
theorem dX12_isAgreed_22 : decode cX12_isAgreed 22 = .ok (.iload 6, 2) := by decide +kernel
theorem dX12_isAgreed_24 : decode cX12_isAgreed 24 = .ok (.iload 4, 2) := by decide +kernel
theorem dX12_isAgreed_26 : decode cX12_isAgreed 26 = .ok (.if_icmp .eq 39, 3) := by decide +kernel
theorem dX12_isAgreed_29 : decode cX12_isAgreed 29 = .ok (.iload_n 1, 1) := by decide +kernel
theorem dX12_isAgreed_30 : decode cX12_isAgreed 30 = .ok (.aload_n 0, 1) := by decide +kernel
theorem dX12_isAgreed_31 : decode cX12_isAgreed 31 = .ok (.getfield 7, 3) := by decide +kernel
theorem dX12_isAgreed_34 : decode cX12_isAgreed 34 = .ok (.bipush 59, 2) := by decide +kernel
theorem dX12_isAgreed_36 : decode cX12_isAgreed 36 = .ok (.iconst 2, 1) := by decide +kernel
theorem dX12_isAgreed_37 : decode cX12_isAgreed 37 = .ok (.iload 6, 2) := by decide +kernel
theorem dX12_isAgreed_39 : decode cX12_isAgreed 39 = .ok (.imul, 1) := by decide +kernel
theorem dX12_isAgreed_40 : decode cX12_isAgreed 40 = .ok (.iadd, 1) := by decide +kernel
theorem dX12_isAgreed_41 : decode cX12_isAgreed 41 = .ok (.iaload, 1) := by decide +kernel
theorem dX12_isAgreed_42 : decode cX12_isAgreed 42 = .ok (.i2l, 1) := by decide +kernel
theorem dX12_isAgreed_43 : decode cX12_isAgreed 43 = .ok (.iload_n 2, 1) := by decide +kernel
theorem dX12_isAgreed_44 : decode cX12_isAgreed 44 = .ok (.iload_n 3, 1) := by decide +kernel
theorem dX12_isAgreed_45 : decode cX12_isAgreed 45 = .ok (.invokestatic 127, 3) := by decide +kernel
theorem dX12_isAgreed_48 : decode cX12_isAgreed 48 = .ok (.aload_n 0, 1) := by decide +kernel
theorem dX12_isAgreed_49 : decode cX12_isAgreed 49 = .ok (.getfield 7, 3) := by decide +kernel
theorem dX12_isAgreed_52 : decode cX12_isAgreed 52 = .ok (.bipush 59, 2) := by decide +kernel
theorem dX12_isAgreed_54 : decode cX12_isAgreed 54 = .ok (.iconst 2, 1) := by decide +kernel
theorem dX12_isAgreed_55 : decode cX12_isAgreed 55 = .ok (.iload 6, 2) := by decide +kernel
theorem dX12_isAgreed_57 : decode cX12_isAgreed 57 = .ok (.imul, 1) := by decide +kernel
theorem dX12_isAgreed_58 : decode cX12_isAgreed 58 = .ok (.iadd, 1) := by decide +kernel
theorem dX12_isAgreed_59 : decode cX12_isAgreed 59 = .ok (.iconst 1, 1) := by decide +kernel
theorem dX12_isAgreed_60 : decode cX12_isAgreed 60 = .ok (.iadd, 1) := by decide +kernel
theorem dX12_isAgreed_61 : decode cX12_isAgreed 61 = .ok (.iaload, 1) := by decide +kernel
theorem dX12_isAgreed_62 : decode cX12_isAgreed 62 = .ok (.if_icmp .ne 7, 3) := by decide +kernel
theorem dX12_isAgreed_65 : decode cX12_isAgreed 65 = .ok (.iconst 1, 1) := by decide +kernel
theorem dX12_isAgreed_66 : decode cX12_isAgreed 66 = .ok (.goto 4, 3) := by decide +kernel
theorem dX12_isAgreed_69 : decode cX12_isAgreed 69 = .ok (.iconst 0, 1) := by decide +kernel
theorem dX12_isAgreed_70 : decode cX12_isAgreed 70 = .ok (.istore 5, 2) := by decide +kernel
theorem dX12_isAgreed_72 : decode cX12_isAgreed 72 = .ok (.iinc 6 1, 3) := by decide +kernel
theorem dX12_isAgreed_75 : decode cX12_isAgreed 75 = .ok (.goto (-69), 3) := by decide +kernel
theorem dX12_isAgreed_78 : decode cX12_isAgreed 78 = .ok (.iload 5, 2) := by decide +kernel
theorem dX12_isAgreed_80 : decode cX12_isAgreed 80 = .ok (.ireturn, 1) := by decide +kernel
theorem dX12_guesses_0 : decode cX12_guesses 0 = .ok (.iconst 0, 1) := by decide +kernel
theorem dX12_guesses_1 : decode cX12_guesses 1 = .ok (.istore_n 3, 1) := by decide +kernel
theorem dX12_guesses_2 : decode cX12_guesses 2 = .ok (.aload_n 0, 1) := by decide +kernel
theorem dX12_guesses_3 : decode cX12_guesses 3 = .ok (.iconst (-1), 1) := by decide +kernel
theorem dX12_guesses_4 : decode cX12_guesses 4 = .ok (.putfield 210, 3) := by decide +kernel
theorem dX12_guesses_7 : decode cX12_guesses 7 = .ok (.sipush 1000, 3) := by decide +kernel
theorem dX12_guesses_10 : decode cX12_guesses 10 = .ok (.istore 4, 2) := by decide +kernel
theorem dX12_guesses_12 : decode cX12_guesses 12 = .ok (.iload 4, 2) := by decide +kernel
theorem dX12_guesses_14 : decode cX12_guesses 14 = .ok (.sipush 10000, 3) := by decide +kernel
theorem dX12_guesses_17 : decode cX12_guesses 17 = .ok (.if_icmp .ge 50, 3) := by decide +kernel
theorem dX12_guesses_20 : decode cX12_guesses 20 = .ok (.aload_n 0, 1) := by decide +kernel
theorem dX12_guesses_21 : decode cX12_guesses 21 = .ok (.iload_n 1, 1) := by decide +kernel
theorem dX12_guesses_22 : decode cX12_guesses 22 = .ok (.iload 4, 2) := by decide +kernel
theorem dX12_guesses_24 : decode cX12_guesses 24 = .ok (.sipush 1000, 3) := by decide +kernel
theorem dX12_guesses_27 : decode cX12_guesses 27 = .ok (.idiv, 1) := by decide +kernel
theorem dX12_guesses_28 : decode cX12_guesses 28 = .ok (.iload 4, 2) := by decide +kernel
theorem dX12_guesses_30 : decode cX12_guesses 30 = .ok (.sipush 1000, 3) := by decide +kernel
theorem dX12_guesses_33 : decode cX12_guesses 33 = .ok (.irem, 1) := by decide +kernel
theorem dX12_guesses_34 : decode cX12_guesses 34 = .ok (.iload_n 2, 1) := by decide +kernel
theorem dX12_guesses_35 : decode cX12_guesses 35 = .ok (.invokevirtual 213, 3) := by decide +kernel
theorem dX12_guesses_38 : decode cX12_guesses 38 = .ok (.ifCond .eq 23, 3) := by decide +kernel
theorem dX12_guesses_41 : decode cX12_guesses 41 = .ok (.aload_n 0, 1) := by decide +kernel
theorem dX12_guesses_42 : decode cX12_guesses 42 = .ok (.iload_n 3, 1) := by decide +kernel
theorem dX12_guesses_43 : decode cX12_guesses 43 = .ok (.ifCond .ne 8, 3) := by decide +kernel
theorem dX12_guesses_46 : decode cX12_guesses 46 = .ok (.iload 4, 2) := by decide +kernel
theorem dX12_guesses_48 : decode cX12_guesses 48 = .ok (.goto 7, 3) := by decide +kernel
theorem dX12_guesses_51 : decode cX12_guesses 51 = .ok (.aload_n 0, 1) := by decide +kernel
theorem dX12_guesses_52 : decode cX12_guesses 52 = .ok (.getfield 210, 3) := by decide +kernel
theorem dX12_guesses_55 : decode cX12_guesses 55 = .ok (.putfield 210, 3) := by decide +kernel
theorem dX12_guesses_58 : decode cX12_guesses 58 = .ok (.iinc 3 1, 3) := by decide +kernel
theorem dX12_guesses_61 : decode cX12_guesses 61 = .ok (.iinc 4 1, 3) := by decide +kernel
theorem dX12_guesses_64 : decode cX12_guesses 64 = .ok (.goto (-52), 3) := by decide +kernel
theorem dX12_guesses_67 : decode cX12_guesses 67 = .ok (.iload_n 3, 1) := by decide +kernel
theorem dX12_guesses_68 : decode cX12_guesses 68 = .ok (.ireturn, 1) := by decide +kernel
theorem dX12_isGuessed_0 : decode cX12_isGuessed 0 = .ok (.iload_n 0, 1) := by decide +kernel
theorem dX12_isGuessed_1 : decode cX12_isGuessed 1 = .ok (.iconst 1, 1) := by decide +kernel
theorem dX12_isGuessed_2 : decode cX12_isGuessed 2 = .ok (.if_icmp .eq 13, 3) := by decide +kernel
theorem dX12_isGuessed_5 : decode cX12_isGuessed 5 = .ok (.iload_n 0, 1) := by decide +kernel
theorem dX12_isGuessed_6 : decode cX12_isGuessed 6 = .ok (.iconst 2, 1) := by decide +kernel
theorem dX12_isGuessed_7 : decode cX12_isGuessed 7 = .ok (.if_icmp .eq 8, 3) := by decide +kernel
theorem dX12_isGuessed_10 : decode cX12_isGuessed 10 = .ok (.iload_n 0, 1) := by decide +kernel
theorem dX12_isGuessed_11 : decode cX12_isGuessed 11 = .ok (.iconst 4, 1) := by decide +kernel
theorem dX12_isGuessed_12 : decode cX12_isGuessed 12 = .ok (.if_icmp .ne 7, 3) := by decide +kernel
theorem dX12_isGuessed_15 : decode cX12_isGuessed 15 = .ok (.iconst 1, 1) := by decide +kernel
theorem dX12_isGuessed_16 : decode cX12_isGuessed 16 = .ok (.goto 4, 3) := by decide +kernel
theorem dX12_isGuessed_19 : decode cX12_isGuessed 19 = .ok (.iconst 0, 1) := by decide +kernel
theorem dX12_isGuessed_20 : decode cX12_isGuessed 20 = .ok (.ireturn, 1) := by decide +kernel
theorem dX12_fits_0 : decode cX12_fits 0 = .ok (.iload_n 1, 1) := by decide +kernel
theorem dX12_fits_1 : decode cX12_fits 1 = .ok (.invokestatic 216, 3) := by decide +kernel
theorem dX12_fits_4 : decode cX12_fits 4 = .ok (.ifCond .eq 15, 3) := by decide +kernel
theorem dX12_fits_7 : decode cX12_fits 7 = .ok (.iload_n 2, 1) := by decide +kernel
theorem dX12_fits_8 : decode cX12_fits 8 = .ok (.i2l, 1) := by decide +kernel
theorem dX12_fits_9 : decode cX12_fits 9 = .ok (.lconst 0, 1) := by decide +kernel
theorem dX12_fits_10 : decode cX12_fits 10 = .ok (.ldc2_w 124, 3) := by decide +kernel
theorem dX12_fits_13 : decode cX12_fits 13 = .ok (.invokestatic 67, 3) := by decide +kernel
theorem dX12_fits_16 : decode cX12_fits 16 = .ok (.ifCond .ne 5, 3) := by decide +kernel
theorem dX12_fits_19 : decode cX12_fits 19 = .ok (.iconst (-1), 1) := by decide +kernel
theorem dX12_fits_20 : decode cX12_fits 20 = .ok (.ireturn, 1) := by decide +kernel
theorem dX12_fits_21 : decode cX12_fits 21 = .ok (.aload_n 0, 1) := by decide +kernel
theorem dX12_fits_22 : decode cX12_fits 22 = .ok (.iload_n 1, 1) := by decide +kernel
theorem dX12_fits_23 : decode cX12_fits 23 = .ok (.iconst (-1), 1) := by decide +kernel
theorem dX12_fits_24 : decode cX12_fits 24 = .ok (.invokevirtual 219, 3) := by decide +kernel
theorem dX12_fits_27 : decode cX12_fits 27 = .ok (.istore_n 3, 1) := by decide +kernel
theorem dX12_fits_28 : decode cX12_fits 28 = .ok (.iload_n 2, 1) := by decide +kernel
theorem dX12_fits_29 : decode cX12_fits 29 = .ok (.ifCond .ne 7, 3) := by decide +kernel
theorem dX12_fits_32 : decode cX12_fits 32 = .ok (.iload_n 3, 1) := by decide +kernel
theorem dX12_fits_33 : decode cX12_fits 33 = .ok (.goto 36, 3) := by decide +kernel
theorem dX12_fits_36 : decode cX12_fits 36 = .ok (.iload_n 3, 1) := by decide +kernel
theorem dX12_fits_37 : decode cX12_fits 37 = .ok (.ifCond .ne 8, 3) := by decide +kernel
theorem dX12_fits_40 : decode cX12_fits 40 = .ok (.bipush (-3), 2) := by decide +kernel
theorem dX12_fits_42 : decode cX12_fits 42 = .ok (.goto 27, 3) := by decide +kernel
theorem dX12_fits_45 : decode cX12_fits 45 = .ok (.iload_n 2, 1) := by decide +kernel
theorem dX12_fits_46 : decode cX12_fits 46 = .ok (.iconst 1, 1) := by decide +kernel
theorem dX12_fits_47 : decode cX12_fits 47 = .ok (.if_icmp .ne 14, 3) := by decide +kernel
theorem dX12_fits_50 : decode cX12_fits 50 = .ok (.aload_n 0, 1) := by decide +kernel
theorem dX12_fits_51 : decode cX12_fits 51 = .ok (.getfield 210, 3) := by decide +kernel
theorem dX12_fits_54 : decode cX12_fits 54 = .ok (.sipush 1000, 3) := by decide +kernel
theorem dX12_fits_57 : decode cX12_fits 57 = .ok (.idiv, 1) := by decide +kernel
theorem dX12_fits_58 : decode cX12_fits 58 = .ok (.goto 11, 3) := by decide +kernel
theorem dX12_fits_61 : decode cX12_fits 61 = .ok (.aload_n 0, 1) := by decide +kernel
theorem dX12_fits_62 : decode cX12_fits 62 = .ok (.getfield 210, 3) := by decide +kernel
theorem dX12_fits_65 : decode cX12_fits 65 = .ok (.sipush 1000, 3) := by decide +kernel
theorem dX12_fits_68 : decode cX12_fits 68 = .ok (.irem, 1) := by decide +kernel
theorem dX12_fits_69 : decode cX12_fits 69 = .ok (.ireturn, 1) := by decide +kernel
theorem dX12_liar_0 : decode cX12_liar 0 = .ok (.iload_n 1, 1) := by decide +kernel
theorem dX12_liar_1 : decode cX12_liar 1 = .ok (.invokestatic 216, 3) := by decide +kernel
theorem dX12_liar_4 : decode cX12_liar 4 = .ok (.ifCond .ne 5, 3) := by decide +kernel
theorem dX12_liar_7 : decode cX12_liar 7 = .ok (.iconst (-1), 1) := by decide +kernel
theorem dX12_liar_8 : decode cX12_liar 8 = .ok (.ireturn, 1) := by decide +kernel
theorem dX12_liar_9 : decode cX12_liar 9 = .ok (.iconst (-1), 1) := by decide +kernel
theorem dX12_liar_10 : decode cX12_liar 10 = .ok (.istore_n 2, 1) := by decide +kernel
theorem dX12_liar_11 : decode cX12_liar 11 = .ok (.aload_n 0, 1) := by decide +kernel
theorem dX12_liar_12 : decode cX12_liar 12 = .ok (.iload_n 1, 1) := by decide +kernel
theorem dX12_liar_13 : decode cX12_liar 13 = .ok (.iconst (-1), 1) := by decide +kernel
theorem dX12_liar_14 : decode cX12_liar 14 = .ok (.invokevirtual 219, 3) := by decide +kernel
theorem dX12_liar_17 : decode cX12_liar 17 = .ok (.ifCond .ne 7, 3) := by decide +kernel
theorem dX12_liar_20 : decode cX12_liar 20 = .ok (.iconst 1, 1) := by decide +kernel
theorem dX12_liar_21 : decode cX12_liar 21 = .ok (.goto 4, 3) := by decide +kernel
theorem dX12_liar_24 : decode cX12_liar 24 = .ok (.iconst 0, 1) := by decide +kernel
theorem dX12_liar_25 : decode cX12_liar 25 = .ok (.istore_n 3, 1) := by decide +kernel
theorem dX12_liar_26 : decode cX12_liar 26 = .ok (.iconst 0, 1) := by decide +kernel
theorem dX12_liar_27 : decode cX12_liar 27 = .ok (.istore 4, 2) := by decide +kernel
theorem dX12_liar_29 : decode cX12_liar 29 = .ok (.iload 4, 2) := by decide +kernel
theorem dX12_liar_31 : decode cX12_liar 31 = .ok (.aload_n 0, 1) := by decide +kernel
theorem dX12_liar_32 : decode cX12_liar 32 = .ok (.getfield 7, 3) := by decide +kernel
theorem dX12_liar_35 : decode cX12_liar 35 = .ok (.iconst 2, 1) := by decide +kernel
theorem dX12_liar_36 : decode cX12_liar 36 = .ok (.iaload, 1) := by decide +kernel
theorem dX12_liar_37 : decode cX12_liar 37 = .ok (.if_icmp .ge 34, 3) := by decide +kernel
theorem dX12_liar_40 : decode cX12_liar 40 = .ok (.iload_n 3, 1) := by decide +kernel
theorem dX12_liar_41 : decode cX12_liar 41 = .ok (.ifCond .eq 30, 3) := by decide +kernel
theorem dX12_liar_44 : decode cX12_liar 44 = .ok (.iload_n 2, 1) := by decide +kernel
theorem dX12_liar_45 : decode cX12_liar 45 = .ok (.ifCond .ge 26, 3) := by decide +kernel
theorem dX12_liar_48 : decode cX12_liar 48 = .ok (.aload_n 0, 1) := by decide +kernel
theorem dX12_liar_49 : decode cX12_liar 49 = .ok (.iload_n 1, 1) := by decide +kernel
theorem dX12_liar_50 : decode cX12_liar 50 = .ok (.iload 4, 2) := by decide +kernel
theorem dX12_liar_52 : decode cX12_liar 52 = .ok (.invokevirtual 219, 3) := by decide +kernel
theorem dX12_liar_55 : decode cX12_liar 55 = .ok (.ifCond .le 8, 3) := by decide +kernel
theorem dX12_liar_58 : decode cX12_liar 58 = .ok (.iload 4, 2) := by decide +kernel
theorem dX12_liar_60 : decode cX12_liar 60 = .ok (.goto 4, 3) := by decide +kernel
theorem dX12_liar_63 : decode cX12_liar 63 = .ok (.iconst (-1), 1) := by decide +kernel
theorem dX12_liar_64 : decode cX12_liar 64 = .ok (.istore_n 2, 1) := by decide +kernel
theorem dX12_liar_65 : decode cX12_liar 65 = .ok (.iinc 4 1, 3) := by decide +kernel
theorem dX12_liar_68 : decode cX12_liar 68 = .ok (.goto (-39), 3) := by decide +kernel
theorem dX12_liar_71 : decode cX12_liar 71 = .ok (.iload_n 2, 1) := by decide +kernel
theorem dX12_liar_72 : decode cX12_liar 72 = .ok (.invokestatic 158, 3) := by decide +kernel
theorem dX12_liar_75 : decode cX12_liar 75 = .ok (.ireturn, 1) := by decide +kernel
theorem dX12_prove_0 : decode cX12_prove 0 = .ok (.aload_n 0, 1) := by decide +kernel
theorem dX12_prove_1 : decode cX12_prove 1 = .ok (.iload_n 1, 1) := by decide +kernel
theorem dX12_prove_2 : decode cX12_prove 2 = .ok (.invokevirtual 114, 3) := by decide +kernel
theorem dX12_prove_5 : decode cX12_prove 5 = .ok (.ifCond .eq 23, 3) := by decide +kernel
theorem dX12_prove_8 : decode cX12_prove 8 = .ok (.iload_n 2, 1) := by decide +kernel
theorem dX12_prove_9 : decode cX12_prove 9 = .ok (.i2l, 1) := by decide +kernel
theorem dX12_prove_10 : decode cX12_prove 10 = .ok (.invokestatic 134, 3) := by decide +kernel
theorem dX12_prove_13 : decode cX12_prove 13 = .ok (.ifCond .eq 15, 3) := by decide +kernel
theorem dX12_prove_16 : decode cX12_prove 16 = .ok (.iload_n 3, 1) := by decide +kernel
theorem dX12_prove_17 : decode cX12_prove 17 = .ok (.i2l, 1) := by decide +kernel
theorem dX12_prove_18 : decode cX12_prove 18 = .ok (.lconst 1, 1) := by decide +kernel
theorem dX12_prove_19 : decode cX12_prove 19 = .ok (.ldc2_w 195, 3) := by decide +kernel
theorem dX12_prove_22 : decode cX12_prove 22 = .ok (.invokestatic 67, 3) := by decide +kernel
theorem dX12_prove_25 : decode cX12_prove 25 = .ok (.ifCond .ne 5, 3) := by decide +kernel
theorem dX12_prove_28 : decode cX12_prove 28 = .ok (.iconst (-1), 1) := by decide +kernel
theorem dX12_prove_29 : decode cX12_prove 29 = .ok (.ireturn, 1) := by decide +kernel
theorem dX12_prove_30 : decode cX12_prove 30 = .ok (.aload_n 0, 1) := by decide +kernel
theorem dX12_prove_31 : decode cX12_prove 31 = .ok (.iconst 0, 1) := by decide +kernel
theorem dX12_prove_32 : decode cX12_prove 32 = .ok (.putfield 222, 3) := by decide +kernel
theorem dX12_prove_35 : decode cX12_prove 35 = .ok (.iload_n 2, 1) := by decide +kernel
theorem dX12_prove_36 : decode cX12_prove 36 = .ok (.istore 4, 2) := by decide +kernel
theorem dX12_prove_38 : decode cX12_prove 38 = .ok (.aload_n 0, 1) := by decide +kernel
theorem dX12_prove_39 : decode cX12_prove 39 = .ok (.iload_n 1, 1) := by decide +kernel
theorem dX12_prove_40 : decode cX12_prove 40 = .ok (.iload 4, 2) := by decide +kernel
theorem dX12_prove_42 : decode cX12_prove 42 = .ok (.i2l, 1) := by decide +kernel
theorem dX12_prove_43 : decode cX12_prove 43 = .ok (.invokevirtual 144, 3) := by decide +kernel
theorem dX12_prove_46 : decode cX12_prove 46 = .ok (.istore 5, 2) := by decide +kernel
theorem dX12_prove_48 : decode cX12_prove 48 = .ok (.aload_n 0, 1) := by decide +kernel
theorem dX12_prove_49 : decode cX12_prove 49 = .ok (.getfield 222, 3) := by decide +kernel
theorem dX12_prove_52 : decode cX12_prove 52 = .ok (.iload_n 3, 1) := by decide +kernel
theorem dX12_prove_53 : decode cX12_prove 53 = .ok (.if_icmp .ge 82, 3) := by decide +kernel
theorem dX12_prove_56 : decode cX12_prove 56 = .ok (.iload 5, 2) := by decide +kernel
theorem dX12_prove_58 : decode cX12_prove 58 = .ok (.ifCond .lt 77, 3) := by decide +kernel
theorem dX12_prove_61 : decode cX12_prove 61 = .ok (.aload_n 0, 1) := by decide +kernel
theorem dX12_prove_62 : decode cX12_prove 62 = .ok (.getfield 38, 3) := by decide +kernel
theorem dX12_prove_65 : decode cX12_prove 65 = .ok (.iconst 3, 1) := by decide +kernel
theorem dX12_prove_66 : decode cX12_prove 66 = .ok (.aload_n 0, 1) := by decide +kernel
theorem dX12_prove_67 : decode cX12_prove 67 = .ok (.getfield 222, 3) := by decide +kernel
theorem dX12_prove_70 : decode cX12_prove 70 = .ok (.imul, 1) := by decide +kernel
theorem dX12_prove_71 : decode cX12_prove 71 = .ok (.aload_n 0, 1) := by decide +kernel
theorem dX12_prove_72 : decode cX12_prove 72 = .ok (.getfield 222, 3) := by decide +kernel
theorem dX12_prove_75 : decode cX12_prove 75 = .ok (.iconst 1, 1) := by decide +kernel
theorem dX12_prove_76 : decode cX12_prove 76 = .ok (.iadd, 1) := by decide +kernel
theorem dX12_prove_77 : decode cX12_prove 77 = .ok (.iastore, 1) := by decide +kernel
theorem dX12_prove_78 : decode cX12_prove 78 = .ok (.aload_n 0, 1) := by decide +kernel
theorem dX12_prove_79 : decode cX12_prove 79 = .ok (.getfield 38, 3) := by decide +kernel
theorem dX12_prove_82 : decode cX12_prove 82 = .ok (.iconst 3, 1) := by decide +kernel
theorem dX12_prove_83 : decode cX12_prove 83 = .ok (.aload_n 0, 1) := by decide +kernel
theorem dX12_prove_84 : decode cX12_prove 84 = .ok (.getfield 222, 3) := by decide +kernel
theorem dX12_prove_87 : decode cX12_prove 87 = .ok (.imul, 1) := by decide +kernel
theorem dX12_prove_88 : decode cX12_prove 88 = .ok (.iconst 1, 1) := by decide +kernel
theorem dX12_prove_89 : decode cX12_prove 89 = .ok (.iadd, 1) := by decide +kernel
theorem dX12_prove_90 : decode cX12_prove 90 = .ok (.iload 4, 2) := by decide +kernel
theorem dX12_prove_92 : decode cX12_prove 92 = .ok (.iastore, 1) := by decide +kernel
theorem dX12_prove_93 : decode cX12_prove 93 = .ok (.aload_n 0, 1) := by decide +kernel
theorem dX12_prove_94 : decode cX12_prove 94 = .ok (.getfield 38, 3) := by decide +kernel
theorem dX12_prove_97 : decode cX12_prove 97 = .ok (.iconst 3, 1) := by decide +kernel
theorem dX12_prove_98 : decode cX12_prove 98 = .ok (.aload_n 0, 1) := by decide +kernel
theorem dX12_prove_99 : decode cX12_prove 99 = .ok (.getfield 222, 3) := by decide +kernel
theorem dX12_prove_102 : decode cX12_prove 102 = .ok (.imul, 1) := by decide +kernel
theorem dX12_prove_103 : decode cX12_prove 103 = .ok (.iconst 2, 1) := by decide +kernel
theorem dX12_prove_104 : decode cX12_prove 104 = .ok (.iadd, 1) := by decide +kernel
theorem dX12_prove_105 : decode cX12_prove 105 = .ok (.iload 5, 2) := by decide +kernel
theorem dX12_prove_107 : decode cX12_prove 107 = .ok (.iastore, 1) := by decide +kernel
theorem dX12_prove_108 : decode cX12_prove 108 = .ok (.aload_n 0, 1) := by decide +kernel
theorem dX12_prove_109 : decode cX12_prove 109 = .ok (.dup, 1) := by decide +kernel
theorem dX12_prove_110 : decode cX12_prove 110 = .ok (.getfield 222, 3) := by decide +kernel
theorem dX12_prove_113 : decode cX12_prove 113 = .ok (.iconst 1, 1) := by decide +kernel
theorem dX12_prove_114 : decode cX12_prove 114 = .ok (.iadd, 1) := by decide +kernel
theorem dX12_prove_115 : decode cX12_prove 115 = .ok (.putfield 222, 3) := by decide +kernel
theorem dX12_prove_118 : decode cX12_prove 118 = .ok (.iload 5, 2) := by decide +kernel
theorem dX12_prove_120 : decode cX12_prove 120 = .ok (.istore 4, 2) := by decide +kernel
theorem dX12_prove_122 : decode cX12_prove 122 = .ok (.aload_n 0, 1) := by decide +kernel
theorem dX12_prove_123 : decode cX12_prove 123 = .ok (.iload_n 1, 1) := by decide +kernel
theorem dX12_prove_124 : decode cX12_prove 124 = .ok (.iload 4, 2) := by decide +kernel
theorem dX12_prove_126 : decode cX12_prove 126 = .ok (.i2l, 1) := by decide +kernel
theorem dX12_prove_127 : decode cX12_prove 127 = .ok (.invokevirtual 144, 3) := by decide +kernel
theorem dX12_prove_130 : decode cX12_prove 130 = .ok (.istore 5, 2) := by decide +kernel
theorem dX12_prove_132 : decode cX12_prove 132 = .ok (.goto (-84), 3) := by decide +kernel
theorem dX12_prove_135 : decode cX12_prove 135 = .ok (.aload_n 0, 1) := by decide +kernel
theorem dX12_prove_136 : decode cX12_prove 136 = .ok (.getfield 222, 3) := by decide +kernel
theorem dX12_prove_139 : decode cX12_prove 139 = .ok (.ireturn, 1) := by decide +kernel
theorem dX12_isRow_0 : decode cX12_isRow 0 = .ok (.iload_n 1, 1) := by decide +kernel
theorem dX12_isRow_1 : decode cX12_isRow 1 = .ok (.i2l, 1) := by decide +kernel
theorem dX12_isRow_2 : decode cX12_isRow 2 = .ok (.lconst 0, 1) := by decide +kernel
theorem dX12_isRow_3 : decode cX12_isRow 3 = .ok (.aload_n 0, 1) := by decide +kernel
theorem dX12_isRow_4 : decode cX12_isRow 4 = .ok (.getfield 222, 3) := by decide +kernel
theorem dX12_isRow_7 : decode cX12_isRow 7 = .ok (.iconst 1, 1) := by decide +kernel
theorem dX12_isRow_8 : decode cX12_isRow 8 = .ok (.isub, 1) := by decide +kernel
theorem dX12_isRow_9 : decode cX12_isRow 9 = .ok (.i2l, 1) := by decide +kernel
theorem dX12_isRow_10 : decode cX12_isRow 10 = .ok (.invokestatic 67, 3) := by decide +kernel
theorem dX12_isRow_13 : decode cX12_isRow 13 = .ok (.ifCond .eq 19, 3) := by decide +kernel
theorem dX12_isRow_16 : decode cX12_isRow 16 = .ok (.iload_n 2, 1) := by decide +kernel
theorem dX12_isRow_17 : decode cX12_isRow 17 = .ok (.i2l, 1) := by decide +kernel
theorem dX12_isRow_18 : decode cX12_isRow 18 = .ok (.lconst 0, 1) := by decide +kernel
theorem dX12_isRow_19 : decode cX12_isRow 19 = .ok (.ldc2_w 124, 3) := by decide +kernel
theorem dX12_isRow_22 : decode cX12_isRow 22 = .ok (.invokestatic 67, 3) := by decide +kernel
theorem dX12_isRow_25 : decode cX12_isRow 25 = .ok (.ifCond .eq 7, 3) := by decide +kernel
theorem dX12_isRow_28 : decode cX12_isRow 28 = .ok (.iconst 1, 1) := by decide +kernel
theorem dX12_isRow_29 : decode cX12_isRow 29 = .ok (.goto 4, 3) := by decide +kernel
theorem dX12_isRow_32 : decode cX12_isRow 32 = .ok (.iconst 0, 1) := by decide +kernel
theorem dX12_isRow_33 : decode cX12_isRow 33 = .ok (.ireturn, 1) := by decide +kernel
theorem dX12_row_0 : decode cX12_row 0 = .ok (.aload_n 0, 1) := by decide +kernel
theorem dX12_row_1 : decode cX12_row 1 = .ok (.iload_n 1, 1) := by decide +kernel
theorem dX12_row_2 : decode cX12_row 2 = .ok (.iload_n 2, 1) := by decide +kernel
theorem dX12_row_3 : decode cX12_row 3 = .ok (.invokevirtual 225, 3) := by decide +kernel
theorem dX12_row_6 : decode cX12_row 6 = .ok (.ifCond .eq 16, 3) := by decide +kernel
theorem dX12_row_9 : decode cX12_row 9 = .ok (.aload_n 0, 1) := by decide +kernel
theorem dX12_row_10 : decode cX12_row 10 = .ok (.getfield 38, 3) := by decide +kernel
theorem dX12_row_13 : decode cX12_row 13 = .ok (.iconst 3, 1) := by decide +kernel
theorem dX12_row_14 : decode cX12_row 14 = .ok (.iload_n 1, 1) := by decide +kernel
theorem dX12_row_15 : decode cX12_row 15 = .ok (.imul, 1) := by decide +kernel
theorem dX12_row_16 : decode cX12_row 16 = .ok (.iload_n 2, 1) := by decide +kernel
theorem dX12_row_17 : decode cX12_row 17 = .ok (.iadd, 1) := by decide +kernel
theorem dX12_row_18 : decode cX12_row 18 = .ok (.iaload, 1) := by decide +kernel
theorem dX12_row_19 : decode cX12_row 19 = .ok (.goto 5, 3) := by decide +kernel
theorem dX12_row_22 : decode cX12_row 22 = .ok (.bipush (-9), 2) := by decide +kernel
theorem dX12_row_24 : decode cX12_row 24 = .ok (.ireturn, 1) := by decide +kernel
theorem dX12_alterRow_0 : decode cX12_alterRow 0 = .ok (.aload_n 0, 1) := by decide +kernel
theorem dX12_alterRow_1 : decode cX12_alterRow 1 = .ok (.iload_n 1, 1) := by decide +kernel
theorem dX12_alterRow_2 : decode cX12_alterRow 2 = .ok (.iload_n 2, 1) := by decide +kernel
theorem dX12_alterRow_3 : decode cX12_alterRow 3 = .ok (.invokevirtual 225, 3) := by decide +kernel
theorem dX12_alterRow_6 : decode cX12_alterRow 6 = .ok (.ifCond .ne 6, 3) := by decide +kernel
theorem dX12_alterRow_9 : decode cX12_alterRow 9 = .ok (.bipush (-9), 2) := by decide +kernel
theorem dX12_alterRow_11 : decode cX12_alterRow 11 = .ok (.ireturn, 1) := by decide +kernel
theorem dX12_alterRow_12 : decode cX12_alterRow 12 = .ok (.aload_n 0, 1) := by decide +kernel
theorem dX12_alterRow_13 : decode cX12_alterRow 13 = .ok (.getfield 38, 3) := by decide +kernel
theorem dX12_alterRow_16 : decode cX12_alterRow 16 = .ok (.iconst 3, 1) := by decide +kernel
theorem dX12_alterRow_17 : decode cX12_alterRow 17 = .ok (.iload_n 1, 1) := by decide +kernel
theorem dX12_alterRow_18 : decode cX12_alterRow 18 = .ok (.imul, 1) := by decide +kernel
theorem dX12_alterRow_19 : decode cX12_alterRow 19 = .ok (.iload_n 2, 1) := by decide +kernel
theorem dX12_alterRow_20 : decode cX12_alterRow 20 = .ok (.iadd, 1) := by decide +kernel
theorem dX12_alterRow_21 : decode cX12_alterRow 21 = .ok (.iaload, 1) := by decide +kernel
theorem dX12_alterRow_22 : decode cX12_alterRow 22 = .ok (.istore 4, 2) := by decide +kernel
theorem dX12_alterRow_24 : decode cX12_alterRow 24 = .ok (.aload_n 0, 1) := by decide +kernel
theorem dX12_alterRow_25 : decode cX12_alterRow 25 = .ok (.getfield 38, 3) := by decide +kernel
theorem dX12_alterRow_28 : decode cX12_alterRow 28 = .ok (.iconst 3, 1) := by decide +kernel
theorem dX12_alterRow_29 : decode cX12_alterRow 29 = .ok (.iload_n 1, 1) := by decide +kernel
theorem dX12_alterRow_30 : decode cX12_alterRow 30 = .ok (.imul, 1) := by decide +kernel
theorem dX12_alterRow_31 : decode cX12_alterRow 31 = .ok (.iload_n 2, 1) := by decide +kernel
theorem dX12_alterRow_32 : decode cX12_alterRow 32 = .ok (.iadd, 1) := by decide +kernel
theorem dX12_alterRow_33 : decode cX12_alterRow 33 = .ok (.iload_n 3, 1) := by decide +kernel
theorem dX12_alterRow_34 : decode cX12_alterRow 34 = .ok (.iastore, 1) := by decide +kernel
theorem dX12_alterRow_35 : decode cX12_alterRow 35 = .ok (.iload 4, 2) := by decide +kernel
theorem dX12_alterRow_37 : decode cX12_alterRow 37 = .ok (.ireturn, 1) := by decide +kernel
theorem dX12_judge_0 : decode cX12_judge 0 = .ok (.aload_n 0, 1) := by decide +kernel
theorem dX12_judge_1 : decode cX12_judge 1 = .ok (.iload_n 1, 1) := by decide +kernel
theorem dX12_judge_2 : decode cX12_judge 2 = .ok (.invokevirtual 114, 3) := by decide +kernel
theorem dX12_judge_5 : decode cX12_judge 5 = .ok (.ifCond .ne 5, 3) := by decide +kernel
theorem dX12_judge_8 : decode cX12_judge 8 = .ok (.iconst (-1), 1) := by decide +kernel
theorem dX12_judge_9 : decode cX12_judge 9 = .ok (.ireturn, 1) := by decide +kernel
theorem dX12_judge_10 : decode cX12_judge 10 = .ok (.iconst 0, 1) := by decide +kernel
theorem dX12_judge_11 : decode cX12_judge 11 = .ok (.istore_n 2, 1) := by decide +kernel
theorem dX12_judge_12 : decode cX12_judge 12 = .ok (.iload_n 2, 1) := by decide +kernel
theorem dX12_judge_13 : decode cX12_judge 13 = .ok (.aload_n 0, 1) := by decide +kernel
theorem dX12_judge_14 : decode cX12_judge 14 = .ok (.getfield 222, 3) := by decide +kernel
theorem dX12_judge_17 : decode cX12_judge 17 = .ok (.if_icmp .ge 109, 3) := by decide +kernel
theorem dX12_judge_20 : decode cX12_judge 20 = .ok (.aload_n 0, 1) := by decide +kernel
theorem dX12_judge_21 : decode cX12_judge 21 = .ok (.getfield 38, 3) := by decide +kernel
theorem dX12_judge_24 : decode cX12_judge 24 = .ok (.iconst 3, 1) := by decide +kernel
theorem dX12_judge_25 : decode cX12_judge 25 = .ok (.iload_n 2, 1) := by decide +kernel
theorem dX12_judge_26 : decode cX12_judge 26 = .ok (.imul, 1) := by decide +kernel
theorem dX12_judge_27 : decode cX12_judge 27 = .ok (.iconst 1, 1) := by decide +kernel
theorem dX12_judge_28 : decode cX12_judge 28 = .ok (.iadd, 1) := by decide +kernel
theorem dX12_judge_29 : decode cX12_judge 29 = .ok (.iaload, 1) := by decide +kernel
theorem dX12_judge_30 : decode cX12_judge 30 = .ok (.istore_n 3, 1) := by decide +kernel
theorem dX12_judge_31 : decode cX12_judge 31 = .ok (.aload_n 0, 1) := by decide +kernel
theorem dX12_judge_32 : decode cX12_judge 32 = .ok (.getfield 38, 3) := by decide +kernel
theorem dX12_judge_35 : decode cX12_judge 35 = .ok (.iconst 3, 1) := by decide +kernel
theorem dX12_judge_36 : decode cX12_judge 36 = .ok (.iload_n 2, 1) := by decide +kernel
theorem dX12_judge_37 : decode cX12_judge 37 = .ok (.imul, 1) := by decide +kernel
theorem dX12_judge_38 : decode cX12_judge 38 = .ok (.iaload, 1) := by decide +kernel
theorem dX12_judge_39 : decode cX12_judge 39 = .ok (.iload_n 2, 1) := by decide +kernel
theorem dX12_judge_40 : decode cX12_judge 40 = .ok (.iconst 1, 1) := by decide +kernel
theorem dX12_judge_41 : decode cX12_judge 41 = .ok (.iadd, 1) := by decide +kernel
theorem dX12_judge_42 : decode cX12_judge 42 = .ok (.if_icmp .ne 36, 3) := by decide +kernel
theorem dX12_judge_45 : decode cX12_judge 45 = .ok (.iload_n 2, 1) := by decide +kernel
theorem dX12_judge_46 : decode cX12_judge 46 = .ok (.ifCond .ne 14, 3) := by decide +kernel
theorem dX12_judge_49 : decode cX12_judge 49 = .ok (.iload_n 3, 1) := by decide +kernel
theorem dX12_judge_50 : decode cX12_judge 50 = .ok (.i2l, 1) := by decide +kernel
theorem dX12_judge_51 : decode cX12_judge 51 = .ok (.invokestatic 134, 3) := by decide +kernel
theorem dX12_judge_54 : decode cX12_judge 54 = .ok (.ifCond .eq 24, 3) := by decide +kernel
theorem dX12_judge_57 : decode cX12_judge 57 = .ok (.goto 17, 3) := by decide +kernel
theorem dX12_judge_60 : decode cX12_judge 60 = .ok (.iload_n 3, 1) := by decide +kernel
theorem dX12_judge_61 : decode cX12_judge 61 = .ok (.aload_n 0, 1) := by decide +kernel
theorem dX12_judge_62 : decode cX12_judge 62 = .ok (.getfield 38, 3) := by decide +kernel
theorem dX12_judge_65 : decode cX12_judge 65 = .ok (.iconst 3, 1) := by decide +kernel
theorem dX12_judge_66 : decode cX12_judge 66 = .ok (.iload_n 2, 1) := by decide +kernel
theorem dX12_judge_67 : decode cX12_judge 67 = .ok (.imul, 1) := by decide +kernel
theorem dX12_judge_68 : decode cX12_judge 68 = .ok (.iconst 1, 1) := by decide +kernel
theorem dX12_judge_69 : decode cX12_judge 69 = .ok (.isub, 1) := by decide +kernel
theorem dX12_judge_70 : decode cX12_judge 70 = .ok (.iaload, 1) := by decide +kernel
theorem dX12_judge_71 : decode cX12_judge 71 = .ok (.if_icmp .ne 7, 3) := by decide +kernel
theorem dX12_judge_74 : decode cX12_judge 74 = .ok (.iconst 1, 1) := by decide +kernel
theorem dX12_judge_75 : decode cX12_judge 75 = .ok (.goto 4, 3) := by decide +kernel
theorem dX12_judge_78 : decode cX12_judge 78 = .ok (.iconst 0, 1) := by decide +kernel
theorem dX12_judge_79 : decode cX12_judge 79 = .ok (.istore 4, 2) := by decide +kernel
theorem dX12_judge_81 : decode cX12_judge 81 = .ok (.iload 4, 2) := by decide +kernel
theorem dX12_judge_83 : decode cX12_judge 83 = .ok (.ifCond .eq 33, 3) := by decide +kernel
theorem dX12_judge_86 : decode cX12_judge 86 = .ok (.aload_n 0, 1) := by decide +kernel
theorem dX12_judge_87 : decode cX12_judge 87 = .ok (.iload_n 1, 1) := by decide +kernel
theorem dX12_judge_88 : decode cX12_judge 88 = .ok (.iload_n 3, 1) := by decide +kernel
theorem dX12_judge_89 : decode cX12_judge 89 = .ok (.i2l, 1) := by decide +kernel
theorem dX12_judge_90 : decode cX12_judge 90 = .ok (.invokevirtual 144, 3) := by decide +kernel
theorem dX12_judge_93 : decode cX12_judge 93 = .ok (.ifCond .lt 23, 3) := by decide +kernel
theorem dX12_judge_96 : decode cX12_judge 96 = .ok (.aload_n 0, 1) := by decide +kernel
theorem dX12_judge_97 : decode cX12_judge 97 = .ok (.iload_n 1, 1) := by decide +kernel
theorem dX12_judge_98 : decode cX12_judge 98 = .ok (.iload_n 3, 1) := by decide +kernel
theorem dX12_judge_99 : decode cX12_judge 99 = .ok (.i2l, 1) := by decide +kernel
theorem dX12_judge_100 : decode cX12_judge 100 = .ok (.invokevirtual 144, 3) := by decide +kernel
theorem dX12_judge_103 : decode cX12_judge 103 = .ok (.aload_n 0, 1) := by decide +kernel
theorem dX12_judge_104 : decode cX12_judge 104 = .ok (.getfield 38, 3) := by decide +kernel
theorem dX12_judge_107 : decode cX12_judge 107 = .ok (.iconst 3, 1) := by decide +kernel
theorem dX12_judge_108 : decode cX12_judge 108 = .ok (.iload_n 2, 1) := by decide +kernel
theorem dX12_judge_109 : decode cX12_judge 109 = .ok (.imul, 1) := by decide +kernel
theorem dX12_judge_110 : decode cX12_judge 110 = .ok (.iconst 2, 1) := by decide +kernel
theorem dX12_judge_111 : decode cX12_judge 111 = .ok (.iadd, 1) := by decide +kernel
theorem dX12_judge_112 : decode cX12_judge 112 = .ok (.iaload, 1) := by decide +kernel
theorem dX12_judge_113 : decode cX12_judge 113 = .ok (.if_icmp .eq 7, 3) := by decide +kernel
theorem dX12_judge_116 : decode cX12_judge 116 = .ok (.iload_n 2, 1) := by decide +kernel
theorem dX12_judge_117 : decode cX12_judge 117 = .ok (.iconst 1, 1) := by decide +kernel
theorem dX12_judge_118 : decode cX12_judge 118 = .ok (.iadd, 1) := by decide +kernel
theorem dX12_judge_119 : decode cX12_judge 119 = .ok (.ireturn, 1) := by decide +kernel
theorem dX12_judge_120 : decode cX12_judge 120 = .ok (.iinc 2 1, 3) := by decide +kernel
theorem dX12_judge_123 : decode cX12_judge 123 = .ok (.goto (-111), 3) := by decide +kernel
theorem dX12_judge_126 : decode cX12_judge 126 = .ok (.iconst 0, 1) := by decide +kernel
theorem dX12_judge_127 : decode cX12_judge 127 = .ok (.ireturn, 1) := by decide +kernel
theorem dX12_feed_0 : decode cX12_feed 0 = .ok (.iload_n 3, 1) := by decide +kernel
theorem dX12_feed_1 : decode cX12_feed 1 = .ok (.i2l, 1) := by decide +kernel
theorem dX12_feed_2 : decode cX12_feed 2 = .ok (.lconst 1, 1) := by decide +kernel
theorem dX12_feed_3 : decode cX12_feed 3 = .ok (.ldc2_w 179, 3) := by decide +kernel
theorem dX12_feed_6 : decode cX12_feed 6 = .ok (.invokestatic 67, 3) := by decide +kernel
theorem dX12_feed_9 : decode cX12_feed 9 = .ok (.ifCond .ne 5, 3) := by decide +kernel
theorem dX12_feed_12 : decode cX12_feed 12 = .ok (.iconst (-1), 1) := by decide +kernel
theorem dX12_feed_13 : decode cX12_feed 13 = .ok (.ireturn, 1) := by decide +kernel
theorem dX12_feed_14 : decode cX12_feed 14 = .ok (.aload_n 0, 1) := by decide +kernel
theorem dX12_feed_15 : decode cX12_feed 15 = .ok (.getfield 228, 3) := by decide +kernel
theorem dX12_feed_18 : decode cX12_feed 18 = .ok (.iload_n 3, 1) := by decide +kernel
theorem dX12_feed_19 : decode cX12_feed 19 = .ok (.iadd, 1) := by decide +kernel
theorem dX12_feed_20 : decode cX12_feed 20 = .ok (.sipush 200, 3) := by decide +kernel
theorem dX12_feed_23 : decode cX12_feed 23 = .ok (.if_icmp .le 6, 3) := by decide +kernel
theorem dX12_feed_26 : decode cX12_feed 26 = .ok (.bipush (-2), 2) := by decide +kernel
theorem dX12_feed_28 : decode cX12_feed 28 = .ok (.ireturn, 1) := by decide +kernel
theorem dX12_feed_29 : decode cX12_feed 29 = .ok (.iconst 0, 1) := by decide +kernel
theorem dX12_feed_30 : decode cX12_feed 30 = .ok (.istore 4, 2) := by decide +kernel
theorem dX12_feed_32 : decode cX12_feed 32 = .ok (.iload 4, 2) := by decide +kernel
theorem dX12_feed_34 : decode cX12_feed 34 = .ok (.iload_n 3, 1) := by decide +kernel
theorem dX12_feed_35 : decode cX12_feed 35 = .ok (.if_icmp .ge 40, 3) := by decide +kernel
theorem dX12_feed_38 : decode cX12_feed 38 = .ok (.aload_n 0, 1) := by decide +kernel
theorem dX12_feed_39 : decode cX12_feed 39 = .ok (.getfield 41, 3) := by decide +kernel
theorem dX12_feed_42 : decode cX12_feed 42 = .ok (.aload_n 0, 1) := by decide +kernel
theorem dX12_feed_43 : decode cX12_feed 43 = .ok (.getfield 228, 3) := by decide +kernel
theorem dX12_feed_46 : decode cX12_feed 46 = .ok (.lload_n 1, 1) := by decide +kernel
theorem dX12_feed_47 : decode cX12_feed 47 = .ok (.bipush 8, 2) := by decide +kernel
theorem dX12_feed_49 : decode cX12_feed 49 = .ok (.iload 4, 2) := by decide +kernel
theorem dX12_feed_51 : decode cX12_feed 51 = .ok (.imul, 1) := by decide +kernel
theorem dX12_feed_52 : decode cX12_feed 52 = .ok (.lshr, 1) := by decide +kernel
theorem dX12_feed_53 : decode cX12_feed 53 = .ok (.ldc2_w 231, 3) := by decide +kernel
theorem dX12_feed_56 : decode cX12_feed 56 = .ok (.land, 1) := by decide +kernel
theorem dX12_feed_57 : decode cX12_feed 57 = .ok (.l2i, 1) := by decide +kernel
theorem dX12_feed_58 : decode cX12_feed 58 = .ok (.iastore, 1) := by decide +kernel
theorem dX12_feed_59 : decode cX12_feed 59 = .ok (.aload_n 0, 1) := by decide +kernel
theorem dX12_feed_60 : decode cX12_feed 60 = .ok (.dup, 1) := by decide +kernel
theorem dX12_feed_61 : decode cX12_feed 61 = .ok (.getfield 228, 3) := by decide +kernel
theorem dX12_feed_64 : decode cX12_feed 64 = .ok (.iconst 1, 1) := by decide +kernel
theorem dX12_feed_65 : decode cX12_feed 65 = .ok (.iadd, 1) := by decide +kernel
theorem dX12_feed_66 : decode cX12_feed 66 = .ok (.putfield 228, 3) := by decide +kernel
theorem dX12_feed_69 : decode cX12_feed 69 = .ok (.iinc 4 1, 3) := by decide +kernel
theorem dX12_feed_72 : decode cX12_feed 72 = .ok (.goto (-40), 3) := by decide +kernel
theorem dX12_feed_75 : decode cX12_feed 75 = .ok (.aload_n 0, 1) := by decide +kernel
theorem dX12_feed_76 : decode cX12_feed 76 = .ok (.getfield 228, 3) := by decide +kernel
theorem dX12_feed_79 : decode cX12_feed 79 = .ok (.ireturn, 1) := by decide +kernel
theorem dX12_byteAt_0 : decode cX12_byteAt 0 = .ok (.iload_n 1, 1) := by decide +kernel
theorem dX12_byteAt_1 : decode cX12_byteAt 1 = .ok (.aload_n 0, 1) := by decide +kernel
theorem dX12_byteAt_2 : decode cX12_byteAt 2 = .ok (.getfield 228, 3) := by decide +kernel
theorem dX12_byteAt_5 : decode cX12_byteAt 5 = .ok (.if_icmp .ge 12, 3) := by decide +kernel
theorem dX12_byteAt_8 : decode cX12_byteAt 8 = .ok (.aload_n 0, 1) := by decide +kernel
theorem dX12_byteAt_9 : decode cX12_byteAt 9 = .ok (.getfield 41, 3) := by decide +kernel
theorem dX12_byteAt_12 : decode cX12_byteAt 12 = .ok (.iload_n 1, 1) := by decide +kernel
theorem dX12_byteAt_13 : decode cX12_byteAt 13 = .ok (.iaload, 1) := by decide +kernel
theorem dX12_byteAt_14 : decode cX12_byteAt 14 = .ok (.goto 4, 3) := by decide +kernel
theorem dX12_byteAt_17 : decode cX12_byteAt 17 = .ok (.iconst (-1), 1) := by decide +kernel
theorem dX12_byteAt_18 : decode cX12_byteAt 18 = .ok (.ireturn, 1) := by decide +kernel
theorem dX12_isLetter_0 : decode cX12_isLetter 0 = .ok (.iload_n 0, 1) := by decide +kernel
theorem dX12_isLetter_1 : decode cX12_isLetter 1 = .ok (.i2l, 1) := by decide +kernel
theorem dX12_isLetter_2 : decode cX12_isLetter 2 = .ok (.ldc2_w 233, 3) := by decide +kernel
theorem dX12_isLetter_5 : decode cX12_isLetter 5 = .ok (.ldc2_w 235, 3) := by decide +kernel
theorem dX12_isLetter_8 : decode cX12_isLetter 8 = .ok (.invokestatic 67, 3) := by decide +kernel
theorem dX12_isLetter_11 : decode cX12_isLetter 11 = .ok (.ireturn, 1) := by decide +kernel
theorem dX12_isDigit_0 : decode cX12_isDigit 0 = .ok (.iload_n 0, 1) := by decide +kernel
theorem dX12_isDigit_1 : decode cX12_isDigit 1 = .ok (.i2l, 1) := by decide +kernel
theorem dX12_isDigit_2 : decode cX12_isDigit 2 = .ok (.ldc2_w 237, 3) := by decide +kernel
theorem dX12_isDigit_5 : decode cX12_isDigit 5 = .ok (.ldc2_w 239, 3) := by decide +kernel
theorem dX12_isDigit_8 : decode cX12_isDigit 8 = .ok (.invokestatic 67, 3) := by decide +kernel
theorem dX12_isDigit_11 : decode cX12_isDigit 11 = .ok (.ireturn, 1) := by decide +kernel
theorem dX12_token_0 : decode cX12_token 0 = .ok (.aload_n 0, 1) := by decide +kernel
theorem dX12_token_1 : decode cX12_token 1 = .ok (.aload_n 0, 1) := by decide +kernel
theorem dX12_token_2 : decode cX12_token 2 = .ok (.getfield 241, 3) := by decide +kernel
theorem dX12_token_5 : decode cX12_token 5 = .ok (.putfield 244, 3) := by decide +kernel
theorem dX12_token_8 : decode cX12_token 8 = .ok (.aload_n 0, 1) := by decide +kernel
theorem dX12_token_9 : decode cX12_token 9 = .ok (.aload_n 0, 1) := by decide +kernel
theorem dX12_token_10 : decode cX12_token 10 = .ok (.getfield 244, 3) := by decide +kernel
theorem dX12_token_13 : decode cX12_token 13 = .ok (.invokevirtual 247, 3) := by decide +kernel
theorem dX12_token_16 : decode cX12_token 16 = .ok (.bipush 32, 2) := by decide +kernel
theorem dX12_token_18 : decode cX12_token 18 = .ok (.if_icmp .ne 16, 3) := by decide +kernel
theorem dX12_token_21 : decode cX12_token 21 = .ok (.aload_n 0, 1) := by decide +kernel
theorem dX12_token_22 : decode cX12_token 22 = .ok (.dup, 1) := by decide +kernel
theorem dX12_token_23 : decode cX12_token 23 = .ok (.getfield 244, 3) := by decide +kernel
theorem dX12_token_26 : decode cX12_token 26 = .ok (.iconst 1, 1) := by decide +kernel
theorem dX12_token_27 : decode cX12_token 27 = .ok (.iadd, 1) := by decide +kernel
theorem dX12_token_28 : decode cX12_token 28 = .ok (.putfield 244, 3) := by decide +kernel
theorem dX12_token_31 : decode cX12_token 31 = .ok (.goto (-23), 3) := by decide +kernel
theorem dX12_token_34 : decode cX12_token 34 = .ok (.aload_n 0, 1) := by decide +kernel
theorem dX12_token_35 : decode cX12_token 35 = .ok (.aload_n 0, 1) := by decide +kernel
theorem dX12_token_36 : decode cX12_token 36 = .ok (.getfield 244, 3) := by decide +kernel
theorem dX12_token_39 : decode cX12_token 39 = .ok (.invokevirtual 247, 3) := by decide +kernel
theorem dX12_token_42 : decode cX12_token 42 = .ok (.invokestatic 250, 3) := by decide +kernel
theorem dX12_token_45 : decode cX12_token 45 = .ok (.istore_n 1, 1) := by decide +kernel
theorem dX12_token_46 : decode cX12_token 46 = .ok (.aload_n 0, 1) := by decide +kernel
theorem dX12_token_47 : decode cX12_token 47 = .ok (.aload_n 0, 1) := by decide +kernel
theorem dX12_token_48 : decode cX12_token 48 = .ok (.getfield 244, 3) := by decide +kernel
theorem dX12_token_51 : decode cX12_token 51 = .ok (.invokevirtual 247, 3) := by decide +kernel
theorem dX12_token_54 : decode cX12_token 54 = .ok (.invokestatic 253, 3) := by decide +kernel
theorem dX12_token_57 : decode cX12_token 57 = .ok (.istore_n 2, 1) := by decide +kernel
theorem dX12_token_58 : decode cX12_token 58 = .ok (.aload_n 0, 1) := by decide +kernel
theorem dX12_token_59 : decode cX12_token 59 = .ok (.aload_n 0, 1) := by decide +kernel
theorem dX12_token_60 : decode cX12_token 60 = .ok (.getfield 244, 3) := by decide +kernel
theorem dX12_token_63 : decode cX12_token 63 = .ok (.aload_n 0, 1) := by decide +kernel
theorem dX12_token_64 : decode cX12_token 64 = .ok (.getfield 228, 3) := by decide +kernel
theorem dX12_token_67 : decode cX12_token 67 = .ok (.if_icmp .ge 12, 3) := by decide +kernel
theorem dX12_token_70 : decode cX12_token 70 = .ok (.aload_n 0, 1) := by decide +kernel
theorem dX12_token_71 : decode cX12_token 71 = .ok (.getfield 244, 3) := by decide +kernel
theorem dX12_token_74 : decode cX12_token 74 = .ok (.iconst 1, 1) := by decide +kernel
theorem dX12_token_75 : decode cX12_token 75 = .ok (.iadd, 1) := by decide +kernel
theorem dX12_token_76 : decode cX12_token 76 = .ok (.goto 7, 3) := by decide +kernel
theorem dX12_token_79 : decode cX12_token 79 = .ok (.aload_n 0, 1) := by decide +kernel
theorem dX12_token_80 : decode cX12_token 80 = .ok (.getfield 244, 3) := by decide +kernel
theorem dX12_token_83 : decode cX12_token 83 = .ok (.putfield 241, 3) := by decide +kernel
theorem dX12_token_86 : decode cX12_token 86 = .ok (.iload_n 1, 1) := by decide +kernel
theorem dX12_token_87 : decode cX12_token 87 = .ok (.ifCond .eq 17, 3) := by decide +kernel
theorem dX12_token_90 : decode cX12_token 90 = .ok (.aload_n 0, 1) := by decide +kernel
theorem dX12_token_91 : decode cX12_token 91 = .ok (.aload_n 0, 1) := by decide +kernel
theorem dX12_token_92 : decode cX12_token 92 = .ok (.getfield 241, 3) := by decide +kernel
theorem dX12_token_95 : decode cX12_token 95 = .ok (.invokevirtual 247, 3) := by decide +kernel
theorem dX12_token_98 : decode cX12_token 98 = .ok (.invokestatic 250, 3) := by decide +kernel
theorem dX12_token_101 : decode cX12_token 101 = .ok (.ifCond .ne 21, 3) := by decide +kernel
theorem dX12_token_104 : decode cX12_token 104 = .ok (.iload_n 2, 1) := by decide +kernel
theorem dX12_token_105 : decode cX12_token 105 = .ok (.ifCond .eq 30, 3) := by decide +kernel
theorem dX12_token_108 : decode cX12_token 108 = .ok (.aload_n 0, 1) := by decide +kernel
theorem dX12_token_109 : decode cX12_token 109 = .ok (.aload_n 0, 1) := by decide +kernel
theorem dX12_token_110 : decode cX12_token 110 = .ok (.getfield 241, 3) := by decide +kernel
theorem dX12_token_113 : decode cX12_token 113 = .ok (.invokevirtual 247, 3) := by decide +kernel
theorem dX12_token_116 : decode cX12_token 116 = .ok (.invokestatic 253, 3) := by decide +kernel
theorem dX12_token_119 : decode cX12_token 119 = .ok (.ifCond .eq 16, 3) := by decide +kernel
theorem dX12_token_122 : decode cX12_token 122 = .ok (.aload_n 0, 1) := by decide +kernel
theorem dX12_token_123 : decode cX12_token 123 = .ok (.dup, 1) := by decide +kernel
theorem dX12_token_124 : decode cX12_token 124 = .ok (.getfield 241, 3) := by decide +kernel
theorem dX12_token_127 : decode cX12_token 127 = .ok (.iconst 1, 1) := by decide +kernel
theorem dX12_token_128 : decode cX12_token 128 = .ok (.iadd, 1) := by decide +kernel
theorem dX12_token_129 : decode cX12_token 129 = .ok (.putfield 241, 3) := by decide +kernel
theorem dX12_token_132 : decode cX12_token 132 = .ok (.goto (-46), 3) := by decide +kernel
theorem dX12_token_135 : decode cX12_token 135 = .ok (.return_, 1) := by decide +kernel
theorem dX12_needs_0 : decode cX12_needs 0 = .ok (.aload_n 0, 1) := by decide +kernel
theorem dX12_needs_1 : decode cX12_needs 1 = .ok (.aload_n 0, 1) := by decide +kernel
theorem dX12_needs_2 : decode cX12_needs 2 = .ok (.getfield 256, 3) := by decide +kernel
theorem dX12_needs_5 : decode cX12_needs 5 = .ok (.ifCond .ne 7, 3) := by decide +kernel
theorem dX12_needs_8 : decode cX12_needs 8 = .ok (.iload_n 1, 1) := by decide +kernel
theorem dX12_needs_9 : decode cX12_needs 9 = .ok (.ifCond .ne 7, 3) := by decide +kernel
theorem dX12_needs_12 : decode cX12_needs 12 = .ok (.iconst 1, 1) := by decide +kernel
theorem dX12_needs_13 : decode cX12_needs 13 = .ok (.goto 4, 3) := by decide +kernel
theorem dX12_needs_16 : decode cX12_needs 16 = .ok (.iconst 0, 1) := by decide +kernel
theorem dX12_needs_17 : decode cX12_needs 17 = .ok (.putfield 256, 3) := by decide +kernel
theorem dX12_needs_20 : decode cX12_needs 20 = .ok (.aload_n 0, 1) := by decide +kernel
theorem dX12_needs_21 : decode cX12_needs 21 = .ok (.getfield 256, 3) := by decide +kernel
theorem dX12_needs_24 : decode cX12_needs 24 = .ok (.ifCond .ne 7, 3) := by decide +kernel
theorem dX12_needs_27 : decode cX12_needs 27 = .ok (.aload_n 0, 1) := by decide +kernel
theorem dX12_needs_28 : decode cX12_needs 28 = .ok (.invokevirtual 259, 3) := by decide +kernel
theorem dX12_needs_31 : decode cX12_needs 31 = .ok (.return_, 1) := by decide +kernel
theorem dX12_word_0 : decode cX12_word 0 = .ok (.lconst 0, 1) := by decide +kernel
theorem dX12_word_1 : decode cX12_word 1 = .ok (.lstore_n 1, 1) := by decide +kernel
theorem dX12_word_2 : decode cX12_word 2 = .ok (.aload_n 0, 1) := by decide +kernel
theorem dX12_word_3 : decode cX12_word 3 = .ok (.getfield 244, 3) := by decide +kernel
theorem dX12_word_6 : decode cX12_word 6 = .ok (.istore_n 3, 1) := by decide +kernel
theorem dX12_word_7 : decode cX12_word 7 = .ok (.iload_n 3, 1) := by decide +kernel
theorem dX12_word_8 : decode cX12_word 8 = .ok (.aload_n 0, 1) := by decide +kernel
theorem dX12_word_9 : decode cX12_word 9 = .ok (.getfield 241, 3) := by decide +kernel
theorem dX12_word_12 : decode cX12_word 12 = .ok (.if_icmp .ge 38, 3) := by decide +kernel
theorem dX12_word_15 : decode cX12_word 15 = .ok (.lload_n 1, 1) := by decide +kernel
theorem dX12_word_16 : decode cX12_word 16 = .ok (.ldc2_w 262, 3) := by decide +kernel
