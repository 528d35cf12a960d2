theorem dX12_word_19 : decode cX12_word 19 = .ok (.lcmp, 1) := by decide +kernel
theorem dX12_word_20 : decode cX12_word 20 = .ok (.ifCond .le 7, 3) := by decide +kernel
theorem dX12_word_23 : decode cX12_word 23 = .ok (.lload_n 1, 1) := by decide +kernel
theorem dX12_word_24 : decode cX12_word 24 = .ok (.goto 19, 3) := by decide +kernel
theorem dX12_word_27 : decode cX12_word 27 = .ok (.ldc2_w 264, 3) := by decide +kernel
theorem dX12_word_30 : decode cX12_word 30 = .ok (.lload_n 1, 1) := by decide +kernel
theorem dX12_word_31 : decode cX12_word 31 = .ok (.lmul, 1) := by decide +kernel
theorem dX12_word_32 : decode cX12_word 32 = .ok (.aload_n 0, 1) := by decide +kernel
theorem dX12_word_33 : decode cX12_word 33 = .ok (.getfield 41, 3) := by decide +kernel
theorem dX12_word_36 : decode cX12_word 36 = .ok (.iload_n 3, 1) := by decide +kernel
theorem dX12_word_37 : decode cX12_word 37 = .ok (.iaload, 1) := by decide +kernel
theorem dX12_word_38 : decode cX12_word 38 = .ok (.bipush 96, 2) := by decide +kernel
theorem dX12_word_40 : decode cX12_word 40 = .ok (.isub, 1) := by decide +kernel
theorem dX12_word_41 : decode cX12_word 41 = .ok (.i2l, 1) := by decide +kernel
theorem dX12_word_42 : decode cX12_word 42 = .ok (.ladd, 1) := by decide +kernel
theorem dX12_word_43 : decode cX12_word 43 = .ok (.lstore_n 1, 1) := by decide +kernel
theorem dX12_word_44 : decode cX12_word 44 = .ok (.iinc 3 1, 3) := by decide +kernel
theorem dX12_word_47 : decode cX12_word 47 = .ok (.goto (-40), 3) := by decide +kernel
theorem dX12_word_50 : decode cX12_word 50 = .ok (.aload_n 0, 1) := by decide +kernel
theorem dX12_word_51 : decode cX12_word 51 = .ok (.getfield 256, 3) := by decide +kernel
theorem dX12_word_54 : decode cX12_word 54 = .ok (.ifCond .ne 17, 3) := by decide +kernel
theorem dX12_word_57 : decode cX12_word 57 = .ok (.aload_n 0, 1) := by decide +kernel
theorem dX12_word_58 : decode cX12_word 58 = .ok (.aload_n 0, 1) := by decide +kernel
theorem dX12_word_59 : decode cX12_word 59 = .ok (.getfield 244, 3) := by decide +kernel
theorem dX12_word_62 : decode cX12_word 62 = .ok (.invokevirtual 247, 3) := by decide +kernel
theorem dX12_word_65 : decode cX12_word 65 = .ok (.invokestatic 250, 3) := by decide +kernel
theorem dX12_word_68 : decode cX12_word 68 = .ok (.ifCond .ne 7, 3) := by decide +kernel
theorem dX12_word_71 : decode cX12_word 71 = .ok (.lconst 0, 1) := by decide +kernel
theorem dX12_word_72 : decode cX12_word 72 = .ok (.goto 4, 3) := by decide +kernel
theorem dX12_word_75 : decode cX12_word 75 = .ok (.lload_n 1, 1) := by decide +kernel
theorem dX12_word_76 : decode cX12_word 76 = .ok (.lreturn, 1) := by decide +kernel
theorem dX12_number_0 : decode cX12_number 0 = .ok (.aload_n 0, 1) := by decide +kernel
theorem dX12_number_1 : decode cX12_number 1 = .ok (.aload_n 0, 1) := by decide +kernel
theorem dX12_number_2 : decode cX12_number 2 = .ok (.getfield 244, 3) := by decide +kernel
theorem dX12_number_5 : decode cX12_number 5 = .ok (.invokevirtual 247, 3) := by decide +kernel
theorem dX12_number_8 : decode cX12_number 8 = .ok (.invokestatic 253, 3) := by decide +kernel
theorem dX12_number_11 : decode cX12_number 11 = .ok (.ifCond .eq 20, 3) := by decide +kernel
theorem dX12_number_14 : decode cX12_number 14 = .ok (.aload_n 0, 1) := by decide +kernel
theorem dX12_number_15 : decode cX12_number 15 = .ok (.getfield 241, 3) := by decide +kernel
theorem dX12_number_18 : decode cX12_number 18 = .ok (.aload_n 0, 1) := by decide +kernel
theorem dX12_number_19 : decode cX12_number 19 = .ok (.getfield 244, 3) := by decide +kernel
theorem dX12_number_22 : decode cX12_number 22 = .ok (.isub, 1) := by decide +kernel
theorem dX12_number_23 : decode cX12_number 23 = .ok (.iconst 5, 1) := by decide +kernel
theorem dX12_number_24 : decode cX12_number 24 = .ok (.if_icmp .ge 7, 3) := by decide +kernel
theorem dX12_number_27 : decode cX12_number 27 = .ok (.iconst 1, 1) := by decide +kernel
theorem dX12_number_28 : decode cX12_number 28 = .ok (.goto 4, 3) := by decide +kernel
theorem dX12_number_31 : decode cX12_number 31 = .ok (.iconst 0, 1) := by decide +kernel
theorem dX12_number_32 : decode cX12_number 32 = .ok (.istore_n 2, 1) := by decide +kernel
theorem dX12_number_33 : decode cX12_number 33 = .ok (.aload_n 0, 1) := by decide +kernel
theorem dX12_number_34 : decode cX12_number 34 = .ok (.iconst 0, 1) := by decide +kernel
theorem dX12_number_35 : decode cX12_number 35 = .ok (.putfield 266, 3) := by decide +kernel
theorem dX12_number_38 : decode cX12_number 38 = .ok (.aload_n 0, 1) := by decide +kernel
theorem dX12_number_39 : decode cX12_number 39 = .ok (.getfield 244, 3) := by decide +kernel
theorem dX12_number_42 : decode cX12_number 42 = .ok (.istore_n 3, 1) := by decide +kernel
theorem dX12_number_43 : decode cX12_number 43 = .ok (.iload_n 3, 1) := by decide +kernel
theorem dX12_number_44 : decode cX12_number 44 = .ok (.aload_n 0, 1) := by decide +kernel
theorem dX12_number_45 : decode cX12_number 45 = .ok (.getfield 241, 3) := by decide +kernel
theorem dX12_number_48 : decode cX12_number 48 = .ok (.if_icmp .ge 34, 3) := by decide +kernel
theorem dX12_number_51 : decode cX12_number 51 = .ok (.iload_n 2, 1) := by decide +kernel
theorem dX12_number_52 : decode cX12_number 52 = .ok (.ifCond .eq 30, 3) := by decide +kernel
theorem dX12_number_55 : decode cX12_number 55 = .ok (.aload_n 0, 1) := by decide +kernel
theorem dX12_number_56 : decode cX12_number 56 = .ok (.bipush 10, 2) := by decide +kernel
theorem dX12_number_58 : decode cX12_number 58 = .ok (.aload_n 0, 1) := by decide +kernel
theorem dX12_number_59 : decode cX12_number 59 = .ok (.getfield 266, 3) := by decide +kernel
theorem dX12_number_62 : decode cX12_number 62 = .ok (.imul, 1) := by decide +kernel
theorem dX12_number_63 : decode cX12_number 63 = .ok (.aload_n 0, 1) := by decide +kernel
theorem dX12_number_64 : decode cX12_number 64 = .ok (.getfield 41, 3) := by decide +kernel
theorem dX12_number_67 : decode cX12_number 67 = .ok (.iload_n 3, 1) := by decide +kernel
theorem dX12_number_68 : decode cX12_number 68 = .ok (.iaload, 1) := by decide +kernel
theorem dX12_number_69 : decode cX12_number 69 = .ok (.iadd, 1) := by decide +kernel
theorem dX12_number_70 : decode cX12_number 70 = .ok (.bipush 48, 2) := by decide +kernel
theorem dX12_number_72 : decode cX12_number 72 = .ok (.isub, 1) := by decide +kernel
theorem dX12_number_73 : decode cX12_number 73 = .ok (.putfield 266, 3) := by decide +kernel
theorem dX12_number_76 : decode cX12_number 76 = .ok (.iinc 3 1, 3) := by decide +kernel
theorem dX12_number_79 : decode cX12_number 79 = .ok (.goto (-36), 3) := by decide +kernel
theorem dX12_number_82 : decode cX12_number 82 = .ok (.aload_n 0, 1) := by decide +kernel
theorem dX12_number_83 : decode cX12_number 83 = .ok (.iload_n 2, 1) := by decide +kernel
theorem dX12_number_84 : decode cX12_number 84 = .ok (.ifCond .eq 15, 3) := by decide +kernel
theorem dX12_number_87 : decode cX12_number 87 = .ok (.aload_n 0, 1) := by decide +kernel
theorem dX12_number_88 : decode cX12_number 88 = .ok (.getfield 266, 3) := by decide +kernel
theorem dX12_number_91 : decode cX12_number 91 = .ok (.iload_n 1, 1) := by decide +kernel
theorem dX12_number_92 : decode cX12_number 92 = .ok (.if_icmp .gt 7, 3) := by decide +kernel
theorem dX12_number_95 : decode cX12_number 95 = .ok (.iconst 1, 1) := by decide +kernel
theorem dX12_number_96 : decode cX12_number 96 = .ok (.goto 4, 3) := by decide +kernel
theorem dX12_number_99 : decode cX12_number 99 = .ok (.iconst 0, 1) := by decide +kernel
theorem dX12_number_100 : decode cX12_number 100 = .ok (.invokevirtual 269, 3) := by decide +kernel
theorem dX12_number_103 : decode cX12_number 103 = .ok (.return_, 1) := by decide +kernel
theorem dX12_kindHere_0 : decode cX12_kindHere 0 = .ok (.aload_n 0, 1) := by decide +kernel
theorem dX12_kindHere_1 : decode cX12_kindHere 1 = .ok (.invokevirtual 273, 3) := by decide +kernel
theorem dX12_kindHere_4 : decode cX12_kindHere 4 = .ok (.lstore_n 1, 1) := by decide +kernel
theorem dX12_kindHere_5 : decode cX12_kindHere 5 = .ok (.lload_n 1, 1) := by decide +kernel
theorem dX12_kindHere_6 : decode cX12_kindHere 6 = .ok (.ldc2_w 277, 3) := by decide +kernel
theorem dX12_kindHere_9 : decode cX12_kindHere 9 = .ok (.lcmp, 1) := by decide +kernel
theorem dX12_kindHere_10 : decode cX12_kindHere 10 = .ok (.ifCond .ne 7, 3) := by decide +kernel
theorem dX12_kindHere_13 : decode cX12_kindHere 13 = .ok (.iconst 0, 1) := by decide +kernel
theorem dX12_kindHere_14 : decode cX12_kindHere 14 = .ok (.goto 64, 3) := by decide +kernel
theorem dX12_kindHere_17 : decode cX12_kindHere 17 = .ok (.lload_n 1, 1) := by decide +kernel
theorem dX12_kindHere_18 : decode cX12_kindHere 18 = .ok (.ldc2_w 279, 3) := by decide +kernel
theorem dX12_kindHere_21 : decode cX12_kindHere 21 = .ok (.lcmp, 1) := by decide +kernel
theorem dX12_kindHere_22 : decode cX12_kindHere 22 = .ok (.ifCond .ne 7, 3) := by decide +kernel
theorem dX12_kindHere_25 : decode cX12_kindHere 25 = .ok (.iconst 1, 1) := by decide +kernel
theorem dX12_kindHere_26 : decode cX12_kindHere 26 = .ok (.goto 52, 3) := by decide +kernel
theorem dX12_kindHere_29 : decode cX12_kindHere 29 = .ok (.lload_n 1, 1) := by decide +kernel
theorem dX12_kindHere_30 : decode cX12_kindHere 30 = .ok (.ldc2_w 281, 3) := by decide +kernel
theorem dX12_kindHere_33 : decode cX12_kindHere 33 = .ok (.lcmp, 1) := by decide +kernel
theorem dX12_kindHere_34 : decode cX12_kindHere 34 = .ok (.ifCond .ne 7, 3) := by decide +kernel
theorem dX12_kindHere_37 : decode cX12_kindHere 37 = .ok (.iconst 2, 1) := by decide +kernel
theorem dX12_kindHere_38 : decode cX12_kindHere 38 = .ok (.goto 40, 3) := by decide +kernel
theorem dX12_kindHere_41 : decode cX12_kindHere 41 = .ok (.lload_n 1, 1) := by decide +kernel
theorem dX12_kindHere_42 : decode cX12_kindHere 42 = .ok (.ldc2_w 283, 3) := by decide +kernel
theorem dX12_kindHere_45 : decode cX12_kindHere 45 = .ok (.lcmp, 1) := by decide +kernel
theorem dX12_kindHere_46 : decode cX12_kindHere 46 = .ok (.ifCond .ne 7, 3) := by decide +kernel
theorem dX12_kindHere_49 : decode cX12_kindHere 49 = .ok (.iconst 3, 1) := by decide +kernel
theorem dX12_kindHere_50 : decode cX12_kindHere 50 = .ok (.goto 28, 3) := by decide +kernel
theorem dX12_kindHere_53 : decode cX12_kindHere 53 = .ok (.lload_n 1, 1) := by decide +kernel
theorem dX12_kindHere_54 : decode cX12_kindHere 54 = .ok (.ldc2_w 285, 3) := by decide +kernel
theorem dX12_kindHere_57 : decode cX12_kindHere 57 = .ok (.lcmp, 1) := by decide +kernel
theorem dX12_kindHere_58 : decode cX12_kindHere 58 = .ok (.ifCond .ne 7, 3) := by decide +kernel
theorem dX12_kindHere_61 : decode cX12_kindHere 61 = .ok (.iconst 4, 1) := by decide +kernel
theorem dX12_kindHere_62 : decode cX12_kindHere 62 = .ok (.goto 16, 3) := by decide +kernel
theorem dX12_kindHere_65 : decode cX12_kindHere 65 = .ok (.lload_n 1, 1) := by decide +kernel
theorem dX12_kindHere_66 : decode cX12_kindHere 66 = .ok (.ldc2_w 287, 3) := by decide +kernel
theorem dX12_kindHere_69 : decode cX12_kindHere 69 = .ok (.lcmp, 1) := by decide +kernel
theorem dX12_kindHere_70 : decode cX12_kindHere 70 = .ok (.ifCond .ne 7, 3) := by decide +kernel
theorem dX12_kindHere_73 : decode cX12_kindHere 73 = .ok (.iconst 5, 1) := by decide +kernel
theorem dX12_kindHere_74 : decode cX12_kindHere 74 = .ok (.goto 4, 3) := by decide +kernel
theorem dX12_kindHere_77 : decode cX12_kindHere 77 = .ok (.iconst (-1), 1) := by decide +kernel
theorem dX12_kindHere_78 : decode cX12_kindHere 78 = .ok (.ireturn, 1) := by decide +kernel
theorem dX12_factHere_0 : decode cX12_factHere 0 = .ok (.aload_n 0, 1) := by decide +kernel
theorem dX12_factHere_1 : decode cX12_factHere 1 = .ok (.invokevirtual 273, 3) := by decide +kernel
theorem dX12_factHere_4 : decode cX12_factHere 4 = .ok (.lstore_n 1, 1) := by decide +kernel
theorem dX12_factHere_5 : decode cX12_factHere 5 = .ok (.lload_n 1, 1) := by decide +kernel
theorem dX12_factHere_6 : decode cX12_factHere 6 = .ok (.ldc2_w 289, 3) := by decide +kernel
theorem dX12_factHere_9 : decode cX12_factHere 9 = .ok (.lcmp, 1) := by decide +kernel
theorem dX12_factHere_10 : decode cX12_factHere 10 = .ok (.ifCond .ne 7, 3) := by decide +kernel
theorem dX12_factHere_13 : decode cX12_factHere 13 = .ok (.iconst (-1), 1) := by decide +kernel
theorem dX12_factHere_14 : decode cX12_factHere 14 = .ok (.goto 56, 3) := by decide +kernel
theorem dX12_factHere_17 : decode cX12_factHere 17 = .ok (.lload_n 1, 1) := by decide +kernel
theorem dX12_factHere_18 : decode cX12_factHere 18 = .ok (.ldc2_w 291, 3) := by decide +kernel
theorem dX12_factHere_21 : decode cX12_factHere 21 = .ok (.lcmp, 1) := by decide +kernel
theorem dX12_factHere_22 : decode cX12_factHere 22 = .ok (.ifCond .ne 8, 3) := by decide +kernel
theorem dX12_factHere_25 : decode cX12_factHere 25 = .ok (.bipush (-2), 2) := by decide +kernel
theorem dX12_factHere_27 : decode cX12_factHere 27 = .ok (.goto 43, 3) := by decide +kernel
theorem dX12_factHere_30 : decode cX12_factHere 30 = .ok (.lload_n 1, 1) := by decide +kernel
theorem dX12_factHere_31 : decode cX12_factHere 31 = .ok (.ldc2_w 293, 3) := by decide +kernel
theorem dX12_factHere_34 : decode cX12_factHere 34 = .ok (.lcmp, 1) := by decide +kernel
theorem dX12_factHere_35 : decode cX12_factHere 35 = .ok (.ifCond .ne 8, 3) := by decide +kernel
theorem dX12_factHere_38 : decode cX12_factHere 38 = .ok (.bipush (-3), 2) := by decide +kernel
theorem dX12_factHere_40 : decode cX12_factHere 40 = .ok (.goto 30, 3) := by decide +kernel
theorem dX12_factHere_43 : decode cX12_factHere 43 = .ok (.lload_n 1, 1) := by decide +kernel
theorem dX12_factHere_44 : decode cX12_factHere 44 = .ok (.ldc2_w 295, 3) := by decide +kernel
theorem dX12_factHere_47 : decode cX12_factHere 47 = .ok (.lcmp, 1) := by decide +kernel
theorem dX12_factHere_48 : decode cX12_factHere 48 = .ok (.ifCond .ne 8, 3) := by decide +kernel
theorem dX12_factHere_51 : decode cX12_factHere 51 = .ok (.bipush (-4), 2) := by decide +kernel
theorem dX12_factHere_53 : decode cX12_factHere 53 = .ok (.goto 17, 3) := by decide +kernel
theorem dX12_factHere_56 : decode cX12_factHere 56 = .ok (.lload_n 1, 1) := by decide +kernel
theorem dX12_factHere_57 : decode cX12_factHere 57 = .ok (.ldc2_w 297, 3) := by decide +kernel
theorem dX12_factHere_60 : decode cX12_factHere 60 = .ok (.lcmp, 1) := by decide +kernel
theorem dX12_factHere_61 : decode cX12_factHere 61 = .ok (.ifCond .ne 8, 3) := by decide +kernel
theorem dX12_factHere_64 : decode cX12_factHere 64 = .ok (.bipush (-5), 2) := by decide +kernel
theorem dX12_factHere_66 : decode cX12_factHere 66 = .ok (.goto 4, 3) := by decide +kernel
theorem dX12_factHere_69 : decode cX12_factHere 69 = .ok (.iconst 0, 1) := by decide +kernel
theorem dX12_factHere_70 : decode cX12_factHere 70 = .ok (.ireturn, 1) := by decide +kernel
theorem dX12_writes_0 : decode cX12_writes 0 = .ok (.aload_n 0, 1) := by decide +kernel
theorem dX12_writes_1 : decode cX12_writes 1 = .ok (.getfield 256, 3) := by decide +kernel
theorem dX12_writes_4 : decode cX12_writes 4 = .ok (.ifCond .ne 26, 3) := by decide +kernel
theorem dX12_writes_7 : decode cX12_writes 7 = .ok (.aload_n 0, 1) := by decide +kernel
theorem dX12_writes_8 : decode cX12_writes 8 = .ok (.getfield 7, 3) := by decide +kernel
theorem dX12_writes_11 : decode cX12_writes 11 = .ok (.bipush 103, 2) := by decide +kernel
theorem dX12_writes_13 : decode cX12_writes 13 = .ok (.aload_n 0, 1) := by decide +kernel
theorem dX12_writes_14 : decode cX12_writes 14 = .ok (.getfield 299, 3) := by decide +kernel
theorem dX12_writes_17 : decode cX12_writes 17 = .ok (.iadd, 1) := by decide +kernel
theorem dX12_writes_18 : decode cX12_writes 18 = .ok (.iload_n 1, 1) := by decide +kernel
theorem dX12_writes_19 : decode cX12_writes 19 = .ok (.iastore, 1) := by decide +kernel
theorem dX12_writes_20 : decode cX12_writes 20 = .ok (.aload_n 0, 1) := by decide +kernel
theorem dX12_writes_21 : decode cX12_writes 21 = .ok (.dup, 1) := by decide +kernel
theorem dX12_writes_22 : decode cX12_writes 22 = .ok (.getfield 299, 3) := by decide +kernel
theorem dX12_writes_25 : decode cX12_writes 25 = .ok (.iconst 1, 1) := by decide +kernel
theorem dX12_writes_26 : decode cX12_writes 26 = .ok (.iadd, 1) := by decide +kernel
theorem dX12_writes_27 : decode cX12_writes 27 = .ok (.putfield 299, 3) := by decide +kernel
theorem dX12_writes_30 : decode cX12_writes 30 = .ok (.return_, 1) := by decide +kernel
theorem dX12_valueHere_0 : decode cX12_valueHere 0 = .ok (.aload_n 0, 1) := by decide +kernel
theorem dX12_valueHere_1 : decode cX12_valueHere 1 = .ok (.invokevirtual 302, 3) := by decide +kernel
theorem dX12_valueHere_4 : decode cX12_valueHere 4 = .ok (.istore_n 1, 1) := by decide +kernel
theorem dX12_valueHere_5 : decode cX12_valueHere 5 = .ok (.iload_n 1, 1) := by decide +kernel
theorem dX12_valueHere_6 : decode cX12_valueHere 6 = .ok (.ifCond .ge 16, 3) := by decide +kernel
theorem dX12_valueHere_9 : decode cX12_valueHere 9 = .ok (.aload_n 0, 1) := by decide +kernel
theorem dX12_valueHere_10 : decode cX12_valueHere 10 = .ok (.iconst 1, 1) := by decide +kernel
theorem dX12_valueHere_11 : decode cX12_valueHere 11 = .ok (.invokevirtual 269, 3) := by decide +kernel
theorem dX12_valueHere_14 : decode cX12_valueHere 14 = .ok (.aload_n 0, 1) := by decide +kernel
theorem dX12_valueHere_15 : decode cX12_valueHere 15 = .ok (.iload_n 1, 1) := by decide +kernel
theorem dX12_valueHere_16 : decode cX12_valueHere 16 = .ok (.invokevirtual 306, 3) := by decide +kernel
theorem dX12_valueHere_19 : decode cX12_valueHere 19 = .ok (.goto 25, 3) := by decide +kernel
theorem dX12_valueHere_22 : decode cX12_valueHere 22 = .ok (.aload_n 0, 1) := by decide +kernel
theorem dX12_valueHere_23 : decode cX12_valueHere 23 = .ok (.getfield 256, 3) := by decide +kernel
theorem dX12_valueHere_26 : decode cX12_valueHere 26 = .ok (.ifCond .ne 18, 3) := by decide +kernel
theorem dX12_valueHere_29 : decode cX12_valueHere 29 = .ok (.aload_n 0, 1) := by decide +kernel
theorem dX12_valueHere_30 : decode cX12_valueHere 30 = .ok (.sipush 9999, 3) := by decide +kernel
theorem dX12_valueHere_33 : decode cX12_valueHere 33 = .ok (.invokevirtual 309, 3) := by decide +kernel
theorem dX12_valueHere_36 : decode cX12_valueHere 36 = .ok (.aload_n 0, 1) := by decide +kernel
theorem dX12_valueHere_37 : decode cX12_valueHere 37 = .ok (.aload_n 0, 1) := by decide +kernel
theorem dX12_valueHere_38 : decode cX12_valueHere 38 = .ok (.getfield 266, 3) := by decide +kernel
theorem dX12_valueHere_41 : decode cX12_valueHere 41 = .ok (.invokevirtual 306, 3) := by decide +kernel
theorem dX12_valueHere_44 : decode cX12_valueHere 44 = .ok (.return_, 1) := by decide +kernel
theorem dX12_comparison_0 : decode cX12_comparison 0 = .ok (.aload_n 0, 1) := by decide +kernel
theorem dX12_comparison_1 : decode cX12_comparison 1 = .ok (.invokevirtual 312, 3) := by decide +kernel
theorem dX12_comparison_4 : decode cX12_comparison 4 = .ok (.aload_n 0, 1) := by decide +kernel
theorem dX12_comparison_5 : decode cX12_comparison 5 = .ok (.getfield 256, 3) := by decide +kernel
theorem dX12_comparison_8 : decode cX12_comparison 8 = .ok (.ifCond .eq 7, 3) := by decide +kernel
theorem dX12_comparison_11 : decode cX12_comparison 11 = .ok (.iconst (-1), 1) := by decide +kernel
theorem dX12_comparison_12 : decode cX12_comparison 12 = .ok (.goto 11, 3) := by decide +kernel
theorem dX12_comparison_15 : decode cX12_comparison 15 = .ok (.aload_n 0, 1) := by decide +kernel
theorem dX12_comparison_16 : decode cX12_comparison 16 = .ok (.aload_n 0, 1) := by decide +kernel
theorem dX12_comparison_17 : decode cX12_comparison 17 = .ok (.getfield 244, 3) := by decide +kernel
theorem dX12_comparison_20 : decode cX12_comparison 20 = .ok (.invokevirtual 247, 3) := by decide +kernel
theorem dX12_comparison_23 : decode cX12_comparison 23 = .ok (.istore_n 1, 1) := by decide +kernel
theorem dX12_comparison_24 : decode cX12_comparison 24 = .ok (.aload_n 0, 1) := by decide +kernel
theorem dX12_comparison_25 : decode cX12_comparison 25 = .ok (.iload_n 1, 1) := by decide +kernel
theorem dX12_comparison_26 : decode cX12_comparison 26 = .ok (.bipush 60, 2) := by decide +kernel
theorem dX12_comparison_28 : decode cX12_comparison 28 = .ok (.if_icmp .eq 15, 3) := by decide +kernel
theorem dX12_comparison_31 : decode cX12_comparison 31 = .ok (.iload_n 1, 1) := by decide +kernel
theorem dX12_comparison_32 : decode cX12_comparison 32 = .ok (.bipush 61, 2) := by decide +kernel
theorem dX12_comparison_34 : decode cX12_comparison 34 = .ok (.if_icmp .eq 9, 3) := by decide +kernel
theorem dX12_comparison_37 : decode cX12_comparison 37 = .ok (.iload_n 1, 1) := by decide +kernel
theorem dX12_comparison_38 : decode cX12_comparison 38 = .ok (.bipush 62, 2) := by decide +kernel
theorem dX12_comparison_40 : decode cX12_comparison 40 = .ok (.if_icmp .ne 7, 3) := by decide +kernel
theorem dX12_comparison_43 : decode cX12_comparison 43 = .ok (.iconst 1, 1) := by decide +kernel
theorem dX12_comparison_44 : decode cX12_comparison 44 = .ok (.goto 4, 3) := by decide +kernel
theorem dX12_comparison_47 : decode cX12_comparison 47 = .ok (.iconst 0, 1) := by decide +kernel
theorem dX12_comparison_48 : decode cX12_comparison 48 = .ok (.invokevirtual 269, 3) := by decide +kernel
theorem dX12_comparison_51 : decode cX12_comparison 51 = .ok (.aload_n 0, 1) := by decide +kernel
theorem dX12_comparison_52 : decode cX12_comparison 52 = .ok (.invokevirtual 312, 3) := by decide +kernel
theorem dX12_comparison_55 : decode cX12_comparison 55 = .ok (.aload_n 0, 1) := by decide +kernel
theorem dX12_comparison_56 : decode cX12_comparison 56 = .ok (.iload_n 1, 1) := by decide +kernel
theorem dX12_comparison_57 : decode cX12_comparison 57 = .ok (.bipush 60, 2) := by decide +kernel
theorem dX12_comparison_59 : decode cX12_comparison 59 = .ok (.if_icmp .ne 8, 3) := by decide +kernel
theorem dX12_comparison_62 : decode cX12_comparison 62 = .ok (.bipush (-11), 2) := by decide +kernel
theorem dX12_comparison_64 : decode cX12_comparison 64 = .ok (.goto 16, 3) := by decide +kernel
theorem dX12_comparison_67 : decode cX12_comparison 67 = .ok (.iload_n 1, 1) := by decide +kernel
theorem dX12_comparison_68 : decode cX12_comparison 68 = .ok (.bipush 61, 2) := by decide +kernel
theorem dX12_comparison_70 : decode cX12_comparison 70 = .ok (.if_icmp .ne 8, 3) := by decide +kernel
theorem dX12_comparison_73 : decode cX12_comparison 73 = .ok (.bipush (-12), 2) := by decide +kernel
theorem dX12_comparison_75 : decode cX12_comparison 75 = .ok (.goto 5, 3) := by decide +kernel
theorem dX12_comparison_78 : decode cX12_comparison 78 = .ok (.bipush (-13), 2) := by decide +kernel
theorem dX12_comparison_80 : decode cX12_comparison 80 = .ok (.invokevirtual 306, 3) := by decide +kernel
theorem dX12_comparison_83 : decode cX12_comparison 83 = .ok (.return_, 1) := by decide +kernel
theorem dX12_one_0 : decode cX12_one 0 = .ok (.iconst 0, 1) := by decide +kernel
theorem dX12_one_1 : decode cX12_one 1 = .ok (.istore_n 1, 1) := by decide +kernel
theorem dX12_one_2 : decode cX12_one 2 = .ok (.aload_n 0, 1) := by decide +kernel
theorem dX12_one_3 : decode cX12_one 3 = .ok (.invokevirtual 273, 3) := by decide +kernel
theorem dX12_one_6 : decode cX12_one 6 = .ok (.ldc2_w 315, 3) := by decide +kernel
theorem dX12_one_9 : decode cX12_one 9 = .ok (.lcmp, 1) := by decide +kernel
theorem dX12_one_10 : decode cX12_one 10 = .ok (.ifCond .ne 21, 3) := by decide +kernel
theorem dX12_one_13 : decode cX12_one 13 = .ok (.iload_n 1, 1) := by decide +kernel
theorem dX12_one_14 : decode cX12_one 14 = .ok (.ifCond .ne 7, 3) := by decide +kernel
theorem dX12_one_17 : decode cX12_one 17 = .ok (.iconst 1, 1) := by decide +kernel
theorem dX12_one_18 : decode cX12_one 18 = .ok (.goto 4, 3) := by decide +kernel
theorem dX12_one_21 : decode cX12_one 21 = .ok (.iconst 0, 1) := by decide +kernel
theorem dX12_one_22 : decode cX12_one 22 = .ok (.istore_n 1, 1) := by decide +kernel
theorem dX12_one_23 : decode cX12_one 23 = .ok (.aload_n 0, 1) := by decide +kernel
theorem dX12_one_24 : decode cX12_one 24 = .ok (.iconst 1, 1) := by decide +kernel
theorem dX12_one_25 : decode cX12_one 25 = .ok (.invokevirtual 269, 3) := by decide +kernel
theorem dX12_one_28 : decode cX12_one 28 = .ok (.goto (-26), 3) := by decide +kernel
theorem dX12_one_31 : decode cX12_one 31 = .ok (.aload_n 0, 1) := by decide +kernel
theorem dX12_one_32 : decode cX12_one 32 = .ok (.getfield 256, 3) := by decide +kernel
theorem dX12_one_35 : decode cX12_one 35 = .ok (.ifCond .ne 89, 3) := by decide +kernel
theorem dX12_one_38 : decode cX12_one 38 = .ok (.aload_n 0, 1) := by decide +kernel
theorem dX12_one_39 : decode cX12_one 39 = .ok (.aload_n 0, 1) := by decide +kernel
theorem dX12_one_40 : decode cX12_one 40 = .ok (.getfield 244, 3) := by decide +kernel
theorem dX12_one_43 : decode cX12_one 43 = .ok (.invokevirtual 247, 3) := by decide +kernel
theorem dX12_one_46 : decode cX12_one 46 = .ok (.bipush 40, 2) := by decide +kernel
theorem dX12_one_48 : decode cX12_one 48 = .ok (.if_icmp .ne 76, 3) := by decide +kernel
theorem dX12_one_51 : decode cX12_one 51 = .ok (.aload_n 0, 1) := by decide +kernel
theorem dX12_one_52 : decode cX12_one 52 = .ok (.aload_n 0, 1) := by decide +kernel
theorem dX12_one_53 : decode cX12_one 53 = .ok (.getfield 317, 3) := by decide +kernel
theorem dX12_one_56 : decode cX12_one 56 = .ok (.iconst 3, 1) := by decide +kernel
theorem dX12_one_57 : decode cX12_one 57 = .ok (.if_icmp .ge 7, 3) := by decide +kernel
theorem dX12_one_60 : decode cX12_one 60 = .ok (.iconst 1, 1) := by decide +kernel
theorem dX12_one_61 : decode cX12_one 61 = .ok (.goto 4, 3) := by decide +kernel
theorem dX12_one_64 : decode cX12_one 64 = .ok (.iconst 0, 1) := by decide +kernel
theorem dX12_one_65 : decode cX12_one 65 = .ok (.invokevirtual 269, 3) := by decide +kernel
theorem dX12_one_68 : decode cX12_one 68 = .ok (.aload_n 0, 1) := by decide +kernel
theorem dX12_one_69 : decode cX12_one 69 = .ok (.dup, 1) := by decide +kernel
theorem dX12_one_70 : decode cX12_one 70 = .ok (.getfield 317, 3) := by decide +kernel
theorem dX12_one_73 : decode cX12_one 73 = .ok (.iconst 1, 1) := by decide +kernel
theorem dX12_one_74 : decode cX12_one 74 = .ok (.iadd, 1) := by decide +kernel
theorem dX12_one_75 : decode cX12_one 75 = .ok (.putfield 317, 3) := by decide +kernel
theorem dX12_one_78 : decode cX12_one 78 = .ok (.aload_n 0, 1) := by decide +kernel
theorem dX12_one_79 : decode cX12_one 79 = .ok (.invokevirtual 320, 3) := by decide +kernel
theorem dX12_one_82 : decode cX12_one 82 = .ok (.aload_n 0, 1) := by decide +kernel
theorem dX12_one_83 : decode cX12_one 83 = .ok (.dup, 1) := by decide +kernel
theorem dX12_one_84 : decode cX12_one 84 = .ok (.getfield 317, 3) := by decide +kernel
theorem dX12_one_87 : decode cX12_one 87 = .ok (.iconst 1, 1) := by decide +kernel
theorem dX12_one_88 : decode cX12_one 88 = .ok (.isub, 1) := by decide +kernel
theorem dX12_one_89 : decode cX12_one 89 = .ok (.putfield 317, 3) := by decide +kernel
theorem dX12_one_92 : decode cX12_one 92 = .ok (.aload_n 0, 1) := by decide +kernel
theorem dX12_one_93 : decode cX12_one 93 = .ok (.aload_n 0, 1) := by decide +kernel
theorem dX12_one_94 : decode cX12_one 94 = .ok (.getfield 256, 3) := by decide +kernel
theorem dX12_one_97 : decode cX12_one 97 = .ok (.ifCond .ne 20, 3) := by decide +kernel
theorem dX12_one_100 : decode cX12_one 100 = .ok (.aload_n 0, 1) := by decide +kernel
theorem dX12_one_101 : decode cX12_one 101 = .ok (.aload_n 0, 1) := by decide +kernel
theorem dX12_one_102 : decode cX12_one 102 = .ok (.getfield 244, 3) := by decide +kernel
theorem dX12_one_105 : decode cX12_one 105 = .ok (.invokevirtual 247, 3) := by decide +kernel
theorem dX12_one_108 : decode cX12_one 108 = .ok (.bipush 41, 2) := by decide +kernel
theorem dX12_one_110 : decode cX12_one 110 = .ok (.if_icmp .ne 7, 3) := by decide +kernel
theorem dX12_one_113 : decode cX12_one 113 = .ok (.iconst 1, 1) := by decide +kernel
theorem dX12_one_114 : decode cX12_one 114 = .ok (.goto 4, 3) := by decide +kernel
theorem dX12_one_117 : decode cX12_one 117 = .ok (.iconst 0, 1) := by decide +kernel
theorem dX12_one_118 : decode cX12_one 118 = .ok (.invokevirtual 269, 3) := by decide +kernel
theorem dX12_one_121 : decode cX12_one 121 = .ok (.goto 7, 3) := by decide +kernel
theorem dX12_one_124 : decode cX12_one 124 = .ok (.aload_n 0, 1) := by decide +kernel
theorem dX12_one_125 : decode cX12_one 125 = .ok (.invokevirtual 323, 3) := by decide +kernel
theorem dX12_one_128 : decode cX12_one 128 = .ok (.iload_n 1, 1) := by decide +kernel
theorem dX12_one_129 : decode cX12_one 129 = .ok (.ifCond .eq 9, 3) := by decide +kernel
theorem dX12_one_132 : decode cX12_one 132 = .ok (.aload_n 0, 1) := by decide +kernel
theorem dX12_one_133 : decode cX12_one 133 = .ok (.bipush (-20), 2) := by decide +kernel
theorem dX12_one_135 : decode cX12_one 135 = .ok (.invokevirtual 306, 3) := by decide +kernel
theorem dX12_one_138 : decode cX12_one 138 = .ok (.return_, 1) := by decide +kernel
theorem dX12_all_0 : decode cX12_all 0 = .ok (.aload_n 0, 1) := by decide +kernel
theorem dX12_all_1 : decode cX12_all 1 = .ok (.invokevirtual 326, 3) := by decide +kernel
theorem dX12_all_4 : decode cX12_all 4 = .ok (.aload_n 0, 1) := by decide +kernel
theorem dX12_all_5 : decode cX12_all 5 = .ok (.invokevirtual 273, 3) := by decide +kernel
theorem dX12_all_8 : decode cX12_all 8 = .ok (.ldc2_w 329, 3) := by decide +kernel
theorem dX12_all_11 : decode cX12_all 11 = .ok (.lcmp, 1) := by decide +kernel
theorem dX12_all_12 : decode cX12_all 12 = .ok (.ifCond .ne 21, 3) := by decide +kernel
theorem dX12_all_15 : decode cX12_all 15 = .ok (.aload_n 0, 1) := by decide +kernel
theorem dX12_all_16 : decode cX12_all 16 = .ok (.iconst 1, 1) := by decide +kernel
theorem dX12_all_17 : decode cX12_all 17 = .ok (.invokevirtual 269, 3) := by decide +kernel
theorem dX12_all_20 : decode cX12_all 20 = .ok (.aload_n 0, 1) := by decide +kernel
theorem dX12_all_21 : decode cX12_all 21 = .ok (.invokevirtual 326, 3) := by decide +kernel
theorem dX12_all_24 : decode cX12_all 24 = .ok (.aload_n 0, 1) := by decide +kernel
theorem dX12_all_25 : decode cX12_all 25 = .ok (.bipush (-21), 2) := by decide +kernel
theorem dX12_all_27 : decode cX12_all 27 = .ok (.invokevirtual 306, 3) := by decide +kernel
theorem dX12_all_30 : decode cX12_all 30 = .ok (.goto (-26), 3) := by decide +kernel
theorem dX12_all_33 : decode cX12_all 33 = .ok (.return_, 1) := by decide +kernel
theorem dX12_condition_0 : decode cX12_condition 0 = .ok (.aload_n 0, 1) := by decide +kernel
theorem dX12_condition_1 : decode cX12_condition 1 = .ok (.getfield 256, 3) := by decide +kernel
theorem dX12_condition_4 : decode cX12_condition 4 = .ok (.ifCond .eq 4, 3) := by decide +kernel
theorem dX12_condition_7 : decode cX12_condition 7 = .ok (.return_, 1) := by decide +kernel
theorem dX12_condition_8 : decode cX12_condition 8 = .ok (.aload_n 0, 1) := by decide +kernel
theorem dX12_condition_9 : decode cX12_condition 9 = .ok (.invokevirtual 331, 3) := by decide +kernel
theorem dX12_condition_12 : decode cX12_condition 12 = .ok (.aload_n 0, 1) := by decide +kernel
theorem dX12_condition_13 : decode cX12_condition 13 = .ok (.invokevirtual 273, 3) := by decide +kernel
theorem dX12_condition_16 : decode cX12_condition 16 = .ok (.ldc2_w 334, 3) := by decide +kernel
theorem dX12_condition_19 : decode cX12_condition 19 = .ok (.lcmp, 1) := by decide +kernel
theorem dX12_condition_20 : decode cX12_condition 20 = .ok (.ifCond .ne 21, 3) := by decide +kernel
theorem dX12_condition_23 : decode cX12_condition 23 = .ok (.aload_n 0, 1) := by decide +kernel
theorem dX12_condition_24 : decode cX12_condition 24 = .ok (.iconst 1, 1) := by decide +kernel
theorem dX12_condition_25 : decode cX12_condition 25 = .ok (.invokevirtual 269, 3) := by decide +kernel
theorem dX12_condition_28 : decode cX12_condition 28 = .ok (.aload_n 0, 1) := by decide +kernel
theorem dX12_condition_29 : decode cX12_condition 29 = .ok (.invokevirtual 331, 3) := by decide +kernel
theorem dX12_condition_32 : decode cX12_condition 32 = .ok (.aload_n 0, 1) := by decide +kernel
theorem dX12_condition_33 : decode cX12_condition 33 = .ok (.bipush (-22), 2) := by decide +kernel
theorem dX12_condition_35 : decode cX12_condition 35 = .ok (.invokevirtual 306, 3) := by decide +kernel
theorem dX12_condition_38 : decode cX12_condition 38 = .ok (.goto (-26), 3) := by decide +kernel
theorem dX12_condition_41 : decode cX12_condition 41 = .ok (.return_, 1) := by decide +kernel
theorem dX12_clause_0 : decode cX12_clause 0 = .ok (.aload_n 0, 1) := by decide +kernel
theorem dX12_clause_1 : decode cX12_clause 1 = .ok (.invokevirtual 336, 3) := by decide +kernel
theorem dX12_clause_4 : decode cX12_clause 4 = .ok (.istore_n 1, 1) := by decide +kernel
theorem dX12_clause_5 : decode cX12_clause 5 = .ok (.aload_n 0, 1) := by decide +kernel
theorem dX12_clause_6 : decode cX12_clause 6 = .ok (.iload_n 1, 1) := by decide +kernel
theorem dX12_clause_7 : decode cX12_clause 7 = .ok (.ifCond .lt 18, 3) := by decide +kernel
theorem dX12_clause_10 : decode cX12_clause 10 = .ok (.aload_n 0, 1) := by decide +kernel
theorem dX12_clause_11 : decode cX12_clause 11 = .ok (.getfield 7, 3) := by decide +kernel
theorem dX12_clause_14 : decode cX12_clause 14 = .ok (.iconst 4, 1) := by decide +kernel
theorem dX12_clause_15 : decode cX12_clause 15 = .ok (.iaload, 1) := by decide +kernel
theorem dX12_clause_16 : decode cX12_clause 16 = .ok (.bipush 8, 2) := by decide +kernel
theorem dX12_clause_18 : decode cX12_clause 18 = .ok (.if_icmp .ge 7, 3) := by decide +kernel
theorem dX12_clause_21 : decode cX12_clause 21 = .ok (.iconst 1, 1) := by decide +kernel
theorem dX12_clause_22 : decode cX12_clause 22 = .ok (.goto 4, 3) := by decide +kernel
theorem dX12_clause_25 : decode cX12_clause 25 = .ok (.iconst 0, 1) := by decide +kernel
theorem dX12_clause_26 : decode cX12_clause 26 = .ok (.invokevirtual 269, 3) := by decide +kernel
theorem dX12_clause_29 : decode cX12_clause 29 = .ok (.aload_n 0, 1) := by decide +kernel
theorem dX12_clause_30 : decode cX12_clause 30 = .ok (.invokevirtual 273, 3) := by decide +kernel
theorem dX12_clause_33 : decode cX12_clause 33 = .ok (.ldc2_w 339, 3) := by decide +kernel
theorem dX12_clause_36 : decode cX12_clause 36 = .ok (.lcmp, 1) := by decide +kernel
theorem dX12_clause_37 : decode cX12_clause 37 = .ok (.ifCond .ne 12, 3) := by decide +kernel
theorem dX12_clause_40 : decode cX12_clause 40 = .ok (.aload_n 0, 1) := by decide +kernel
theorem dX12_clause_41 : decode cX12_clause 41 = .ok (.iconst 1, 1) := by decide +kernel
theorem dX12_clause_42 : decode cX12_clause 42 = .ok (.invokevirtual 269, 3) := by decide +kernel
theorem dX12_clause_45 : decode cX12_clause 45 = .ok (.aload_n 0, 1) := by decide +kernel
theorem dX12_clause_46 : decode cX12_clause 46 = .ok (.invokevirtual 320, 3) := by decide +kernel
theorem dX12_clause_49 : decode cX12_clause 49 = .ok (.aload_n 0, 1) := by decide +kernel
theorem dX12_clause_50 : decode cX12_clause 50 = .ok (.invokevirtual 273, 3) := by decide +kernel
theorem dX12_clause_53 : decode cX12_clause 53 = .ok (.lstore_n 2, 1) := by decide +kernel
theorem dX12_clause_54 : decode cX12_clause 54 = .ok (.lload_n 2, 1) := by decide +kernel
theorem dX12_clause_55 : decode cX12_clause 55 = .ok (.ldc2_w 341, 3) := by decide +kernel
theorem dX12_clause_58 : decode cX12_clause 58 = .ok (.lcmp, 1) := by decide +kernel
theorem dX12_clause_59 : decode cX12_clause 59 = .ok (.ifCond .ne 7, 3) := by decide +kernel
theorem dX12_clause_62 : decode cX12_clause 62 = .ok (.iconst 0, 1) := by decide +kernel
theorem dX12_clause_63 : decode cX12_clause 63 = .ok (.goto 40, 3) := by decide +kernel
theorem dX12_clause_66 : decode cX12_clause 66 = .ok (.lload_n 2, 1) := by decide +kernel
theorem dX12_clause_67 : decode cX12_clause 67 = .ok (.ldc2_w 343, 3) := by decide +kernel
theorem dX12_clause_70 : decode cX12_clause 70 = .ok (.lcmp, 1) := by decide +kernel
theorem dX12_clause_71 : decode cX12_clause 71 = .ok (.ifCond .ne 7, 3) := by decide +kernel
theorem dX12_clause_74 : decode cX12_clause 74 = .ok (.iconst 1, 1) := by decide +kernel
theorem dX12_clause_75 : decode cX12_clause 75 = .ok (.goto 28, 3) := by decide +kernel
theorem dX12_clause_78 : decode cX12_clause 78 = .ok (.lload_n 2, 1) := by decide +kernel
theorem dX12_clause_79 : decode cX12_clause 79 = .ok (.ldc2_w 345, 3) := by decide +kernel
theorem dX12_clause_82 : decode cX12_clause 82 = .ok (.lcmp, 1) := by decide +kernel
theorem dX12_clause_83 : decode cX12_clause 83 = .ok (.ifCond .ne 7, 3) := by decide +kernel
theorem dX12_clause_86 : decode cX12_clause 86 = .ok (.iconst 2, 1) := by decide +kernel
theorem dX12_clause_87 : decode cX12_clause 87 = .ok (.goto 16, 3) := by decide +kernel
theorem dX12_clause_90 : decode cX12_clause 90 = .ok (.lload_n 2, 1) := by decide +kernel
theorem dX12_clause_91 : decode cX12_clause 91 = .ok (.ldc2_w 347, 3) := by decide +kernel
theorem dX12_clause_94 : decode cX12_clause 94 = .ok (.lcmp, 1) := by decide +kernel
theorem dX12_clause_95 : decode cX12_clause 95 = .ok (.ifCond .ne 7, 3) := by decide +kernel
theorem dX12_clause_98 : decode cX12_clause 98 = .ok (.iconst 3, 1) := by decide +kernel
theorem dX12_clause_99 : decode cX12_clause 99 = .ok (.goto 4, 3) := by decide +kernel
theorem dX12_clause_102 : decode cX12_clause 102 = .ok (.iconst (-1), 1) := by decide +kernel
theorem dX12_clause_103 : decode cX12_clause 103 = .ok (.istore 4, 2) := by decide +kernel
theorem dX12_clause_105 : decode cX12_clause 105 = .ok (.aload_n 0, 1) := by decide +kernel
theorem dX12_clause_106 : decode cX12_clause 106 = .ok (.iload 4, 2) := by decide +kernel
theorem dX12_clause_108 : decode cX12_clause 108 = .ok (.ifCond .lt 7, 3) := by decide +kernel
theorem dX12_clause_111 : decode cX12_clause 111 = .ok (.iconst 1, 1) := by decide +kernel
theorem dX12_clause_112 : decode cX12_clause 112 = .ok (.goto 4, 3) := by decide +kernel
theorem dX12_clause_115 : decode cX12_clause 115 = .ok (.iconst 0, 1) := by decide +kernel
theorem dX12_clause_116 : decode cX12_clause 116 = .ok (.invokevirtual 269, 3) := by decide +kernel
theorem dX12_clause_119 : decode cX12_clause 119 = .ok (.aload_n 0, 1) := by decide +kernel
theorem dX12_clause_120 : decode cX12_clause 120 = .ok (.iconst 0, 1) := by decide +kernel
theorem dX12_clause_121 : decode cX12_clause 121 = .ok (.putfield 266, 3) := by decide +kernel
theorem dX12_clause_124 : decode cX12_clause 124 = .ok (.iload 4, 2) := by decide +kernel
theorem dX12_clause_126 : decode cX12_clause 126 = .ok (.iconst 1, 1) := by decide +kernel
theorem dX12_clause_127 : decode cX12_clause 127 = .ok (.if_icmp .ne 17, 3) := by decide +kernel
theorem dX12_clause_130 : decode cX12_clause 130 = .ok (.aload_n 0, 1) := by decide +kernel
theorem dX12_clause_131 : decode cX12_clause 131 = .ok (.getfield 256, 3) := by decide +kernel
theorem dX12_clause_134 : decode cX12_clause 134 = .ok (.ifCond .ne 10, 3) := by decide +kernel
theorem dX12_clause_137 : decode cX12_clause 137 = .ok (.aload_n 0, 1) := by decide +kernel
theorem dX12_clause_138 : decode cX12_clause 138 = .ok (.sipush 999, 3) := by decide +kernel
theorem dX12_clause_141 : decode cX12_clause 141 = .ok (.invokevirtual 309, 3) := by decide +kernel
theorem dX12_clause_144 : decode cX12_clause 144 = .ok (.aload_n 0, 1) := by decide +kernel
theorem dX12_clause_145 : decode cX12_clause 145 = .ok (.getfield 266, 3) := by decide +kernel
theorem dX12_clause_148 : decode cX12_clause 148 = .ok (.istore 5, 2) := by decide +kernel
theorem dX12_clause_150 : decode cX12_clause 150 = .ok (.aload_n 0, 1) := by decide +kernel
theorem dX12_clause_151 : decode cX12_clause 151 = .ok (.aload_n 0, 1) := by decide +kernel
theorem dX12_clause_152 : decode cX12_clause 152 = .ok (.getfield 256, 3) := by decide +kernel
theorem dX12_clause_155 : decode cX12_clause 155 = .ok (.ifCond .ne 20, 3) := by decide +kernel
theorem dX12_clause_158 : decode cX12_clause 158 = .ok (.aload_n 0, 1) := by decide +kernel
theorem dX12_clause_159 : decode cX12_clause 159 = .ok (.aload_n 0, 1) := by decide +kernel
theorem dX12_clause_160 : decode cX12_clause 160 = .ok (.getfield 244, 3) := by decide +kernel
theorem dX12_clause_163 : decode cX12_clause 163 = .ok (.invokevirtual 247, 3) := by decide +kernel
theorem dX12_clause_166 : decode cX12_clause 166 = .ok (.bipush 59, 2) := by decide +kernel
theorem dX12_clause_168 : decode cX12_clause 168 = .ok (.if_icmp .ne 7, 3) := by decide +kernel
theorem dX12_clause_171 : decode cX12_clause 171 = .ok (.iconst 1, 1) := by decide +kernel
theorem dX12_clause_172 : decode cX12_clause 172 = .ok (.goto 4, 3) := by decide +kernel
theorem dX12_clause_175 : decode cX12_clause 175 = .ok (.iconst 0, 1) := by decide +kernel
theorem dX12_clause_176 : decode cX12_clause 176 = .ok (.invokevirtual 269, 3) := by decide +kernel
theorem dX12_clause_179 : decode cX12_clause 179 = .ok (.aload_n 0, 1) := by decide +kernel
theorem dX12_clause_180 : decode cX12_clause 180 = .ok (.getfield 256, 3) := by decide +kernel
theorem dX12_clause_183 : decode cX12_clause 183 = .ok (.ifCond .ne 71, 3) := by decide +kernel
theorem dX12_clause_186 : decode cX12_clause 186 = .ok (.bipush 71, 2) := by decide +kernel
theorem dX12_clause_188 : decode cX12_clause 188 = .ok (.iconst 4, 1) := by decide +kernel
theorem dX12_clause_189 : decode cX12_clause 189 = .ok (.aload_n 0, 1) := by decide +kernel
theorem dX12_clause_190 : decode cX12_clause 190 = .ok (.getfield 7, 3) := by decide +kernel
theorem dX12_clause_193 : decode cX12_clause 193 = .ok (.iconst 4, 1) := by decide +kernel
theorem dX12_clause_194 : decode cX12_clause 194 = .ok (.iaload, 1) := by decide +kernel
theorem dX12_clause_195 : decode cX12_clause 195 = .ok (.imul, 1) := by decide +kernel
theorem dX12_clause_196 : decode cX12_clause 196 = .ok (.iadd, 1) := by decide +kernel
theorem dX12_clause_197 : decode cX12_clause 197 = .ok (.istore 6, 2) := by decide +kernel
theorem dX12_clause_199 : decode cX12_clause 199 = .ok (.aload_n 0, 1) := by decide +kernel
theorem dX12_clause_200 : decode cX12_clause 200 = .ok (.getfield 7, 3) := by decide +kernel
theorem dX12_clause_203 : decode cX12_clause 203 = .ok (.iload 6, 2) := by decide +kernel
theorem dX12_clause_205 : decode cX12_clause 205 = .ok (.iconst 0, 1) := by decide +kernel
theorem dX12_clause_206 : decode cX12_clause 206 = .ok (.iadd, 1) := by decide +kernel
theorem dX12_clause_207 : decode cX12_clause 207 = .ok (.iload_n 1, 1) := by decide +kernel
theorem dX12_clause_208 : decode cX12_clause 208 = .ok (.iastore, 1) := by decide +kernel
theorem dX12_clause_209 : decode cX12_clause 209 = .ok (.aload_n 0, 1) := by decide +kernel
theorem dX12_clause_210 : decode cX12_clause 210 = .ok (.getfield 7, 3) := by decide +kernel
theorem dX12_clause_213 : decode cX12_clause 213 = .ok (.iload 6, 2) := by decide +kernel
theorem dX12_clause_215 : decode cX12_clause 215 = .ok (.iconst 1, 1) := by decide +kernel
theorem dX12_clause_216 : decode cX12_clause 216 = .ok (.iadd, 1) := by decide +kernel
theorem dX12_clause_217 : decode cX12_clause 217 = .ok (.iload 4, 2) := by decide +kernel
theorem dX12_clause_219 : decode cX12_clause 219 = .ok (.iastore, 1) := by decide +kernel
theorem dX12_clause_220 : decode cX12_clause 220 = .ok (.aload_n 0, 1) := by decide +kernel
theorem dX12_clause_221 : decode cX12_clause 221 = .ok (.getfield 7, 3) := by decide +kernel
theorem dX12_clause_224 : decode cX12_clause 224 = .ok (.iload 6, 2) := by decide +kernel
theorem dX12_clause_226 : decode cX12_clause 226 = .ok (.iconst 2, 1) := by decide +kernel
theorem dX12_clause_227 : decode cX12_clause 227 = .ok (.iadd, 1) := by decide +kernel
theorem dX12_clause_228 : decode cX12_clause 228 = .ok (.iload 5, 2) := by decide +kernel
theorem dX12_clause_230 : decode cX12_clause 230 = .ok (.iastore, 1) := by decide +kernel
theorem dX12_clause_231 : decode cX12_clause 231 = .ok (.aload_n 0, 1) := by decide +kernel
theorem dX12_clause_232 : decode cX12_clause 232 = .ok (.getfield 7, 3) := by decide +kernel
theorem dX12_clause_235 : decode cX12_clause 235 = .ok (.iload 6, 2) := by decide +kernel
theorem dX12_clause_237 : decode cX12_clause 237 = .ok (.iconst 3, 1) := by decide +kernel
theorem dX12_clause_238 : decode cX12_clause 238 = .ok (.iadd, 1) := by decide +kernel
theorem dX12_clause_239 : decode cX12_clause 239 = .ok (.aload_n 0, 1) := by decide +kernel
theorem dX12_clause_240 : decode cX12_clause 240 = .ok (.getfield 299, 3) := by decide +kernel
theorem dX12_clause_243 : decode cX12_clause 243 = .ok (.iastore, 1) := by decide +kernel
theorem dX12_clause_244 : decode cX12_clause 244 = .ok (.aload_n 0, 1) := by decide +kernel
theorem dX12_clause_245 : decode cX12_clause 245 = .ok (.getfield 7, 3) := by decide +kernel
theorem dX12_clause_248 : decode cX12_clause 248 = .ok (.iconst 4, 1) := by decide +kernel
theorem dX12_clause_249 : decode cX12_clause 249 = .ok (.dup2, 1) := by decide +kernel
theorem dX12_clause_250 : decode cX12_clause 250 = .ok (.iaload, 1) := by decide +kernel
theorem dX12_clause_251 : decode cX12_clause 251 = .ok (.iconst 1, 1) := by decide +kernel
theorem dX12_clause_252 : decode cX12_clause 252 = .ok (.iadd, 1) := by decide +kernel
theorem dX12_clause_253 : decode cX12_clause 253 = .ok (.iastore, 1) := by decide +kernel
theorem dX12_clause_254 : decode cX12_clause 254 = .ok (.return_, 1) := by decide +kernel
theorem dX12_law_0 : decode cX12_law 0 = .ok (.aload_n 0, 1) := by decide +kernel
theorem dX12_law_1 : decode cX12_law 1 = .ok (.invokevirtual 349, 3) := by decide +kernel
theorem dX12_law_4 : decode cX12_law 4 = .ok (.aload_n 0, 1) := by decide +kernel
theorem dX12_law_5 : decode cX12_law 5 = .ok (.getfield 7, 3) := by decide +kernel
theorem dX12_law_8 : decode cX12_law 8 = .ok (.iconst 4, 1) := by decide +kernel
theorem dX12_law_9 : decode cX12_law 9 = .ok (.iconst 0, 1) := by decide +kernel
theorem dX12_law_10 : decode cX12_law 10 = .ok (.iastore, 1) := by decide +kernel
theorem dX12_law_11 : decode cX12_law 11 = .ok (.aload_n 0, 1) := by decide +kernel
theorem dX12_law_12 : decode cX12_law 12 = .ok (.iconst 0, 1) := by decide +kernel
theorem dX12_law_13 : decode cX12_law 13 = .ok (.putfield 299, 3) := by decide +kernel
theorem dX12_law_16 : decode cX12_law 16 = .ok (.aload_n 0, 1) := by decide +kernel
theorem dX12_law_17 : decode cX12_law 17 = .ok (.iconst 0, 1) := by decide +kernel
theorem dX12_law_18 : decode cX12_law 18 = .ok (.putfield 317, 3) := by decide +kernel
theorem dX12_law_21 : decode cX12_law 21 = .ok (.aload_n 0, 1) := by decide +kernel
theorem dX12_law_22 : decode cX12_law 22 = .ok (.iconst 0, 1) := by decide +kernel
theorem dX12_law_23 : decode cX12_law 23 = .ok (.putfield 241, 3) := by decide +kernel
theorem dX12_law_26 : decode cX12_law 26 = .ok (.aload_n 0, 1) := by decide +kernel
theorem dX12_law_27 : decode cX12_law 27 = .ok (.iconst 0, 1) := by decide +kernel
theorem dX12_law_28 : decode cX12_law 28 = .ok (.putfield 256, 3) := by decide +kernel
theorem dX12_law_31 : decode cX12_law 31 = .ok (.aload_n 0, 1) := by decide +kernel
theorem dX12_law_32 : decode cX12_law 32 = .ok (.invokevirtual 259, 3) := by decide +kernel
theorem dX12_law_35 : decode cX12_law 35 = .ok (.aload_n 0, 1) := by decide +kernel
theorem dX12_law_36 : decode cX12_law 36 = .ok (.getfield 256, 3) := by decide +kernel
theorem dX12_law_39 : decode cX12_law 39 = .ok (.ifCond .ne 21, 3) := by decide +kernel
theorem dX12_law_42 : decode cX12_law 42 = .ok (.aload_n 0, 1) := by decide +kernel
theorem dX12_law_43 : decode cX12_law 43 = .ok (.getfield 244, 3) := by decide +kernel
theorem dX12_law_46 : decode cX12_law 46 = .ok (.aload_n 0, 1) := by decide +kernel
theorem dX12_law_47 : decode cX12_law 47 = .ok (.getfield 228, 3) := by decide +kernel
theorem dX12_law_50 : decode cX12_law 50 = .ok (.if_icmp .ge 10, 3) := by decide +kernel
theorem dX12_law_53 : decode cX12_law 53 = .ok (.aload_n 0, 1) := by decide +kernel
theorem dX12_law_54 : decode cX12_law 54 = .ok (.invokevirtual 352, 3) := by decide +kernel
theorem dX12_law_57 : decode cX12_law 57 = .ok (.goto (-22), 3) := by decide +kernel
theorem dX12_law_60 : decode cX12_law 60 = .ok (.aload_n 0, 1) := by decide +kernel
theorem dX12_law_61 : decode cX12_law 61 = .ok (.iconst 0, 1) := by decide +kernel
theorem dX12_law_62 : decode cX12_law 62 = .ok (.putfield 228, 3) := by decide +kernel
theorem dX12_law_65 : decode cX12_law 65 = .ok (.aload_n 0, 1) := by decide +kernel
theorem dX12_law_66 : decode cX12_law 66 = .ok (.getfield 256, 3) := by decide +kernel
theorem dX12_law_69 : decode cX12_law 69 = .ok (.ifCond .eq 15, 3) := by decide +kernel
theorem dX12_law_72 : decode cX12_law 72 = .ok (.aload_n 0, 1) := by decide +kernel
theorem dX12_law_73 : decode cX12_law 73 = .ok (.invokevirtual 355, 3) := by decide +kernel
theorem dX12_law_76 : decode cX12_law 76 = .ok (.bipush (-100), 2) := by decide +kernel
theorem dX12_law_78 : decode cX12_law 78 = .ok (.aload_n 0, 1) := by decide +kernel
theorem dX12_law_79 : decode cX12_law 79 = .ok (.getfield 244, 3) := by decide +kernel
theorem dX12_law_82 : decode cX12_law 82 = .ok (.isub, 1) := by decide +kernel
theorem dX12_law_83 : decode cX12_law 83 = .ok (.ireturn, 1) := by decide +kernel
theorem dX12_law_84 : decode cX12_law 84 = .ok (.aload_n 0, 1) := by decide +kernel
theorem dX12_law_85 : decode cX12_law 85 = .ok (.getfield 7, 3) := by decide +kernel
theorem dX12_law_88 : decode cX12_law 88 = .ok (.iconst 4, 1) := by decide +kernel
theorem dX12_law_89 : decode cX12_law 89 = .ok (.iaload, 1) := by decide +kernel
theorem dX12_law_90 : decode cX12_law 90 = .ok (.ireturn, 1) := by decide +kernel
theorem dX12_isOne_0 : decode cX12_isOne 0 = .ok (.iload_n 0, 1) := by decide +kernel
theorem dX12_isOne_1 : decode cX12_isOne 1 = .ok (.i2l, 1) := by decide +kernel
theorem dX12_isOne_2 : decode cX12_isOne 2 = .ok (.lconst 0, 1) := by decide +kernel
theorem dX12_isOne_3 : decode cX12_isOne 3 = .ok (.ldc2_w 358, 3) := by decide +kernel
theorem dX12_isOne_6 : decode cX12_isOne 6 = .ok (.invokestatic 67, 3) := by decide +kernel
theorem dX12_isOne_9 : decode cX12_isOne 9 = .ok (.ireturn, 1) := by decide +kernel
theorem dX12_sheet_0 : decode cX12_sheet 0 = .ok (.iload_n 1, 1) := by decide +kernel
theorem dX12_sheet_1 : decode cX12_sheet 1 = .ok (.invokestatic 360, 3) := by decide +kernel
theorem dX12_sheet_4 : decode cX12_sheet 4 = .ok (.ifCond .eq 27, 3) := by decide +kernel
theorem dX12_sheet_7 : decode cX12_sheet 7 = .ok (.iload_n 2, 1) := by decide +kernel
theorem dX12_sheet_8 : decode cX12_sheet 8 = .ok (.i2l, 1) := by decide +kernel
theorem dX12_sheet_9 : decode cX12_sheet 9 = .ok (.ldc2_w 122, 3) := by decide +kernel
theorem dX12_sheet_12 : decode cX12_sheet 12 = .ok (.ldc2_w 201, 3) := by decide +kernel
theorem dX12_sheet_15 : decode cX12_sheet 15 = .ok (.invokestatic 67, 3) := by decide +kernel
theorem dX12_sheet_18 : decode cX12_sheet 18 = .ok (.ifCond .eq 13, 3) := by decide +kernel
theorem dX12_sheet_21 : decode cX12_sheet 21 = .ok (.iload_n 2, 1) := by decide +kernel
theorem dX12_sheet_22 : decode cX12_sheet 22 = .ok (.ifCond .lt 11, 3) := by decide +kernel
theorem dX12_sheet_25 : decode cX12_sheet 25 = .ok (.iload_n 3, 1) := by decide +kernel
theorem dX12_sheet_26 : decode cX12_sheet 26 = .ok (.bipush 40, 2) := by decide +kernel
theorem dX12_sheet_28 : decode cX12_sheet 28 = .ok (.if_icmp .le 5, 3) := by decide +kernel
theorem dX12_sheet_31 : decode cX12_sheet 31 = .ok (.iconst (-1), 1) := by decide +kernel
theorem dX12_sheet_32 : decode cX12_sheet 32 = .ok (.ireturn, 1) := by decide +kernel
theorem dX12_sheet_33 : decode cX12_sheet 33 = .ok (.iload_n 2, 1) := by decide +kernel
theorem dX12_sheet_34 : decode cX12_sheet 34 = .ok (.ifCond .lt 10, 3) := by decide +kernel
theorem dX12_sheet_37 : decode cX12_sheet 37 = .ok (.iload_n 3, 1) := by decide +kernel
theorem dX12_sheet_38 : decode cX12_sheet 38 = .ok (.ifCond .ge 6, 3) := by decide +kernel
theorem dX12_sheet_41 : decode cX12_sheet 41 = .ok (.bipush (-14), 2) := by decide +kernel
theorem dX12_sheet_43 : decode cX12_sheet 43 = .ok (.ireturn, 1) := by decide +kernel
theorem dX12_sheet_44 : decode cX12_sheet 44 = .ok (.aload_n 0, 1) := by decide +kernel
theorem dX12_sheet_45 : decode cX12_sheet 45 = .ok (.getfield 44, 3) := by decide +kernel
theorem dX12_sheet_48 : decode cX12_sheet 48 = .ok (.iload_n 1, 1) := by decide +kernel
theorem dX12_sheet_49 : decode cX12_sheet 49 = .ok (.iload_n 2, 1) := by decide +kernel
theorem dX12_sheet_50 : decode cX12_sheet 50 = .ok (.iastore, 1) := by decide +kernel
theorem dX12_sheet_51 : decode cX12_sheet 51 = .ok (.aload_n 0, 1) := by decide +kernel
theorem dX12_sheet_52 : decode cX12_sheet 52 = .ok (.getfield 47, 3) := by decide +kernel
theorem dX12_sheet_55 : decode cX12_sheet 55 = .ok (.iload_n 1, 1) := by decide +kernel
theorem dX12_sheet_56 : decode cX12_sheet 56 = .ok (.iload_n 2, 1) := by decide +kernel
theorem dX12_sheet_57 : decode cX12_sheet 57 = .ok (.ifCond .ge 7, 3) := by decide +kernel
theorem dX12_sheet_60 : decode cX12_sheet 60 = .ok (.iconst 0, 1) := by decide +kernel
theorem dX12_sheet_61 : decode cX12_sheet 61 = .ok (.goto 4, 3) := by decide +kernel
theorem dX12_sheet_64 : decode cX12_sheet 64 = .ok (.iload_n 3, 1) := by decide +kernel
theorem dX12_sheet_65 : decode cX12_sheet 65 = .ok (.iastore, 1) := by decide +kernel
theorem dX12_sheet_66 : decode cX12_sheet 66 = .ok (.iconst 0, 1) := by decide +kernel
theorem dX12_sheet_67 : decode cX12_sheet 67 = .ok (.istore 4, 2) := by decide +kernel
theorem dX12_sheet_69 : decode cX12_sheet 69 = .ok (.iload 4, 2) := by decide +kernel
theorem dX12_sheet_71 : decode cX12_sheet 71 = .ok (.bipush 40, 2) := by decide +kernel
theorem dX12_sheet_73 : decode cX12_sheet 73 = .ok (.if_icmp .ge 22, 3) := by decide +kernel
theorem dX12_sheet_76 : decode cX12_sheet 76 = .ok (.aload_n 0, 1) := by decide +kernel
theorem dX12_sheet_77 : decode cX12_sheet 77 = .ok (.getfield 50, 3) := by decide +kernel
theorem dX12_sheet_80 : decode cX12_sheet 80 = .ok (.bipush 40, 2) := by decide +kernel
theorem dX12_sheet_82 : decode cX12_sheet 82 = .ok (.iload_n 1, 1) := by decide +kernel
theorem dX12_sheet_83 : decode cX12_sheet 83 = .ok (.imul, 1) := by decide +kernel
theorem dX12_sheet_84 : decode cX12_sheet 84 = .ok (.iload 4, 2) := by decide +kernel
theorem dX12_sheet_86 : decode cX12_sheet 86 = .ok (.iadd, 1) := by decide +kernel
theorem dX12_sheet_87 : decode cX12_sheet 87 = .ok (.iconst 0, 1) := by decide +kernel
theorem dX12_sheet_88 : decode cX12_sheet 88 = .ok (.iastore, 1) := by decide +kernel
theorem dX12_sheet_89 : decode cX12_sheet 89 = .ok (.iinc 4 1, 3) := by decide +kernel
theorem dX12_sheet_92 : decode cX12_sheet 92 = .ok (.goto (-23), 3) := by decide +kernel
theorem dX12_sheet_95 : decode cX12_sheet 95 = .ok (.iconst 1, 1) := by decide +kernel
theorem dX12_sheet_96 : decode cX12_sheet 96 = .ok (.ireturn, 1) := by decide +kernel
theorem dX12_narrowed_0 : decode cX12_narrowed 0 = .ok (.iload_n 0, 1) := by decide +kernel
theorem dX12_narrowed_1 : decode cX12_narrowed 1 = .ok (.ifCond .ne 8, 3) := by decide +kernel
theorem dX12_narrowed_4 : decode cX12_narrowed 4 = .ok (.iload_n 1, 1) := by decide +kernel
theorem dX12_narrowed_5 : decode cX12_narrowed 5 = .ok (.i2b, 1) := by decide +kernel
theorem dX12_narrowed_6 : decode cX12_narrowed 6 = .ok (.goto 31, 3) := by decide +kernel
theorem dX12_narrowed_9 : decode cX12_narrowed 9 = .ok (.iload_n 0, 1) := by decide +kernel
theorem dX12_narrowed_10 : decode cX12_narrowed 10 = .ok (.iconst 1, 1) := by decide +kernel
theorem dX12_narrowed_11 : decode cX12_narrowed 11 = .ok (.if_icmp .ne 8, 3) := by decide +kernel
theorem dX12_narrowed_14 : decode cX12_narrowed 14 = .ok (.iload_n 1, 1) := by decide +kernel
theorem dX12_narrowed_15 : decode cX12_narrowed 15 = .ok (.i2s, 1) := by decide +kernel
theorem dX12_narrowed_16 : decode cX12_narrowed 16 = .ok (.goto 21, 3) := by decide +kernel
theorem dX12_narrowed_19 : decode cX12_narrowed 19 = .ok (.iload_n 0, 1) := by decide +kernel
theorem dX12_narrowed_20 : decode cX12_narrowed 20 = .ok (.iconst 4, 1) := by decide +kernel
theorem dX12_narrowed_21 : decode cX12_narrowed 21 = .ok (.if_icmp .ne 15, 3) := by decide +kernel
theorem dX12_narrowed_24 : decode cX12_narrowed 24 = .ok (.iload_n 1, 1) := by decide +kernel
theorem dX12_narrowed_25 : decode cX12_narrowed 25 = .ok (.ifCond .ne 7, 3) := by decide +kernel
theorem dX12_narrowed_28 : decode cX12_narrowed 28 = .ok (.iconst 0, 1) := by decide +kernel
theorem dX12_narrowed_29 : decode cX12_narrowed 29 = .ok (.goto 8, 3) := by decide +kernel
theorem dX12_narrowed_32 : decode cX12_narrowed 32 = .ok (.iconst 1, 1) := by decide +kernel
theorem dX12_narrowed_33 : decode cX12_narrowed 33 = .ok (.goto 4, 3) := by decide +kernel
theorem dX12_narrowed_36 : decode cX12_narrowed 36 = .ok (.iload_n 1, 1) := by decide +kernel
theorem dX12_narrowed_37 : decode cX12_narrowed 37 = .ok (.ireturn, 1) := by decide +kernel
theorem dX12_write_0 : decode cX12_write 0 = .ok (.iload_n 1, 1) := by decide +kernel
theorem dX12_write_1 : decode cX12_write 1 = .ok (.invokestatic 360, 3) := by decide +kernel
theorem dX12_write_4 : decode cX12_write 4 = .ok (.ifCond .ne 5, 3) := by decide +kernel
theorem dX12_write_7 : decode cX12_write 7 = .ok (.iconst (-1), 1) := by decide +kernel
theorem dX12_write_8 : decode cX12_write 8 = .ok (.ireturn, 1) := by decide +kernel
theorem dX12_write_9 : decode cX12_write 9 = .ok (.aload_n 0, 1) := by decide +kernel
theorem dX12_write_10 : decode cX12_write 10 = .ok (.getfield 44, 3) := by decide +kernel
theorem dX12_write_13 : decode cX12_write 13 = .ok (.iload_n 1, 1) := by decide +kernel
theorem dX12_write_14 : decode cX12_write 14 = .ok (.iaload, 1) := by decide +kernel
theorem dX12_write_15 : decode cX12_write 15 = .ok (.ifCond .ge 6, 3) := by decide +kernel
theorem dX12_write_18 : decode cX12_write 18 = .ok (.bipush (-11), 2) := by decide +kernel
theorem dX12_write_20 : decode cX12_write 20 = .ok (.ireturn, 1) := by decide +kernel
theorem dX12_write_21 : decode cX12_write 21 = .ok (.iload_n 2, 1) := by decide +kernel
theorem dX12_write_22 : decode cX12_write 22 = .ok (.i2l, 1) := by decide +kernel
theorem dX12_write_23 : decode cX12_write 23 = .ok (.lconst 0, 1) := by decide +kernel
theorem dX12_write_24 : decode cX12_write 24 = .ok (.aload_n 0, 1) := by decide +kernel
theorem dX12_write_25 : decode cX12_write 25 = .ok (.getfield 47, 3) := by decide +kernel
theorem dX12_write_28 : decode cX12_write 28 = .ok (.iload_n 1, 1) := by decide +kernel
theorem dX12_write_29 : decode cX12_write 29 = .ok (.iaload, 1) := by decide +kernel
theorem dX12_write_30 : decode cX12_write 30 = .ok (.iconst 1, 1) := by decide +kernel
theorem dX12_write_31 : decode cX12_write 31 = .ok (.isub, 1) := by decide +kernel
theorem dX12_write_32 : decode cX12_write 32 = .ok (.i2l, 1) := by decide +kernel
theorem dX12_write_33 : decode cX12_write 33 = .ok (.invokestatic 67, 3) := by decide +kernel
theorem dX12_write_36 : decode cX12_write 36 = .ok (.ifCond .ne 6, 3) := by decide +kernel
theorem dX12_write_39 : decode cX12_write 39 = .ok (.bipush (-12), 2) := by decide +kernel
theorem dX12_write_41 : decode cX12_write 41 = .ok (.ireturn, 1) := by decide +kernel
theorem dX12_write_42 : decode cX12_write 42 = .ok (.aload_n 0, 1) := by decide +kernel
theorem dX12_write_43 : decode cX12_write 43 = .ok (.getfield 50, 3) := by decide +kernel
theorem dX12_write_46 : decode cX12_write 46 = .ok (.bipush 40, 2) := by decide +kernel
theorem dX12_write_48 : decode cX12_write 48 = .ok (.iload_n 1, 1) := by decide +kernel
theorem dX12_write_49 : decode cX12_write 49 = .ok (.imul, 1) := by decide +kernel
theorem dX12_write_50 : decode cX12_write 50 = .ok (.iload_n 2, 1) := by decide +kernel
theorem dX12_write_51 : decode cX12_write 51 = .ok (.iadd, 1) := by decide +kernel
theorem dX12_write_52 : decode cX12_write 52 = .ok (.aload_n 0, 1) := by decide +kernel
theorem dX12_write_53 : decode cX12_write 53 = .ok (.getfield 44, 3) := by decide +kernel
theorem dX12_write_56 : decode cX12_write 56 = .ok (.iload_n 1, 1) := by decide +kernel
theorem dX12_write_57 : decode cX12_write 57 = .ok (.iaload, 1) := by decide +kernel
theorem dX12_write_58 : decode cX12_write 58 = .ok (.iload_n 3, 1) := by decide +kernel
theorem dX12_write_59 : decode cX12_write 59 = .ok (.invokestatic 363, 3) := by decide +kernel
theorem dX12_write_62 : decode cX12_write 62 = .ok (.iastore, 1) := by decide +kernel
theorem dX12_write_63 : decode cX12_write 63 = .ok (.iconst 1, 1) := by decide +kernel
theorem dX12_write_64 : decode cX12_write 64 = .ok (.ireturn, 1) := by decide +kernel
theorem dX12_wrong_0 : decode cX12_wrong 0 = .ok (.aload_n 0, 1) := by decide +kernel
theorem dX12_wrong_1 : decode cX12_wrong 1 = .ok (.getfield 44, 3) := by decide +kernel
theorem dX12_wrong_4 : decode cX12_wrong 4 = .ok (.iload_n 1, 1) := by decide +kernel
theorem dX12_wrong_5 : decode cX12_wrong 5 = .ok (.iaload, 1) := by decide +kernel
theorem dX12_wrong_6 : decode cX12_wrong 6 = .ok (.ifCond .ge 8, 3) := by decide +kernel
theorem dX12_wrong_9 : decode cX12_wrong 9 = .ok (.bipush (-11), 2) := by decide +kernel
theorem dX12_wrong_11 : decode cX12_wrong 11 = .ok (.goto 19, 3) := by decide +kernel
theorem dX12_wrong_14 : decode cX12_wrong 14 = .ok (.aload_n 0, 1) := by decide +kernel
theorem dX12_wrong_15 : decode cX12_wrong 15 = .ok (.getfield 44, 3) := by decide +kernel
theorem dX12_wrong_18 : decode cX12_wrong 18 = .ok (.iload_n 1, 1) := by decide +kernel
theorem dX12_wrong_19 : decode cX12_wrong 19 = .ok (.iaload, 1) := by decide +kernel
theorem dX12_wrong_20 : decode cX12_wrong 20 = .ok (.iload_n 2, 1) := by decide +kernel
theorem dX12_wrong_21 : decode cX12_wrong 21 = .ok (.if_icmp .eq 8, 3) := by decide +kernel
theorem dX12_wrong_24 : decode cX12_wrong 24 = .ok (.bipush (-13), 2) := by decide +kernel
theorem dX12_wrong_26 : decode cX12_wrong 26 = .ok (.goto 4, 3) := by decide +kernel
theorem dX12_wrong_29 : decode cX12_wrong 29 = .ok (.iconst 0, 1) := by decide +kernel
theorem dX12_wrong_30 : decode cX12_wrong 30 = .ok (.ireturn, 1) := by decide +kernel
theorem dX12_item_0 : decode cX12_item 0 = .ok (.iload_n 1, 1) := by decide +kernel
theorem dX12_item_1 : decode cX12_item 1 = .ok (.invokestatic 360, 3) := by decide +kernel
theorem dX12_item_4 : decode cX12_item 4 = .ok (.ifCond .eq 15, 3) := by decide +kernel
theorem dX12_item_7 : decode cX12_item 7 = .ok (.iload_n 2, 1) := by decide +kernel
theorem dX12_item_8 : decode cX12_item 8 = .ok (.i2l, 1) := by decide +kernel
theorem dX12_item_9 : decode cX12_item 9 = .ok (.lconst 0, 1) := by decide +kernel
theorem dX12_item_10 : decode cX12_item 10 = .ok (.ldc2_w 201, 3) := by decide +kernel
theorem dX12_item_13 : decode cX12_item 13 = .ok (.invokestatic 67, 3) := by decide +kernel
theorem dX12_item_16 : decode cX12_item 16 = .ok (.ifCond .ne 5, 3) := by decide +kernel
theorem dX12_item_19 : decode cX12_item 19 = .ok (.iconst (-1), 1) := by decide +kernel
theorem dX12_item_20 : decode cX12_item 20 = .ok (.ireturn, 1) := by decide +kernel
theorem dX12_item_21 : decode cX12_item 21 = .ok (.aload_n 0, 1) := by decide +kernel
theorem dX12_item_22 : decode cX12_item 22 = .ok (.iload_n 1, 1) := by decide +kernel
theorem dX12_item_23 : decode cX12_item 23 = .ok (.iload_n 2, 1) := by decide +kernel
theorem dX12_item_24 : decode cX12_item 24 = .ok (.invokevirtual 366, 3) := by decide +kernel
theorem dX12_item_27 : decode cX12_item 27 = .ok (.istore 4, 2) := by decide +kernel
theorem dX12_item_29 : decode cX12_item 29 = .ok (.iload 4, 2) := by decide +kernel
theorem dX12_item_31 : decode cX12_item 31 = .ok (.ifCond .eq 8, 3) := by decide +kernel
theorem dX12_item_34 : decode cX12_item 34 = .ok (.iload 4, 2) := by decide +kernel
theorem dX12_item_36 : decode cX12_item 36 = .ok (.goto 37, 3) := by decide +kernel
theorem dX12_item_39 : decode cX12_item 39 = .ok (.iload_n 3, 1) := by decide +kernel
theorem dX12_item_40 : decode cX12_item 40 = .ok (.i2l, 1) := by decide +kernel
theorem dX12_item_41 : decode cX12_item 41 = .ok (.lconst 0, 1) := by decide +kernel
theorem dX12_item_42 : decode cX12_item 42 = .ok (.aload_n 0, 1) := by decide +kernel
theorem dX12_item_43 : decode cX12_item 43 = .ok (.getfield 47, 3) := by decide +kernel
theorem dX12_item_46 : decode cX12_item 46 = .ok (.iload_n 1, 1) := by decide +kernel
theorem dX12_item_47 : decode cX12_item 47 = .ok (.iaload, 1) := by decide +kernel
theorem dX12_item_48 : decode cX12_item 48 = .ok (.iconst 1, 1) := by decide +kernel
theorem dX12_item_49 : decode cX12_item 49 = .ok (.isub, 1) := by decide +kernel
theorem dX12_item_50 : decode cX12_item 50 = .ok (.i2l, 1) := by decide +kernel
theorem dX12_item_51 : decode cX12_item 51 = .ok (.invokestatic 67, 3) := by decide +kernel
theorem dX12_item_54 : decode cX12_item 54 = .ok (.ifCond .eq 17, 3) := by decide +kernel
theorem dX12_item_57 : decode cX12_item 57 = .ok (.aload_n 0, 1) := by decide +kernel
theorem dX12_item_58 : decode cX12_item 58 = .ok (.getfield 50, 3) := by decide +kernel
theorem dX12_item_61 : decode cX12_item 61 = .ok (.bipush 40, 2) := by decide +kernel
theorem dX12_item_63 : decode cX12_item 63 = .ok (.iload_n 1, 1) := by decide +kernel
theorem dX12_item_64 : decode cX12_item 64 = .ok (.imul, 1) := by decide +kernel
theorem dX12_item_65 : decode cX12_item 65 = .ok (.iload_n 3, 1) := by decide +kernel
theorem dX12_item_66 : decode cX12_item 66 = .ok (.iadd, 1) := by decide +kernel
theorem dX12_item_67 : decode cX12_item 67 = .ok (.iaload, 1) := by decide +kernel
theorem dX12_item_68 : decode cX12_item 68 = .ok (.goto 5, 3) := by decide +kernel
theorem dX12_item_71 : decode cX12_item 71 = .ok (.bipush (-12), 2) := by decide +kernel
theorem dX12_item_73 : decode cX12_item 73 = .ok (.ireturn, 1) := by decide +kernel
theorem dX12_walks_0 : decode cX12_walks 0 = .ok (.aload_n 0, 1) := by decide +kernel
theorem dX12_walks_1 : decode cX12_walks 1 = .ok (.iload_n 1, 1) := by decide +kernel
theorem dX12_walks_2 : decode cX12_walks 2 = .ok (.invokevirtual 138, 3) := by decide +kernel
theorem dX12_walks_5 : decode cX12_walks 5 = .ok (.ifCond .eq 23, 3) := by decide +kernel
theorem dX12_walks_8 : decode cX12_walks 8 = .ok (.iload_n 2, 1) := by decide +kernel
theorem dX12_walks_9 : decode cX12_walks 9 = .ok (.invokestatic 360, 3) := by decide +kernel
theorem dX12_walks_12 : decode cX12_walks 12 = .ok (.ifCond .eq 16, 3) := by decide +kernel
theorem dX12_walks_15 : decode cX12_walks 15 = .ok (.iload 4, 2) := by decide +kernel
theorem dX12_walks_17 : decode cX12_walks 17 = .ok (.i2l, 1) := by decide +kernel
theorem dX12_walks_18 : decode cX12_walks 18 = .ok (.lconst 0, 1) := by decide +kernel
theorem dX12_walks_19 : decode cX12_walks 19 = .ok (.ldc2_w 195, 3) := by decide +kernel
theorem dX12_walks_22 : decode cX12_walks 22 = .ok (.invokestatic 67, 3) := by decide +kernel
theorem dX12_walks_25 : decode cX12_walks 25 = .ok (.ifCond .ne 5, 3) := by decide +kernel
theorem dX12_walks_28 : decode cX12_walks 28 = .ok (.iconst (-1), 1) := by decide +kernel
theorem dX12_walks_29 : decode cX12_walks 29 = .ok (.ireturn, 1) := by decide +kernel
theorem dX12_walks_30 : decode cX12_walks 30 = .ok (.aload_n 0, 1) := by decide +kernel
theorem dX12_walks_31 : decode cX12_walks 31 = .ok (.iload_n 2, 1) := by decide +kernel
theorem dX12_walks_32 : decode cX12_walks 32 = .ok (.iconst 0, 1) := by decide +kernel
theorem dX12_walks_33 : decode cX12_walks 33 = .ok (.invokevirtual 366, 3) := by decide +kernel
theorem dX12_walks_36 : decode cX12_walks 36 = .ok (.istore 5, 2) := by decide +kernel
theorem dX12_walks_38 : decode cX12_walks 38 = .ok (.iload 5, 2) := by decide +kernel
theorem dX12_walks_40 : decode cX12_walks 40 = .ok (.ifCond .eq 6, 3) := by decide +kernel
theorem dX12_walks_43 : decode cX12_walks 43 = .ok (.iload 5, 2) := by decide +kernel
theorem dX12_walks_45 : decode cX12_walks 45 = .ok (.ireturn, 1) := by decide +kernel
theorem dX12_walks_46 : decode cX12_walks 46 = .ok (.iconst 0, 1) := by decide +kernel
theorem dX12_walks_47 : decode cX12_walks 47 = .ok (.istore 6, 2) := by decide +kernel
theorem dX12_walks_49 : decode cX12_walks 49 = .ok (.iconst 0, 1) := by decide +kernel
theorem dX12_walks_50 : decode cX12_walks 50 = .ok (.istore 7, 2) := by decide +kernel
theorem dX12_walks_52 : decode cX12_walks 52 = .ok (.iload 7, 2) := by decide +kernel
theorem dX12_walks_54 : decode cX12_walks 54 = .ok (.iload 4, 2) := by decide +kernel
theorem dX12_walks_56 : decode cX12_walks 56 = .ok (.if_icmp .ge 66, 3) := by decide +kernel
theorem dX12_walks_59 : decode cX12_walks 59 = .ok (.iload_n 3, 1) := by decide +kernel
theorem dX12_walks_60 : decode cX12_walks 60 = .ok (.i2l, 1) := by decide +kernel
theorem dX12_walks_61 : decode cX12_walks 61 = .ok (.iload 7, 2) := by decide +kernel
theorem dX12_walks_63 : decode cX12_walks 63 = .ok (.i2l, 1) := by decide +kernel
theorem dX12_walks_64 : decode cX12_walks 64 = .ok (.ladd, 1) := by decide +kernel
theorem dX12_walks_65 : decode cX12_walks 65 = .ok (.lconst 0, 1) := by decide +kernel
theorem dX12_walks_66 : decode cX12_walks 66 = .ok (.aload_n 0, 1) := by decide +kernel
theorem dX12_walks_67 : decode cX12_walks 67 = .ok (.getfield 47, 3) := by decide +kernel
theorem dX12_walks_70 : decode cX12_walks 70 = .ok (.iload_n 2, 1) := by decide +kernel
theorem dX12_walks_71 : decode cX12_walks 71 = .ok (.iaload, 1) := by decide +kernel
theorem dX12_walks_72 : decode cX12_walks 72 = .ok (.iconst 1, 1) := by decide +kernel
theorem dX12_walks_73 : decode cX12_walks 73 = .ok (.isub, 1) := by decide +kernel
theorem dX12_walks_74 : decode cX12_walks 74 = .ok (.i2l, 1) := by decide +kernel
theorem dX12_walks_75 : decode cX12_walks 75 = .ok (.invokestatic 67, 3) := by decide +kernel
theorem dX12_walks_78 : decode cX12_walks 78 = .ok (.ifCond .ne 6, 3) := by decide +kernel
theorem dX12_walks_81 : decode cX12_walks 81 = .ok (.bipush (-12), 2) := by decide +kernel
theorem dX12_walks_83 : decode cX12_walks 83 = .ok (.ireturn, 1) := by decide +kernel
theorem dX12_walks_84 : decode cX12_walks 84 = .ok (.iload 6, 2) := by decide +kernel
theorem dX12_walks_86 : decode cX12_walks 86 = .ok (.aload_n 0, 1) := by decide +kernel
theorem dX12_walks_87 : decode cX12_walks 87 = .ok (.iload_n 1, 1) := by decide +kernel
theorem dX12_walks_88 : decode cX12_walks 88 = .ok (.aload_n 0, 1) := by decide +kernel
theorem dX12_walks_89 : decode cX12_walks 89 = .ok (.getfield 50, 3) := by decide +kernel
theorem dX12_walks_92 : decode cX12_walks 92 = .ok (.bipush 40, 2) := by decide +kernel
theorem dX12_walks_94 : decode cX12_walks 94 = .ok (.iload_n 2, 1) := by decide +kernel
theorem dX12_walks_95 : decode cX12_walks 95 = .ok (.imul, 1) := by decide +kernel
theorem dX12_walks_96 : decode cX12_walks 96 = .ok (.iload_n 3, 1) := by decide +kernel
theorem dX12_walks_97 : decode cX12_walks 97 = .ok (.iadd, 1) := by decide +kernel
theorem dX12_walks_98 : decode cX12_walks 98 = .ok (.iload 7, 2) := by decide +kernel
theorem dX12_walks_100 : decode cX12_walks 100 = .ok (.iadd, 1) := by decide +kernel
theorem dX12_walks_101 : decode cX12_walks 101 = .ok (.iaload, 1) := by decide +kernel
theorem dX12_walks_102 : decode cX12_walks 102 = .ok (.invokevirtual 369, 3) := by decide +kernel
theorem dX12_walks_105 : decode cX12_walks 105 = .ok (.ifCond .lt 7, 3) := by decide +kernel
theorem dX12_walks_108 : decode cX12_walks 108 = .ok (.iconst 1, 1) := by decide +kernel
theorem dX12_walks_109 : decode cX12_walks 109 = .ok (.goto 4, 3) := by decide +kernel
theorem dX12_walks_112 : decode cX12_walks 112 = .ok (.iconst 0, 1) := by decide +kernel
theorem dX12_walks_113 : decode cX12_walks 113 = .ok (.iadd, 1) := by decide +kernel
theorem dX12_walks_114 : decode cX12_walks 114 = .ok (.istore 6, 2) := by decide +kernel
theorem dX12_walks_116 : decode cX12_walks 116 = .ok (.iinc 7 1, 3) := by decide +kernel
theorem dX12_walks_119 : decode cX12_walks 119 = .ok (.goto (-67), 3) := by decide +kernel
theorem dX12_walks_122 : decode cX12_walks 122 = .ok (.iload 6, 2) := by decide +kernel
theorem dX12_walks_124 : decode cX12_walks 124 = .ok (.ireturn, 1) := by decide +kernel
theorem dX12_shelf_0 : decode cX12_shelf 0 = .ok (.iload_n 1, 1) := by decide +kernel
theorem dX12_shelf_1 : decode cX12_shelf 1 = .ok (.invokestatic 360, 3) := by decide +kernel
theorem dX12_shelf_4 : decode cX12_shelf 4 = .ok (.ifCond .eq 39, 3) := by decide +kernel
theorem dX12_shelf_7 : decode cX12_shelf 7 = .ok (.iload_n 2, 1) := by decide +kernel
theorem dX12_shelf_8 : decode cX12_shelf 8 = .ok (.i2l, 1) := by decide +kernel
theorem dX12_shelf_9 : decode cX12_shelf 9 = .ok (.lconst 0, 1) := by decide +kernel
theorem dX12_shelf_10 : decode cX12_shelf 10 = .ok (.ldc2_w 124, 3) := by decide +kernel
theorem dX12_shelf_13 : decode cX12_shelf 13 = .ok (.invokestatic 67, 3) := by decide +kernel
theorem dX12_shelf_16 : decode cX12_shelf 16 = .ok (.ifCond .eq 27, 3) := by decide +kernel
theorem dX12_shelf_19 : decode cX12_shelf 19 = .ok (.iload_n 2, 1) := by decide +kernel
theorem dX12_shelf_20 : decode cX12_shelf 20 = .ok (.ifCond .ne 11, 3) := by decide +kernel
theorem dX12_shelf_23 : decode cX12_shelf 23 = .ok (.aload_n 0, 1) := by decide +kernel
theorem dX12_shelf_24 : decode cX12_shelf 24 = .ok (.iload_n 3, 1) := by decide +kernel
theorem dX12_shelf_25 : decode cX12_shelf 25 = .ok (.invokevirtual 114, 3) := by decide +kernel
theorem dX12_shelf_28 : decode cX12_shelf 28 = .ok (.ifCond .eq 15, 3) := by decide +kernel
theorem dX12_shelf_31 : decode cX12_shelf 31 = .ok (.iload_n 2, 1) := by decide +kernel
theorem dX12_shelf_32 : decode cX12_shelf 32 = .ok (.iconst 1, 1) := by decide +kernel
theorem dX12_shelf_33 : decode cX12_shelf 33 = .ok (.if_icmp .ne 12, 3) := by decide +kernel
theorem dX12_shelf_36 : decode cX12_shelf 36 = .ok (.iload_n 3, 1) := by decide +kernel
theorem dX12_shelf_37 : decode cX12_shelf 37 = .ok (.invokestatic 360, 3) := by decide +kernel
theorem dX12_shelf_40 : decode cX12_shelf 40 = .ok (.ifCond .ne 5, 3) := by decide +kernel
theorem dX12_shelf_43 : decode cX12_shelf 43 = .ok (.iconst (-1), 1) := by decide +kernel
theorem dX12_shelf_44 : decode cX12_shelf 44 = .ok (.ireturn, 1) := by decide +kernel
theorem dX12_shelf_45 : decode cX12_shelf 45 = .ok (.aload_n 0, 1) := by decide +kernel
theorem dX12_shelf_46 : decode cX12_shelf 46 = .ok (.getfield 53, 3) := by decide +kernel
theorem dX12_shelf_49 : decode cX12_shelf 49 = .ok (.iload_n 1, 1) := by decide +kernel
theorem dX12_shelf_50 : decode cX12_shelf 50 = .ok (.iload_n 2, 1) := by decide +kernel
theorem dX12_shelf_51 : decode cX12_shelf 51 = .ok (.ifCond .ne 7, 3) := by decide +kernel
theorem dX12_shelf_54 : decode cX12_shelf 54 = .ok (.iconst 1, 1) := by decide +kernel
theorem dX12_shelf_55 : decode cX12_shelf 55 = .ok (.goto 22, 3) := by decide +kernel
theorem dX12_shelf_58 : decode cX12_shelf 58 = .ok (.iload_n 2, 1) := by decide +kernel
theorem dX12_shelf_59 : decode cX12_shelf 59 = .ok (.iconst 1, 1) := by decide +kernel
theorem dX12_shelf_60 : decode cX12_shelf 60 = .ok (.if_icmp .ne 16, 3) := by decide +kernel
theorem dX12_shelf_63 : decode cX12_shelf 63 = .ok (.aload_n 0, 1) := by decide +kernel
theorem dX12_shelf_64 : decode cX12_shelf 64 = .ok (.getfield 44, 3) := by decide +kernel
theorem dX12_shelf_67 : decode cX12_shelf 67 = .ok (.iload_n 3, 1) := by decide +kernel
theorem dX12_shelf_68 : decode cX12_shelf 68 = .ok (.iaload, 1) := by decide +kernel
theorem dX12_shelf_69 : decode cX12_shelf 69 = .ok (.ifCond .lt 7, 3) := by decide +kernel
theorem dX12_shelf_72 : decode cX12_shelf 72 = .ok (.iconst 2, 1) := by decide +kernel
theorem dX12_shelf_73 : decode cX12_shelf 73 = .ok (.goto 4, 3) := by decide +kernel
theorem dX12_shelf_76 : decode cX12_shelf 76 = .ok (.iconst 0, 1) := by decide +kernel
theorem dX12_shelf_77 : decode cX12_shelf 77 = .ok (.iastore, 1) := by decide +kernel
theorem dX12_shelf_78 : decode cX12_shelf 78 = .ok (.aload_n 0, 1) := by decide +kernel
theorem dX12_shelf_79 : decode cX12_shelf 79 = .ok (.getfield 56, 3) := by decide +kernel
theorem dX12_shelf_82 : decode cX12_shelf 82 = .ok (.iload_n 1, 1) := by decide +kernel
theorem dX12_shelf_83 : decode cX12_shelf 83 = .ok (.iload_n 2, 1) := by decide +kernel
theorem dX12_shelf_84 : decode cX12_shelf 84 = .ok (.ifCond .ne 7, 3) := by decide +kernel
theorem dX12_shelf_87 : decode cX12_shelf 87 = .ok (.iload_n 3, 1) := by decide +kernel
theorem dX12_shelf_88 : decode cX12_shelf 88 = .ok (.goto 18, 3) := by decide +kernel
theorem dX12_shelf_91 : decode cX12_shelf 91 = .ok (.iload_n 2, 1) := by decide +kernel
theorem dX12_shelf_92 : decode cX12_shelf 92 = .ok (.iconst 1, 1) := by decide +kernel
theorem dX12_shelf_93 : decode cX12_shelf 93 = .ok (.if_icmp .ne 12, 3) := by decide +kernel
theorem dX12_shelf_96 : decode cX12_shelf 96 = .ok (.aload_n 0, 1) := by decide +kernel
theorem dX12_shelf_97 : decode cX12_shelf 97 = .ok (.getfield 47, 3) := by decide +kernel
theorem dX12_shelf_100 : decode cX12_shelf 100 = .ok (.iload_n 3, 1) := by decide +kernel
theorem dX12_shelf_101 : decode cX12_shelf 101 = .ok (.iaload, 1) := by decide +kernel
theorem dX12_shelf_102 : decode cX12_shelf 102 = .ok (.goto 4, 3) := by decide +kernel
theorem dX12_shelf_105 : decode cX12_shelf 105 = .ok (.iconst 0, 1) := by decide +kernel
theorem dX12_shelf_106 : decode cX12_shelf 106 = .ok (.iastore, 1) := by decide +kernel
theorem dX12_shelf_107 : decode cX12_shelf 107 = .ok (.aload_n 0, 1) := by decide +kernel
theorem dX12_shelf_108 : decode cX12_shelf 108 = .ok (.getfield 59, 3) := by decide +kernel
theorem dX12_shelf_111 : decode cX12_shelf 111 = .ok (.iload_n 1, 1) := by decide +kernel
theorem dX12_shelf_112 : decode cX12_shelf 112 = .ok (.iload_n 2, 1) := by decide +kernel
theorem dX12_shelf_113 : decode cX12_shelf 113 = .ok (.iconst 1, 1) := by decide +kernel
theorem dX12_shelf_114 : decode cX12_shelf 114 = .ok (.if_icmp .ne 12, 3) := by decide +kernel
theorem dX12_shelf_117 : decode cX12_shelf 117 = .ok (.aload_n 0, 1) := by decide +kernel
theorem dX12_shelf_118 : decode cX12_shelf 118 = .ok (.getfield 44, 3) := by decide +kernel
theorem dX12_shelf_121 : decode cX12_shelf 121 = .ok (.iload_n 3, 1) := by decide +kernel
theorem dX12_shelf_122 : decode cX12_shelf 122 = .ok (.iaload, 1) := by decide +kernel
theorem dX12_shelf_123 : decode cX12_shelf 123 = .ok (.goto 4, 3) := by decide +kernel
theorem dX12_shelf_126 : decode cX12_shelf 126 = .ok (.iconst 0, 1) := by decide +kernel
theorem dX12_shelf_127 : decode cX12_shelf 127 = .ok (.iastore, 1) := by decide +kernel
theorem dX12_shelf_128 : decode cX12_shelf 128 = .ok (.iconst 1, 1) := by decide +kernel
theorem dX12_shelf_129 : decode cX12_shelf 129 = .ok (.ireturn, 1) := by decide +kernel
theorem dX12_onShelf_0 : decode cX12_onShelf 0 = .ok (.iload_n 1, 1) := by decide +kernel
theorem dX12_onShelf_1 : decode cX12_onShelf 1 = .ok (.invokestatic 360, 3) := by decide +kernel
theorem dX12_onShelf_4 : decode cX12_onShelf 4 = .ok (.ifCond .eq 35, 3) := by decide +kernel
theorem dX12_onShelf_7 : decode cX12_onShelf 7 = .ok (.aload_n 0, 1) := by decide +kernel
theorem dX12_onShelf_8 : decode cX12_onShelf 8 = .ok (.getfield 53, 3) := by decide +kernel
theorem dX12_onShelf_11 : decode cX12_onShelf 11 = .ok (.iload_n 1, 1) := by decide +kernel
theorem dX12_onShelf_12 : decode cX12_onShelf 12 = .ok (.iaload, 1) := by decide +kernel
theorem dX12_onShelf_13 : decode cX12_onShelf 13 = .ok (.iconst 1, 1) := by decide +kernel
theorem dX12_onShelf_14 : decode cX12_onShelf 14 = .ok (.if_icmp .ne 25, 3) := by decide +kernel
theorem dX12_onShelf_17 : decode cX12_onShelf 17 = .ok (.aload_n 0, 1) := by decide +kernel
theorem dX12_onShelf_18 : decode cX12_onShelf 18 = .ok (.aload_n 0, 1) := by decide +kernel
theorem dX12_onShelf_19 : decode cX12_onShelf 19 = .ok (.getfield 56, 3) := by decide +kernel
theorem dX12_onShelf_22 : decode cX12_onShelf 22 = .ok (.iload_n 1, 1) := by decide +kernel
theorem dX12_onShelf_23 : decode cX12_onShelf 23 = .ok (.iaload, 1) := by decide +kernel
theorem dX12_onShelf_24 : decode cX12_onShelf 24 = .ok (.invokevirtual 114, 3) := by decide +kernel
theorem dX12_onShelf_27 : decode cX12_onShelf 27 = .ok (.ifCond .eq 12, 3) := by decide +kernel
theorem dX12_onShelf_30 : decode cX12_onShelf 30 = .ok (.aload_n 0, 1) := by decide +kernel
theorem dX12_onShelf_31 : decode cX12_onShelf 31 = .ok (.getfield 56, 3) := by decide +kernel
theorem dX12_onShelf_34 : decode cX12_onShelf 34 = .ok (.iload_n 1, 1) := by decide +kernel
theorem dX12_onShelf_35 : decode cX12_onShelf 35 = .ok (.iaload, 1) := by decide +kernel
theorem dX12_onShelf_36 : decode cX12_onShelf 36 = .ok (.goto 4, 3) := by decide +kernel
theorem dX12_onShelf_39 : decode cX12_onShelf 39 = .ok (.iconst (-1), 1) := by decide +kernel
theorem dX12_onShelf_40 : decode cX12_onShelf 40 = .ok (.ireturn, 1) := by decide +kernel
theorem dX12_taken_0 : decode cX12_taken 0 = .ok (.iload_n 1, 1) := by decide +kernel
theorem dX12_taken_1 : decode cX12_taken 1 = .ok (.invokestatic 360, 3) := by decide +kernel
theorem dX12_taken_4 : decode cX12_taken 4 = .ok (.ifCond .eq 29, 3) := by decide +kernel
theorem dX12_taken_7 : decode cX12_taken 7 = .ok (.iload_n 2, 1) := by decide +kernel
theorem dX12_taken_8 : decode cX12_taken 8 = .ok (.i2l, 1) := by decide +kernel
theorem dX12_taken_9 : decode cX12_taken 9 = .ok (.lconst 0, 1) := by decide +kernel
theorem dX12_taken_10 : decode cX12_taken 10 = .ok (.ldc2_w 81, 3) := by decide +kernel
theorem dX12_taken_13 : decode cX12_taken 13 = .ok (.invokestatic 67, 3) := by decide +kernel
theorem dX12_taken_16 : decode cX12_taken 16 = .ok (.ifCond .ne 19, 3) := by decide +kernel
theorem dX12_taken_19 : decode cX12_taken 19 = .ok (.iload_n 2, 1) := by decide +kernel
theorem dX12_taken_20 : decode cX12_taken 20 = .ok (.i2l, 1) := by decide +kernel
theorem dX12_taken_21 : decode cX12_taken 21 = .ok (.ldc2_w 372, 3) := by decide +kernel
theorem dX12_taken_24 : decode cX12_taken 24 = .ok (.ldc2_w 374, 3) := by decide +kernel
theorem dX12_taken_27 : decode cX12_taken 27 = .ok (.invokestatic 67, 3) := by decide +kernel
theorem dX12_taken_30 : decode cX12_taken 30 = .ok (.ifCond .ne 5, 3) := by decide +kernel
theorem dX12_taken_33 : decode cX12_taken 33 = .ok (.iconst (-1), 1) := by decide +kernel
theorem dX12_taken_34 : decode cX12_taken 34 = .ok (.ireturn, 1) := by decide +kernel
theorem dX12_taken_35 : decode cX12_taken 35 = .ok (.aload_n 0, 1) := by decide +kernel
theorem dX12_taken_36 : decode cX12_taken 36 = .ok (.iload_n 1, 1) := by decide +kernel
theorem dX12_taken_37 : decode cX12_taken 37 = .ok (.invokevirtual 376, 3) := by decide +kernel
theorem dX12_taken_40 : decode cX12_taken 40 = .ok (.istore_n 3, 1) := by decide +kernel
theorem dX12_taken_41 : decode cX12_taken 41 = .ok (.iload_n 3, 1) := by decide +kernel
theorem dX12_taken_42 : decode cX12_taken 42 = .ok (.ifCond .ge 16, 3) := by decide +kernel
theorem dX12_taken_45 : decode cX12_taken 45 = .ok (.aload_n 0, 1) := by decide +kernel
theorem dX12_taken_46 : decode cX12_taken 46 = .ok (.getfield 53, 3) := by decide +kernel
theorem dX12_taken_49 : decode cX12_taken 49 = .ok (.iload_n 1, 1) := by decide +kernel
theorem dX12_taken_50 : decode cX12_taken 50 = .ok (.iaload, 1) := by decide +kernel
theorem dX12_taken_51 : decode cX12_taken 51 = .ok (.iconst 2, 1) := by decide +kernel
theorem dX12_taken_52 : decode cX12_taken 52 = .ok (.if_icmp .ge 6, 3) := by decide +kernel
theorem dX12_taken_55 : decode cX12_taken 55 = .ok (.bipush (-11), 2) := by decide +kernel
theorem dX12_taken_57 : decode cX12_taken 57 = .ok (.ireturn, 1) := by decide +kernel
theorem dX12_taken_58 : decode cX12_taken 58 = .ok (.iload_n 3, 1) := by decide +kernel
theorem dX12_taken_59 : decode cX12_taken 59 = .ok (.ifCond .lt 30, 3) := by decide +kernel
theorem dX12_taken_62 : decode cX12_taken 62 = .ok (.iload_n 2, 1) := by decide +kernel
theorem dX12_taken_63 : decode cX12_taken 63 = .ok (.bipush 6, 2) := by decide +kernel
theorem dX12_taken_65 : decode cX12_taken 65 = .ok (.if_icmp .ge 20, 3) := by decide +kernel
theorem dX12_taken_68 : decode cX12_taken 68 = .ok (.aload_n 0, 1) := by decide +kernel
theorem dX12_taken_69 : decode cX12_taken 69 = .ok (.iload_n 3, 1) := by decide +kernel
theorem dX12_taken_70 : decode cX12_taken 70 = .ok (.iconst 0, 1) := by decide +kernel
theorem dX12_taken_71 : decode cX12_taken 71 = .ok (.invokevirtual 87, 3) := by decide +kernel
theorem dX12_taken_74 : decode cX12_taken 74 = .ok (.iload_n 2, 1) := by decide +kernel
theorem dX12_taken_75 : decode cX12_taken 75 = .ok (.invokestatic 97, 3) := by decide +kernel
theorem dX12_taken_78 : decode cX12_taken 78 = .ok (.ifCond .eq 7, 3) := by decide +kernel
theorem dX12_taken_81 : decode cX12_taken 81 = .ok (.iconst 1, 1) := by decide +kernel
theorem dX12_taken_82 : decode cX12_taken 82 = .ok (.goto 25, 3) := by decide +kernel
theorem dX12_taken_85 : decode cX12_taken 85 = .ok (.iconst 0, 1) := by decide +kernel
theorem dX12_taken_86 : decode cX12_taken 86 = .ok (.goto 21, 3) := by decide +kernel
theorem dX12_taken_89 : decode cX12_taken 89 = .ok (.iload_n 2, 1) := by decide +kernel
theorem dX12_taken_90 : decode cX12_taken 90 = .ok (.bipush 10, 2) := by decide +kernel
theorem dX12_taken_92 : decode cX12_taken 92 = .ok (.isub, 1) := by decide +kernel
theorem dX12_taken_93 : decode cX12_taken 93 = .ok (.aload_n 0, 1) := by decide +kernel
theorem dX12_taken_94 : decode cX12_taken 94 = .ok (.getfield 59, 3) := by decide +kernel
theorem dX12_taken_97 : decode cX12_taken 97 = .ok (.iload_n 1, 1) := by decide +kernel
theorem dX12_taken_98 : decode cX12_taken 98 = .ok (.iaload, 1) := by decide +kernel
theorem dX12_taken_99 : decode cX12_taken 99 = .ok (.if_icmp .ne 7, 3) := by decide +kernel
theorem dX12_taken_102 : decode cX12_taken 102 = .ok (.iconst 1, 1) := by decide +kernel
theorem dX12_taken_103 : decode cX12_taken 103 = .ok (.goto 4, 3) := by decide +kernel
theorem dX12_taken_106 : decode cX12_taken 106 = .ok (.iconst 0, 1) := by decide +kernel
theorem dX12_taken_107 : decode cX12_taken 107 = .ok (.istore 4, 2) := by decide +kernel
theorem dX12_taken_109 : decode cX12_taken 109 = .ok (.iload 4, 2) := by decide +kernel
theorem dX12_taken_111 : decode cX12_taken 111 = .ok (.ifCond .eq 12, 3) := by decide +kernel
theorem dX12_taken_114 : decode cX12_taken 114 = .ok (.aload_n 0, 1) := by decide +kernel
theorem dX12_taken_115 : decode cX12_taken 115 = .ok (.getfield 56, 3) := by decide +kernel
theorem dX12_taken_118 : decode cX12_taken 118 = .ok (.iload_n 1, 1) := by decide +kernel
theorem dX12_taken_119 : decode cX12_taken 119 = .ok (.iaload, 1) := by decide +kernel
theorem dX12_taken_120 : decode cX12_taken 120 = .ok (.goto 5, 3) := by decide +kernel
theorem dX12_taken_123 : decode cX12_taken 123 = .ok (.bipush (-13), 2) := by decide +kernel
theorem dX12_taken_125 : decode cX12_taken 125 = .ok (.ireturn, 1) := by decide +kernel
theorem dX12_runs_0 : decode cX12_runs 0 = .ok (.aload_n 0, 1) := by decide +kernel
theorem dX12_runs_1 : decode cX12_runs 1 = .ok (.getfield 379, 3) := by decide +kernel
theorem dX12_runs_4 : decode cX12_runs 4 = .ok (.ifCond .ne 32, 3) := by decide +kernel
theorem dX12_runs_7 : decode cX12_runs 7 = .ok (.aload_n 0, 1) := by decide +kernel
theorem dX12_runs_8 : decode cX12_runs 8 = .ok (.getfield 382, 3) := by decide +kernel
theorem dX12_runs_11 : decode cX12_runs 11 = .ok (.bipush 30, 2) := by decide +kernel
theorem dX12_runs_13 : decode cX12_runs 13 = .ok (.if_icmp .ge 13, 3) := by decide +kernel
theorem dX12_runs_16 : decode cX12_runs 16 = .ok (.aload_n 0, 1) := by decide +kernel
theorem dX12_runs_17 : decode cX12_runs 17 = .ok (.getfield 62, 3) := by decide +kernel
theorem dX12_runs_20 : decode cX12_runs 20 = .ok (.aload_n 0, 1) := by decide +kernel
theorem dX12_runs_21 : decode cX12_runs 21 = .ok (.getfield 382, 3) := by decide +kernel
theorem dX12_runs_24 : decode cX12_runs 24 = .ok (.iload_n 1, 1) := by decide +kernel
theorem dX12_runs_25 : decode cX12_runs 25 = .ok (.iastore, 1) := by decide +kernel
theorem dX12_runs_26 : decode cX12_runs 26 = .ok (.aload_n 0, 1) := by decide +kernel
theorem dX12_runs_27 : decode cX12_runs 27 = .ok (.dup, 1) := by decide +kernel
theorem dX12_runs_28 : decode cX12_runs 28 = .ok (.getfield 382, 3) := by decide +kernel
theorem dX12_runs_31 : decode cX12_runs 31 = .ok (.iconst 1, 1) := by decide +kernel
theorem dX12_runs_32 : decode cX12_runs 32 = .ok (.iadd, 1) := by decide +kernel
theorem dX12_runs_33 : decode cX12_runs 33 = .ok (.putfield 382, 3) := by decide +kernel
theorem dX12_runs_36 : decode cX12_runs 36 = .ok (.return_, 1) := by decide +kernel
theorem dX12_makes_0 : decode cX12_makes 0 = .ok (.aload_n 0, 1) := by decide +kernel
theorem dX12_makes_1 : decode cX12_makes 1 = .ok (.getfield 385, 3) := by decide +kernel
theorem dX12_makes_4 : decode cX12_makes 4 = .ok (.iconst 1, 1) := by decide +kernel
theorem dX12_makes_5 : decode cX12_makes 5 = .ok (.if_icmp .ne 24, 3) := by decide +kernel
theorem dX12_makes_8 : decode cX12_makes 8 = .ok (.aload_n 0, 1) := by decide +kernel
theorem dX12_makes_9 : decode cX12_makes 9 = .ok (.bipush 20, 2) := by decide +kernel
theorem dX12_makes_11 : decode cX12_makes 11 = .ok (.invokevirtual 388, 3) := by decide +kernel
theorem dX12_makes_14 : decode cX12_makes 14 = .ok (.aload_n 0, 1) := by decide +kernel
theorem dX12_makes_15 : decode cX12_makes 15 = .ok (.bipush 10, 2) := by decide +kernel
theorem dX12_makes_17 : decode cX12_makes 17 = .ok (.invokevirtual 388, 3) := by decide +kernel
theorem dX12_makes_20 : decode cX12_makes 20 = .ok (.iload_n 1, 1) := by decide +kernel
theorem dX12_makes_21 : decode cX12_makes 21 = .ok (.aload_n 0, 1) := by decide +kernel
theorem dX12_makes_22 : decode cX12_makes 22 = .ok (.getfield 391, 3) := by decide +kernel
theorem dX12_makes_25 : decode cX12_makes 25 = .ok (.iadd, 1) := by decide +kernel
theorem dX12_makes_26 : decode cX12_makes 26 = .ok (.iconst 3, 1) := by decide +kernel
theorem dX12_makes_27 : decode cX12_makes 27 = .ok (.imul, 1) := by decide +kernel
theorem dX12_makes_28 : decode cX12_makes 28 = .ok (.ireturn, 1) := by decide +kernel
theorem dX12_makes_29 : decode cX12_makes 29 = .ok (.aload_n 0, 1) := by decide +kernel
theorem dX12_makes_30 : decode cX12_makes 30 = .ok (.getfield 385, 3) := by decide +kernel
theorem dX12_makes_33 : decode cX12_makes 33 = .ok (.iconst 3, 1) := by decide +kernel
theorem dX12_makes_34 : decode cX12_makes 34 = .ok (.if_icmp .ne 27, 3) := by decide +kernel
theorem dX12_makes_37 : decode cX12_makes 37 = .ok (.aload_n 0, 1) := by decide +kernel
theorem dX12_makes_38 : decode cX12_makes 38 = .ok (.bipush 50, 2) := by decide +kernel
theorem dX12_makes_40 : decode cX12_makes 40 = .ok (.invokevirtual 388, 3) := by decide +kernel
theorem dX12_makes_43 : decode cX12_makes 43 = .ok (.aload_n 0, 1) := by decide +kernel
theorem dX12_makes_44 : decode cX12_makes 44 = .ok (.bipush 10, 2) := by decide +kernel
theorem dX12_makes_46 : decode cX12_makes 46 = .ok (.invokevirtual 388, 3) := by decide +kernel
theorem dX12_makes_49 : decode cX12_makes 49 = .ok (.iload_n 1, 1) := by decide +kernel
theorem dX12_makes_50 : decode cX12_makes 50 = .ok (.aload_n 0, 1) := by decide +kernel
theorem dX12_makes_51 : decode cX12_makes 51 = .ok (.getfield 391, 3) := by decide +kernel
theorem dX12_makes_54 : decode cX12_makes 54 = .ok (.iadd, 1) := by decide +kernel
theorem dX12_makes_55 : decode cX12_makes 55 = .ok (.aload_n 0, 1) := by decide +kernel
theorem dX12_makes_56 : decode cX12_makes 56 = .ok (.getfield 391, 3) := by decide +kernel
theorem dX12_makes_59 : decode cX12_makes 59 = .ok (.ixor, 1) := by decide +kernel
theorem dX12_makes_60 : decode cX12_makes 60 = .ok (.ireturn, 1) := by decide +kernel
theorem dX12_makes_61 : decode cX12_makes 61 = .ok (.aload_n 0, 1) := by decide +kernel
theorem dX12_makes_62 : decode cX12_makes 62 = .ok (.bipush 10, 2) := by decide +kernel
theorem dX12_makes_64 : decode cX12_makes 64 = .ok (.invokevirtual 388, 3) := by decide +kernel
theorem dX12_makes_67 : decode cX12_makes 67 = .ok (.iload_n 1, 1) := by decide +kernel
theorem dX12_makes_68 : decode cX12_makes 68 = .ok (.aload_n 0, 1) := by decide +kernel
theorem dX12_makes_69 : decode cX12_makes 69 = .ok (.getfield 391, 3) := by decide +kernel
theorem dX12_makes_72 : decode cX12_makes 72 = .ok (.iadd, 1) := by decide +kernel
theorem dX12_makes_73 : decode cX12_makes 73 = .ok (.ireturn, 1) := by decide +kernel
theorem dX12_takes_0 : decode cX12_takes 0 = .ok (.aload_n 0, 1) := by decide +kernel
theorem dX12_takes_1 : decode cX12_takes 1 = .ok (.getfield 385, 3) := by decide +kernel
theorem dX12_takes_4 : decode cX12_takes 4 = .ok (.iconst 2, 1) := by decide +kernel
theorem dX12_takes_5 : decode cX12_takes 5 = .ok (.if_icmp .eq 11, 3) := by decide +kernel
theorem dX12_takes_8 : decode cX12_takes 8 = .ok (.aload_n 0, 1) := by decide +kernel
theorem dX12_takes_9 : decode cX12_takes 9 = .ok (.getfield 385, 3) := by decide +kernel
theorem dX12_takes_12 : decode cX12_takes 12 = .ok (.iconst 3, 1) := by decide +kernel
theorem dX12_takes_13 : decode cX12_takes 13 = .ok (.if_icmp .ne 7, 3) := by decide +kernel
theorem dX12_takes_16 : decode cX12_takes 16 = .ok (.iconst 1, 1) := by decide +kernel
theorem dX12_takes_17 : decode cX12_takes 17 = .ok (.goto 4, 3) := by decide +kernel
theorem dX12_takes_20 : decode cX12_takes 20 = .ok (.iconst 0, 1) := by decide +kernel
theorem dX12_takes_21 : decode cX12_takes 21 = .ok (.istore_n 2, 1) := by decide +kernel
theorem dX12_takes_22 : decode cX12_takes 22 = .ok (.iload_n 2, 1) := by decide +kernel
theorem dX12_takes_23 : decode cX12_takes 23 = .ok (.ifCond .eq 9, 3) := by decide +kernel
theorem dX12_takes_26 : decode cX12_takes 26 = .ok (.aload_n 0, 1) := by decide +kernel
theorem dX12_takes_27 : decode cX12_takes 27 = .ok (.bipush 30, 2) := by decide +kernel
theorem dX12_takes_29 : decode cX12_takes 29 = .ok (.invokevirtual 388, 3) := by decide +kernel
theorem dX12_takes_32 : decode cX12_takes 32 = .ok (.aload_n 0, 1) := by decide +kernel
theorem dX12_takes_33 : decode cX12_takes 33 = .ok (.getfield 385, 3) := by decide +kernel
theorem dX12_takes_36 : decode cX12_takes 36 = .ok (.iconst 5, 1) := by decide +kernel
theorem dX12_takes_37 : decode cX12_takes 37 = .ok (.if_icmp .ne 9, 3) := by decide +kernel
theorem dX12_takes_40 : decode cX12_takes 40 = .ok (.aload_n 0, 1) := by decide +kernel
theorem dX12_takes_41 : decode cX12_takes 41 = .ok (.bipush 60, 2) := by decide +kernel
theorem dX12_takes_43 : decode cX12_takes 43 = .ok (.invokevirtual 388, 3) := by decide +kernel
theorem dX12_takes_46 : decode cX12_takes 46 = .ok (.aload_n 0, 1) := by decide +kernel
theorem dX12_takes_47 : decode cX12_takes 47 = .ok (.bipush 11, 2) := by decide +kernel
theorem dX12_takes_49 : decode cX12_takes 49 = .ok (.invokevirtual 388, 3) := by decide +kernel
theorem dX12_takes_52 : decode cX12_takes 52 = .ok (.aload_n 0, 1) := by decide +kernel
theorem dX12_takes_53 : decode cX12_takes 53 = .ok (.iload_n 1, 1) := by decide +kernel
theorem dX12_takes_54 : decode cX12_takes 54 = .ok (.invokevirtual 394, 3) := by decide +kernel
theorem dX12_takes_57 : decode cX12_takes 57 = .ok (.iconst 2, 1) := by decide +kernel
theorem dX12_takes_58 : decode cX12_takes 58 = .ok (.imul, 1) := by decide +kernel
theorem dX12_takes_59 : decode cX12_takes 59 = .ok (.istore_n 3, 1) := by decide +kernel
theorem dX12_takes_60 : decode cX12_takes 60 = .ok (.iload_n 2, 1) := by decide +kernel
theorem dX12_takes_61 : decode cX12_takes 61 = .ok (.ifCond .eq 12, 3) := by decide +kernel
theorem dX12_takes_64 : decode cX12_takes 64 = .ok (.iload_n 3, 1) := by decide +kernel
theorem dX12_takes_65 : decode cX12_takes 65 = .ok (.aload_n 0, 1) := by decide +kernel
theorem dX12_takes_66 : decode cX12_takes 66 = .ok (.getfield 397, 3) := by decide +kernel
theorem dX12_takes_69 : decode cX12_takes 69 = .ok (.isub, 1) := by decide +kernel
theorem dX12_takes_70 : decode cX12_takes 70 = .ok (.goto 18, 3) := by decide +kernel
theorem dX12_takes_73 : decode cX12_takes 73 = .ok (.aload_n 0, 1) := by decide +kernel
theorem dX12_takes_74 : decode cX12_takes 74 = .ok (.getfield 385, 3) := by decide +kernel
theorem dX12_takes_77 : decode cX12_takes 77 = .ok (.iconst 5, 1) := by decide +kernel
theorem dX12_takes_78 : decode cX12_takes 78 = .ok (.if_icmp .ne 9, 3) := by decide +kernel
theorem dX12_takes_81 : decode cX12_takes 81 = .ok (.iconst 0, 1) := by decide +kernel
theorem dX12_takes_82 : decode cX12_takes 82 = .ok (.iload_n 3, 1) := by decide +kernel
theorem dX12_takes_83 : decode cX12_takes 83 = .ok (.isub, 1) := by decide +kernel
theorem dX12_takes_84 : decode cX12_takes 84 = .ok (.goto 4, 3) := by decide +kernel
theorem dX12_takes_87 : decode cX12_takes 87 = .ok (.iload_n 3, 1) := by decide +kernel
theorem dX12_takes_88 : decode cX12_takes 88 = .ok (.ireturn, 1) := by decide +kernel
theorem dX12_parts_0 : decode cX12_parts 0 = .ok (.aload_n 0, 1) := by decide +kernel
theorem dX12_parts_1 : decode cX12_parts 1 = .ok (.bipush 12, 2) := by decide +kernel
theorem dX12_parts_3 : decode cX12_parts 3 = .ok (.invokevirtual 388, 3) := by decide +kernel
theorem dX12_parts_6 : decode cX12_parts 6 = .ok (.aload_n 0, 1) := by decide +kernel
theorem dX12_parts_7 : decode cX12_parts 7 = .ok (.getfield 397, 3) := by decide +kernel
theorem dX12_parts_10 : decode cX12_parts 10 = .ok (.aload_n 0, 1) := by decide +kernel
theorem dX12_parts_11 : decode cX12_parts 11 = .ok (.getfield 391, 3) := by decide +kernel
theorem dX12_parts_14 : decode cX12_parts 14 = .ok (.if_icmp .ne 10, 3) := by decide +kernel
theorem dX12_parts_17 : decode cX12_parts 17 = .ok (.aload_n 0, 1) := by decide +kernel
theorem dX12_parts_18 : decode cX12_parts 18 = .ok (.iconst 1, 1) := by decide +kernel
theorem dX12_parts_19 : decode cX12_parts 19 = .ok (.putfield 379, 3) := by decide +kernel
theorem dX12_parts_22 : decode cX12_parts 22 = .ok (.iconst 0, 1) := by decide +kernel
theorem dX12_parts_23 : decode cX12_parts 23 = .ok (.ireturn, 1) := by decide +kernel
theorem dX12_parts_24 : decode cX12_parts 24 = .ok (.iload_n 1, 1) := by decide +kernel
theorem dX12_parts_25 : decode cX12_parts 25 = .ok (.aload_n 0, 1) := by decide +kernel
theorem dX12_parts_26 : decode cX12_parts 26 = .ok (.getfield 397, 3) := by decide +kernel
theorem dX12_parts_29 : decode cX12_parts 29 = .ok (.aload_n 0, 1) := by decide +kernel
theorem dX12_parts_30 : decode cX12_parts 30 = .ok (.getfield 391, 3) := by decide +kernel
theorem dX12_parts_33 : decode cX12_parts 33 = .ok (.isub, 1) := by decide +kernel
theorem dX12_parts_34 : decode cX12_parts 34 = .ok (.idiv, 1) := by decide +kernel
theorem dX12_parts_35 : decode cX12_parts 35 = .ok (.ireturn, 1) := by decide +kernel
theorem dX12_shares_0 : decode cX12_shares 0 = .ok (.aload_n 0, 1) := by decide +kernel
theorem dX12_shares_1 : decode cX12_shares 1 = .ok (.getfield 385, 3) := by decide +kernel
theorem dX12_shares_4 : decode cX12_shares 4 = .ok (.iconst 4, 1) := by decide +kernel
theorem dX12_shares_5 : decode cX12_shares 5 = .ok (.if_icmp .ne 17, 3) := by decide +kernel
theorem dX12_shares_8 : decode cX12_shares 8 = .ok (.aload_n 0, 1) := by decide +kernel
theorem dX12_shares_9 : decode cX12_shares 9 = .ok (.bipush 40, 2) := by decide +kernel
theorem dX12_shares_11 : decode cX12_shares 11 = .ok (.invokevirtual 388, 3) := by decide +kernel
theorem dX12_shares_14 : decode cX12_shares 14 = .ok (.aload_n 0, 1) := by decide +kernel
theorem dX12_shares_15 : decode cX12_shares 15 = .ok (.iload_n 1, 1) := by decide +kernel
theorem dX12_shares_16 : decode cX12_shares 16 = .ok (.iconst 1, 1) := by decide +kernel
theorem dX12_shares_17 : decode cX12_shares 17 = .ok (.iadd, 1) := by decide +kernel
theorem dX12_shares_18 : decode cX12_shares 18 = .ok (.invokevirtual 400, 3) := by decide +kernel
theorem dX12_shares_21 : decode cX12_shares 21 = .ok (.ireturn, 1) := by decide +kernel
theorem dX12_shares_22 : decode cX12_shares 22 = .ok (.aload_n 0, 1) := by decide +kernel
theorem dX12_shares_23 : decode cX12_shares 23 = .ok (.getfield 385, 3) := by decide +kernel
theorem dX12_shares_26 : decode cX12_shares 26 = .ok (.iconst 5, 1) := by decide +kernel
theorem dX12_shares_27 : decode cX12_shares 27 = .ok (.if_icmp .ne 45, 3) := by decide +kernel
theorem dX12_shares_30 : decode cX12_shares 30 = .ok (.aload_n 0, 1) := by decide +kernel
theorem dX12_shares_31 : decode cX12_shares 31 = .ok (.bipush 61, 2) := by decide +kernel
theorem dX12_shares_33 : decode cX12_shares 33 = .ok (.invokevirtual 388, 3) := by decide +kernel
theorem dX12_shares_36 : decode cX12_shares 36 = .ok (.aload_n 0, 1) := by decide +kernel
theorem dX12_shares_37 : decode cX12_shares 37 = .ok (.bipush 40, 2) := by decide +kernel
theorem dX12_shares_39 : decode cX12_shares 39 = .ok (.invokevirtual 388, 3) := by decide +kernel
theorem dX12_shares_42 : decode cX12_shares 42 = .ok (.aload_n 0, 1) := by decide +kernel
theorem dX12_shares_43 : decode cX12_shares 43 = .ok (.iload_n 1, 1) := by decide +kernel
theorem dX12_shares_44 : decode cX12_shares 44 = .ok (.iconst 1, 1) := by decide +kernel
theorem dX12_shares_45 : decode cX12_shares 45 = .ok (.iadd, 1) := by decide +kernel
theorem dX12_shares_46 : decode cX12_shares 46 = .ok (.invokevirtual 400, 3) := by decide +kernel
theorem dX12_shares_49 : decode cX12_shares 49 = .ok (.istore_n 2, 1) := by decide +kernel
theorem dX12_shares_50 : decode cX12_shares 50 = .ok (.aload_n 0, 1) := by decide +kernel
theorem dX12_shares_51 : decode cX12_shares 51 = .ok (.getfield 379, 3) := by decide +kernel
theorem dX12_shares_54 : decode cX12_shares 54 = .ok (.ifCond .eq 7, 3) := by decide +kernel
theorem dX12_shares_57 : decode cX12_shares 57 = .ok (.iconst 0, 1) := by decide +kernel
theorem dX12_shares_58 : decode cX12_shares 58 = .ok (.goto 13, 3) := by decide +kernel
theorem dX12_shares_61 : decode cX12_shares 61 = .ok (.iload_n 2, 1) := by decide +kernel
theorem dX12_shares_62 : decode cX12_shares 62 = .ok (.aload_n 0, 1) := by decide +kernel
theorem dX12_shares_63 : decode cX12_shares 63 = .ok (.aload_n 0, 1) := by decide +kernel
theorem dX12_shares_64 : decode cX12_shares 64 = .ok (.getfield 397, 3) := by decide +kernel
theorem dX12_shares_67 : decode cX12_shares 67 = .ok (.invokevirtual 394, 3) := by decide +kernel
theorem dX12_shares_70 : decode cX12_shares 70 = .ok (.iadd, 1) := by decide +kernel
theorem dX12_shares_71 : decode cX12_shares 71 = .ok (.ireturn, 1) := by decide +kernel
theorem dX12_shares_72 : decode cX12_shares 72 = .ok (.aload_n 0, 1) := by decide +kernel
theorem dX12_shares_73 : decode cX12_shares 73 = .ok (.iload_n 1, 1) := by decide +kernel
theorem dX12_shares_74 : decode cX12_shares 74 = .ok (.invokevirtual 400, 3) := by decide +kernel
theorem dX12_shares_77 : decode cX12_shares 77 = .ok (.ireturn, 1) := by decide +kernel
theorem dX12_tells_0 : decode cX12_tells 0 = .ok (.aload_n 0, 1) := by decide +kernel
theorem dX12_tells_1 : decode cX12_tells 1 = .ok (.getfield 385, 3) := by decide +kernel
theorem dX12_tells_4 : decode cX12_tells 4 = .ok (.iconst 3, 1) := by decide +kernel
theorem dX12_tells_5 : decode cX12_tells 5 = .ok (.if_icmp .ne 9, 3) := by decide +kernel
theorem dX12_tells_8 : decode cX12_tells 8 = .ok (.aload_n 0, 1) := by decide +kernel
theorem dX12_tells_9 : decode cX12_tells 9 = .ok (.bipush 51, 2) := by decide +kernel
theorem dX12_tells_11 : decode cX12_tells 11 = .ok (.invokevirtual 388, 3) := by decide +kernel
theorem dX12_tells_14 : decode cX12_tells 14 = .ok (.aload_n 0, 1) := by decide +kernel
theorem dX12_tells_15 : decode cX12_tells 15 = .ok (.bipush 13, 2) := by decide +kernel
theorem dX12_tells_17 : decode cX12_tells 17 = .ok (.invokevirtual 388, 3) := by decide +kernel
theorem dX12_tells_20 : decode cX12_tells 20 = .ok (.aload_n 0, 1) := by decide +kernel
theorem dX12_tells_21 : decode cX12_tells 21 = .ok (.iload_n 1, 1) := by decide +kernel
theorem dX12_tells_22 : decode cX12_tells 22 = .ok (.invokevirtual 403, 3) := by decide +kernel
theorem dX12_tells_25 : decode cX12_tells 25 = .ok (.aload_n 0, 1) := by decide +kernel
theorem dX12_tells_26 : decode cX12_tells 26 = .ok (.getfield 397, 3) := by decide +kernel
theorem dX12_tells_29 : decode cX12_tells 29 = .ok (.ixor, 1) := by decide +kernel
theorem dX12_tells_30 : decode cX12_tells 30 = .ok (.istore_n 2, 1) := by decide +kernel
theorem dX12_tells_31 : decode cX12_tells 31 = .ok (.aload_n 0, 1) := by decide +kernel
theorem dX12_tells_32 : decode cX12_tells 32 = .ok (.getfield 385, 3) := by decide +kernel
theorem dX12_tells_35 : decode cX12_tells 35 = .ok (.iconst 3, 1) := by decide +kernel
theorem dX12_tells_36 : decode cX12_tells 36 = .ok (.if_icmp .ne 16, 3) := by decide +kernel
theorem dX12_tells_39 : decode cX12_tells 39 = .ok (.iload_n 2, 1) := by decide +kernel
theorem dX12_tells_40 : decode cX12_tells 40 = .ok (.aload_n 0, 1) := by decide +kernel
theorem dX12_tells_41 : decode cX12_tells 41 = .ok (.aload_n 0, 1) := by decide +kernel
theorem dX12_tells_42 : decode cX12_tells 42 = .ok (.getfield 391, 3) := by decide +kernel
theorem dX12_tells_45 : decode cX12_tells 45 = .ok (.invokevirtual 406, 3) := by decide +kernel
theorem dX12_tells_48 : decode cX12_tells 48 = .ok (.iadd, 1) := by decide +kernel
theorem dX12_tells_49 : decode cX12_tells 49 = .ok (.goto 4, 3) := by decide +kernel
theorem dX12_tells_52 : decode cX12_tells 52 = .ok (.iload_n 2, 1) := by decide +kernel
theorem dX12_tells_53 : decode cX12_tells 53 = .ok (.ireturn, 1) := by decide +kernel
theorem dX12_act_0 : decode cX12_act 0 = .ok (.aload_n 0, 1) := by decide +kernel
theorem dX12_act_1 : decode cX12_act 1 = .ok (.iconst 0, 1) := by decide +kernel
theorem dX12_act_2 : decode cX12_act 2 = .ok (.putfield 382, 3) := by decide +kernel
theorem dX12_act_5 : decode cX12_act 5 = .ok (.aload_n 0, 1) := by decide +kernel
theorem dX12_act_6 : decode cX12_act 6 = .ok (.iconst 0, 1) := by decide +kernel
theorem dX12_act_7 : decode cX12_act 7 = .ok (.putfield 379, 3) := by decide +kernel
theorem dX12_act_10 : decode cX12_act 10 = .ok (.aload_n 0, 1) := by decide +kernel
theorem dX12_act_11 : decode cX12_act 11 = .ok (.aload_n 0, 1) := by decide +kernel
theorem dX12_act_12 : decode cX12_act 12 = .ok (.iload_n 1, 1) := by decide +kernel
theorem dX12_act_13 : decode cX12_act 13 = .ok (.invokevirtual 376, 3) := by decide +kernel
theorem dX12_act_16 : decode cX12_act 16 = .ok (.putfield 391, 3) := by decide +kernel
theorem dX12_act_19 : decode cX12_act 19 = .ok (.aload_n 0, 1) := by decide +kernel
theorem dX12_act_20 : decode cX12_act 20 = .ok (.getfield 391, 3) := by decide +kernel
theorem dX12_act_23 : decode cX12_act 23 = .ok (.ifCond .lt 15, 3) := by decide +kernel
theorem dX12_act_26 : decode cX12_act 26 = .ok (.iload_n 2, 1) := by decide +kernel
theorem dX12_act_27 : decode cX12_act 27 = .ok (.i2l, 1) := by decide +kernel
theorem dX12_act_28 : decode cX12_act 28 = .ok (.lconst 0, 1) := by decide +kernel
theorem dX12_act_29 : decode cX12_act 29 = .ok (.ldc2_w 358, 3) := by decide +kernel
theorem dX12_act_32 : decode cX12_act 32 = .ok (.invokestatic 67, 3) := by decide +kernel
theorem dX12_act_35 : decode cX12_act 35 = .ok (.ifCond .ne 5, 3) := by decide +kernel
theorem dX12_act_38 : decode cX12_act 38 = .ok (.iconst 0, 1) := by decide +kernel
theorem dX12_act_39 : decode cX12_act 39 = .ok (.ireturn, 1) := by decide +kernel
theorem dX12_act_40 : decode cX12_act 40 = .ok (.aload_n 0, 1) := by decide +kernel
theorem dX12_act_41 : decode cX12_act 41 = .ok (.aload_n 0, 1) := by decide +kernel
theorem dX12_act_42 : decode cX12_act 42 = .ok (.aload_n 0, 1) := by decide +kernel
theorem dX12_act_43 : decode cX12_act 43 = .ok (.getfield 391, 3) := by decide +kernel
theorem dX12_act_46 : decode cX12_act 46 = .ok (.iconst 3, 1) := by decide +kernel
theorem dX12_act_47 : decode cX12_act 47 = .ok (.invokevirtual 87, 3) := by decide +kernel
theorem dX12_act_50 : decode cX12_act 50 = .ok (.putfield 397, 3) := by decide +kernel
theorem dX12_act_53 : decode cX12_act 53 = .ok (.aload_n 0, 1) := by decide +kernel
theorem dX12_act_54 : decode cX12_act 54 = .ok (.aload_n 0, 1) := by decide +kernel
theorem dX12_act_55 : decode cX12_act 55 = .ok (.aload_n 0, 1) := by decide +kernel
theorem dX12_act_56 : decode cX12_act 56 = .ok (.getfield 391, 3) := by decide +kernel
theorem dX12_act_59 : decode cX12_act 59 = .ok (.iconst 0, 1) := by decide +kernel
theorem dX12_act_60 : decode cX12_act 60 = .ok (.invokevirtual 87, 3) := by decide +kernel
theorem dX12_act_63 : decode cX12_act 63 = .ok (.putfield 385, 3) := by decide +kernel
theorem dX12_act_66 : decode cX12_act 66 = .ok (.iload_n 2, 1) := by decide +kernel
theorem dX12_act_67 : decode cX12_act 67 = .ok (.ifCond .ne 11, 3) := by decide +kernel
theorem dX12_act_70 : decode cX12_act 70 = .ok (.aload_n 0, 1) := by decide +kernel
theorem dX12_act_71 : decode cX12_act 71 = .ok (.iload_n 3, 1) := by decide +kernel
theorem dX12_act_72 : decode cX12_act 72 = .ok (.invokevirtual 394, 3) := by decide +kernel
theorem dX12_act_75 : decode cX12_act 75 = .ok (.goto 34, 3) := by decide +kernel
theorem dX12_act_78 : decode cX12_act 78 = .ok (.iload_n 2, 1) := by decide +kernel
theorem dX12_act_79 : decode cX12_act 79 = .ok (.iconst 1, 1) := by decide +kernel
theorem dX12_act_80 : decode cX12_act 80 = .ok (.if_icmp .ne 11, 3) := by decide +kernel
theorem dX12_act_83 : decode cX12_act 83 = .ok (.aload_n 0, 1) := by decide +kernel
theorem dX12_act_84 : decode cX12_act 84 = .ok (.iload_n 3, 1) := by decide +kernel
theorem dX12_act_85 : decode cX12_act 85 = .ok (.invokevirtual 403, 3) := by decide +kernel
theorem dX12_act_88 : decode cX12_act 88 = .ok (.goto 21, 3) := by decide +kernel
theorem dX12_act_91 : decode cX12_act 91 = .ok (.iload_n 2, 1) := by decide +kernel
theorem dX12_act_92 : decode cX12_act 92 = .ok (.iconst 2, 1) := by decide +kernel
theorem dX12_act_93 : decode cX12_act 93 = .ok (.if_icmp .ne 11, 3) := by decide +kernel
theorem dX12_act_96 : decode cX12_act 96 = .ok (.aload_n 0, 1) := by decide +kernel
theorem dX12_act_97 : decode cX12_act 97 = .ok (.iload_n 3, 1) := by decide +kernel
theorem dX12_act_98 : decode cX12_act 98 = .ok (.invokevirtual 406, 3) := by decide +kernel
theorem dX12_act_101 : decode cX12_act 101 = .ok (.goto 8, 3) := by decide +kernel
theorem dX12_act_104 : decode cX12_act 104 = .ok (.aload_n 0, 1) := by decide +kernel
theorem dX12_act_105 : decode cX12_act 105 = .ok (.iload_n 3, 1) := by decide +kernel
theorem dX12_act_106 : decode cX12_act 106 = .ok (.invokevirtual 409, 3) := by decide +kernel
theorem dX12_act_109 : decode cX12_act 109 = .ok (.istore 4, 2) := by decide +kernel
theorem dX12_act_111 : decode cX12_act 111 = .ok (.aload_n 0, 1) := by decide +kernel
theorem dX12_act_112 : decode cX12_act 112 = .ok (.getfield 379, 3) := by decide +kernel
theorem dX12_act_115 : decode cX12_act 115 = .ok (.ifCond .eq 8, 3) := by decide +kernel
theorem dX12_act_118 : decode cX12_act 118 = .ok (.bipush (-15), 2) := by decide +kernel
theorem dX12_act_120 : decode cX12_act 120 = .ok (.goto 5, 3) := by decide +kernel
theorem dX12_act_123 : decode cX12_act 123 = .ok (.iload 4, 2) := by decide +kernel
theorem dX12_act_125 : decode cX12_act 125 = .ok (.ireturn, 1) := by decide +kernel
theorem dX12_traced_0 : decode cX12_traced 0 = .ok (.aload_n 0, 1) := by decide +kernel
theorem dX12_traced_1 : decode cX12_traced 1 = .ok (.getfield 382, 3) := by decide +kernel
theorem dX12_traced_4 : decode cX12_traced 4 = .ok (.bipush 30, 2) := by decide +kernel
theorem dX12_traced_6 : decode cX12_traced 6 = .ok (.if_icmp .ge 10, 3) := by decide +kernel
theorem dX12_traced_9 : decode cX12_traced 9 = .ok (.aload_n 0, 1) := by decide +kernel
theorem dX12_traced_10 : decode cX12_traced 10 = .ok (.getfield 382, 3) := by decide +kernel
theorem dX12_traced_13 : decode cX12_traced 13 = .ok (.goto 5, 3) := by decide +kernel
theorem dX12_traced_16 : decode cX12_traced 16 = .ok (.bipush 30, 2) := by decide +kernel
theorem dX12_traced_18 : decode cX12_traced 18 = .ok (.ireturn, 1) := by decide +kernel
theorem dX12_trace_0 : decode cX12_trace 0 = .ok (.iload_n 1, 1) := by decide +kernel
theorem dX12_trace_1 : decode cX12_trace 1 = .ok (.i2l, 1) := by decide +kernel
theorem dX12_trace_2 : decode cX12_trace 2 = .ok (.lconst 0, 1) := by decide +kernel
theorem dX12_trace_3 : decode cX12_trace 3 = .ok (.aload_n 0, 1) := by decide +kernel
theorem dX12_trace_4 : decode cX12_trace 4 = .ok (.invokevirtual 412, 3) := by decide +kernel
theorem dX12_trace_7 : decode cX12_trace 7 = .ok (.iconst 1, 1) := by decide +kernel
theorem dX12_trace_8 : decode cX12_trace 8 = .ok (.isub, 1) := by decide +kernel
theorem dX12_trace_9 : decode cX12_trace 9 = .ok (.i2l, 1) := by decide +kernel
theorem dX12_trace_10 : decode cX12_trace 10 = .ok (.invokestatic 67, 3) := by decide +kernel
theorem dX12_trace_13 : decode cX12_trace 13 = .ok (.ifCond .eq 12, 3) := by decide +kernel
theorem dX12_trace_16 : decode cX12_trace 16 = .ok (.aload_n 0, 1) := by decide +kernel
theorem dX12_trace_17 : decode cX12_trace 17 = .ok (.getfield 62, 3) := by decide +kernel
theorem dX12_trace_20 : decode cX12_trace 20 = .ok (.iload_n 1, 1) := by decide +kernel
theorem dX12_trace_21 : decode cX12_trace 21 = .ok (.iaload, 1) := by decide +kernel
theorem dX12_trace_22 : decode cX12_trace 22 = .ok (.goto 5, 3) := by decide +kernel
theorem dX12_trace_25 : decode cX12_trace 25 = .ok (.bipush (-3), 2) := by decide +kernel
theorem dX12_trace_27 : decode cX12_trace 27 = .ok (.ireturn, 1) := by decide +kernel
theorem dX12_many_0 : decode cX12_many 0 = .ok (.iload_n 1, 1) := by decide +kernel
theorem dX12_many_1 : decode cX12_many 1 = .ok (.tableswitch 86 0 6 #[43, 50, 57, 64, 71, 76, 81], 43) := by decide +kernel
theorem dX12_many_44 : decode cX12_many 44 = .ok (.aload_n 0, 1) := by decide +kernel
theorem dX12_many_45 : decode cX12_many 45 = .ok (.getfield 7, 3) := by decide +kernel
theorem dX12_many_48 : decode cX12_many 48 = .ok (.iconst 0, 1) := by decide +kernel
theorem dX12_many_49 : decode cX12_many 49 = .ok (.iaload, 1) := by decide +kernel
theorem dX12_many_50 : decode cX12_many 50 = .ok (.ireturn, 1) := by decide +kernel
theorem dX12_many_51 : decode cX12_many 51 = .ok (.aload_n 0, 1) := by decide +kernel
theorem dX12_many_52 : decode cX12_many 52 = .ok (.getfield 7, 3) := by decide +kernel
theorem dX12_many_55 : decode cX12_many 55 = .ok (.iconst 1, 1) := by decide +kernel
theorem dX12_many_56 : decode cX12_many 56 = .ok (.iaload, 1) := by decide +kernel
theorem dX12_many_57 : decode cX12_many 57 = .ok (.ireturn, 1) := by decide +kernel
theorem dX12_many_58 : decode cX12_many 58 = .ok (.aload_n 0, 1) := by decide +kernel
theorem dX12_many_59 : decode cX12_many 59 = .ok (.getfield 7, 3) := by decide +kernel
theorem dX12_many_62 : decode cX12_many 62 = .ok (.iconst 4, 1) := by decide +kernel
theorem dX12_many_63 : decode cX12_many 63 = .ok (.iaload, 1) := by decide +kernel
theorem dX12_many_64 : decode cX12_many 64 = .ok (.ireturn, 1) := by decide +kernel
theorem dX12_many_65 : decode cX12_many 65 = .ok (.aload_n 0, 1) := by decide +kernel
theorem dX12_many_66 : decode cX12_many 66 = .ok (.getfield 7, 3) := by decide +kernel
theorem dX12_many_69 : decode cX12_many 69 = .ok (.iconst 2, 1) := by decide +kernel
theorem dX12_many_70 : decode cX12_many 70 = .ok (.iaload, 1) := by decide +kernel
theorem dX12_many_71 : decode cX12_many 71 = .ok (.ireturn, 1) := by decide +kernel
theorem dX12_many_72 : decode cX12_many 72 = .ok (.aload_n 0, 1) := by decide +kernel
theorem dX12_many_73 : decode cX12_many 73 = .ok (.getfield 222, 3) := by decide +kernel
theorem dX12_many_76 : decode cX12_many 76 = .ok (.ireturn, 1) := by decide +kernel
theorem dX12_many_77 : decode cX12_many 77 = .ok (.aload_n 0, 1) := by decide +kernel
theorem dX12_many_78 : decode cX12_many 78 = .ok (.getfield 228, 3) := by decide +kernel
theorem dX12_many_81 : decode cX12_many 81 = .ok (.ireturn, 1) := by decide +kernel
theorem dX12_many_82 : decode cX12_many 82 = .ok (.aload_n 0, 1) := by decide +kernel
theorem dX12_many_83 : decode cX12_many 83 = .ok (.invokevirtual 412, 3) := by decide +kernel
theorem dX12_many_86 : decode cX12_many 86 = .ok (.ireturn, 1) := by decide +kernel
theorem dX12_many_87 : decode cX12_many 87 = .ok (.iconst (-1), 1) := by decide +kernel
theorem dX12_many_88 : decode cX12_many 88 = .ok (.ireturn, 1) := by decide +kernel
theorem dX12_keep_0 : decode cX12_keep 0 = .ok (.iconst 0, 1) := by decide +kernel
theorem dX12_keep_1 : decode cX12_keep 1 = .ok (.istore_n 1, 1) := by decide +kernel
theorem dX12_keep_2 : decode cX12_keep 2 = .ok (.iload_n 1, 1) := by decide +kernel
theorem dX12_keep_3 : decode cX12_keep 3 = .ok (.sipush 303, 3) := by decide +kernel
theorem dX12_keep_6 : decode cX12_keep 6 = .ok (.if_icmp .ge 21, 3) := by decide +kernel
theorem dX12_keep_9 : decode cX12_keep 9 = .ok (.aload_n 0, 1) := by decide +kernel
theorem dX12_keep_10 : decode cX12_keep 10 = .ok (.getfield 13, 3) := by decide +kernel
theorem dX12_keep_13 : decode cX12_keep 13 = .ok (.iload_n 1, 1) := by decide +kernel
theorem dX12_keep_14 : decode cX12_keep 14 = .ok (.aload_n 0, 1) := by decide +kernel
theorem dX12_keep_15 : decode cX12_keep 15 = .ok (.getfield 7, 3) := by decide +kernel
theorem dX12_keep_18 : decode cX12_keep 18 = .ok (.iload_n 1, 1) := by decide +kernel
theorem dX12_keep_19 : decode cX12_keep 19 = .ok (.iaload, 1) := by decide +kernel
theorem dX12_keep_20 : decode cX12_keep 20 = .ok (.iastore, 1) := by decide +kernel
theorem dX12_keep_21 : decode cX12_keep 21 = .ok (.iinc 1 1, 3) := by decide +kernel
theorem dX12_keep_24 : decode cX12_keep 24 = .ok (.goto (-22), 3) := by decide +kernel
theorem dX12_keep_27 : decode cX12_keep 27 = .ok (.aload_n 0, 1) := by decide +kernel
theorem dX12_keep_28 : decode cX12_keep 28 = .ok (.iconst 1, 1) := by decide +kernel
theorem dX12_keep_29 : decode cX12_keep 29 = .ok (.putfield 415, 3) := by decide +kernel
theorem dX12_keep_32 : decode cX12_keep 32 = .ok (.iconst 1, 1) := by decide +kernel
theorem dX12_keep_33 : decode cX12_keep 33 = .ok (.ireturn, 1) := by decide +kernel
theorem dX12_again_0 : decode cX12_again 0 = .ok (.aload_n 0, 1) := by decide +kernel
theorem dX12_again_1 : decode cX12_again 1 = .ok (.getfield 415, 3) := by decide +kernel
theorem dX12_again_4 : decode cX12_again 4 = .ok (.ifCond .ne 6, 3) := by decide +kernel
theorem dX12_again_7 : decode cX12_again 7 = .ok (.bipush (-3), 2) := by decide +kernel
theorem dX12_again_9 : decode cX12_again 9 = .ok (.ireturn, 1) := by decide +kernel
theorem dX12_again_10 : decode cX12_again 10 = .ok (.iconst 0, 1) := by decide +kernel
theorem dX12_again_11 : decode cX12_again 11 = .ok (.istore_n 1, 1) := by decide +kernel
theorem dX12_again_12 : decode cX12_again 12 = .ok (.iload_n 1, 1) := by decide +kernel
theorem dX12_again_13 : decode cX12_again 13 = .ok (.sipush 303, 3) := by decide +kernel
theorem dX12_again_16 : decode cX12_again 16 = .ok (.if_icmp .ge 21, 3) := by decide +kernel
theorem dX12_again_19 : decode cX12_again 19 = .ok (.aload_n 0, 1) := by decide +kernel
theorem dX12_again_20 : decode cX12_again 20 = .ok (.getfield 7, 3) := by decide +kernel
theorem dX12_again_23 : decode cX12_again 23 = .ok (.iload_n 1, 1) := by decide +kernel
theorem dX12_again_24 : decode cX12_again 24 = .ok (.aload_n 0, 1) := by decide +kernel
theorem dX12_again_25 : decode cX12_again 25 = .ok (.getfield 13, 3) := by decide +kernel
theorem dX12_again_28 : decode cX12_again 28 = .ok (.iload_n 1, 1) := by decide +kernel
theorem dX12_again_29 : decode cX12_again 29 = .ok (.iaload, 1) := by decide +kernel
theorem dX12_again_30 : decode cX12_again 30 = .ok (.iastore, 1) := by decide +kernel
theorem dX12_again_31 : decode cX12_again 31 = .ok (.iinc 1 1, 3) := by decide +kernel
theorem dX12_again_34 : decode cX12_again 34 = .ok (.goto (-22), 3) := by decide +kernel
theorem dX12_again_37 : decode cX12_again 37 = .ok (.aload_n 0, 1) := by decide +kernel
theorem dX12_again_38 : decode cX12_again 38 = .ok (.getfield 7, 3) := by decide +kernel
theorem dX12_again_41 : decode cX12_again 41 = .ok (.iconst 0, 1) := by decide +kernel
theorem dX12_again_42 : decode cX12_again 42 = .ok (.iaload, 1) := by decide +kernel
theorem dX12_again_43 : decode cX12_again 43 = .ok (.ireturn, 1) := by decide +kernel
theorem dJ6_bitCount_0f7a4_0 : decode cJ6_bitCount_0f7a4 0 = .ok (.iload_n 0, 1) := by decide +kernel
theorem dJ6_bitCount_0f7a4_1 : decode cJ6_bitCount_0f7a4 1 = .ok (.iload_n 0, 1) := by decide +kernel
theorem dJ6_bitCount_0f7a4_2 : decode cJ6_bitCount_0f7a4 2 = .ok (.iconst 1, 1) := by decide +kernel
theorem dJ6_bitCount_0f7a4_3 : decode cJ6_bitCount_0f7a4 3 = .ok (.iushr, 1) := by decide +kernel
theorem dJ6_bitCount_0f7a4_4 : decode cJ6_bitCount_0f7a4 4 = .ok (.ldc_w 265, 3) := by decide +kernel
theorem dJ6_bitCount_0f7a4_7 : decode cJ6_bitCount_0f7a4 7 = .ok (.iand, 1) := by decide +kernel
theorem dJ6_bitCount_0f7a4_8 : decode cJ6_bitCount_0f7a4 8 = .ok (.isub, 1) := by decide +kernel
theorem dJ6_bitCount_0f7a4_9 : decode cJ6_bitCount_0f7a4 9 = .ok (.istore_n 0, 1) := by decide +kernel
theorem dJ6_bitCount_0f7a4_10 : decode cJ6_bitCount_0f7a4 10 = .ok (.iload_n 0, 1) := by decide +kernel
theorem dJ6_bitCount_0f7a4_11 : decode cJ6_bitCount_0f7a4 11 = .ok (.ldc_w 266, 3) := by decide +kernel
theorem dJ6_bitCount_0f7a4_14 : decode cJ6_bitCount_0f7a4 14 = .ok (.iand, 1) := by decide +kernel
theorem dJ6_bitCount_0f7a4_15 : decode cJ6_bitCount_0f7a4 15 = .ok (.iload_n 0, 1) := by decide +kernel
theorem dJ6_bitCount_0f7a4_16 : decode cJ6_bitCount_0f7a4 16 = .ok (.iconst 2, 1) := by decide +kernel
theorem dJ6_bitCount_0f7a4_17 : decode cJ6_bitCount_0f7a4 17 = .ok (.iushr, 1) := by decide +kernel
theorem dJ6_bitCount_0f7a4_18 : decode cJ6_bitCount_0f7a4 18 = .ok (.ldc_w 266, 3) := by decide +kernel
theorem dJ6_bitCount_0f7a4_21 : decode cJ6_bitCount_0f7a4 21 = .ok (.iand, 1) := by decide +kernel
theorem dJ6_bitCount_0f7a4_22 : decode cJ6_bitCount_0f7a4 22 = .ok (.iadd, 1) := by decide +kernel
theorem dJ6_bitCount_0f7a4_23 : decode cJ6_bitCount_0f7a4 23 = .ok (.istore_n 0, 1) := by decide +kernel
theorem dJ6_bitCount_0f7a4_24 : decode cJ6_bitCount_0f7a4 24 = .ok (.iload_n 0, 1) := by decide +kernel
theorem dJ6_bitCount_0f7a4_25 : decode cJ6_bitCount_0f7a4 25 = .ok (.iload_n 0, 1) := by decide +kernel
theorem dJ6_bitCount_0f7a4_26 : decode cJ6_bitCount_0f7a4 26 = .ok (.iconst 4, 1) := by decide +kernel
theorem dJ6_bitCount_0f7a4_27 : decode cJ6_bitCount_0f7a4 27 = .ok (.iushr, 1) := by decide +kernel
theorem dJ6_bitCount_0f7a4_28 : decode cJ6_bitCount_0f7a4 28 = .ok (.iadd, 1) := by decide +kernel
theorem dJ6_bitCount_0f7a4_29 : decode cJ6_bitCount_0f7a4 29 = .ok (.ldc_w 267, 3) := by decide +kernel
theorem dJ6_bitCount_0f7a4_32 : decode cJ6_bitCount_0f7a4 32 = .ok (.iand, 1) := by decide +kernel
theorem dJ6_bitCount_0f7a4_33 : decode cJ6_bitCount_0f7a4 33 = .ok (.istore_n 0, 1) := by decide +kernel
theorem dJ6_bitCount_0f7a4_34 : decode cJ6_bitCount_0f7a4 34 = .ok (.iload_n 0, 1) := by decide +kernel
theorem dJ6_bitCount_0f7a4_35 : decode cJ6_bitCount_0f7a4 35 = .ok (.iload_n 0, 1) := by decide +kernel
theorem dJ6_bitCount_0f7a4_36 : decode cJ6_bitCount_0f7a4 36 = .ok (.bipush 8, 2) := by decide +kernel
theorem dJ6_bitCount_0f7a4_38 : decode cJ6_bitCount_0f7a4 38 = .ok (.iushr, 1) := by decide +kernel
theorem dJ6_bitCount_0f7a4_39 : decode cJ6_bitCount_0f7a4 39 = .ok (.iadd, 1) := by decide +kernel
theorem dJ6_bitCount_0f7a4_40 : decode cJ6_bitCount_0f7a4 40 = .ok (.istore_n 0, 1) := by decide +kernel
theorem dJ6_bitCount_0f7a4_41 : decode cJ6_bitCount_0f7a4 41 = .ok (.iload_n 0, 1) := by decide +kernel
theorem dJ6_bitCount_0f7a4_42 : decode cJ6_bitCount_0f7a4 42 = .ok (.iload_n 0, 1) := by decide +kernel
theorem dJ6_bitCount_0f7a4_43 : decode cJ6_bitCount_0f7a4 43 = .ok (.bipush 16, 2) := by decide +kernel
theorem dJ6_bitCount_0f7a4_45 : decode cJ6_bitCount_0f7a4 45 = .ok (.iushr, 1) := by decide +kernel
theorem dJ6_bitCount_0f7a4_46 : decode cJ6_bitCount_0f7a4 46 = .ok (.iadd, 1) := by decide +kernel
theorem dJ6_bitCount_0f7a4_47 : decode cJ6_bitCount_0f7a4 47 = .ok (.istore_n 0, 1) := by decide +kernel
theorem dJ6_bitCount_0f7a4_48 : decode cJ6_bitCount_0f7a4 48 = .ok (.iload_n 0, 1) := by decide +kernel
theorem dJ6_bitCount_0f7a4_49 : decode cJ6_bitCount_0f7a4 49 = .ok (.bipush 63, 2) := by decide +kernel
theorem dJ6_bitCount_0f7a4_51 : decode cJ6_bitCount_0f7a4 51 = .ok (.iand, 1) := by decide +kernel
theorem dJ6_bitCount_0f7a4_52 : decode cJ6_bitCount_0f7a4 52 = .ok (.ireturn, 1) := by decide +kernel
theorem dJ9_max_7cf53_0 : decode cJ9_max_7cf53 0 = .ok (.iload_n 0, 1) := by decide +kernel
theorem dJ9_max_7cf53_1 : decode cJ9_max_7cf53 1 = .ok (.iload_n 1, 1) := by decide +kernel
theorem dJ9_max_7cf53_2 : decode cJ9_max_7cf53 2 = .ok (.if_icmp .lt 7, 3) := by decide +kernel
theorem dJ9_max_7cf53_5 : decode cJ9_max_7cf53 5 = .ok (.iload_n 0, 1) := by decide +kernel
theorem dJ9_max_7cf53_6 : decode cJ9_max_7cf53 6 = .ok (.goto 4, 3) := by decide +kernel
theorem dJ9_max_7cf53_9 : decode cJ9_max_7cf53 9 = .ok (.iload_n 1, 1) := by decide +kernel
theorem dJ9_max_7cf53_10 : decode cJ9_max_7cf53 10 = .ok (.ireturn, 1) := by decide +kernel
theorem dJ9_max_f86c9_0 : decode cJ9_max_f86c9 0 = .ok (.lload_n 0, 1) := by decide +kernel
theorem dJ9_max_f86c9_1 : decode cJ9_max_f86c9 1 = .ok (.lload_n 2, 1) := by decide +kernel
theorem dJ9_max_f86c9_2 : decode cJ9_max_f86c9 2 = .ok (.lcmp, 1) := by decide +kernel
theorem dJ9_max_f86c9_3 : decode cJ9_max_f86c9 3 = .ok (.ifCond .lt 7, 3) := by decide +kernel
theorem dJ9_max_f86c9_6 : decode cJ9_max_f86c9 6 = .ok (.lload_n 0, 1) := by decide +kernel
theorem dJ9_max_f86c9_7 : decode cJ9_max_f86c9 7 = .ok (.goto 4, 3) := by decide +kernel
theorem dJ9_max_f86c9_10 : decode cJ9_max_f86c9 10 = .ok (.lload_n 2, 1) := by decide +kernel
theorem dJ9_max_f86c9_11 : decode cJ9_max_f86c9 11 = .ok (.lreturn, 1) := by decide +kernel
theorem dJ9_min_7cf53_0 : decode cJ9_min_7cf53 0 = .ok (.iload_n 0, 1) := by decide +kernel
theorem dJ9_min_7cf53_1 : decode cJ9_min_7cf53 1 = .ok (.iload_n 1, 1) := by decide +kernel
theorem dJ9_min_7cf53_2 : decode cJ9_min_7cf53 2 = .ok (.if_icmp .gt 7, 3) := by decide +kernel
theorem dJ9_min_7cf53_5 : decode cJ9_min_7cf53 5 = .ok (.iload_n 0, 1) := by decide +kernel
theorem dJ9_min_7cf53_6 : decode cJ9_min_7cf53 6 = .ok (.goto 4, 3) := by decide +kernel
theorem dJ9_min_7cf53_9 : decode cJ9_min_7cf53 9 = .ok (.iload_n 1, 1) := by decide +kernel
theorem dJ9_min_7cf53_10 : decode cJ9_min_7cf53 10 = .ok (.ireturn, 1) := by decide +kernel
theorem dJ9_min_f86c9_0 : decode cJ9_min_f86c9 0 = .ok (.lload_n 0, 1) := by decide +kernel
theorem dJ9_min_f86c9_1 : decode cJ9_min_f86c9 1 = .ok (.lload_n 2, 1) := by decide +kernel
theorem dJ9_min_f86c9_2 : decode cJ9_min_f86c9 2 = .ok (.lcmp, 1) := by decide +kernel
theorem dJ9_min_f86c9_3 : decode cJ9_min_f86c9 3 = .ok (.ifCond .gt 7, 3) := by decide +kernel
theorem dJ9_min_f86c9_6 : decode cJ9_min_f86c9 6 = .ok (.lload_n 0, 1) := by decide +kernel
theorem dJ9_min_f86c9_7 : decode cJ9_min_f86c9 7 = .ok (.goto 4, 3) := by decide +kernel
theorem dJ9_min_f86c9_10 : decode cJ9_min_f86c9 10 = .ok (.lload_n 2, 1) := by decide +kernel
theorem dJ9_min_f86c9_11 : decode cJ9_min_f86c9 11 = .ok (.lreturn, 1) := by decide +kernel
theorem dJ0_length_8abf5_0 : decode cJ0_length_8abf5 0 = .ok (.aload_n 0, 1) := by decide +kernel
theorem dJ0_length_8abf5_1 : decode cJ0_length_8abf5 1 = .ok (.getfield 9, 3) := by decide +kernel
theorem dJ0_length_8abf5_4 : decode cJ0_length_8abf5 4 = .ok (.arraylength, 1) := by decide +kernel
theorem dJ0_length_8abf5_5 : decode cJ0_length_8abf5 5 = .ok (.aload_n 0, 1) := by decide +kernel
theorem dJ0_length_8abf5_6 : decode cJ0_length_8abf5 6 = .ok (.invokevirtual 335, 3) := by decide +kernel
theorem dJ0_length_8abf5_9 : decode cJ0_length_8abf5 9 = .ok (.ishr, 1) := by decide +kernel
theorem dJ0_length_8abf5_10 : decode cJ0_length_8abf5 10 = .ok (.ireturn, 1) := by decide +kernel
theorem dJ0_charAt_5068e_0 : decode cJ0_charAt_5068e 0 = .ok (.aload_n 0, 1) := by decide +kernel
theorem dJ0_charAt_5068e_1 : decode cJ0_charAt_5068e 1 = .ok (.invokevirtual 492, 3) := by decide +kernel
theorem dJ0_charAt_5068e_4 : decode cJ0_charAt_5068e 4 = .ok (.ifCond .eq 12, 3) := by decide +kernel
theorem dJ0_charAt_5068e_7 : decode cJ0_charAt_5068e 7 = .ok (.aload_n 0, 1) := by decide +kernel
theorem dJ0_charAt_5068e_8 : decode cJ0_charAt_5068e 8 = .ok (.getfield 9, 3) := by decide +kernel
theorem dJ0_charAt_5068e_11 : decode cJ0_charAt_5068e 11 = .ok (.iload_n 1, 1) := by decide +kernel
theorem dJ0_charAt_5068e_12 : decode cJ0_charAt_5068e 12 = .ok (.invokestatic 495, 3) := by decide +kernel
theorem dJ0_charAt_5068e_15 : decode cJ0_charAt_5068e 15 = .ok (.ireturn, 1) := by decide +kernel
theorem dJ0_charAt_5068e_16 : decode cJ0_charAt_5068e 16 = .ok (.aload_n 0, 1) := by decide +kernel
theorem dJ0_charAt_5068e_17 : decode cJ0_charAt_5068e 17 = .ok (.getfield 9, 3) := by decide +kernel
theorem dJ0_charAt_5068e_20 : decode cJ0_charAt_5068e 20 = .ok (.iload_n 1, 1) := by decide +kernel
theorem dJ0_charAt_5068e_21 : decode cJ0_charAt_5068e 21 = .ok (.invokestatic 498, 3) := by decide +kernel
theorem dJ0_charAt_5068e_24 : decode cJ0_charAt_5068e 24 = .ok (.ireturn, 1) := by decide +kernel
theorem dJ0_coder_7d493_0 : decode cJ0_coder_7d493 0 = .ok (.getstatic 38, 3) := by decide +kernel
theorem dJ0_coder_7d493_3 : decode cJ0_coder_7d493 3 = .ok (.ifCond .eq 10, 3) := by decide +kernel
theorem dJ0_coder_7d493_6 : decode cJ0_coder_7d493 6 = .ok (.aload_n 0, 1) := by decide +kernel
theorem dJ0_coder_7d493_7 : decode cJ0_coder_7d493 7 = .ok (.getfield 15, 3) := by decide +kernel
theorem dJ0_coder_7d493_10 : decode cJ0_coder_7d493 10 = .ok (.goto 4, 3) := by decide +kernel
theorem dJ0_coder_7d493_13 : decode cJ0_coder_7d493 13 = .ok (.iconst 1, 1) := by decide +kernel
theorem dJ0_coder_7d493_14 : decode cJ0_coder_7d493 14 = .ok (.ireturn, 1) := by decide +kernel
theorem dJ0_isLatin1_aae02_0 : decode cJ0_isLatin1_aae02 0 = .ok (.getstatic 38, 3) := by decide +kernel
theorem dJ0_isLatin1_aae02_3 : decode cJ0_isLatin1_aae02 3 = .ok (.ifCond .eq 14, 3) := by decide +kernel
theorem dJ0_isLatin1_aae02_6 : decode cJ0_isLatin1_aae02 6 = .ok (.aload_n 0, 1) := by decide +kernel
theorem dJ0_isLatin1_aae02_7 : decode cJ0_isLatin1_aae02 7 = .ok (.getfield 15, 3) := by decide +kernel
theorem dJ0_isLatin1_aae02_10 : decode cJ0_isLatin1_aae02 10 = .ok (.ifCond .ne 7, 3) := by decide +kernel
theorem dJ0_isLatin1_aae02_13 : decode cJ0_isLatin1_aae02 13 = .ok (.iconst 1, 1) := by decide +kernel
theorem dJ0_isLatin1_aae02_14 : decode cJ0_isLatin1_aae02 14 = .ok (.goto 4, 3) := by decide +kernel
theorem dJ0_isLatin1_aae02_17 : decode cJ0_isLatin1_aae02 17 = .ok (.iconst 0, 1) := by decide +kernel
theorem dJ0_isLatin1_aae02_18 : decode cJ0_isLatin1_aae02 18 = .ok (.ireturn, 1) := by decide +kernel
theorem dJ0_checkIndex_df160_0 : decode cJ0_checkIndex_df160 0 = .ok (.iload_n 0, 1) := by decide +kernel
theorem dJ0_checkIndex_df160_1 : decode cJ0_checkIndex_df160 1 = .ok (.iload_n 1, 1) := by decide +kernel
theorem dJ0_checkIndex_df160_2 : decode cJ0_checkIndex_df160 2 = .ok (.getstatic 1053, 3) := by decide +kernel
theorem dJ0_checkIndex_df160_5 : decode cJ0_checkIndex_df160 5 = .ok (.invokestatic 1059, 3) := by decide +kernel
theorem dJ0_checkIndex_df160_8 : decode cJ0_checkIndex_df160 8 = .ok (.pop, 1) := by decide +kernel
theorem dJ0_checkIndex_df160_9 : decode cJ0_checkIndex_df160 9 = .ok (.return_, 1) := by decide +kernel
theorem dJ1_charAt_3b067_0 : decode cJ1_charAt_3b067 0 = .ok (.iload_n 1, 1) := by decide +kernel
theorem dJ1_charAt_3b067_1 : decode cJ1_charAt_3b067 1 = .ok (.aload_n 0, 1) := by decide +kernel
theorem dJ1_charAt_3b067_2 : decode cJ1_charAt_3b067 2 = .ok (.arraylength, 1) := by decide +kernel
theorem dJ1_charAt_3b067_3 : decode cJ1_charAt_3b067 3 = .ok (.invokestatic 9, 3) := by decide +kernel
theorem dJ1_charAt_3b067_6 : decode cJ1_charAt_3b067 6 = .ok (.aload_n 0, 1) := by decide +kernel
theorem dJ1_charAt_3b067_7 : decode cJ1_charAt_3b067 7 = .ok (.iload_n 1, 1) := by decide +kernel
theorem dJ1_charAt_3b067_8 : decode cJ1_charAt_3b067 8 = .ok (.baload, 1) := by decide +kernel
theorem dJ1_charAt_3b067_9 : decode cJ1_charAt_3b067 9 = .ok (.sipush 255, 3) := by decide +kernel
theorem dJ1_charAt_3b067_12 : decode cJ1_charAt_3b067 12 = .ok (.iand, 1) := by decide +kernel
theorem dJ1_charAt_3b067_13 : decode cJ1_charAt_3b067 13 = .ok (.i2c, 1) := by decide +kernel
theorem dJ1_charAt_3b067_14 : decode cJ1_charAt_3b067 14 = .ok (.ireturn, 1) := by decide +kernel
theorem dJ2_getChar_3b067_0 : decode cJ2_getChar_3b067 0 = .ok (.getstatic 44, 3) := by decide +kernel
theorem dJ2_getChar_3b067_3 : decode cJ2_getChar_3b067 3 = .ok (.ifCond .ne 25, 3) := by decide +kernel
theorem dJ2_getChar_3b067_6 : decode cJ2_getChar_3b067 6 = .ok (.iload_n 1, 1) := by decide +kernel
theorem dJ2_getChar_3b067_7 : decode cJ2_getChar_3b067 7 = .ok (.ifCond .lt 11, 3) := by decide +kernel
theorem dJ2_getChar_3b067_10 : decode cJ2_getChar_3b067 10 = .ok (.iload_n 1, 1) := by decide +kernel
theorem dJ2_getChar_3b067_11 : decode cJ2_getChar_3b067 11 = .ok (.aload_n 0, 1) := by decide +kernel
theorem dJ2_getChar_3b067_12 : decode cJ2_getChar_3b067 12 = .ok (.invokestatic 48, 3) := by decide +kernel
theorem dJ2_getChar_3b067_15 : decode cJ2_getChar_3b067 15 = .ok (.if_icmp .lt 13, 3) := by decide +kernel
theorem dJ2_getChar_3b067_18 : decode cJ2_getChar_3b067 18 = .ok (.new 52, 3) := by decide +kernel
theorem dJ2_getChar_3b067_21 : decode cJ2_getChar_3b067 21 = .ok (.dup, 1) := by decide +kernel
theorem dJ2_getChar_3b067_22 : decode cJ2_getChar_3b067 22 = .ok (.ldc 54, 2) := by decide +kernel
theorem dJ2_getChar_3b067_24 : decode cJ2_getChar_3b067 24 = .ok (.invokespecial 56, 3) := by decide +kernel
theorem dJ2_getChar_3b067_27 : decode cJ2_getChar_3b067 27 = .ok (.athrow, 1) := by decide +kernel
theorem dJ2_getChar_3b067_28 : decode cJ2_getChar_3b067 28 = .ok (.iload_n 1, 1) := by decide +kernel
theorem dJ2_getChar_3b067_29 : decode cJ2_getChar_3b067 29 = .ok (.iconst 1, 1) := by decide +kernel
theorem dJ2_getChar_3b067_30 : decode cJ2_getChar_3b067 30 = .ok (.ishl, 1) := by decide +kernel
theorem dJ2_getChar_3b067_31 : decode cJ2_getChar_3b067 31 = .ok (.istore_n 1, 1) := by decide +kernel
theorem dJ2_getChar_3b067_32 : decode cJ2_getChar_3b067 32 = .ok (.aload_n 0, 1) := by decide +kernel
theorem dJ2_getChar_3b067_33 : decode cJ2_getChar_3b067 33 = .ok (.iload_n 1, 1) := by decide +kernel
theorem dJ2_getChar_3b067_34 : decode cJ2_getChar_3b067 34 = .ok (.iinc 1 1, 3) := by decide +kernel
theorem dJ2_getChar_3b067_37 : decode cJ2_getChar_3b067 37 = .ok (.baload, 1) := by decide +kernel
theorem dJ2_getChar_3b067_38 : decode cJ2_getChar_3b067 38 = .ok (.sipush 255, 3) := by decide +kernel
theorem dJ2_getChar_3b067_41 : decode cJ2_getChar_3b067 41 = .ok (.iand, 1) := by decide +kernel
theorem dJ2_getChar_3b067_42 : decode cJ2_getChar_3b067 42 = .ok (.getstatic 59, 3) := by decide +kernel
theorem dJ2_getChar_3b067_45 : decode cJ2_getChar_3b067 45 = .ok (.ishl, 1) := by decide +kernel
theorem dJ2_getChar_3b067_46 : decode cJ2_getChar_3b067 46 = .ok (.aload_n 0, 1) := by decide +kernel
theorem dJ2_getChar_3b067_47 : decode cJ2_getChar_3b067 47 = .ok (.iload_n 1, 1) := by decide +kernel
theorem dJ2_getChar_3b067_48 : decode cJ2_getChar_3b067 48 = .ok (.baload, 1) := by decide +kernel
theorem dJ2_getChar_3b067_49 : decode cJ2_getChar_3b067 49 = .ok (.sipush 255, 3) := by decide +kernel
theorem dJ2_getChar_3b067_52 : decode cJ2_getChar_3b067 52 = .ok (.iand, 1) := by decide +kernel
theorem dJ2_getChar_3b067_53 : decode cJ2_getChar_3b067 53 = .ok (.getstatic 63, 3) := by decide +kernel
theorem dJ2_getChar_3b067_56 : decode cJ2_getChar_3b067 56 = .ok (.ishl, 1) := by decide +kernel
theorem dJ2_getChar_3b067_57 : decode cJ2_getChar_3b067 57 = .ok (.ior, 1) := by decide +kernel
theorem dJ2_getChar_3b067_58 : decode cJ2_getChar_3b067 58 = .ok (.i2c, 1) := by decide +kernel
theorem dJ2_getChar_3b067_59 : decode cJ2_getChar_3b067 59 = .ok (.ireturn, 1) := by decide +kernel
theorem dJ2_length_9d52b_0 : decode cJ2_length_9d52b 0 = .ok (.aload_n 0, 1) := by decide +kernel
theorem dJ2_length_9d52b_1 : decode cJ2_length_9d52b 1 = .ok (.arraylength, 1) := by decide +kernel
theorem dJ2_length_9d52b_2 : decode cJ2_length_9d52b 2 = .ok (.iconst 1, 1) := by decide +kernel
theorem dJ2_length_9d52b_3 : decode cJ2_length_9d52b 3 = .ok (.ishr, 1) := by decide +kernel
theorem dJ2_length_9d52b_4 : decode cJ2_length_9d52b 4 = .ok (.ireturn, 1) := by decide +kernel
theorem dJ2_charAt_3b067_0 : decode cJ2_charAt_3b067 0 = .ok (.iload_n 1, 1) := by decide +kernel
theorem dJ2_charAt_3b067_1 : decode cJ2_charAt_3b067 1 = .ok (.aload_n 0, 1) := by decide +kernel
theorem dJ2_charAt_3b067_2 : decode cJ2_charAt_3b067 2 = .ok (.invokestatic 67, 3) := by decide +kernel
theorem dJ2_charAt_3b067_5 : decode cJ2_charAt_3b067 5 = .ok (.aload_n 0, 1) := by decide +kernel
theorem dJ2_charAt_3b067_6 : decode cJ2_charAt_3b067 6 = .ok (.iload_n 1, 1) := by decide +kernel
theorem dJ2_charAt_3b067_7 : decode cJ2_charAt_3b067 7 = .ok (.invokestatic 71, 3) := by decide +kernel
theorem dJ2_charAt_3b067_10 : decode cJ2_charAt_3b067 10 = .ok (.ireturn, 1) := by decide +kernel
theorem dJ2_checkIndex_2214a_0 : decode cJ2_checkIndex_2214a 0 = .ok (.iload_n 0, 1) := by decide +kernel
theorem dJ2_checkIndex_2214a_1 : decode cJ2_checkIndex_2214a 1 = .ok (.aload_n 1, 1) := by decide +kernel
theorem dJ2_checkIndex_2214a_2 : decode cJ2_checkIndex_2214a 2 = .ok (.invokestatic 48, 3) := by decide +kernel
theorem dJ2_checkIndex_2214a_5 : decode cJ2_checkIndex_2214a 5 = .ok (.invokestatic 414, 3) := by decide +kernel
theorem dJ2_checkIndex_2214a_8 : decode cJ2_checkIndex_2214a 8 = .ok (.return_, 1) := by decide +kernel
theorem dJ3_checkIndex_8e157_0 : decode cJ3_checkIndex_8e157 0 = .ok (.iload_n 0, 1) := by decide +kernel
theorem dJ3_checkIndex_8e157_1 : decode cJ3_checkIndex_8e157 1 = .ok (.ifCond .lt 8, 3) := by decide +kernel
theorem dJ3_checkIndex_8e157_4 : decode cJ3_checkIndex_8e157 4 = .ok (.iload_n 0, 1) := by decide +kernel
theorem dJ3_checkIndex_8e157_5 : decode cJ3_checkIndex_8e157 5 = .ok (.iload_n 1, 1) := by decide +kernel
theorem dJ3_checkIndex_8e157_6 : decode cJ3_checkIndex_8e157 6 = .ok (.if_icmp .lt 10, 3) := by decide +kernel
theorem dJ3_checkIndex_8e157_9 : decode cJ3_checkIndex_8e157 9 = .ok (.aload_n 2, 1) := by decide +kernel
theorem dJ3_checkIndex_8e157_10 : decode cJ3_checkIndex_8e157 10 = .ok (.iload_n 0, 1) := by decide +kernel
theorem dJ3_checkIndex_8e157_11 : decode cJ3_checkIndex_8e157 11 = .ok (.iload_n 1, 1) := by decide +kernel
theorem dJ3_checkIndex_8e157_12 : decode cJ3_checkIndex_8e157 12 = .ok (.invokestatic 95, 3) := by decide +kernel
theorem dJ3_checkIndex_8e157_15 : decode cJ3_checkIndex_8e157 15 = .ok (.athrow, 1) := by decide +kernel
theorem dJ3_checkIndex_8e157_16 : decode cJ3_checkIndex_8e157 16 = .ok (.iload_n 0, 1) := by decide +kernel
theorem dJ3_checkIndex_8e157_17 : decode cJ3_checkIndex_8e157 17 = .ok (.ireturn, 1) := by decide +kernel
theorem dL_law_0 : decode cL_law 0 = .ok (.new 7, 3) := by decide +kernel
theorem dL_law_3 : decode cL_law 3 = .ok (.dup, 1) := by decide +kernel
theorem dL_law_4 : decode cL_law 4 = .ok (.invokespecial 9, 3) := by decide +kernel
theorem dL_law_7 : decode cL_law 7 = .ok (.astore_n 1, 1) := by decide +kernel
theorem dL_law_8 : decode cL_law 8 = .ok (.new 10, 3) := by decide +kernel
theorem dL_law_11 : decode cL_law 11 = .ok (.dup, 1) := by decide +kernel
theorem dL_law_12 : decode cL_law 12 = .ok (.invokespecial 12, 3) := by decide +kernel
theorem dL_law_15 : decode cL_law 15 = .ok (.astore_n 2, 1) := by decide +kernel
theorem dL_law_16 : decode cL_law 16 = .ok (.iconst 0, 1) := by decide +kernel
theorem dL_law_17 : decode cL_law 17 = .ok (.istore_n 3, 1) := by decide +kernel
theorem dL_law_18 : decode cL_law 18 = .ok (.iload_n 3, 1) := by decide +kernel
theorem dL_law_19 : decode cL_law 19 = .ok (.aload_n 0, 1) := by decide +kernel
theorem dL_law_20 : decode cL_law 20 = .ok (.arraylength, 1) := by decide +kernel
theorem dL_law_21 : decode cL_law 21 = .ok (.iconst 5, 1) := by decide +kernel
theorem dL_law_22 : decode cL_law 22 = .ok (.isub, 1) := by decide +kernel
theorem dL_law_23 : decode cL_law 23 = .ok (.if_icmp .gt 1995, 3) := by decide +kernel
theorem dL_law_26 : decode cL_law 26 = .ok (.aload_n 0, 1) := by decide +kernel
theorem dL_law_27 : decode cL_law 27 = .ok (.iload_n 3, 1) := by decide +kernel
theorem dL_law_28 : decode cL_law 28 = .ok (.iaload, 1) := by decide +kernel
theorem dL_law_29 : decode cL_law 29 = .ok (.bipush 63, 2) := by decide +kernel
theorem dL_law_31 : decode cL_law 31 = .ok (.iand, 1) := by decide +kernel
theorem dL_law_32 : decode cL_law 32 = .ok (.tableswitch 1980 0 48 #[212, 265, 298, 341, 374, 397, 460, 473, 496, 529, 562, 595, 638, 681, 724, 757, 780, 803, 846, 899, 932, 975, 998, 1031, 1074, 1117, 1160, 1203, 1257, 1310, 1363, 1396, 1409, 1442, 1465, 1508, 1541, 1584, 1607, 1650, 1693, 1736, 1789, 1832, 1865, 1908, 1931, 1954, 1967], 212) := by decide +kernel
theorem dL_law_244 : decode cL_law 244 = .ok (.aload_n 1, 1) := by decide +kernel
theorem dL_law_245 : decode cL_law 245 = .ok (.aload_n 0, 1) := by decide +kernel
theorem dL_law_246 : decode cL_law 246 = .ok (.iload_n 3, 1) := by decide +kernel
theorem dL_law_247 : decode cL_law 247 = .ok (.iconst 1, 1) := by decide +kernel
theorem dL_law_248 : decode cL_law 248 = .ok (.iadd, 1) := by decide +kernel
theorem dL_law_249 : decode cL_law 249 = .ok (.iaload, 1) := by decide +kernel
theorem dL_law_250 : decode cL_law 250 = .ok (.aload_n 0, 1) := by decide +kernel
theorem dL_law_251 : decode cL_law 251 = .ok (.iload_n 3, 1) := by decide +kernel
theorem dL_law_252 : decode cL_law 252 = .ok (.iconst 2, 1) := by decide +kernel
theorem dL_law_253 : decode cL_law 253 = .ok (.iadd, 1) := by decide +kernel
theorem dL_law_254 : decode cL_law 254 = .ok (.iaload, 1) := by decide +kernel
theorem dL_law_255 : decode cL_law 255 = .ok (.aload_n 0, 1) := by decide +kernel
theorem dL_law_256 : decode cL_law 256 = .ok (.iload_n 3, 1) := by decide +kernel
theorem dL_law_257 : decode cL_law 257 = .ok (.iconst 3, 1) := by decide +kernel
theorem dL_law_258 : decode cL_law 258 = .ok (.iadd, 1) := by decide +kernel
theorem dL_law_259 : decode cL_law 259 = .ok (.iaload, 1) := by decide +kernel
theorem dL_law_260 : decode cL_law 260 = .ok (.aload_n 0, 1) := by decide +kernel
theorem dL_law_261 : decode cL_law 261 = .ok (.iload_n 3, 1) := by decide +kernel
theorem dL_law_262 : decode cL_law 262 = .ok (.iconst 4, 1) := by decide +kernel
theorem dL_law_263 : decode cL_law 263 = .ok (.iadd, 1) := by decide +kernel
theorem dL_law_264 : decode cL_law 264 = .ok (.iaload, 1) := by decide +kernel
theorem dL_law_265 : decode cL_law 265 = .ok (.invokevirtual 13, 3) := by decide +kernel
theorem dL_law_268 : decode cL_law 268 = .ok (.aload_n 2, 1) := by decide +kernel
theorem dL_law_269 : decode cL_law 269 = .ok (.aload_n 0, 1) := by decide +kernel
theorem dL_law_270 : decode cL_law 270 = .ok (.iload_n 3, 1) := by decide +kernel
theorem dL_law_271 : decode cL_law 271 = .ok (.iconst 1, 1) := by decide +kernel
theorem dL_law_272 : decode cL_law 272 = .ok (.iadd, 1) := by decide +kernel
theorem dL_law_273 : decode cL_law 273 = .ok (.iaload, 1) := by decide +kernel
theorem dL_law_274 : decode cL_law 274 = .ok (.aload_n 0, 1) := by decide +kernel
theorem dL_law_275 : decode cL_law 275 = .ok (.iload_n 3, 1) := by decide +kernel
theorem dL_law_276 : decode cL_law 276 = .ok (.iconst 2, 1) := by decide +kernel
theorem dL_law_277 : decode cL_law 277 = .ok (.iadd, 1) := by decide +kernel
theorem dL_law_278 : decode cL_law 278 = .ok (.iaload, 1) := by decide +kernel
theorem dL_law_279 : decode cL_law 279 = .ok (.aload_n 0, 1) := by decide +kernel
theorem dL_law_280 : decode cL_law 280 = .ok (.iload_n 3, 1) := by decide +kernel
theorem dL_law_281 : decode cL_law 281 = .ok (.iconst 3, 1) := by decide +kernel
theorem dL_law_282 : decode cL_law 282 = .ok (.iadd, 1) := by decide +kernel
theorem dL_law_283 : decode cL_law 283 = .ok (.iaload, 1) := by decide +kernel
theorem dL_law_284 : decode cL_law 284 = .ok (.aload_n 0, 1) := by decide +kernel
theorem dL_law_285 : decode cL_law 285 = .ok (.iload_n 3, 1) := by decide +kernel
theorem dL_law_286 : decode cL_law 286 = .ok (.iconst 4, 1) := by decide +kernel
theorem dL_law_287 : decode cL_law 287 = .ok (.iadd, 1) := by decide +kernel
theorem dL_law_288 : decode cL_law 288 = .ok (.iaload, 1) := by decide +kernel
theorem dL_law_289 : decode cL_law 289 = .ok (.invokevirtual 17, 3) := by decide +kernel
theorem dL_law_292 : decode cL_law 292 = .ok (.if_icmp .eq 1720, 3) := by decide +kernel
theorem dL_law_295 : decode cL_law 295 = .ok (.iconst 0, 1) := by decide +kernel
theorem dL_law_296 : decode cL_law 296 = .ok (.ireturn, 1) := by decide +kernel
theorem dL_law_297 : decode cL_law 297 = .ok (.aload_n 1, 1) := by decide +kernel
theorem dL_law_298 : decode cL_law 298 = .ok (.aload_n 0, 1) := by decide +kernel
theorem dL_law_299 : decode cL_law 299 = .ok (.iload_n 3, 1) := by decide +kernel
theorem dL_law_300 : decode cL_law 300 = .ok (.iconst 1, 1) := by decide +kernel
theorem dL_law_301 : decode cL_law 301 = .ok (.iadd, 1) := by decide +kernel
theorem dL_law_302 : decode cL_law 302 = .ok (.iaload, 1) := by decide +kernel
theorem dL_law_303 : decode cL_law 303 = .ok (.aload_n 0, 1) := by decide +kernel
theorem dL_law_304 : decode cL_law 304 = .ok (.iload_n 3, 1) := by decide +kernel
theorem dL_law_305 : decode cL_law 305 = .ok (.iconst 2, 1) := by decide +kernel
theorem dL_law_306 : decode cL_law 306 = .ok (.iadd, 1) := by decide +kernel
theorem dL_law_307 : decode cL_law 307 = .ok (.iaload, 1) := by decide +kernel
theorem dL_law_308 : decode cL_law 308 = .ok (.invokevirtual 18, 3) := by decide +kernel
theorem dL_law_311 : decode cL_law 311 = .ok (.aload_n 2, 1) := by decide +kernel
theorem dL_law_312 : decode cL_law 312 = .ok (.aload_n 0, 1) := by decide +kernel
theorem dL_law_313 : decode cL_law 313 = .ok (.iload_n 3, 1) := by decide +kernel
theorem dL_law_314 : decode cL_law 314 = .ok (.iconst 1, 1) := by decide +kernel
theorem dL_law_315 : decode cL_law 315 = .ok (.iadd, 1) := by decide +kernel
theorem dL_law_316 : decode cL_law 316 = .ok (.iaload, 1) := by decide +kernel
theorem dL_law_317 : decode cL_law 317 = .ok (.aload_n 0, 1) := by decide +kernel
theorem dL_law_318 : decode cL_law 318 = .ok (.iload_n 3, 1) := by decide +kernel
theorem dL_law_319 : decode cL_law 319 = .ok (.iconst 2, 1) := by decide +kernel
theorem dL_law_320 : decode cL_law 320 = .ok (.iadd, 1) := by decide +kernel
theorem dL_law_321 : decode cL_law 321 = .ok (.iaload, 1) := by decide +kernel
theorem dL_law_322 : decode cL_law 322 = .ok (.invokevirtual 22, 3) := by decide +kernel
theorem dL_law_325 : decode cL_law 325 = .ok (.if_icmp .eq 1687, 3) := by decide +kernel
theorem dL_law_328 : decode cL_law 328 = .ok (.iconst 0, 1) := by decide +kernel
