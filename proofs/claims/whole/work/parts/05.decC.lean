theorem dX7_init_0 : decode cX7_init 0 = .ok (.aload_n 0, 1) := by decide +kernel
theorem dX7_init_1 : decode cX7_init 1 = .ok (.invokespecial 1, 3) := by decide +kernel
theorem dX7_init_4 : decode cX7_init 4 = .ok (.aload_n 0, 1) := by decide +kernel
theorem dX7_init_5 : decode cX7_init 5 = .ok (.bipush 8, 2) := by decide +kernel
theorem dX7_init_7 : decode cX7_init 7 = .ok (.newarray .int, 2) := by decide +kernel
theorem dX7_init_9 : decode cX7_init 9 = .ok (.putfield 7, 3) := by decide +kernel
theorem dX7_init_12 : decode cX7_init 12 = .ok (.aload_n 0, 1) := by decide +kernel
theorem dX7_init_13 : decode cX7_init 13 = .ok (.bipush 24, 2) := by decide +kernel
theorem dX7_init_15 : decode cX7_init 15 = .ok (.newarray .int, 2) := by decide +kernel
theorem dX7_init_17 : decode cX7_init 17 = .ok (.putfield 13, 3) := by decide +kernel
theorem dX7_init_20 : decode cX7_init 20 = .ok (.aload_n 0, 1) := by decide +kernel
theorem dX7_init_21 : decode cX7_init 21 = .ok (.iconst 1, 1) := by decide +kernel
theorem dX7_init_22 : decode cX7_init 22 = .ok (.putfield 16, 3) := by decide +kernel
theorem dX7_init_25 : decode cX7_init 25 = .ok (.aload_n 0, 1) := by decide +kernel
theorem dX7_init_26 : decode cX7_init 26 = .ok (.bipush 7, 2) := by decide +kernel
theorem dX7_init_28 : decode cX7_init 28 = .ok (.newarray .int, 2) := by decide +kernel
theorem dX7_init_30 : decode cX7_init 30 = .ok (.putfield 20, 3) := by decide +kernel
theorem dX7_init_33 : decode cX7_init 33 = .ok (.aload_n 0, 1) := by decide +kernel
theorem dX7_init_34 : decode cX7_init 34 = .ok (.bipush 70, 2) := by decide +kernel
theorem dX7_init_36 : decode cX7_init 36 = .ok (.newarray .int, 2) := by decide +kernel
theorem dX7_init_38 : decode cX7_init 38 = .ok (.putfield 23, 3) := by decide +kernel
theorem dX7_init_41 : decode cX7_init 41 = .ok (.aload_n 0, 1) := by decide +kernel
theorem dX7_init_42 : decode cX7_init 42 = .ok (.sipush 156, 3) := by decide +kernel
theorem dX7_init_45 : decode cX7_init 45 = .ok (.newarray .int, 2) := by decide +kernel
theorem dX7_init_47 : decode cX7_init 47 = .ok (.putfield 26, 3) := by decide +kernel
theorem dX7_init_50 : decode cX7_init 50 = .ok (.aload_n 0, 1) := by decide +kernel
theorem dX7_init_51 : decode cX7_init 51 = .ok (.iconst 2, 1) := by decide +kernel
theorem dX7_init_52 : decode cX7_init 52 = .ok (.newarray .boolean, 2) := by decide +kernel
theorem dX7_init_54 : decode cX7_init 54 = .ok (.putfield 29, 3) := by decide +kernel
theorem dX7_init_57 : decode cX7_init 57 = .ok (.aload_n 0, 1) := by decide +kernel
theorem dX7_init_58 : decode cX7_init 58 = .ok (.bipush 12, 2) := by decide +kernel
theorem dX7_init_60 : decode cX7_init 60 = .ok (.newarray .int, 2) := by decide +kernel
theorem dX7_init_62 : decode cX7_init 62 = .ok (.putfield 33, 3) := by decide +kernel
theorem dX7_init_65 : decode cX7_init 65 = .ok (.aload_n 0, 1) := by decide +kernel
theorem dX7_init_66 : decode cX7_init 66 = .ok (.sipush 200, 3) := by decide +kernel
theorem dX7_init_69 : decode cX7_init 69 = .ok (.newarray .int, 2) := by decide +kernel
theorem dX7_init_71 : decode cX7_init 71 = .ok (.putfield 36, 3) := by decide +kernel
theorem dX7_init_74 : decode cX7_init 74 = .ok (.aload_n 0, 1) := by decide +kernel
theorem dX7_init_75 : decode cX7_init 75 = .ok (.bipush 8, 2) := by decide +kernel
theorem dX7_init_77 : decode cX7_init 77 = .ok (.newarray .int, 2) := by decide +kernel
theorem dX7_init_79 : decode cX7_init 79 = .ok (.putfield 39, 3) := by decide +kernel
theorem dX7_init_82 : decode cX7_init 82 = .ok (.aload_n 0, 1) := by decide +kernel
theorem dX7_init_83 : decode cX7_init 83 = .ok (.bipush 24, 2) := by decide +kernel
theorem dX7_init_85 : decode cX7_init 85 = .ok (.newarray .int, 2) := by decide +kernel
theorem dX7_init_87 : decode cX7_init 87 = .ok (.putfield 42, 3) := by decide +kernel
theorem dX7_init_90 : decode cX7_init 90 = .ok (.aload_n 0, 1) := by decide +kernel
theorem dX7_init_91 : decode cX7_init 91 = .ok (.iconst 2, 1) := by decide +kernel
theorem dX7_init_92 : decode cX7_init 92 = .ok (.newarray .int, 2) := by decide +kernel
theorem dX7_init_94 : decode cX7_init 94 = .ok (.putfield 45, 3) := by decide +kernel
theorem dX7_init_97 : decode cX7_init 97 = .ok (.aload_n 0, 1) := by decide +kernel
theorem dX7_init_98 : decode cX7_init 98 = .ok (.bipush 28, 2) := by decide +kernel
theorem dX7_init_100 : decode cX7_init 100 = .ok (.newarray .int, 2) := by decide +kernel
theorem dX7_init_102 : decode cX7_init 102 = .ok (.putfield 48, 3) := by decide +kernel
theorem dX7_init_105 : decode cX7_init 105 = .ok (.aload_n 0, 1) := by decide +kernel
theorem dX7_init_106 : decode cX7_init 106 = .ok (.bipush 7, 2) := by decide +kernel
theorem dX7_init_108 : decode cX7_init 108 = .ok (.newarray .int, 2) := by decide +kernel
theorem dX7_init_110 : decode cX7_init 110 = .ok (.putfield 51, 3) := by decide +kernel
theorem dX7_init_113 : decode cX7_init 113 = .ok (.aload_n 0, 1) := by decide +kernel
theorem dX7_init_114 : decode cX7_init 114 = .ok (.bipush 7, 2) := by decide +kernel
theorem dX7_init_116 : decode cX7_init 116 = .ok (.newarray .int, 2) := by decide +kernel
theorem dX7_init_118 : decode cX7_init 118 = .ok (.putfield 54, 3) := by decide +kernel
theorem dX7_init_121 : decode cX7_init 121 = .ok (.aload_n 0, 1) := by decide +kernel
theorem dX7_init_122 : decode cX7_init 122 = .ok (.bipush 7, 2) := by decide +kernel
theorem dX7_init_124 : decode cX7_init 124 = .ok (.newarray .int, 2) := by decide +kernel
theorem dX7_init_126 : decode cX7_init 126 = .ok (.putfield 57, 3) := by decide +kernel
theorem dX7_init_129 : decode cX7_init 129 = .ok (.aload_n 0, 1) := by decide +kernel
theorem dX7_init_130 : decode cX7_init 130 = .ok (.bipush 6, 2) := by decide +kernel
theorem dX7_init_132 : decode cX7_init 132 = .ok (.newarray .int, 2) := by decide +kernel
theorem dX7_init_134 : decode cX7_init 134 = .ok (.putfield 60, 3) := by decide +kernel
theorem dX7_init_137 : decode cX7_init 137 = .ok (.aload_n 0, 1) := by decide +kernel
theorem dX7_init_138 : decode cX7_init 138 = .ok (.bipush 6, 2) := by decide +kernel
theorem dX7_init_140 : decode cX7_init 140 = .ok (.newarray .int, 2) := by decide +kernel
theorem dX7_init_142 : decode cX7_init 142 = .ok (.putfield 63, 3) := by decide +kernel
theorem dX7_init_145 : decode cX7_init 145 = .ok (.aload_n 0, 1) := by decide +kernel
theorem dX7_init_146 : decode cX7_init 146 = .ok (.invokevirtual 66, 3) := by decide +kernel
theorem dX7_init_149 : decode cX7_init 149 = .ok (.return_, 1) := by decide +kernel
theorem dX7_begins_0 : decode cX7_begins 0 = .ok (.iconst 0, 1) := by decide +kernel
theorem dX7_begins_1 : decode cX7_begins 1 = .ok (.istore_n 1, 1) := by decide +kernel
theorem dX7_begins_2 : decode cX7_begins 2 = .ok (.iload_n 1, 1) := by decide +kernel
theorem dX7_begins_3 : decode cX7_begins 3 = .ok (.bipush 7, 2) := by decide +kernel
theorem dX7_begins_5 : decode cX7_begins 5 = .ok (.if_icmp .ge 26, 3) := by decide +kernel
theorem dX7_begins_8 : decode cX7_begins 8 = .ok (.aload_n 0, 1) := by decide +kernel
theorem dX7_begins_9 : decode cX7_begins 9 = .ok (.getfield 20, 3) := by decide +kernel
theorem dX7_begins_12 : decode cX7_begins 12 = .ok (.iload_n 1, 1) := by decide +kernel
theorem dX7_begins_13 : decode cX7_begins 13 = .ok (.iload_n 1, 1) := by decide +kernel
theorem dX7_begins_14 : decode cX7_begins 14 = .ok (.iconst 2, 1) := by decide +kernel
theorem dX7_begins_15 : decode cX7_begins 15 = .ok (.if_icmp .ne 8, 3) := by decide +kernel
theorem dX7_begins_18 : decode cX7_begins 18 = .ok (.bipush (-9), 2) := by decide +kernel
theorem dX7_begins_20 : decode cX7_begins 20 = .ok (.goto 4, 3) := by decide +kernel
theorem dX7_begins_23 : decode cX7_begins 23 = .ok (.iconst 0, 1) := by decide +kernel
theorem dX7_begins_24 : decode cX7_begins 24 = .ok (.iastore, 1) := by decide +kernel
theorem dX7_begins_25 : decode cX7_begins 25 = .ok (.iinc 1 1, 3) := by decide +kernel
theorem dX7_begins_28 : decode cX7_begins 28 = .ok (.goto (-26), 3) := by decide +kernel
theorem dX7_begins_31 : decode cX7_begins 31 = .ok (.return_, 1) := by decide +kernel
theorem dX7_in_0 : decode cX7_in 0 = .ok (.iload_n 0, 1) := by decide +kernel
theorem dX7_in_1 : decode cX7_in 1 = .ok (.iload_n 1, 1) := by decide +kernel
theorem dX7_in_2 : decode cX7_in 2 = .ok (.if_icmp .lt 12, 3) := by decide +kernel
theorem dX7_in_5 : decode cX7_in 5 = .ok (.iload_n 0, 1) := by decide +kernel
theorem dX7_in_6 : decode cX7_in 6 = .ok (.iload_n 2, 1) := by decide +kernel
theorem dX7_in_7 : decode cX7_in 7 = .ok (.if_icmp .gt 7, 3) := by decide +kernel
theorem dX7_in_10 : decode cX7_in 10 = .ok (.iconst 1, 1) := by decide +kernel
theorem dX7_in_11 : decode cX7_in 11 = .ok (.goto 4, 3) := by decide +kernel
theorem dX7_in_14 : decode cX7_in 14 = .ok (.iconst 0, 1) := by decide +kernel
theorem dX7_in_15 : decode cX7_in 15 = .ok (.ireturn, 1) := by decide +kernel
theorem dX7_has_0 : decode cX7_has 0 = .ok (.iload_n 0, 1) := by decide +kernel
theorem dX7_has_1 : decode cX7_has 1 = .ok (.iload_n 1, 1) := by decide +kernel
theorem dX7_has_2 : decode cX7_has 2 = .ok (.ishr, 1) := by decide +kernel
theorem dX7_has_3 : decode cX7_has 3 = .ok (.iconst 1, 1) := by decide +kernel
theorem dX7_has_4 : decode cX7_has 4 = .ok (.iand, 1) := by decide +kernel
theorem dX7_has_5 : decode cX7_has 5 = .ok (.iconst 1, 1) := by decide +kernel
theorem dX7_has_6 : decode cX7_has 6 = .ok (.if_icmp .ne 7, 3) := by decide +kernel
theorem dX7_has_9 : decode cX7_has 9 = .ok (.iconst 1, 1) := by decide +kernel
theorem dX7_has_10 : decode cX7_has 10 = .ok (.goto 4, 3) := by decide +kernel
theorem dX7_has_13 : decode cX7_has 13 = .ok (.iconst 0, 1) := by decide +kernel
theorem dX7_has_14 : decode cX7_has 14 = .ok (.ireturn, 1) := by decide +kernel
theorem dX7_isWalker_0 : decode cX7_isWalker 0 = .ok (.iload_n 1, 1) := by decide +kernel
theorem dX7_isWalker_1 : decode cX7_isWalker 1 = .ok (.iconst 0, 1) := by decide +kernel
theorem dX7_isWalker_2 : decode cX7_isWalker 2 = .ok (.aload_n 0, 1) := by decide +kernel
theorem dX7_isWalker_3 : decode cX7_isWalker 3 = .ok (.getfield 69, 3) := by decide +kernel
theorem dX7_isWalker_6 : decode cX7_isWalker 6 = .ok (.iconst 1, 1) := by decide +kernel
theorem dX7_isWalker_7 : decode cX7_isWalker 7 = .ok (.isub, 1) := by decide +kernel
theorem dX7_isWalker_8 : decode cX7_isWalker 8 = .ok (.invokestatic 72, 3) := by decide +kernel
theorem dX7_isWalker_11 : decode cX7_isWalker 11 = .ok (.ireturn, 1) := by decide +kernel
theorem dX7_isStretch_0 : decode cX7_isStretch 0 = .ok (.iload_n 1, 1) := by decide +kernel
theorem dX7_isStretch_1 : decode cX7_isStretch 1 = .ok (.iconst 0, 1) := by decide +kernel
theorem dX7_isStretch_2 : decode cX7_isStretch 2 = .ok (.aload_n 0, 1) := by decide +kernel
theorem dX7_isStretch_3 : decode cX7_isStretch 3 = .ok (.getfield 76, 3) := by decide +kernel
theorem dX7_isStretch_6 : decode cX7_isStretch 6 = .ok (.iconst 1, 1) := by decide +kernel
theorem dX7_isStretch_7 : decode cX7_isStretch 7 = .ok (.isub, 1) := by decide +kernel
theorem dX7_isStretch_8 : decode cX7_isStretch 8 = .ok (.invokestatic 72, 3) := by decide +kernel
theorem dX7_isStretch_11 : decode cX7_isStretch 11 = .ok (.ireturn, 1) := by decide +kernel
theorem dX7_isPair_0 : decode cX7_isPair 0 = .ok (.iload_n 1, 1) := by decide +kernel
theorem dX7_isPair_1 : decode cX7_isPair 1 = .ok (.iconst 1, 1) := by decide +kernel
theorem dX7_isPair_2 : decode cX7_isPair 2 = .ok (.bipush 23, 2) := by decide +kernel
theorem dX7_isPair_4 : decode cX7_isPair 4 = .ok (.invokestatic 72, 3) := by decide +kernel
theorem dX7_isPair_7 : decode cX7_isPair 7 = .ok (.ifCond .eq 29, 3) := by decide +kernel
theorem dX7_isPair_10 : decode cX7_isPair 10 = .ok (.iload_n 1, 1) := by decide +kernel
theorem dX7_isPair_11 : decode cX7_isPair 11 = .ok (.bipush 10, 2) := by decide +kernel
theorem dX7_isPair_13 : decode cX7_isPair 13 = .ok (.idiv, 1) := by decide +kernel
theorem dX7_isPair_14 : decode cX7_isPair 14 = .ok (.iload_n 1, 1) := by decide +kernel
theorem dX7_isPair_15 : decode cX7_isPair 15 = .ok (.bipush 10, 2) := by decide +kernel
theorem dX7_isPair_17 : decode cX7_isPair 17 = .ok (.irem, 1) := by decide +kernel
theorem dX7_isPair_18 : decode cX7_isPair 18 = .ok (.if_icmp .ge 18, 3) := by decide +kernel
theorem dX7_isPair_21 : decode cX7_isPair 21 = .ok (.aload_n 0, 1) := by decide +kernel
theorem dX7_isPair_22 : decode cX7_isPair 22 = .ok (.iload_n 1, 1) := by decide +kernel
theorem dX7_isPair_23 : decode cX7_isPair 23 = .ok (.bipush 10, 2) := by decide +kernel
theorem dX7_isPair_25 : decode cX7_isPair 25 = .ok (.irem, 1) := by decide +kernel
theorem dX7_isPair_26 : decode cX7_isPair 26 = .ok (.invokevirtual 79, 3) := by decide +kernel
theorem dX7_isPair_29 : decode cX7_isPair 29 = .ok (.ifCond .eq 7, 3) := by decide +kernel
theorem dX7_isPair_32 : decode cX7_isPair 32 = .ok (.iconst 1, 1) := by decide +kernel
theorem dX7_isPair_33 : decode cX7_isPair 33 = .ok (.goto 4, 3) := by decide +kernel
theorem dX7_isPair_36 : decode cX7_isPair 36 = .ok (.iconst 0, 1) := by decide +kernel
theorem dX7_isPair_37 : decode cX7_isPair 37 = .ok (.ireturn, 1) := by decide +kernel
theorem dX7_type_0 : decode cX7_type 0 = .ok (.iload_n 1, 1) := by decide +kernel
theorem dX7_type_1 : decode cX7_type 1 = .ok (.iconst 0, 1) := by decide +kernel
theorem dX7_type_2 : decode cX7_type 2 = .ok (.sipush 255, 3) := by decide +kernel
theorem dX7_type_5 : decode cX7_type 5 = .ok (.invokestatic 72, 3) := by decide +kernel
theorem dX7_type_8 : decode cX7_type 8 = .ok (.ifCond .ne 5, 3) := by decide +kernel
theorem dX7_type_11 : decode cX7_type 11 = .ok (.iconst (-1), 1) := by decide +kernel
theorem dX7_type_12 : decode cX7_type 12 = .ok (.ireturn, 1) := by decide +kernel
theorem dX7_type_13 : decode cX7_type 13 = .ok (.aload_n 0, 1) := by decide +kernel
theorem dX7_type_14 : decode cX7_type 14 = .ok (.getfield 83, 3) := by decide +kernel
theorem dX7_type_17 : decode cX7_type 17 = .ok (.sipush 200, 3) := by decide +kernel
theorem dX7_type_20 : decode cX7_type 20 = .ok (.if_icmp .ne 6, 3) := by decide +kernel
theorem dX7_type_23 : decode cX7_type 23 = .ok (.bipush (-3), 2) := by decide +kernel
theorem dX7_type_25 : decode cX7_type 25 = .ok (.ireturn, 1) := by decide +kernel
theorem dX7_type_26 : decode cX7_type 26 = .ok (.aload_n 0, 1) := by decide +kernel
theorem dX7_type_27 : decode cX7_type 27 = .ok (.getfield 36, 3) := by decide +kernel
theorem dX7_type_30 : decode cX7_type 30 = .ok (.aload_n 0, 1) := by decide +kernel
theorem dX7_type_31 : decode cX7_type 31 = .ok (.getfield 83, 3) := by decide +kernel
theorem dX7_type_34 : decode cX7_type 34 = .ok (.iload_n 1, 1) := by decide +kernel
theorem dX7_type_35 : decode cX7_type 35 = .ok (.iastore, 1) := by decide +kernel
theorem dX7_type_36 : decode cX7_type 36 = .ok (.aload_n 0, 1) := by decide +kernel
theorem dX7_type_37 : decode cX7_type 37 = .ok (.dup, 1) := by decide +kernel
theorem dX7_type_38 : decode cX7_type 38 = .ok (.getfield 83, 3) := by decide +kernel
theorem dX7_type_41 : decode cX7_type 41 = .ok (.iconst 1, 1) := by decide +kernel
theorem dX7_type_42 : decode cX7_type 42 = .ok (.iadd, 1) := by decide +kernel
theorem dX7_type_43 : decode cX7_type 43 = .ok (.putfield 83, 3) := by decide +kernel
theorem dX7_type_46 : decode cX7_type 46 = .ok (.aload_n 0, 1) := by decide +kernel
theorem dX7_type_47 : decode cX7_type 47 = .ok (.getfield 83, 3) := by decide +kernel
theorem dX7_type_50 : decode cX7_type 50 = .ok (.ireturn, 1) := by decide +kernel
theorem dX7_clear_0 : decode cX7_clear 0 = .ok (.aload_n 0, 1) := by decide +kernel
theorem dX7_clear_1 : decode cX7_clear 1 = .ok (.getfield 83, 3) := by decide +kernel
theorem dX7_clear_4 : decode cX7_clear 4 = .ok (.istore_n 1, 1) := by decide +kernel
theorem dX7_clear_5 : decode cX7_clear 5 = .ok (.aload_n 0, 1) := by decide +kernel
theorem dX7_clear_6 : decode cX7_clear 6 = .ok (.iconst 0, 1) := by decide +kernel
theorem dX7_clear_7 : decode cX7_clear 7 = .ok (.putfield 83, 3) := by decide +kernel
theorem dX7_clear_10 : decode cX7_clear 10 = .ok (.iload_n 1, 1) := by decide +kernel
theorem dX7_clear_11 : decode cX7_clear 11 = .ok (.ireturn, 1) := by decide +kernel
theorem dX7_byteAt_0 : decode cX7_byteAt 0 = .ok (.iload_n 1, 1) := by decide +kernel
theorem dX7_byteAt_1 : decode cX7_byteAt 1 = .ok (.aload_n 0, 1) := by decide +kernel
theorem dX7_byteAt_2 : decode cX7_byteAt 2 = .ok (.getfield 83, 3) := by decide +kernel
theorem dX7_byteAt_5 : decode cX7_byteAt 5 = .ok (.if_icmp .ge 12, 3) := by decide +kernel
theorem dX7_byteAt_8 : decode cX7_byteAt 8 = .ok (.aload_n 0, 1) := by decide +kernel
theorem dX7_byteAt_9 : decode cX7_byteAt 9 = .ok (.getfield 36, 3) := by decide +kernel
theorem dX7_byteAt_12 : decode cX7_byteAt 12 = .ok (.iload_n 1, 1) := by decide +kernel
theorem dX7_byteAt_13 : decode cX7_byteAt 13 = .ok (.iaload, 1) := by decide +kernel
theorem dX7_byteAt_14 : decode cX7_byteAt 14 = .ok (.goto 4, 3) := by decide +kernel
theorem dX7_byteAt_17 : decode cX7_byteAt 17 = .ok (.iconst (-1), 1) := by decide +kernel
theorem dX7_byteAt_18 : decode cX7_byteAt 18 = .ok (.ireturn, 1) := by decide +kernel
theorem dX7_isSmall_0 : decode cX7_isSmall 0 = .ok (.iload_n 0, 1) := by decide +kernel
theorem dX7_isSmall_1 : decode cX7_isSmall 1 = .ok (.bipush 97, 2) := by decide +kernel
theorem dX7_isSmall_3 : decode cX7_isSmall 3 = .ok (.bipush 122, 2) := by decide +kernel
theorem dX7_isSmall_5 : decode cX7_isSmall 5 = .ok (.invokestatic 72, 3) := by decide +kernel
theorem dX7_isSmall_8 : decode cX7_isSmall 8 = .ok (.ireturn, 1) := by decide +kernel
theorem dX7_isFigure_0 : decode cX7_isFigure 0 = .ok (.iload_n 0, 1) := by decide +kernel
theorem dX7_isFigure_1 : decode cX7_isFigure 1 = .ok (.bipush 48, 2) := by decide +kernel
theorem dX7_isFigure_3 : decode cX7_isFigure 3 = .ok (.bipush 57, 2) := by decide +kernel
theorem dX7_isFigure_5 : decode cX7_isFigure 5 = .ok (.invokestatic 72, 3) := by decide +kernel
theorem dX7_isFigure_8 : decode cX7_isFigure 8 = .ok (.ireturn, 1) := by decide +kernel
theorem dX7_next_0 : decode cX7_next 0 = .ok (.aload_n 0, 1) := by decide +kernel
theorem dX7_next_1 : decode cX7_next 1 = .ok (.aload_n 0, 1) := by decide +kernel
theorem dX7_next_2 : decode cX7_next 2 = .ok (.getfield 86, 3) := by decide +kernel
theorem dX7_next_5 : decode cX7_next 5 = .ok (.invokevirtual 89, 3) := by decide +kernel
theorem dX7_next_8 : decode cX7_next 8 = .ok (.bipush 32, 2) := by decide +kernel
theorem dX7_next_10 : decode cX7_next 10 = .ok (.if_icmp .ne 16, 3) := by decide +kernel
theorem dX7_next_13 : decode cX7_next 13 = .ok (.aload_n 0, 1) := by decide +kernel
theorem dX7_next_14 : decode cX7_next 14 = .ok (.dup, 1) := by decide +kernel
theorem dX7_next_15 : decode cX7_next 15 = .ok (.getfield 86, 3) := by decide +kernel
theorem dX7_next_18 : decode cX7_next 18 = .ok (.iconst 1, 1) := by decide +kernel
theorem dX7_next_19 : decode cX7_next 19 = .ok (.iadd, 1) := by decide +kernel
theorem dX7_next_20 : decode cX7_next 20 = .ok (.putfield 86, 3) := by decide +kernel
theorem dX7_next_23 : decode cX7_next 23 = .ok (.goto (-23), 3) := by decide +kernel
theorem dX7_next_26 : decode cX7_next 26 = .ok (.aload_n 0, 1) := by decide +kernel
theorem dX7_next_27 : decode cX7_next 27 = .ok (.aload_n 0, 1) := by decide +kernel
theorem dX7_next_28 : decode cX7_next 28 = .ok (.getfield 86, 3) := by decide +kernel
theorem dX7_next_31 : decode cX7_next 31 = .ok (.putfield 93, 3) := by decide +kernel
theorem dX7_next_34 : decode cX7_next 34 = .ok (.aload_n 0, 1) := by decide +kernel
theorem dX7_next_35 : decode cX7_next 35 = .ok (.aload_n 0, 1) := by decide +kernel
theorem dX7_next_36 : decode cX7_next 36 = .ok (.getfield 86, 3) := by decide +kernel
theorem dX7_next_39 : decode cX7_next 39 = .ok (.invokevirtual 89, 3) := by decide +kernel
theorem dX7_next_42 : decode cX7_next 42 = .ok (.istore_n 1, 1) := by decide +kernel
theorem dX7_next_43 : decode cX7_next 43 = .ok (.aload_n 0, 1) := by decide +kernel
theorem dX7_next_44 : decode cX7_next 44 = .ok (.iconst 0, 1) := by decide +kernel
theorem dX7_next_45 : decode cX7_next 45 = .ok (.putfield 96, 3) := by decide +kernel
theorem dX7_next_48 : decode cX7_next 48 = .ok (.iload_n 1, 1) := by decide +kernel
theorem dX7_next_49 : decode cX7_next 49 = .ok (.ifCond .ge 11, 3) := by decide +kernel
theorem dX7_next_52 : decode cX7_next 52 = .ok (.aload_n 0, 1) := by decide +kernel
theorem dX7_next_53 : decode cX7_next 53 = .ok (.iconst 0, 1) := by decide +kernel
theorem dX7_next_54 : decode cX7_next 54 = .ok (.putfield 99, 3) := by decide +kernel
theorem dX7_next_57 : decode cX7_next 57 = .ok (.goto 210, 3) := by decide +kernel
theorem dX7_next_60 : decode cX7_next 60 = .ok (.iload_n 1, 1) := by decide +kernel
theorem dX7_next_61 : decode cX7_next 61 = .ok (.invokestatic 102, 3) := by decide +kernel
theorem dX7_next_64 : decode cX7_next 64 = .ok (.ifCond .eq 60, 3) := by decide +kernel
theorem dX7_next_67 : decode cX7_next 67 = .ok (.aload_n 0, 1) := by decide +kernel
theorem dX7_next_68 : decode cX7_next 68 = .ok (.iconst 1, 1) := by decide +kernel
theorem dX7_next_69 : decode cX7_next 69 = .ok (.putfield 99, 3) := by decide +kernel
theorem dX7_next_72 : decode cX7_next 72 = .ok (.aload_n 0, 1) := by decide +kernel
theorem dX7_next_73 : decode cX7_next 73 = .ok (.aload_n 0, 1) := by decide +kernel
theorem dX7_next_74 : decode cX7_next 74 = .ok (.getfield 86, 3) := by decide +kernel
theorem dX7_next_77 : decode cX7_next 77 = .ok (.invokevirtual 89, 3) := by decide +kernel
theorem dX7_next_80 : decode cX7_next 80 = .ok (.invokestatic 102, 3) := by decide +kernel
theorem dX7_next_83 : decode cX7_next 83 = .ok (.ifCond .eq 16, 3) := by decide +kernel
theorem dX7_next_86 : decode cX7_next 86 = .ok (.aload_n 0, 1) := by decide +kernel
theorem dX7_next_87 : decode cX7_next 87 = .ok (.dup, 1) := by decide +kernel
theorem dX7_next_88 : decode cX7_next 88 = .ok (.getfield 86, 3) := by decide +kernel
theorem dX7_next_91 : decode cX7_next 91 = .ok (.iconst 1, 1) := by decide +kernel
theorem dX7_next_92 : decode cX7_next 92 = .ok (.iadd, 1) := by decide +kernel
theorem dX7_next_93 : decode cX7_next 93 = .ok (.putfield 86, 3) := by decide +kernel
theorem dX7_next_96 : decode cX7_next 96 = .ok (.goto (-24), 3) := by decide +kernel
theorem dX7_next_99 : decode cX7_next 99 = .ok (.aload_n 0, 1) := by decide +kernel
theorem dX7_next_100 : decode cX7_next 100 = .ok (.aload_n 0, 1) := by decide +kernel
theorem dX7_next_101 : decode cX7_next 101 = .ok (.getfield 86, 3) := by decide +kernel
theorem dX7_next_104 : decode cX7_next 104 = .ok (.aload_n 0, 1) := by decide +kernel
theorem dX7_next_105 : decode cX7_next 105 = .ok (.getfield 93, 3) := by decide +kernel
theorem dX7_next_108 : decode cX7_next 108 = .ok (.isub, 1) := by decide +kernel
theorem dX7_next_109 : decode cX7_next 109 = .ok (.iconst 1, 1) := by decide +kernel
theorem dX7_next_110 : decode cX7_next 110 = .ok (.if_icmp .ne 7, 3) := by decide +kernel
theorem dX7_next_113 : decode cX7_next 113 = .ok (.iload_n 1, 1) := by decide +kernel
theorem dX7_next_114 : decode cX7_next 114 = .ok (.goto 4, 3) := by decide +kernel
theorem dX7_next_117 : decode cX7_next 117 = .ok (.iconst 0, 1) := by decide +kernel
theorem dX7_next_118 : decode cX7_next 118 = .ok (.putfield 96, 3) := by decide +kernel
theorem dX7_next_121 : decode cX7_next 121 = .ok (.goto 146, 3) := by decide +kernel
theorem dX7_next_124 : decode cX7_next 124 = .ok (.iload_n 1, 1) := by decide +kernel
theorem dX7_next_125 : decode cX7_next 125 = .ok (.invokestatic 105, 3) := by decide +kernel
theorem dX7_next_128 : decode cX7_next 128 = .ok (.ifCond .eq 114, 3) := by decide +kernel
theorem dX7_next_131 : decode cX7_next 131 = .ok (.aload_n 0, 1) := by decide +kernel
theorem dX7_next_132 : decode cX7_next 132 = .ok (.iconst 2, 1) := by decide +kernel
theorem dX7_next_133 : decode cX7_next 133 = .ok (.putfield 99, 3) := by decide +kernel
theorem dX7_next_136 : decode cX7_next 136 = .ok (.aload_n 0, 1) := by decide +kernel
theorem dX7_next_137 : decode cX7_next 137 = .ok (.aload_n 0, 1) := by decide +kernel
theorem dX7_next_138 : decode cX7_next 138 = .ok (.getfield 86, 3) := by decide +kernel
theorem dX7_next_141 : decode cX7_next 141 = .ok (.invokevirtual 89, 3) := by decide +kernel
theorem dX7_next_144 : decode cX7_next 144 = .ok (.invokestatic 105, 3) := by decide +kernel
theorem dX7_next_147 : decode cX7_next 147 = .ok (.ifCond .eq 55, 3) := by decide +kernel
theorem dX7_next_150 : decode cX7_next 150 = .ok (.aload_n 0, 1) := by decide +kernel
theorem dX7_next_151 : decode cX7_next 151 = .ok (.aload_n 0, 1) := by decide +kernel
theorem dX7_next_152 : decode cX7_next 152 = .ok (.getfield 96, 3) := by decide +kernel
theorem dX7_next_155 : decode cX7_next 155 = .ok (.bipush 99, 2) := by decide +kernel
theorem dX7_next_157 : decode cX7_next 157 = .ok (.if_icmp .le 10, 3) := by decide +kernel
theorem dX7_next_160 : decode cX7_next 160 = .ok (.aload_n 0, 1) := by decide +kernel
theorem dX7_next_161 : decode cX7_next 161 = .ok (.getfield 96, 3) := by decide +kernel
theorem dX7_next_164 : decode cX7_next 164 = .ok (.goto 22, 3) := by decide +kernel
theorem dX7_next_167 : decode cX7_next 167 = .ok (.bipush 10, 2) := by decide +kernel
theorem dX7_next_169 : decode cX7_next 169 = .ok (.aload_n 0, 1) := by decide +kernel
theorem dX7_next_170 : decode cX7_next 170 = .ok (.getfield 96, 3) := by decide +kernel
theorem dX7_next_173 : decode cX7_next 173 = .ok (.imul, 1) := by decide +kernel
theorem dX7_next_174 : decode cX7_next 174 = .ok (.aload_n 0, 1) := by decide +kernel
theorem dX7_next_175 : decode cX7_next 175 = .ok (.aload_n 0, 1) := by decide +kernel
theorem dX7_next_176 : decode cX7_next 176 = .ok (.getfield 86, 3) := by decide +kernel
theorem dX7_next_179 : decode cX7_next 179 = .ok (.invokevirtual 89, 3) := by decide +kernel
theorem dX7_next_182 : decode cX7_next 182 = .ok (.iadd, 1) := by decide +kernel
theorem dX7_next_183 : decode cX7_next 183 = .ok (.bipush 48, 2) := by decide +kernel
theorem dX7_next_185 : decode cX7_next 185 = .ok (.isub, 1) := by decide +kernel
theorem dX7_next_186 : decode cX7_next 186 = .ok (.putfield 96, 3) := by decide +kernel
theorem dX7_next_189 : decode cX7_next 189 = .ok (.aload_n 0, 1) := by decide +kernel
theorem dX7_next_190 : decode cX7_next 190 = .ok (.dup, 1) := by decide +kernel
theorem dX7_next_191 : decode cX7_next 191 = .ok (.getfield 86, 3) := by decide +kernel
theorem dX7_next_194 : decode cX7_next 194 = .ok (.iconst 1, 1) := by decide +kernel
theorem dX7_next_195 : decode cX7_next 195 = .ok (.iadd, 1) := by decide +kernel
theorem dX7_next_196 : decode cX7_next 196 = .ok (.putfield 86, 3) := by decide +kernel
theorem dX7_next_199 : decode cX7_next 199 = .ok (.goto (-63), 3) := by decide +kernel
theorem dX7_next_202 : decode cX7_next 202 = .ok (.aload_n 0, 1) := by decide +kernel
theorem dX7_next_203 : decode cX7_next 203 = .ok (.aload_n 0, 1) := by decide +kernel
theorem dX7_next_204 : decode cX7_next 204 = .ok (.getfield 96, 3) := by decide +kernel
theorem dX7_next_207 : decode cX7_next 207 = .ok (.bipush 99, 2) := by decide +kernel
theorem dX7_next_209 : decode cX7_next 209 = .ok (.if_icmp .gt 22, 3) := by decide +kernel
theorem dX7_next_212 : decode cX7_next 212 = .ok (.iload_n 1, 1) := by decide +kernel
theorem dX7_next_213 : decode cX7_next 213 = .ok (.bipush 48, 2) := by decide +kernel
theorem dX7_next_215 : decode cX7_next 215 = .ok (.if_icmp .ne 20, 3) := by decide +kernel
theorem dX7_next_218 : decode cX7_next 218 = .ok (.aload_n 0, 1) := by decide +kernel
theorem dX7_next_219 : decode cX7_next 219 = .ok (.getfield 86, 3) := by decide +kernel
theorem dX7_next_222 : decode cX7_next 222 = .ok (.aload_n 0, 1) := by decide +kernel
theorem dX7_next_223 : decode cX7_next 223 = .ok (.getfield 93, 3) := by decide +kernel
theorem dX7_next_226 : decode cX7_next 226 = .ok (.isub, 1) := by decide +kernel
theorem dX7_next_227 : decode cX7_next 227 = .ok (.iconst 1, 1) := by decide +kernel
theorem dX7_next_228 : decode cX7_next 228 = .ok (.if_icmp .le 7, 3) := by decide +kernel
theorem dX7_next_231 : decode cX7_next 231 = .ok (.iconst 4, 1) := by decide +kernel
theorem dX7_next_232 : decode cX7_next 232 = .ok (.goto 4, 3) := by decide +kernel
theorem dX7_next_235 : decode cX7_next 235 = .ok (.iconst 2, 1) := by decide +kernel
theorem dX7_next_236 : decode cX7_next 236 = .ok (.putfield 99, 3) := by decide +kernel
theorem dX7_next_239 : decode cX7_next 239 = .ok (.goto 28, 3) := by decide +kernel
theorem dX7_next_242 : decode cX7_next 242 = .ok (.aload_n 0, 1) := by decide +kernel
theorem dX7_next_243 : decode cX7_next 243 = .ok (.iload_n 1, 1) := by decide +kernel
theorem dX7_next_244 : decode cX7_next 244 = .ok (.bipush 59, 2) := by decide +kernel
theorem dX7_next_246 : decode cX7_next 246 = .ok (.if_icmp .ne 7, 3) := by decide +kernel
theorem dX7_next_249 : decode cX7_next 249 = .ok (.iconst 3, 1) := by decide +kernel
theorem dX7_next_250 : decode cX7_next 250 = .ok (.goto 4, 3) := by decide +kernel
theorem dX7_next_253 : decode cX7_next 253 = .ok (.iconst 4, 1) := by decide +kernel
theorem dX7_next_254 : decode cX7_next 254 = .ok (.putfield 99, 3) := by decide +kernel
theorem dX7_next_257 : decode cX7_next 257 = .ok (.aload_n 0, 1) := by decide +kernel
theorem dX7_next_258 : decode cX7_next 258 = .ok (.dup, 1) := by decide +kernel
theorem dX7_next_259 : decode cX7_next 259 = .ok (.getfield 86, 3) := by decide +kernel
theorem dX7_next_262 : decode cX7_next 262 = .ok (.iconst 1, 1) := by decide +kernel
theorem dX7_next_263 : decode cX7_next 263 = .ok (.iadd, 1) := by decide +kernel
theorem dX7_next_264 : decode cX7_next 264 = .ok (.putfield 86, 3) := by decide +kernel
theorem dX7_next_267 : decode cX7_next 267 = .ok (.return_, 1) := by decide +kernel
theorem dX7_reads_0 : decode cX7_reads 0 = .ok (.aload_n 0, 1) := by decide +kernel
theorem dX7_reads_1 : decode cX7_reads 1 = .ok (.getfield 108, 3) := by decide +kernel
theorem dX7_reads_4 : decode cX7_reads 4 = .ok (.ifCond .ne 28, 3) := by decide +kernel
theorem dX7_reads_7 : decode cX7_reads 7 = .ok (.aload_n 0, 1) := by decide +kernel
theorem dX7_reads_8 : decode cX7_reads 8 = .ok (.getfield 99, 3) := by decide +kernel
theorem dX7_reads_11 : decode cX7_reads 11 = .ok (.iconst 2, 1) := by decide +kernel
theorem dX7_reads_12 : decode cX7_reads 12 = .ok (.if_icmp .ne 20, 3) := by decide +kernel
theorem dX7_reads_15 : decode cX7_reads 15 = .ok (.aload_n 0, 1) := by decide +kernel
theorem dX7_reads_16 : decode cX7_reads 16 = .ok (.getfield 96, 3) := by decide +kernel
theorem dX7_reads_19 : decode cX7_reads 19 = .ok (.iload_n 3, 1) := by decide +kernel
theorem dX7_reads_20 : decode cX7_reads 20 = .ok (.iload 4, 2) := by decide +kernel
theorem dX7_reads_22 : decode cX7_reads 22 = .ok (.invokestatic 72, 3) := by decide +kernel
theorem dX7_reads_25 : decode cX7_reads 25 = .ok (.ifCond .eq 7, 3) := by decide +kernel
theorem dX7_reads_28 : decode cX7_reads 28 = .ok (.iconst 1, 1) := by decide +kernel
theorem dX7_reads_29 : decode cX7_reads 29 = .ok (.goto 4, 3) := by decide +kernel
theorem dX7_reads_32 : decode cX7_reads 32 = .ok (.iconst 0, 1) := by decide +kernel
theorem dX7_reads_33 : decode cX7_reads 33 = .ok (.istore 5, 2) := by decide +kernel
theorem dX7_reads_35 : decode cX7_reads 35 = .ok (.aload_n 0, 1) := by decide +kernel
theorem dX7_reads_36 : decode cX7_reads 36 = .ok (.iload 5, 2) := by decide +kernel
theorem dX7_reads_38 : decode cX7_reads 38 = .ok (.ifCond .ne 7, 3) := by decide +kernel
theorem dX7_reads_41 : decode cX7_reads 41 = .ok (.iconst 1, 1) := by decide +kernel
theorem dX7_reads_42 : decode cX7_reads 42 = .ok (.goto 4, 3) := by decide +kernel
theorem dX7_reads_45 : decode cX7_reads 45 = .ok (.iconst 0, 1) := by decide +kernel
theorem dX7_reads_46 : decode cX7_reads 46 = .ok (.putfield 108, 3) := by decide +kernel
theorem dX7_reads_49 : decode cX7_reads 49 = .ok (.iload 5, 2) := by decide +kernel
theorem dX7_reads_51 : decode cX7_reads 51 = .ok (.ifCond .eq 14, 3) := by decide +kernel
theorem dX7_reads_54 : decode cX7_reads 54 = .ok (.aload_n 1, 1) := by decide +kernel
theorem dX7_reads_55 : decode cX7_reads 55 = .ok (.iload_n 2, 1) := by decide +kernel
theorem dX7_reads_56 : decode cX7_reads 56 = .ok (.aload_n 0, 1) := by decide +kernel
theorem dX7_reads_57 : decode cX7_reads 57 = .ok (.getfield 96, 3) := by decide +kernel
theorem dX7_reads_60 : decode cX7_reads 60 = .ok (.iastore, 1) := by decide +kernel
theorem dX7_reads_61 : decode cX7_reads 61 = .ok (.aload_n 0, 1) := by decide +kernel
theorem dX7_reads_62 : decode cX7_reads 62 = .ok (.invokevirtual 112, 3) := by decide +kernel
theorem dX7_reads_65 : decode cX7_reads 65 = .ok (.return_, 1) := by decide +kernel
theorem dX7_readWalker_0 : decode cX7_readWalker 0 = .ok (.iconst 2, 1) := by decide +kernel
theorem dX7_readWalker_1 : decode cX7_readWalker 1 = .ok (.aload_n 0, 1) := by decide +kernel
theorem dX7_readWalker_2 : decode cX7_readWalker 2 = .ok (.getfield 115, 3) := by decide +kernel
theorem dX7_readWalker_5 : decode cX7_readWalker 5 = .ok (.imul, 1) := by decide +kernel
theorem dX7_readWalker_6 : decode cX7_readWalker 6 = .ok (.istore_n 1, 1) := by decide +kernel
theorem dX7_readWalker_7 : decode cX7_readWalker 7 = .ok (.aload_n 0, 1) := by decide +kernel
theorem dX7_readWalker_8 : decode cX7_readWalker 8 = .ok (.aload_n 0, 1) := by decide +kernel
theorem dX7_readWalker_9 : decode cX7_readWalker 9 = .ok (.getfield 39, 3) := by decide +kernel
theorem dX7_readWalker_12 : decode cX7_readWalker 12 = .ok (.iload_n 1, 1) := by decide +kernel
theorem dX7_readWalker_13 : decode cX7_readWalker 13 = .ok (.iconst 1, 1) := by decide +kernel
theorem dX7_readWalker_14 : decode cX7_readWalker 14 = .ok (.bipush 9, 2) := by decide +kernel
theorem dX7_readWalker_16 : decode cX7_readWalker 16 = .ok (.invokevirtual 118, 3) := by decide +kernel
theorem dX7_readWalker_19 : decode cX7_readWalker 19 = .ok (.aload_n 0, 1) := by decide +kernel
theorem dX7_readWalker_20 : decode cX7_readWalker 20 = .ok (.aload_n 0, 1) := by decide +kernel
theorem dX7_readWalker_21 : decode cX7_readWalker 21 = .ok (.getfield 39, 3) := by decide +kernel
theorem dX7_readWalker_24 : decode cX7_readWalker 24 = .ok (.iload_n 1, 1) := by decide +kernel
theorem dX7_readWalker_25 : decode cX7_readWalker 25 = .ok (.iconst 1, 1) := by decide +kernel
theorem dX7_readWalker_26 : decode cX7_readWalker 26 = .ok (.iadd, 1) := by decide +kernel
theorem dX7_readWalker_27 : decode cX7_readWalker 27 = .ok (.iconst 1, 1) := by decide +kernel
theorem dX7_readWalker_28 : decode cX7_readWalker 28 = .ok (.bipush 40, 2) := by decide +kernel
theorem dX7_readWalker_30 : decode cX7_readWalker 30 = .ok (.invokevirtual 118, 3) := by decide +kernel
theorem dX7_readWalker_33 : decode cX7_readWalker 33 = .ok (.aload_n 0, 1) := by decide +kernel
theorem dX7_readWalker_34 : decode cX7_readWalker 34 = .ok (.dup, 1) := by decide +kernel
theorem dX7_readWalker_35 : decode cX7_readWalker 35 = .ok (.getfield 115, 3) := by decide +kernel
theorem dX7_readWalker_38 : decode cX7_readWalker 38 = .ok (.iconst 1, 1) := by decide +kernel
theorem dX7_readWalker_39 : decode cX7_readWalker 39 = .ok (.iadd, 1) := by decide +kernel
theorem dX7_readWalker_40 : decode cX7_readWalker 40 = .ok (.putfield 115, 3) := by decide +kernel
theorem dX7_readWalker_43 : decode cX7_readWalker 43 = .ok (.return_, 1) := by decide +kernel
theorem dX7_readStretch_0 : decode cX7_readStretch 0 = .ok (.iconst 4, 1) := by decide +kernel
theorem dX7_readStretch_1 : decode cX7_readStretch 1 = .ok (.aload_n 0, 1) := by decide +kernel
theorem dX7_readStretch_2 : decode cX7_readStretch 2 = .ok (.getfield 122, 3) := by decide +kernel
theorem dX7_readStretch_5 : decode cX7_readStretch 5 = .ok (.imul, 1) := by decide +kernel
theorem dX7_readStretch_6 : decode cX7_readStretch 6 = .ok (.istore_n 1, 1) := by decide +kernel
theorem dX7_readStretch_7 : decode cX7_readStretch 7 = .ok (.aload_n 0, 1) := by decide +kernel
theorem dX7_readStretch_8 : decode cX7_readStretch 8 = .ok (.aload_n 0, 1) := by decide +kernel
theorem dX7_readStretch_9 : decode cX7_readStretch 9 = .ok (.getfield 42, 3) := by decide +kernel
theorem dX7_readStretch_12 : decode cX7_readStretch 12 = .ok (.iload_n 1, 1) := by decide +kernel
theorem dX7_readStretch_13 : decode cX7_readStretch 13 = .ok (.iconst 1, 1) := by decide +kernel
theorem dX7_readStretch_14 : decode cX7_readStretch 14 = .ok (.bipush 9, 2) := by decide +kernel
theorem dX7_readStretch_16 : decode cX7_readStretch 16 = .ok (.invokevirtual 118, 3) := by decide +kernel
theorem dX7_readStretch_19 : decode cX7_readStretch 19 = .ok (.aload_n 0, 1) := by decide +kernel
theorem dX7_readStretch_20 : decode cX7_readStretch 20 = .ok (.aload_n 0, 1) := by decide +kernel
theorem dX7_readStretch_21 : decode cX7_readStretch 21 = .ok (.getfield 42, 3) := by decide +kernel
theorem dX7_readStretch_24 : decode cX7_readStretch 24 = .ok (.iload_n 1, 1) := by decide +kernel
theorem dX7_readStretch_25 : decode cX7_readStretch 25 = .ok (.iconst 1, 1) := by decide +kernel
theorem dX7_readStretch_26 : decode cX7_readStretch 26 = .ok (.iadd, 1) := by decide +kernel
theorem dX7_readStretch_27 : decode cX7_readStretch 27 = .ok (.iconst 2, 1) := by decide +kernel
theorem dX7_readStretch_28 : decode cX7_readStretch 28 = .ok (.bipush 18, 2) := by decide +kernel
theorem dX7_readStretch_30 : decode cX7_readStretch 30 = .ok (.invokevirtual 118, 3) := by decide +kernel
theorem dX7_readStretch_33 : decode cX7_readStretch 33 = .ok (.aload_n 0, 1) := by decide +kernel
theorem dX7_readStretch_34 : decode cX7_readStretch 34 = .ok (.aload_n 0, 1) := by decide +kernel
theorem dX7_readStretch_35 : decode cX7_readStretch 35 = .ok (.getfield 42, 3) := by decide +kernel
theorem dX7_readStretch_38 : decode cX7_readStretch 38 = .ok (.iload_n 1, 1) := by decide +kernel
theorem dX7_readStretch_39 : decode cX7_readStretch 39 = .ok (.iconst 2, 1) := by decide +kernel
theorem dX7_readStretch_40 : decode cX7_readStretch 40 = .ok (.iadd, 1) := by decide +kernel
theorem dX7_readStretch_41 : decode cX7_readStretch 41 = .ok (.iconst 0, 1) := by decide +kernel
theorem dX7_readStretch_42 : decode cX7_readStretch 42 = .ok (.iconst 1, 1) := by decide +kernel
theorem dX7_readStretch_43 : decode cX7_readStretch 43 = .ok (.invokevirtual 118, 3) := by decide +kernel
theorem dX7_readStretch_46 : decode cX7_readStretch 46 = .ok (.aload_n 0, 1) := by decide +kernel
theorem dX7_readStretch_47 : decode cX7_readStretch 47 = .ok (.aload_n 0, 1) := by decide +kernel
theorem dX7_readStretch_48 : decode cX7_readStretch 48 = .ok (.getfield 42, 3) := by decide +kernel
theorem dX7_readStretch_51 : decode cX7_readStretch 51 = .ok (.iload_n 1, 1) := by decide +kernel
theorem dX7_readStretch_52 : decode cX7_readStretch 52 = .ok (.iconst 3, 1) := by decide +kernel
theorem dX7_readStretch_53 : decode cX7_readStretch 53 = .ok (.iadd, 1) := by decide +kernel
theorem dX7_readStretch_54 : decode cX7_readStretch 54 = .ok (.iconst 0, 1) := by decide +kernel
theorem dX7_readStretch_55 : decode cX7_readStretch 55 = .ok (.iconst 1, 1) := by decide +kernel
theorem dX7_readStretch_56 : decode cX7_readStretch 56 = .ok (.invokevirtual 118, 3) := by decide +kernel
theorem dX7_readStretch_59 : decode cX7_readStretch 59 = .ok (.aload_n 0, 1) := by decide +kernel
theorem dX7_readStretch_60 : decode cX7_readStretch 60 = .ok (.dup, 1) := by decide +kernel
theorem dX7_readStretch_61 : decode cX7_readStretch 61 = .ok (.getfield 122, 3) := by decide +kernel
theorem dX7_readStretch_64 : decode cX7_readStretch 64 = .ok (.iconst 1, 1) := by decide +kernel
theorem dX7_readStretch_65 : decode cX7_readStretch 65 = .ok (.iadd, 1) := by decide +kernel
theorem dX7_readStretch_66 : decode cX7_readStretch 66 = .ok (.putfield 122, 3) := by decide +kernel
theorem dX7_readStretch_69 : decode cX7_readStretch 69 = .ok (.return_, 1) := by decide +kernel
theorem dX7_readItem_0 : decode cX7_readItem 0 = .ok (.aload_n 0, 1) := by decide +kernel
theorem dX7_readItem_1 : decode cX7_readItem 1 = .ok (.getfield 99, 3) := by decide +kernel
theorem dX7_readItem_4 : decode cX7_readItem 4 = .ok (.iconst 1, 1) := by decide +kernel
theorem dX7_readItem_5 : decode cX7_readItem 5 = .ok (.if_icmp .ne 10, 3) := by decide +kernel
theorem dX7_readItem_8 : decode cX7_readItem 8 = .ok (.aload_n 0, 1) := by decide +kernel
theorem dX7_readItem_9 : decode cX7_readItem 9 = .ok (.getfield 96, 3) := by decide +kernel
theorem dX7_readItem_12 : decode cX7_readItem 12 = .ok (.goto 4, 3) := by decide +kernel
theorem dX7_readItem_15 : decode cX7_readItem 15 = .ok (.iconst 0, 1) := by decide +kernel
theorem dX7_readItem_16 : decode cX7_readItem 16 = .ok (.istore_n 1, 1) := by decide +kernel
theorem dX7_readItem_17 : decode cX7_readItem 17 = .ok (.iload_n 1, 1) := by decide +kernel
theorem dX7_readItem_18 : decode cX7_readItem 18 = .ok (.bipush 119, 2) := by decide +kernel
theorem dX7_readItem_20 : decode cX7_readItem 20 = .ok (.if_icmp .ne 11, 3) := by decide +kernel
theorem dX7_readItem_23 : decode cX7_readItem 23 = .ok (.aload_n 0, 1) := by decide +kernel
theorem dX7_readItem_24 : decode cX7_readItem 24 = .ok (.getfield 115, 3) := by decide +kernel
theorem dX7_readItem_27 : decode cX7_readItem 27 = .ok (.iconst 4, 1) := by decide +kernel
theorem dX7_readItem_28 : decode cX7_readItem 28 = .ok (.if_icmp .lt 48, 3) := by decide +kernel
theorem dX7_readItem_31 : decode cX7_readItem 31 = .ok (.iload_n 1, 1) := by decide +kernel
theorem dX7_readItem_32 : decode cX7_readItem 32 = .ok (.bipush 116, 2) := by decide +kernel
theorem dX7_readItem_34 : decode cX7_readItem 34 = .ok (.if_icmp .ne 12, 3) := by decide +kernel
theorem dX7_readItem_37 : decode cX7_readItem 37 = .ok (.aload_n 0, 1) := by decide +kernel
theorem dX7_readItem_38 : decode cX7_readItem 38 = .ok (.getfield 122, 3) := by decide +kernel
theorem dX7_readItem_41 : decode cX7_readItem 41 = .ok (.bipush 6, 2) := by decide +kernel
theorem dX7_readItem_43 : decode cX7_readItem 43 = .ok (.if_icmp .lt 33, 3) := by decide +kernel
theorem dX7_readItem_46 : decode cX7_readItem 46 = .ok (.iload_n 1, 1) := by decide +kernel
theorem dX7_readItem_47 : decode cX7_readItem 47 = .ok (.bipush 99, 2) := by decide +kernel
theorem dX7_readItem_49 : decode cX7_readItem 49 = .ok (.if_icmp .ne 12, 3) := by decide +kernel
theorem dX7_readItem_52 : decode cX7_readItem 52 = .ok (.aload_n 0, 1) := by decide +kernel
theorem dX7_readItem_53 : decode cX7_readItem 53 = .ok (.getfield 45, 3) := by decide +kernel
theorem dX7_readItem_56 : decode cX7_readItem 56 = .ok (.iconst 0, 1) := by decide +kernel
theorem dX7_readItem_57 : decode cX7_readItem 57 = .ok (.iaload, 1) := by decide +kernel
theorem dX7_readItem_58 : decode cX7_readItem 58 = .ok (.ifCond .lt 18, 3) := by decide +kernel
theorem dX7_readItem_61 : decode cX7_readItem 61 = .ok (.iload_n 1, 1) := by decide +kernel
theorem dX7_readItem_62 : decode cX7_readItem 62 = .ok (.bipush 104, 2) := by decide +kernel
theorem dX7_readItem_64 : decode cX7_readItem 64 = .ok (.if_icmp .ne 16, 3) := by decide +kernel
theorem dX7_readItem_67 : decode cX7_readItem 67 = .ok (.aload_n 0, 1) := by decide +kernel
theorem dX7_readItem_68 : decode cX7_readItem 68 = .ok (.getfield 45, 3) := by decide +kernel
theorem dX7_readItem_71 : decode cX7_readItem 71 = .ok (.iconst 1, 1) := by decide +kernel
theorem dX7_readItem_72 : decode cX7_readItem 72 = .ok (.iaload, 1) := by decide +kernel
theorem dX7_readItem_73 : decode cX7_readItem 73 = .ok (.ifCond .ge 7, 3) := by decide +kernel
theorem dX7_readItem_76 : decode cX7_readItem 76 = .ok (.iconst 1, 1) := by decide +kernel
theorem dX7_readItem_77 : decode cX7_readItem 77 = .ok (.goto 4, 3) := by decide +kernel
theorem dX7_readItem_80 : decode cX7_readItem 80 = .ok (.iconst 0, 1) := by decide +kernel
theorem dX7_readItem_81 : decode cX7_readItem 81 = .ok (.istore_n 2, 1) := by decide +kernel
theorem dX7_readItem_82 : decode cX7_readItem 82 = .ok (.iload_n 2, 1) := by decide +kernel
theorem dX7_readItem_83 : decode cX7_readItem 83 = .ok (.ifCond .ne 9, 3) := by decide +kernel
theorem dX7_readItem_86 : decode cX7_readItem 86 = .ok (.aload_n 0, 1) := by decide +kernel
theorem dX7_readItem_87 : decode cX7_readItem 87 = .ok (.iconst 1, 1) := by decide +kernel
theorem dX7_readItem_88 : decode cX7_readItem 88 = .ok (.putfield 108, 3) := by decide +kernel
theorem dX7_readItem_91 : decode cX7_readItem 91 = .ok (.return_, 1) := by decide +kernel
theorem dX7_readItem_92 : decode cX7_readItem 92 = .ok (.aload_n 0, 1) := by decide +kernel
theorem dX7_readItem_93 : decode cX7_readItem 93 = .ok (.invokevirtual 112, 3) := by decide +kernel
theorem dX7_readItem_96 : decode cX7_readItem 96 = .ok (.iload_n 1, 1) := by decide +kernel
theorem dX7_readItem_97 : decode cX7_readItem 97 = .ok (.bipush 119, 2) := by decide +kernel
theorem dX7_readItem_99 : decode cX7_readItem 99 = .ok (.if_icmp .ne 10, 3) := by decide +kernel
theorem dX7_readItem_102 : decode cX7_readItem 102 = .ok (.aload_n 0, 1) := by decide +kernel
theorem dX7_readItem_103 : decode cX7_readItem 103 = .ok (.invokevirtual 125, 3) := by decide +kernel
theorem dX7_readItem_106 : decode cX7_readItem 106 = .ok (.goto 50, 3) := by decide +kernel
theorem dX7_readItem_109 : decode cX7_readItem 109 = .ok (.iload_n 1, 1) := by decide +kernel
theorem dX7_readItem_110 : decode cX7_readItem 110 = .ok (.bipush 116, 2) := by decide +kernel
theorem dX7_readItem_112 : decode cX7_readItem 112 = .ok (.if_icmp .ne 10, 3) := by decide +kernel
theorem dX7_readItem_115 : decode cX7_readItem 115 = .ok (.aload_n 0, 1) := by decide +kernel
theorem dX7_readItem_116 : decode cX7_readItem 116 = .ok (.invokevirtual 128, 3) := by decide +kernel
theorem dX7_readItem_119 : decode cX7_readItem 119 = .ok (.goto 37, 3) := by decide +kernel
theorem dX7_readItem_122 : decode cX7_readItem 122 = .ok (.iload_n 1, 1) := by decide +kernel
theorem dX7_readItem_123 : decode cX7_readItem 123 = .ok (.bipush 99, 2) := by decide +kernel
theorem dX7_readItem_125 : decode cX7_readItem 125 = .ok (.if_icmp .ne 18, 3) := by decide +kernel
theorem dX7_readItem_128 : decode cX7_readItem 128 = .ok (.aload_n 0, 1) := by decide +kernel
theorem dX7_readItem_129 : decode cX7_readItem 129 = .ok (.aload_n 0, 1) := by decide +kernel
theorem dX7_readItem_130 : decode cX7_readItem 130 = .ok (.getfield 45, 3) := by decide +kernel
theorem dX7_readItem_133 : decode cX7_readItem 133 = .ok (.iconst 0, 1) := by decide +kernel
theorem dX7_readItem_134 : decode cX7_readItem 134 = .ok (.iconst 0, 1) := by decide +kernel
theorem dX7_readItem_135 : decode cX7_readItem 135 = .ok (.bipush 9, 2) := by decide +kernel
theorem dX7_readItem_137 : decode cX7_readItem 137 = .ok (.invokevirtual 118, 3) := by decide +kernel
theorem dX7_readItem_140 : decode cX7_readItem 140 = .ok (.goto 16, 3) := by decide +kernel
theorem dX7_readItem_143 : decode cX7_readItem 143 = .ok (.aload_n 0, 1) := by decide +kernel
theorem dX7_readItem_144 : decode cX7_readItem 144 = .ok (.aload_n 0, 1) := by decide +kernel
theorem dX7_readItem_145 : decode cX7_readItem 145 = .ok (.getfield 45, 3) := by decide +kernel
theorem dX7_readItem_148 : decode cX7_readItem 148 = .ok (.iconst 1, 1) := by decide +kernel
theorem dX7_readItem_149 : decode cX7_readItem 149 = .ok (.bipush 10, 2) := by decide +kernel
theorem dX7_readItem_151 : decode cX7_readItem 151 = .ok (.bipush 99, 2) := by decide +kernel
theorem dX7_readItem_153 : decode cX7_readItem 153 = .ok (.invokevirtual 118, 3) := by decide +kernel
theorem dX7_readItem_156 : decode cX7_readItem 156 = .ok (.aload_n 0, 1) := by decide +kernel
theorem dX7_readItem_157 : decode cX7_readItem 157 = .ok (.aload_n 0, 1) := by decide +kernel
theorem dX7_readItem_158 : decode cX7_readItem 158 = .ok (.getfield 108, 3) := by decide +kernel
theorem dX7_readItem_161 : decode cX7_readItem 161 = .ok (.ifCond .ne 11, 3) := by decide +kernel
theorem dX7_readItem_164 : decode cX7_readItem 164 = .ok (.aload_n 0, 1) := by decide +kernel
theorem dX7_readItem_165 : decode cX7_readItem 165 = .ok (.getfield 99, 3) := by decide +kernel
theorem dX7_readItem_168 : decode cX7_readItem 168 = .ok (.iconst 3, 1) := by decide +kernel
theorem dX7_readItem_169 : decode cX7_readItem 169 = .ok (.if_icmp .eq 7, 3) := by decide +kernel
theorem dX7_readItem_172 : decode cX7_readItem 172 = .ok (.iconst 1, 1) := by decide +kernel
theorem dX7_readItem_173 : decode cX7_readItem 173 = .ok (.goto 4, 3) := by decide +kernel
theorem dX7_readItem_176 : decode cX7_readItem 176 = .ok (.iconst 0, 1) := by decide +kernel
theorem dX7_readItem_177 : decode cX7_readItem 177 = .ok (.putfield 108, 3) := by decide +kernel
theorem dX7_readItem_180 : decode cX7_readItem 180 = .ok (.aload_n 0, 1) := by decide +kernel
theorem dX7_readItem_181 : decode cX7_readItem 181 = .ok (.getfield 108, 3) := by decide +kernel
theorem dX7_readItem_184 : decode cX7_readItem 184 = .ok (.ifCond .ne 7, 3) := by decide +kernel
theorem dX7_readItem_187 : decode cX7_readItem 187 = .ok (.aload_n 0, 1) := by decide +kernel
theorem dX7_readItem_188 : decode cX7_readItem 188 = .ok (.invokevirtual 112, 3) := by decide +kernel
theorem dX7_readItem_191 : decode cX7_readItem 191 = .ok (.return_, 1) := by decide +kernel
theorem dX7_tunnel_0 : decode cX7_tunnel 0 = .ok (.aload_n 0, 1) := by decide +kernel
theorem dX7_tunnel_1 : decode cX7_tunnel 1 = .ok (.iconst 0, 1) := by decide +kernel
theorem dX7_tunnel_2 : decode cX7_tunnel 2 = .ok (.putfield 86, 3) := by decide +kernel
theorem dX7_tunnel_5 : decode cX7_tunnel 5 = .ok (.aload_n 0, 1) := by decide +kernel
theorem dX7_tunnel_6 : decode cX7_tunnel 6 = .ok (.iconst 0, 1) := by decide +kernel
theorem dX7_tunnel_7 : decode cX7_tunnel 7 = .ok (.putfield 108, 3) := by decide +kernel
theorem dX7_tunnel_10 : decode cX7_tunnel 10 = .ok (.aload_n 0, 1) := by decide +kernel
theorem dX7_tunnel_11 : decode cX7_tunnel 11 = .ok (.iconst 0, 1) := by decide +kernel
theorem dX7_tunnel_12 : decode cX7_tunnel 12 = .ok (.putfield 115, 3) := by decide +kernel
theorem dX7_tunnel_15 : decode cX7_tunnel 15 = .ok (.aload_n 0, 1) := by decide +kernel
theorem dX7_tunnel_16 : decode cX7_tunnel 16 = .ok (.iconst 0, 1) := by decide +kernel
theorem dX7_tunnel_17 : decode cX7_tunnel 17 = .ok (.putfield 122, 3) := by decide +kernel
theorem dX7_tunnel_20 : decode cX7_tunnel 20 = .ok (.aload_n 0, 1) := by decide +kernel
theorem dX7_tunnel_21 : decode cX7_tunnel 21 = .ok (.getfield 45, 3) := by decide +kernel
theorem dX7_tunnel_24 : decode cX7_tunnel 24 = .ok (.iconst 0, 1) := by decide +kernel
theorem dX7_tunnel_25 : decode cX7_tunnel 25 = .ok (.iconst (-1), 1) := by decide +kernel
theorem dX7_tunnel_26 : decode cX7_tunnel 26 = .ok (.iastore, 1) := by decide +kernel
theorem dX7_tunnel_27 : decode cX7_tunnel 27 = .ok (.aload_n 0, 1) := by decide +kernel
theorem dX7_tunnel_28 : decode cX7_tunnel 28 = .ok (.getfield 45, 3) := by decide +kernel
theorem dX7_tunnel_31 : decode cX7_tunnel 31 = .ok (.iconst 1, 1) := by decide +kernel
theorem dX7_tunnel_32 : decode cX7_tunnel 32 = .ok (.iconst (-1), 1) := by decide +kernel
theorem dX7_tunnel_33 : decode cX7_tunnel 33 = .ok (.iastore, 1) := by decide +kernel
theorem dX7_tunnel_34 : decode cX7_tunnel 34 = .ok (.iconst 0, 1) := by decide +kernel
theorem dX7_tunnel_35 : decode cX7_tunnel 35 = .ok (.istore_n 1, 1) := by decide +kernel
theorem dX7_tunnel_36 : decode cX7_tunnel 36 = .ok (.aload_n 0, 1) := by decide +kernel
theorem dX7_tunnel_37 : decode cX7_tunnel 37 = .ok (.invokevirtual 112, 3) := by decide +kernel
theorem dX7_tunnel_40 : decode cX7_tunnel 40 = .ok (.aload_n 0, 1) := by decide +kernel
theorem dX7_tunnel_41 : decode cX7_tunnel 41 = .ok (.getfield 99, 3) := by decide +kernel
theorem dX7_tunnel_44 : decode cX7_tunnel 44 = .ok (.ifCond .eq 20, 3) := by decide +kernel
theorem dX7_tunnel_47 : decode cX7_tunnel 47 = .ok (.aload_n 0, 1) := by decide +kernel
theorem dX7_tunnel_48 : decode cX7_tunnel 48 = .ok (.getfield 108, 3) := by decide +kernel
theorem dX7_tunnel_51 : decode cX7_tunnel 51 = .ok (.ifCond .ne 13, 3) := by decide +kernel
theorem dX7_tunnel_54 : decode cX7_tunnel 54 = .ok (.aload_n 0, 1) := by decide +kernel
theorem dX7_tunnel_55 : decode cX7_tunnel 55 = .ok (.invokevirtual 131, 3) := by decide +kernel
theorem dX7_tunnel_58 : decode cX7_tunnel 58 = .ok (.iinc 1 1, 3) := by decide +kernel
theorem dX7_tunnel_61 : decode cX7_tunnel 61 = .ok (.goto (-21), 3) := by decide +kernel
theorem dX7_tunnel_64 : decode cX7_tunnel 64 = .ok (.aload_n 0, 1) := by decide +kernel
theorem dX7_tunnel_65 : decode cX7_tunnel 65 = .ok (.getfield 108, 3) := by decide +kernel
theorem dX7_tunnel_68 : decode cX7_tunnel 68 = .ok (.ifCond .eq 11, 3) := by decide +kernel
theorem dX7_tunnel_71 : decode cX7_tunnel 71 = .ok (.bipush (-10), 2) := by decide +kernel
theorem dX7_tunnel_73 : decode cX7_tunnel 73 = .ok (.aload_n 0, 1) := by decide +kernel
theorem dX7_tunnel_74 : decode cX7_tunnel 74 = .ok (.getfield 93, 3) := by decide +kernel
theorem dX7_tunnel_77 : decode cX7_tunnel 77 = .ok (.isub, 1) := by decide +kernel
theorem dX7_tunnel_78 : decode cX7_tunnel 78 = .ok (.ireturn, 1) := by decide +kernel
theorem dX7_tunnel_79 : decode cX7_tunnel 79 = .ok (.aload_n 0, 1) := by decide +kernel
theorem dX7_tunnel_80 : decode cX7_tunnel 80 = .ok (.aload_n 0, 1) := by decide +kernel
theorem dX7_tunnel_81 : decode cX7_tunnel 81 = .ok (.getfield 115, 3) := by decide +kernel
theorem dX7_tunnel_84 : decode cX7_tunnel 84 = .ok (.putfield 69, 3) := by decide +kernel
theorem dX7_tunnel_87 : decode cX7_tunnel 87 = .ok (.aload_n 0, 1) := by decide +kernel
theorem dX7_tunnel_88 : decode cX7_tunnel 88 = .ok (.aload_n 0, 1) := by decide +kernel
theorem dX7_tunnel_89 : decode cX7_tunnel 89 = .ok (.getfield 122, 3) := by decide +kernel
theorem dX7_tunnel_92 : decode cX7_tunnel 92 = .ok (.putfield 76, 3) := by decide +kernel
theorem dX7_tunnel_95 : decode cX7_tunnel 95 = .ok (.aload_n 0, 1) := by decide +kernel
theorem dX7_tunnel_96 : decode cX7_tunnel 96 = .ok (.aload_n 0, 1) := by decide +kernel
theorem dX7_tunnel_97 : decode cX7_tunnel 97 = .ok (.getfield 45, 3) := by decide +kernel
theorem dX7_tunnel_100 : decode cX7_tunnel 100 = .ok (.iconst 0, 1) := by decide +kernel
theorem dX7_tunnel_101 : decode cX7_tunnel 101 = .ok (.iaload, 1) := by decide +kernel
theorem dX7_tunnel_102 : decode cX7_tunnel 102 = .ok (.ifCond .ge 7, 3) := by decide +kernel
theorem dX7_tunnel_105 : decode cX7_tunnel 105 = .ok (.iconst 1, 1) := by decide +kernel
theorem dX7_tunnel_106 : decode cX7_tunnel 106 = .ok (.goto 9, 3) := by decide +kernel
theorem dX7_tunnel_109 : decode cX7_tunnel 109 = .ok (.aload_n 0, 1) := by decide +kernel
theorem dX7_tunnel_110 : decode cX7_tunnel 110 = .ok (.getfield 45, 3) := by decide +kernel
theorem dX7_tunnel_113 : decode cX7_tunnel 113 = .ok (.iconst 0, 1) := by decide +kernel
theorem dX7_tunnel_114 : decode cX7_tunnel 114 = .ok (.iaload, 1) := by decide +kernel
theorem dX7_tunnel_115 : decode cX7_tunnel 115 = .ok (.putfield 16, 3) := by decide +kernel
theorem dX7_tunnel_118 : decode cX7_tunnel 118 = .ok (.aload_n 0, 1) := by decide +kernel
theorem dX7_tunnel_119 : decode cX7_tunnel 119 = .ok (.aload_n 0, 1) := by decide +kernel
theorem dX7_tunnel_120 : decode cX7_tunnel 120 = .ok (.getfield 45, 3) := by decide +kernel
theorem dX7_tunnel_123 : decode cX7_tunnel 123 = .ok (.iconst 1, 1) := by decide +kernel
theorem dX7_tunnel_124 : decode cX7_tunnel 124 = .ok (.iaload, 1) := by decide +kernel
theorem dX7_tunnel_125 : decode cX7_tunnel 125 = .ok (.ifCond .ge 7, 3) := by decide +kernel
theorem dX7_tunnel_128 : decode cX7_tunnel 128 = .ok (.iconst 0, 1) := by decide +kernel
theorem dX7_tunnel_129 : decode cX7_tunnel 129 = .ok (.goto 9, 3) := by decide +kernel
theorem dX7_tunnel_132 : decode cX7_tunnel 132 = .ok (.aload_n 0, 1) := by decide +kernel
theorem dX7_tunnel_133 : decode cX7_tunnel 133 = .ok (.getfield 45, 3) := by decide +kernel
theorem dX7_tunnel_136 : decode cX7_tunnel 136 = .ok (.iconst 1, 1) := by decide +kernel
theorem dX7_tunnel_137 : decode cX7_tunnel 137 = .ok (.iaload, 1) := by decide +kernel
theorem dX7_tunnel_138 : decode cX7_tunnel 138 = .ok (.putfield 134, 3) := by decide +kernel
theorem dX7_tunnel_141 : decode cX7_tunnel 141 = .ok (.iconst 0, 1) := by decide +kernel
theorem dX7_tunnel_142 : decode cX7_tunnel 142 = .ok (.istore_n 2, 1) := by decide +kernel
theorem dX7_tunnel_143 : decode cX7_tunnel 143 = .ok (.iload_n 2, 1) := by decide +kernel
theorem dX7_tunnel_144 : decode cX7_tunnel 144 = .ok (.bipush 8, 2) := by decide +kernel
theorem dX7_tunnel_146 : decode cX7_tunnel 146 = .ok (.if_icmp .ge 21, 3) := by decide +kernel
theorem dX7_tunnel_149 : decode cX7_tunnel 149 = .ok (.aload_n 0, 1) := by decide +kernel
theorem dX7_tunnel_150 : decode cX7_tunnel 150 = .ok (.getfield 7, 3) := by decide +kernel
theorem dX7_tunnel_153 : decode cX7_tunnel 153 = .ok (.iload_n 2, 1) := by decide +kernel
theorem dX7_tunnel_154 : decode cX7_tunnel 154 = .ok (.aload_n 0, 1) := by decide +kernel
theorem dX7_tunnel_155 : decode cX7_tunnel 155 = .ok (.getfield 39, 3) := by decide +kernel
theorem dX7_tunnel_158 : decode cX7_tunnel 158 = .ok (.iload_n 2, 1) := by decide +kernel
theorem dX7_tunnel_159 : decode cX7_tunnel 159 = .ok (.iaload, 1) := by decide +kernel
theorem dX7_tunnel_160 : decode cX7_tunnel 160 = .ok (.iastore, 1) := by decide +kernel
theorem dX7_tunnel_161 : decode cX7_tunnel 161 = .ok (.iinc 2 1, 3) := by decide +kernel
theorem dX7_tunnel_164 : decode cX7_tunnel 164 = .ok (.goto (-21), 3) := by decide +kernel
theorem dX7_tunnel_167 : decode cX7_tunnel 167 = .ok (.iconst 0, 1) := by decide +kernel
theorem dX7_tunnel_168 : decode cX7_tunnel 168 = .ok (.istore_n 2, 1) := by decide +kernel
theorem dX7_tunnel_169 : decode cX7_tunnel 169 = .ok (.iload_n 2, 1) := by decide +kernel
theorem dX7_tunnel_170 : decode cX7_tunnel 170 = .ok (.bipush 24, 2) := by decide +kernel
theorem dX7_tunnel_172 : decode cX7_tunnel 172 = .ok (.if_icmp .ge 21, 3) := by decide +kernel
theorem dX7_tunnel_175 : decode cX7_tunnel 175 = .ok (.aload_n 0, 1) := by decide +kernel
theorem dX7_tunnel_176 : decode cX7_tunnel 176 = .ok (.getfield 13, 3) := by decide +kernel
theorem dX7_tunnel_179 : decode cX7_tunnel 179 = .ok (.iload_n 2, 1) := by decide +kernel
theorem dX7_tunnel_180 : decode cX7_tunnel 180 = .ok (.aload_n 0, 1) := by decide +kernel
theorem dX7_tunnel_181 : decode cX7_tunnel 181 = .ok (.getfield 42, 3) := by decide +kernel
theorem dX7_tunnel_184 : decode cX7_tunnel 184 = .ok (.iload_n 2, 1) := by decide +kernel
theorem dX7_tunnel_185 : decode cX7_tunnel 185 = .ok (.iaload, 1) := by decide +kernel
theorem dX7_tunnel_186 : decode cX7_tunnel 186 = .ok (.iastore, 1) := by decide +kernel
theorem dX7_tunnel_187 : decode cX7_tunnel 187 = .ok (.iinc 2 1, 3) := by decide +kernel
theorem dX7_tunnel_190 : decode cX7_tunnel 190 = .ok (.goto (-21), 3) := by decide +kernel
theorem dX7_tunnel_193 : decode cX7_tunnel 193 = .ok (.aload_n 0, 1) := by decide +kernel
theorem dX7_tunnel_194 : decode cX7_tunnel 194 = .ok (.invokevirtual 66, 3) := by decide +kernel
theorem dX7_tunnel_197 : decode cX7_tunnel 197 = .ok (.aload_n 0, 1) := by decide +kernel
theorem dX7_tunnel_198 : decode cX7_tunnel 198 = .ok (.iconst 0, 1) := by decide +kernel
theorem dX7_tunnel_199 : decode cX7_tunnel 199 = .ok (.putfield 137, 3) := by decide +kernel
theorem dX7_tunnel_202 : decode cX7_tunnel 202 = .ok (.aload_n 0, 1) := by decide +kernel
theorem dX7_tunnel_203 : decode cX7_tunnel 203 = .ok (.iconst 0, 1) := by decide +kernel
theorem dX7_tunnel_204 : decode cX7_tunnel 204 = .ok (.putfield 140, 3) := by decide +kernel
theorem dX7_tunnel_207 : decode cX7_tunnel 207 = .ok (.aload_n 0, 1) := by decide +kernel
theorem dX7_tunnel_208 : decode cX7_tunnel 208 = .ok (.getfield 29, 3) := by decide +kernel
theorem dX7_tunnel_211 : decode cX7_tunnel 211 = .ok (.iconst 0, 1) := by decide +kernel
theorem dX7_tunnel_212 : decode cX7_tunnel 212 = .ok (.iconst 0, 1) := by decide +kernel
theorem dX7_tunnel_213 : decode cX7_tunnel 213 = .ok (.bastore, 1) := by decide +kernel
theorem dX7_tunnel_214 : decode cX7_tunnel 214 = .ok (.aload_n 0, 1) := by decide +kernel
theorem dX7_tunnel_215 : decode cX7_tunnel 215 = .ok (.getfield 29, 3) := by decide +kernel
theorem dX7_tunnel_218 : decode cX7_tunnel 218 = .ok (.iconst 1, 1) := by decide +kernel
theorem dX7_tunnel_219 : decode cX7_tunnel 219 = .ok (.iconst 0, 1) := by decide +kernel
theorem dX7_tunnel_220 : decode cX7_tunnel 220 = .ok (.bastore, 1) := by decide +kernel
theorem dX7_tunnel_221 : decode cX7_tunnel 221 = .ok (.aload_n 0, 1) := by decide +kernel
theorem dX7_tunnel_222 : decode cX7_tunnel 222 = .ok (.iconst 0, 1) := by decide +kernel
theorem dX7_tunnel_223 : decode cX7_tunnel 223 = .ok (.putfield 83, 3) := by decide +kernel
theorem dX7_tunnel_226 : decode cX7_tunnel 226 = .ok (.iload_n 1, 1) := by decide +kernel
theorem dX7_tunnel_227 : decode cX7_tunnel 227 = .ok (.ireturn, 1) := by decide +kernel
theorem dX7_isWorn_0 : decode cX7_isWorn 0 = .ok (.aload_n 0, 1) := by decide +kernel
theorem dX7_isWorn_1 : decode cX7_isWorn 1 = .ok (.getfield 48, 3) := by decide +kernel
theorem dX7_isWorn_4 : decode cX7_isWorn 4 = .ok (.iconst 4, 1) := by decide +kernel
theorem dX7_isWorn_5 : decode cX7_isWorn 5 = .ok (.iload_n 2, 1) := by decide +kernel
theorem dX7_isWorn_6 : decode cX7_isWorn 6 = .ok (.imul, 1) := by decide +kernel
theorem dX7_isWorn_7 : decode cX7_isWorn 7 = .ok (.iload_n 1, 1) := by decide +kernel
theorem dX7_isWorn_8 : decode cX7_isWorn 8 = .ok (.iadd, 1) := by decide +kernel
theorem dX7_isWorn_9 : decode cX7_isWorn 9 = .ok (.iaload, 1) := by decide +kernel
theorem dX7_isWorn_10 : decode cX7_isWorn 10 = .ok (.aload_n 0, 1) := by decide +kernel
theorem dX7_isWorn_11 : decode cX7_isWorn 11 = .ok (.getfield 7, 3) := by decide +kernel
theorem dX7_isWorn_14 : decode cX7_isWorn 14 = .ok (.iconst 2, 1) := by decide +kernel
theorem dX7_isWorn_15 : decode cX7_isWorn 15 = .ok (.iload_n 1, 1) := by decide +kernel
theorem dX7_isWorn_16 : decode cX7_isWorn 16 = .ok (.imul, 1) := by decide +kernel
theorem dX7_isWorn_17 : decode cX7_isWorn 17 = .ok (.iconst 1, 1) := by decide +kernel
theorem dX7_isWorn_18 : decode cX7_isWorn 18 = .ok (.iadd, 1) := by decide +kernel
theorem dX7_isWorn_19 : decode cX7_isWorn 19 = .ok (.iaload, 1) := by decide +kernel
theorem dX7_isWorn_20 : decode cX7_isWorn 20 = .ok (.if_icmp .le 7, 3) := by decide +kernel
theorem dX7_isWorn_23 : decode cX7_isWorn 23 = .ok (.iconst 1, 1) := by decide +kernel
theorem dX7_isWorn_24 : decode cX7_isWorn 24 = .ok (.goto 4, 3) := by decide +kernel
theorem dX7_isWorn_27 : decode cX7_isWorn 27 = .ok (.iconst 0, 1) := by decide +kernel
theorem dX7_isWorn_28 : decode cX7_isWorn 28 = .ok (.ireturn, 1) := by decide +kernel
theorem dX7_fromNow_0 : decode cX7_fromNow 0 = .ok (.iconst 0, 1) := by decide +kernel
theorem dX7_fromNow_1 : decode cX7_fromNow 1 = .ok (.istore_n 1, 1) := by decide +kernel
theorem dX7_fromNow_2 : decode cX7_fromNow 2 = .ok (.iload_n 1, 1) := by decide +kernel
theorem dX7_fromNow_3 : decode cX7_fromNow 3 = .ok (.iconst 4, 1) := by decide +kernel
theorem dX7_fromNow_4 : decode cX7_fromNow 4 = .ok (.if_icmp .ge 23, 3) := by decide +kernel
theorem dX7_fromNow_7 : decode cX7_fromNow 7 = .ok (.aload_n 0, 1) := by decide +kernel
theorem dX7_fromNow_8 : decode cX7_fromNow 8 = .ok (.getfield 48, 3) := by decide +kernel
theorem dX7_fromNow_11 : decode cX7_fromNow 11 = .ok (.iload_n 1, 1) := by decide +kernel
theorem dX7_fromNow_12 : decode cX7_fromNow 12 = .ok (.aload_n 0, 1) := by decide +kernel
theorem dX7_fromNow_13 : decode cX7_fromNow 13 = .ok (.getfield 20, 3) := by decide +kernel
theorem dX7_fromNow_16 : decode cX7_fromNow 16 = .ok (.iconst 3, 1) := by decide +kernel
theorem dX7_fromNow_17 : decode cX7_fromNow 17 = .ok (.iload_n 1, 1) := by decide +kernel
theorem dX7_fromNow_18 : decode cX7_fromNow 18 = .ok (.iadd, 1) := by decide +kernel
theorem dX7_fromNow_19 : decode cX7_fromNow 19 = .ok (.iaload, 1) := by decide +kernel
theorem dX7_fromNow_20 : decode cX7_fromNow 20 = .ok (.iastore, 1) := by decide +kernel
theorem dX7_fromNow_21 : decode cX7_fromNow 21 = .ok (.iinc 1 1, 3) := by decide +kernel
theorem dX7_fromNow_24 : decode cX7_fromNow 24 = .ok (.goto (-22), 3) := by decide +kernel
theorem dX7_fromNow_27 : decode cX7_fromNow 27 = .ok (.aload_n 0, 1) := by decide +kernel
theorem dX7_fromNow_28 : decode cX7_fromNow 28 = .ok (.getfield 51, 3) := by decide +kernel
theorem dX7_fromNow_31 : decode cX7_fromNow 31 = .ok (.iconst 0, 1) := by decide +kernel
theorem dX7_fromNow_32 : decode cX7_fromNow 32 = .ok (.iconst 0, 1) := by decide +kernel
theorem dX7_fromNow_33 : decode cX7_fromNow 33 = .ok (.iastore, 1) := by decide +kernel
theorem dX7_fromNow_34 : decode cX7_fromNow 34 = .ok (.aload_n 0, 1) := by decide +kernel
theorem dX7_fromNow_35 : decode cX7_fromNow 35 = .ok (.getfield 54, 3) := by decide +kernel
theorem dX7_fromNow_38 : decode cX7_fromNow 38 = .ok (.iconst 0, 1) := by decide +kernel
theorem dX7_fromNow_39 : decode cX7_fromNow 39 = .ok (.aload_n 0, 1) := by decide +kernel
theorem dX7_fromNow_40 : decode cX7_fromNow 40 = .ok (.getfield 20, 3) := by decide +kernel
theorem dX7_fromNow_43 : decode cX7_fromNow 43 = .ok (.iconst 2, 1) := by decide +kernel
theorem dX7_fromNow_44 : decode cX7_fromNow 44 = .ok (.iaload, 1) := by decide +kernel
theorem dX7_fromNow_45 : decode cX7_fromNow 45 = .ok (.iastore, 1) := by decide +kernel
theorem dX7_fromNow_46 : decode cX7_fromNow 46 = .ok (.return_, 1) := by decide +kernel
theorem dX7_takesAt_0 : decode cX7_takesAt 0 = .ok (.iload_n 2, 1) := by decide +kernel
theorem dX7_takesAt_1 : decode cX7_takesAt 1 = .ok (.bipush 10, 2) := by decide +kernel
theorem dX7_takesAt_3 : decode cX7_takesAt 3 = .ok (.idiv, 1) := by decide +kernel
theorem dX7_takesAt_4 : decode cX7_takesAt 4 = .ok (.istore 4, 2) := by decide +kernel
theorem dX7_takesAt_6 : decode cX7_takesAt 6 = .ok (.iload_n 2, 1) := by decide +kernel
theorem dX7_takesAt_7 : decode cX7_takesAt 7 = .ok (.bipush 10, 2) := by decide +kernel
theorem dX7_takesAt_9 : decode cX7_takesAt 9 = .ok (.irem, 1) := by decide +kernel
theorem dX7_takesAt_10 : decode cX7_takesAt 10 = .ok (.istore 5, 2) := by decide +kernel
theorem dX7_takesAt_12 : decode cX7_takesAt 12 = .ok (.aload_n 0, 1) := by decide +kernel
theorem dX7_takesAt_13 : decode cX7_takesAt 13 = .ok (.getfield 7, 3) := by decide +kernel
theorem dX7_takesAt_16 : decode cX7_takesAt 16 = .ok (.iconst 2, 1) := by decide +kernel
theorem dX7_takesAt_17 : decode cX7_takesAt 17 = .ok (.iload 4, 2) := by decide +kernel
theorem dX7_takesAt_19 : decode cX7_takesAt 19 = .ok (.imul, 1) := by decide +kernel
theorem dX7_takesAt_20 : decode cX7_takesAt 20 = .ok (.iaload, 1) := by decide +kernel
theorem dX7_takesAt_21 : decode cX7_takesAt 21 = .ok (.aload_n 0, 1) := by decide +kernel
theorem dX7_takesAt_22 : decode cX7_takesAt 22 = .ok (.getfield 7, 3) := by decide +kernel
theorem dX7_takesAt_25 : decode cX7_takesAt 25 = .ok (.iconst 2, 1) := by decide +kernel
theorem dX7_takesAt_26 : decode cX7_takesAt 26 = .ok (.iload 5, 2) := by decide +kernel
theorem dX7_takesAt_28 : decode cX7_takesAt 28 = .ok (.imul, 1) := by decide +kernel
theorem dX7_takesAt_29 : decode cX7_takesAt 29 = .ok (.iaload, 1) := by decide +kernel
theorem dX7_takesAt_30 : decode cX7_takesAt 30 = .ok (.iadd, 1) := by decide +kernel
theorem dX7_takesAt_31 : decode cX7_takesAt 31 = .ok (.istore 6, 2) := by decide +kernel
theorem dX7_takesAt_33 : decode cX7_takesAt 33 = .ok (.aload_n 0, 1) := by decide +kernel
theorem dX7_takesAt_34 : decode cX7_takesAt 34 = .ok (.getfield 13, 3) := by decide +kernel
theorem dX7_takesAt_37 : decode cX7_takesAt 37 = .ok (.iconst 4, 1) := by decide +kernel
theorem dX7_takesAt_38 : decode cX7_takesAt 38 = .ok (.iload_n 1, 1) := by decide +kernel
theorem dX7_takesAt_39 : decode cX7_takesAt 39 = .ok (.imul, 1) := by decide +kernel
theorem dX7_takesAt_40 : decode cX7_takesAt 40 = .ok (.iconst 1, 1) := by decide +kernel
theorem dX7_takesAt_41 : decode cX7_takesAt 41 = .ok (.iadd, 1) := by decide +kernel
theorem dX7_takesAt_42 : decode cX7_takesAt 42 = .ok (.iaload, 1) := by decide +kernel
theorem dX7_takesAt_43 : decode cX7_takesAt 43 = .ok (.istore 7, 2) := by decide +kernel
theorem dX7_takesAt_45 : decode cX7_takesAt 45 = .ok (.iconst 4, 1) := by decide +kernel
theorem dX7_takesAt_46 : decode cX7_takesAt 46 = .ok (.aload_n 0, 1) := by decide +kernel
theorem dX7_takesAt_47 : decode cX7_takesAt 47 = .ok (.getfield 13, 3) := by decide +kernel
theorem dX7_takesAt_50 : decode cX7_takesAt 50 = .ok (.iconst 4, 1) := by decide +kernel
theorem dX7_takesAt_51 : decode cX7_takesAt 51 = .ok (.iload_n 1, 1) := by decide +kernel
theorem dX7_takesAt_52 : decode cX7_takesAt 52 = .ok (.imul, 1) := by decide +kernel
theorem dX7_takesAt_53 : decode cX7_takesAt 53 = .ok (.iconst 2, 1) := by decide +kernel
theorem dX7_takesAt_54 : decode cX7_takesAt 54 = .ok (.iadd, 1) := by decide +kernel
theorem dX7_takesAt_55 : decode cX7_takesAt 55 = .ok (.iaload, 1) := by decide +kernel
theorem dX7_takesAt_56 : decode cX7_takesAt 56 = .ok (.iadd, 1) := by decide +kernel
theorem dX7_takesAt_57 : decode cX7_takesAt 57 = .ok (.iload 7, 2) := by decide +kernel
theorem dX7_takesAt_59 : decode cX7_takesAt 59 = .ok (.iload 6, 2) := by decide +kernel
theorem dX7_takesAt_61 : decode cX7_takesAt 61 = .ok (.if_icmp .le 7, 3) := by decide +kernel
theorem dX7_takesAt_64 : decode cX7_takesAt 64 = .ok (.iconst 2, 1) := by decide +kernel
theorem dX7_takesAt_65 : decode cX7_takesAt 65 = .ok (.goto 4, 3) := by decide +kernel
theorem dX7_takesAt_68 : decode cX7_takesAt 68 = .ok (.iconst 0, 1) := by decide +kernel
theorem dX7_takesAt_69 : decode cX7_takesAt 69 = .ok (.iadd, 1) := by decide +kernel
theorem dX7_takesAt_70 : decode cX7_takesAt 70 = .ok (.iload 7, 2) := by decide +kernel
theorem dX7_takesAt_72 : decode cX7_takesAt 72 = .ok (.iload 6, 2) := by decide +kernel
theorem dX7_takesAt_74 : decode cX7_takesAt 74 = .ok (.iconst 4, 1) := by decide +kernel
theorem dX7_takesAt_75 : decode cX7_takesAt 75 = .ok (.isub, 1) := by decide +kernel
theorem dX7_takesAt_76 : decode cX7_takesAt 76 = .ok (.if_icmp .ge 7, 3) := by decide +kernel
theorem dX7_takesAt_79 : decode cX7_takesAt 79 = .ok (.iconst 1, 1) := by decide +kernel
theorem dX7_takesAt_80 : decode cX7_takesAt 80 = .ok (.goto 4, 3) := by decide +kernel
theorem dX7_takesAt_83 : decode cX7_takesAt 83 = .ok (.iconst 0, 1) := by decide +kernel
theorem dX7_takesAt_84 : decode cX7_takesAt 84 = .ok (.iadd, 1) := by decide +kernel
theorem dX7_takesAt_85 : decode cX7_takesAt 85 = .ok (.istore 8, 2) := by decide +kernel
theorem dX7_takesAt_87 : decode cX7_takesAt 87 = .ok (.iload 8, 2) := by decide +kernel
theorem dX7_takesAt_89 : decode cX7_takesAt 89 = .ok (.aload_n 0, 1) := by decide +kernel
theorem dX7_takesAt_90 : decode cX7_takesAt 90 = .ok (.iload 4, 2) := by decide +kernel
theorem dX7_takesAt_92 : decode cX7_takesAt 92 = .ok (.iload_n 3, 1) := by decide +kernel
theorem dX7_takesAt_93 : decode cX7_takesAt 93 = .ok (.invokevirtual 143, 3) := by decide +kernel
theorem dX7_takesAt_96 : decode cX7_takesAt 96 = .ok (.ifCond .eq 7, 3) := by decide +kernel
theorem dX7_takesAt_99 : decode cX7_takesAt 99 = .ok (.iconst 3, 1) := by decide +kernel
theorem dX7_takesAt_100 : decode cX7_takesAt 100 = .ok (.goto 4, 3) := by decide +kernel
theorem dX7_takesAt_103 : decode cX7_takesAt 103 = .ok (.iconst 0, 1) := by decide +kernel
theorem dX7_takesAt_104 : decode cX7_takesAt 104 = .ok (.aload_n 0, 1) := by decide +kernel
theorem dX7_takesAt_105 : decode cX7_takesAt 105 = .ok (.iload 5, 2) := by decide +kernel
theorem dX7_takesAt_107 : decode cX7_takesAt 107 = .ok (.iload_n 3, 1) := by decide +kernel
theorem dX7_takesAt_108 : decode cX7_takesAt 108 = .ok (.invokevirtual 143, 3) := by decide +kernel
theorem dX7_takesAt_111 : decode cX7_takesAt 111 = .ok (.ifCond .eq 7, 3) := by decide +kernel
theorem dX7_takesAt_114 : decode cX7_takesAt 114 = .ok (.iconst 3, 1) := by decide +kernel
theorem dX7_takesAt_115 : decode cX7_takesAt 115 = .ok (.goto 4, 3) := by decide +kernel
theorem dX7_takesAt_118 : decode cX7_takesAt 118 = .ok (.iconst 0, 1) := by decide +kernel
theorem dX7_takesAt_119 : decode cX7_takesAt 119 = .ok (.iadd, 1) := by decide +kernel
theorem dX7_takesAt_120 : decode cX7_takesAt 120 = .ok (.iadd, 1) := by decide +kernel
theorem dX7_takesAt_121 : decode cX7_takesAt 121 = .ok (.istore 8, 2) := by decide +kernel
theorem dX7_takesAt_123 : decode cX7_takesAt 123 = .ok (.iload 8, 2) := by decide +kernel
theorem dX7_takesAt_125 : decode cX7_takesAt 125 = .ok (.aload_n 0, 1) := by decide +kernel
theorem dX7_takesAt_126 : decode cX7_takesAt 126 = .ok (.getfield 13, 3) := by decide +kernel
theorem dX7_takesAt_129 : decode cX7_takesAt 129 = .ok (.iconst 4, 1) := by decide +kernel
theorem dX7_takesAt_130 : decode cX7_takesAt 130 = .ok (.iload_n 1, 1) := by decide +kernel
theorem dX7_takesAt_131 : decode cX7_takesAt 131 = .ok (.imul, 1) := by decide +kernel
theorem dX7_takesAt_132 : decode cX7_takesAt 132 = .ok (.iaload, 1) := by decide +kernel
theorem dX7_takesAt_133 : decode cX7_takesAt 133 = .ok (.imul, 1) := by decide +kernel
theorem dX7_takesAt_134 : decode cX7_takesAt 134 = .ok (.ireturn, 1) := by decide +kernel
theorem dX7_tires_0 : decode cX7_tires 0 = .ok (.iconst 0, 1) := by decide +kernel
theorem dX7_tires_1 : decode cX7_tires 1 = .ok (.istore 4, 2) := by decide +kernel
theorem dX7_tires_3 : decode cX7_tires 3 = .ok (.iload 4, 2) := by decide +kernel
theorem dX7_tires_5 : decode cX7_tires 5 = .ok (.iconst 4, 1) := by decide +kernel
theorem dX7_tires_6 : decode cX7_tires 6 = .ok (.if_icmp .ge 99, 3) := by decide +kernel
theorem dX7_tires_9 : decode cX7_tires 9 = .ok (.iload_n 2, 1) := by decide +kernel
theorem dX7_tires_10 : decode cX7_tires 10 = .ok (.ifCond .lt 25, 3) := by decide +kernel
theorem dX7_tires_13 : decode cX7_tires 13 = .ok (.iload 4, 2) := by decide +kernel
theorem dX7_tires_15 : decode cX7_tires 15 = .ok (.iload_n 2, 1) := by decide +kernel
theorem dX7_tires_16 : decode cX7_tires 16 = .ok (.bipush 10, 2) := by decide +kernel
theorem dX7_tires_18 : decode cX7_tires 18 = .ok (.idiv, 1) := by decide +kernel
theorem dX7_tires_19 : decode cX7_tires 19 = .ok (.if_icmp .eq 12, 3) := by decide +kernel
theorem dX7_tires_22 : decode cX7_tires 22 = .ok (.iload 4, 2) := by decide +kernel
theorem dX7_tires_24 : decode cX7_tires 24 = .ok (.iload_n 2, 1) := by decide +kernel
theorem dX7_tires_25 : decode cX7_tires 25 = .ok (.bipush 10, 2) := by decide +kernel
theorem dX7_tires_27 : decode cX7_tires 27 = .ok (.irem, 1) := by decide +kernel
theorem dX7_tires_28 : decode cX7_tires 28 = .ok (.if_icmp .ne 7, 3) := by decide +kernel
theorem dX7_tires_31 : decode cX7_tires 31 = .ok (.iconst 1, 1) := by decide +kernel
theorem dX7_tires_32 : decode cX7_tires 32 = .ok (.goto 4, 3) := by decide +kernel
theorem dX7_tires_35 : decode cX7_tires 35 = .ok (.iconst 0, 1) := by decide +kernel
theorem dX7_tires_36 : decode cX7_tires 36 = .ok (.istore 5, 2) := by decide +kernel
theorem dX7_tires_38 : decode cX7_tires 38 = .ok (.aload_n 0, 1) := by decide +kernel
theorem dX7_tires_39 : decode cX7_tires 39 = .ok (.getfield 48, 3) := by decide +kernel
theorem dX7_tires_42 : decode cX7_tires 42 = .ok (.iconst 4, 1) := by decide +kernel
theorem dX7_tires_43 : decode cX7_tires 43 = .ok (.iload_n 1, 1) := by decide +kernel
theorem dX7_tires_44 : decode cX7_tires 44 = .ok (.imul, 1) := by decide +kernel
theorem dX7_tires_45 : decode cX7_tires 45 = .ok (.iload 4, 2) := by decide +kernel
theorem dX7_tires_47 : decode cX7_tires 47 = .ok (.iadd, 1) := by decide +kernel
theorem dX7_tires_48 : decode cX7_tires 48 = .ok (.iaload, 1) := by decide +kernel
theorem dX7_tires_49 : decode cX7_tires 49 = .ok (.iload 5, 2) := by decide +kernel
theorem dX7_tires_51 : decode cX7_tires 51 = .ok (.ifCond .eq 7, 3) := by decide +kernel
theorem dX7_tires_54 : decode cX7_tires 54 = .ok (.iload_n 3, 1) := by decide +kernel
theorem dX7_tires_55 : decode cX7_tires 55 = .ok (.goto 5, 3) := by decide +kernel
theorem dX7_tires_58 : decode cX7_tires 58 = .ok (.iload_n 3, 1) := by decide +kernel
theorem dX7_tires_59 : decode cX7_tires 59 = .ok (.ineg, 1) := by decide +kernel
theorem dX7_tires_60 : decode cX7_tires 60 = .ok (.iadd, 1) := by decide +kernel
theorem dX7_tires_61 : decode cX7_tires 61 = .ok (.istore 6, 2) := by decide +kernel
theorem dX7_tires_63 : decode cX7_tires 63 = .ok (.aload_n 0, 1) := by decide +kernel
theorem dX7_tires_64 : decode cX7_tires 64 = .ok (.getfield 48, 3) := by decide +kernel
theorem dX7_tires_67 : decode cX7_tires 67 = .ok (.iconst 4, 1) := by decide +kernel
theorem dX7_tires_68 : decode cX7_tires 68 = .ok (.iload_n 1, 1) := by decide +kernel
theorem dX7_tires_69 : decode cX7_tires 69 = .ok (.imul, 1) := by decide +kernel
theorem dX7_tires_70 : decode cX7_tires 70 = .ok (.iconst 4, 1) := by decide +kernel
theorem dX7_tires_71 : decode cX7_tires 71 = .ok (.iadd, 1) := by decide +kernel
theorem dX7_tires_72 : decode cX7_tires 72 = .ok (.iload 4, 2) := by decide +kernel
theorem dX7_tires_74 : decode cX7_tires 74 = .ok (.iadd, 1) := by decide +kernel
theorem dX7_tires_75 : decode cX7_tires 75 = .ok (.iload 6, 2) := by decide +kernel
theorem dX7_tires_77 : decode cX7_tires 77 = .ok (.ifCond .ge 7, 3) := by decide +kernel
theorem dX7_tires_80 : decode cX7_tires 80 = .ok (.iconst 0, 1) := by decide +kernel
theorem dX7_tires_81 : decode cX7_tires 81 = .ok (.goto 17, 3) := by decide +kernel
theorem dX7_tires_84 : decode cX7_tires 84 = .ok (.iload 6, 2) := by decide +kernel
theorem dX7_tires_86 : decode cX7_tires 86 = .ok (.bipush 99, 2) := by decide +kernel
theorem dX7_tires_88 : decode cX7_tires 88 = .ok (.if_icmp .le 8, 3) := by decide +kernel
theorem dX7_tires_91 : decode cX7_tires 91 = .ok (.bipush 99, 2) := by decide +kernel
theorem dX7_tires_93 : decode cX7_tires 93 = .ok (.goto 5, 3) := by decide +kernel
theorem dX7_tires_96 : decode cX7_tires 96 = .ok (.iload 6, 2) := by decide +kernel
theorem dX7_tires_98 : decode cX7_tires 98 = .ok (.iastore, 1) := by decide +kernel
theorem dX7_tires_99 : decode cX7_tires 99 = .ok (.iinc 4 1, 3) := by decide +kernel
theorem dX7_tires_102 : decode cX7_tires 102 = .ok (.goto (-99), 3) := by decide +kernel
theorem dX7_tires_105 : decode cX7_tires 105 = .ok (.return_, 1) := by decide +kernel
theorem dX7_walksOn_0 : decode cX7_walksOn 0 = .ok (.aload_n 0, 1) := by decide +kernel
theorem dX7_walksOn_1 : decode cX7_walksOn 1 = .ok (.getfield 54, 3) := by decide +kernel
theorem dX7_walksOn_4 : decode cX7_walksOn 4 = .ok (.iload_n 1, 1) := by decide +kernel
theorem dX7_walksOn_5 : decode cX7_walksOn 5 = .ok (.iaload, 1) := by decide +kernel
theorem dX7_walksOn_6 : decode cX7_walksOn 6 = .ok (.bipush (-9), 2) := by decide +kernel
theorem dX7_walksOn_8 : decode cX7_walksOn 8 = .ok (.if_icmp .eq 17, 3) := by decide +kernel
theorem dX7_walksOn_11 : decode cX7_walksOn 11 = .ok (.aload_n 0, 1) := by decide +kernel
theorem dX7_walksOn_12 : decode cX7_walksOn 12 = .ok (.getfield 54, 3) := by decide +kernel
theorem dX7_walksOn_15 : decode cX7_walksOn 15 = .ok (.iload_n 1, 1) := by decide +kernel
theorem dX7_walksOn_16 : decode cX7_walksOn 16 = .ok (.iaload, 1) := by decide +kernel
theorem dX7_walksOn_17 : decode cX7_walksOn 17 = .ok (.iload_n 3, 1) := by decide +kernel
theorem dX7_walksOn_18 : decode cX7_walksOn 18 = .ok (.if_icmp .eq 7, 3) := by decide +kernel
theorem dX7_walksOn_21 : decode cX7_walksOn 21 = .ok (.iconst 1, 1) := by decide +kernel
theorem dX7_walksOn_22 : decode cX7_walksOn 22 = .ok (.goto 4, 3) := by decide +kernel
theorem dX7_walksOn_25 : decode cX7_walksOn 25 = .ok (.iconst 0, 1) := by decide +kernel
theorem dX7_walksOn_26 : decode cX7_walksOn 26 = .ok (.istore 4, 2) := by decide +kernel
theorem dX7_walksOn_28 : decode cX7_walksOn 28 = .ok (.aload_n 0, 1) := by decide +kernel
theorem dX7_walksOn_29 : decode cX7_walksOn 29 = .ok (.getfield 51, 3) := by decide +kernel
theorem dX7_walksOn_32 : decode cX7_walksOn 32 = .ok (.iload_n 1, 1) := by decide +kernel
theorem dX7_walksOn_33 : decode cX7_walksOn 33 = .ok (.iconst 1, 1) := by decide +kernel
theorem dX7_walksOn_34 : decode cX7_walksOn 34 = .ok (.iadd, 1) := by decide +kernel
theorem dX7_walksOn_35 : decode cX7_walksOn 35 = .ok (.aload_n 0, 1) := by decide +kernel
theorem dX7_walksOn_36 : decode cX7_walksOn 36 = .ok (.getfield 51, 3) := by decide +kernel
theorem dX7_walksOn_39 : decode cX7_walksOn 39 = .ok (.iload_n 1, 1) := by decide +kernel
theorem dX7_walksOn_40 : decode cX7_walksOn 40 = .ok (.iaload, 1) := by decide +kernel
theorem dX7_walksOn_41 : decode cX7_walksOn 41 = .ok (.iload 4, 2) := by decide +kernel
theorem dX7_walksOn_43 : decode cX7_walksOn 43 = .ok (.ifCond .eq 10, 3) := by decide +kernel
theorem dX7_walksOn_46 : decode cX7_walksOn 46 = .ok (.aload_n 0, 1) := by decide +kernel
theorem dX7_walksOn_47 : decode cX7_walksOn 47 = .ok (.getfield 16, 3) := by decide +kernel
theorem dX7_walksOn_50 : decode cX7_walksOn 50 = .ok (.goto 4, 3) := by decide +kernel
theorem dX7_walksOn_53 : decode cX7_walksOn 53 = .ok (.iconst 0, 1) := by decide +kernel
theorem dX7_walksOn_54 : decode cX7_walksOn 54 = .ok (.iadd, 1) := by decide +kernel
theorem dX7_walksOn_55 : decode cX7_walksOn 55 = .ok (.aload_n 0, 1) := by decide +kernel
theorem dX7_walksOn_56 : decode cX7_walksOn 56 = .ok (.iload_n 2, 1) := by decide +kernel
theorem dX7_walksOn_57 : decode cX7_walksOn 57 = .ok (.iload_n 3, 1) := by decide +kernel
theorem dX7_walksOn_58 : decode cX7_walksOn 58 = .ok (.iload_n 1, 1) := by decide +kernel
theorem dX7_walksOn_59 : decode cX7_walksOn 59 = .ok (.invokevirtual 147, 3) := by decide +kernel
theorem dX7_walksOn_62 : decode cX7_walksOn 62 = .ok (.iadd, 1) := by decide +kernel
theorem dX7_walksOn_63 : decode cX7_walksOn 63 = .ok (.iastore, 1) := by decide +kernel
theorem dX7_walksOn_64 : decode cX7_walksOn 64 = .ok (.aload_n 0, 1) := by decide +kernel
theorem dX7_walksOn_65 : decode cX7_walksOn 65 = .ok (.iload_n 1, 1) := by decide +kernel
theorem dX7_walksOn_66 : decode cX7_walksOn 66 = .ok (.iload_n 3, 1) := by decide +kernel
theorem dX7_walksOn_67 : decode cX7_walksOn 67 = .ok (.aload_n 0, 1) := by decide +kernel
theorem dX7_walksOn_68 : decode cX7_walksOn 68 = .ok (.getfield 13, 3) := by decide +kernel
theorem dX7_walksOn_71 : decode cX7_walksOn 71 = .ok (.iconst 4, 1) := by decide +kernel
theorem dX7_walksOn_72 : decode cX7_walksOn 72 = .ok (.iload_n 2, 1) := by decide +kernel
theorem dX7_walksOn_73 : decode cX7_walksOn 73 = .ok (.imul, 1) := by decide +kernel
theorem dX7_walksOn_74 : decode cX7_walksOn 74 = .ok (.iaload, 1) := by decide +kernel
theorem dX7_walksOn_75 : decode cX7_walksOn 75 = .ok (.invokevirtual 151, 3) := by decide +kernel
theorem dX7_walksOn_78 : decode cX7_walksOn 78 = .ok (.aload_n 0, 1) := by decide +kernel
theorem dX7_walksOn_79 : decode cX7_walksOn 79 = .ok (.getfield 54, 3) := by decide +kernel
theorem dX7_walksOn_82 : decode cX7_walksOn 82 = .ok (.iload_n 1, 1) := by decide +kernel
theorem dX7_walksOn_83 : decode cX7_walksOn 83 = .ok (.iconst 1, 1) := by decide +kernel
theorem dX7_walksOn_84 : decode cX7_walksOn 84 = .ok (.iadd, 1) := by decide +kernel
theorem dX7_walksOn_85 : decode cX7_walksOn 85 = .ok (.iload_n 3, 1) := by decide +kernel
theorem dX7_walksOn_86 : decode cX7_walksOn 86 = .ok (.iastore, 1) := by decide +kernel
theorem dX7_walksOn_87 : decode cX7_walksOn 87 = .ok (.return_, 1) := by decide +kernel
theorem dX7_walksAll_0 : decode cX7_walksAll 0 = .ok (.aload_n 0, 1) := by decide +kernel
theorem dX7_walksAll_1 : decode cX7_walksAll 1 = .ok (.invokevirtual 155, 3) := by decide +kernel
theorem dX7_walksAll_4 : decode cX7_walksAll 4 = .ok (.aload_n 0, 1) := by decide +kernel
theorem dX7_walksAll_5 : decode cX7_walksAll 5 = .ok (.getfield 20, 3) := by decide +kernel
theorem dX7_walksAll_8 : decode cX7_walksAll 8 = .ok (.iconst 0, 1) := by decide +kernel
theorem dX7_walksAll_9 : decode cX7_walksAll 9 = .ok (.iaload, 1) := by decide +kernel
theorem dX7_walksAll_10 : decode cX7_walksAll 10 = .ok (.istore_n 2, 1) := by decide +kernel
theorem dX7_walksAll_11 : decode cX7_walksAll 11 = .ok (.iload_n 2, 1) := by decide +kernel
theorem dX7_walksAll_12 : decode cX7_walksAll 12 = .ok (.aload_n 0, 1) := by decide +kernel
theorem dX7_walksAll_13 : decode cX7_walksAll 13 = .ok (.getfield 76, 3) := by decide +kernel
theorem dX7_walksAll_16 : decode cX7_walksAll 16 = .ok (.if_icmp .ge 23, 3) := by decide +kernel
theorem dX7_walksAll_19 : decode cX7_walksAll 19 = .ok (.aload_n 0, 1) := by decide +kernel
theorem dX7_walksAll_20 : decode cX7_walksAll 20 = .ok (.iload_n 2, 1) := by decide +kernel
theorem dX7_walksAll_21 : decode cX7_walksAll 21 = .ok (.aload_n 0, 1) := by decide +kernel
theorem dX7_walksAll_22 : decode cX7_walksAll 22 = .ok (.getfield 20, 3) := by decide +kernel
theorem dX7_walksAll_25 : decode cX7_walksAll 25 = .ok (.iconst 0, 1) := by decide +kernel
theorem dX7_walksAll_26 : decode cX7_walksAll 26 = .ok (.iaload, 1) := by decide +kernel
theorem dX7_walksAll_27 : decode cX7_walksAll 27 = .ok (.isub, 1) := by decide +kernel
theorem dX7_walksAll_28 : decode cX7_walksAll 28 = .ok (.iload_n 2, 1) := by decide +kernel
theorem dX7_walksAll_29 : decode cX7_walksAll 29 = .ok (.iload_n 1, 1) := by decide +kernel
theorem dX7_walksAll_30 : decode cX7_walksAll 30 = .ok (.invokevirtual 158, 3) := by decide +kernel
theorem dX7_walksAll_33 : decode cX7_walksAll 33 = .ok (.iinc 2 1, 3) := by decide +kernel
theorem dX7_walksAll_36 : decode cX7_walksAll 36 = .ok (.goto (-25), 3) := by decide +kernel
theorem dX7_walksAll_39 : decode cX7_walksAll 39 = .ok (.aload_n 0, 1) := by decide +kernel
theorem dX7_walksAll_40 : decode cX7_walksAll 40 = .ok (.getfield 51, 3) := by decide +kernel
theorem dX7_walksAll_43 : decode cX7_walksAll 43 = .ok (.aload_n 0, 1) := by decide +kernel
theorem dX7_walksAll_44 : decode cX7_walksAll 44 = .ok (.getfield 76, 3) := by decide +kernel
theorem dX7_walksAll_47 : decode cX7_walksAll 47 = .ok (.aload_n 0, 1) := by decide +kernel
theorem dX7_walksAll_48 : decode cX7_walksAll 48 = .ok (.getfield 20, 3) := by decide +kernel
theorem dX7_walksAll_51 : decode cX7_walksAll 51 = .ok (.iconst 0, 1) := by decide +kernel
theorem dX7_walksAll_52 : decode cX7_walksAll 52 = .ok (.iaload, 1) := by decide +kernel
theorem dX7_walksAll_53 : decode cX7_walksAll 53 = .ok (.isub, 1) := by decide +kernel
theorem dX7_walksAll_54 : decode cX7_walksAll 54 = .ok (.iaload, 1) := by decide +kernel
theorem dX7_walksAll_55 : decode cX7_walksAll 55 = .ok (.ireturn, 1) := by decide +kernel
theorem dX7_walker_0 : decode cX7_walker 0 = .ok (.aload_n 0, 1) := by decide +kernel
theorem dX7_walker_1 : decode cX7_walker 1 = .ok (.iload_n 1, 1) := by decide +kernel
theorem dX7_walker_2 : decode cX7_walker 2 = .ok (.invokevirtual 79, 3) := by decide +kernel
theorem dX7_walker_5 : decode cX7_walker 5 = .ok (.ifCond .ne 5, 3) := by decide +kernel
theorem dX7_walker_8 : decode cX7_walker 8 = .ok (.iconst (-1), 1) := by decide +kernel
theorem dX7_walker_9 : decode cX7_walker 9 = .ok (.ireturn, 1) := by decide +kernel
theorem dX7_walker_10 : decode cX7_walker 10 = .ok (.iload_n 2, 1) := by decide +kernel
theorem dX7_walker_11 : decode cX7_walker 11 = .ok (.tableswitch 76 0 3 #[29, 29, 40, 49], 29) := by decide +kernel
theorem dX7_walker_40 : decode cX7_walker 40 = .ok (.aload_n 0, 1) := by decide +kernel
theorem dX7_walker_41 : decode cX7_walker 41 = .ok (.getfield 7, 3) := by decide +kernel
theorem dX7_walker_44 : decode cX7_walker 44 = .ok (.iconst 2, 1) := by decide +kernel
theorem dX7_walker_45 : decode cX7_walker 45 = .ok (.iload_n 1, 1) := by decide +kernel
theorem dX7_walker_46 : decode cX7_walker 46 = .ok (.imul, 1) := by decide +kernel
theorem dX7_walker_47 : decode cX7_walker 47 = .ok (.iload_n 2, 1) := by decide +kernel
theorem dX7_walker_48 : decode cX7_walker 48 = .ok (.iadd, 1) := by decide +kernel
theorem dX7_walker_49 : decode cX7_walker 49 = .ok (.iaload, 1) := by decide +kernel
theorem dX7_walker_50 : decode cX7_walker 50 = .ok (.ireturn, 1) := by decide +kernel
theorem dX7_walker_51 : decode cX7_walker 51 = .ok (.aload_n 0, 1) := by decide +kernel
theorem dX7_walker_52 : decode cX7_walker 52 = .ok (.getfield 20, 3) := by decide +kernel
theorem dX7_walker_55 : decode cX7_walker 55 = .ok (.iconst 3, 1) := by decide +kernel
theorem dX7_walker_56 : decode cX7_walker 56 = .ok (.iload_n 1, 1) := by decide +kernel
theorem dX7_walker_57 : decode cX7_walker 57 = .ok (.iadd, 1) := by decide +kernel
theorem dX7_walker_58 : decode cX7_walker 58 = .ok (.iaload, 1) := by decide +kernel
theorem dX7_walker_59 : decode cX7_walker 59 = .ok (.ireturn, 1) := by decide +kernel
theorem dX7_walker_60 : decode cX7_walker 60 = .ok (.aload_n 0, 1) := by decide +kernel
theorem dX7_walker_61 : decode cX7_walker 61 = .ok (.getfield 20, 3) := by decide +kernel
theorem dX7_walker_64 : decode cX7_walker 64 = .ok (.iconst 3, 1) := by decide +kernel
theorem dX7_walker_65 : decode cX7_walker 65 = .ok (.iload_n 1, 1) := by decide +kernel
theorem dX7_walker_66 : decode cX7_walker 66 = .ok (.iadd, 1) := by decide +kernel
theorem dX7_walker_67 : decode cX7_walker 67 = .ok (.iaload, 1) := by decide +kernel
theorem dX7_walker_68 : decode cX7_walker 68 = .ok (.aload_n 0, 1) := by decide +kernel
theorem dX7_walker_69 : decode cX7_walker 69 = .ok (.getfield 7, 3) := by decide +kernel
theorem dX7_walker_72 : decode cX7_walker 72 = .ok (.iconst 2, 1) := by decide +kernel
theorem dX7_walker_73 : decode cX7_walker 73 = .ok (.iload_n 1, 1) := by decide +kernel
theorem dX7_walker_74 : decode cX7_walker 74 = .ok (.imul, 1) := by decide +kernel
theorem dX7_walker_75 : decode cX7_walker 75 = .ok (.iconst 1, 1) := by decide +kernel
theorem dX7_walker_76 : decode cX7_walker 76 = .ok (.iadd, 1) := by decide +kernel
theorem dX7_walker_77 : decode cX7_walker 77 = .ok (.iaload, 1) := by decide +kernel
theorem dX7_walker_78 : decode cX7_walker 78 = .ok (.if_icmp .le 7, 3) := by decide +kernel
theorem dX7_walker_81 : decode cX7_walker 81 = .ok (.iconst 1, 1) := by decide +kernel
theorem dX7_walker_82 : decode cX7_walker 82 = .ok (.goto 4, 3) := by decide +kernel
theorem dX7_walker_85 : decode cX7_walker 85 = .ok (.iconst 0, 1) := by decide +kernel
theorem dX7_walker_86 : decode cX7_walker 86 = .ok (.ireturn, 1) := by decide +kernel
theorem dX7_walker_87 : decode cX7_walker 87 = .ok (.iconst (-1), 1) := by decide +kernel
theorem dX7_walker_88 : decode cX7_walker 88 = .ok (.ireturn, 1) := by decide +kernel
theorem dX7_stretch_0 : decode cX7_stretch 0 = .ok (.aload_n 0, 1) := by decide +kernel
theorem dX7_stretch_1 : decode cX7_stretch 1 = .ok (.iload_n 1, 1) := by decide +kernel
theorem dX7_stretch_2 : decode cX7_stretch 2 = .ok (.invokevirtual 161, 3) := by decide +kernel
theorem dX7_stretch_5 : decode cX7_stretch 5 = .ok (.ifCond .eq 25, 3) := by decide +kernel
theorem dX7_stretch_8 : decode cX7_stretch 8 = .ok (.iload_n 2, 1) := by decide +kernel
theorem dX7_stretch_9 : decode cX7_stretch 9 = .ok (.iconst 0, 1) := by decide +kernel
theorem dX7_stretch_10 : decode cX7_stretch 10 = .ok (.iconst 3, 1) := by decide +kernel
theorem dX7_stretch_11 : decode cX7_stretch 11 = .ok (.invokestatic 72, 3) := by decide +kernel
theorem dX7_stretch_14 : decode cX7_stretch 14 = .ok (.ifCond .eq 16, 3) := by decide +kernel
theorem dX7_stretch_17 : decode cX7_stretch 17 = .ok (.aload_n 0, 1) := by decide +kernel
theorem dX7_stretch_18 : decode cX7_stretch 18 = .ok (.getfield 13, 3) := by decide +kernel
theorem dX7_stretch_21 : decode cX7_stretch 21 = .ok (.iconst 4, 1) := by decide +kernel
theorem dX7_stretch_22 : decode cX7_stretch 22 = .ok (.iload_n 1, 1) := by decide +kernel
theorem dX7_stretch_23 : decode cX7_stretch 23 = .ok (.imul, 1) := by decide +kernel
theorem dX7_stretch_24 : decode cX7_stretch 24 = .ok (.iload_n 2, 1) := by decide +kernel
theorem dX7_stretch_25 : decode cX7_stretch 25 = .ok (.iadd, 1) := by decide +kernel
theorem dX7_stretch_26 : decode cX7_stretch 26 = .ok (.iaload, 1) := by decide +kernel
theorem dX7_stretch_27 : decode cX7_stretch 27 = .ok (.goto 4, 3) := by decide +kernel
theorem dX7_stretch_30 : decode cX7_stretch 30 = .ok (.iconst (-1), 1) := by decide +kernel
theorem dX7_stretch_31 : decode cX7_stretch 31 = .ok (.ireturn, 1) := by decide +kernel
theorem dX7_takes_0 : decode cX7_takes 0 = .ok (.aload_n 0, 1) := by decide +kernel
theorem dX7_takes_1 : decode cX7_takes 1 = .ok (.iload_n 1, 1) := by decide +kernel
theorem dX7_takes_2 : decode cX7_takes 2 = .ok (.invokevirtual 161, 3) := by decide +kernel
theorem dX7_takes_5 : decode cX7_takes 5 = .ok (.ifCond .eq 11, 3) := by decide +kernel
theorem dX7_takes_8 : decode cX7_takes 8 = .ok (.aload_n 0, 1) := by decide +kernel
theorem dX7_takes_9 : decode cX7_takes 9 = .ok (.iload_n 2, 1) := by decide +kernel
theorem dX7_takes_10 : decode cX7_takes 10 = .ok (.invokevirtual 164, 3) := by decide +kernel
theorem dX7_takes_13 : decode cX7_takes 13 = .ok (.ifCond .ne 5, 3) := by decide +kernel
theorem dX7_takes_16 : decode cX7_takes 16 = .ok (.iconst (-1), 1) := by decide +kernel
theorem dX7_takes_17 : decode cX7_takes 17 = .ok (.ireturn, 1) := by decide +kernel
theorem dX7_takes_18 : decode cX7_takes 18 = .ok (.aload_n 0, 1) := by decide +kernel
theorem dX7_takes_19 : decode cX7_takes 19 = .ok (.invokevirtual 155, 3) := by decide +kernel
theorem dX7_takes_22 : decode cX7_takes 22 = .ok (.aload_n 0, 1) := by decide +kernel
theorem dX7_takes_23 : decode cX7_takes 23 = .ok (.iload_n 1, 1) := by decide +kernel
theorem dX7_takes_24 : decode cX7_takes 24 = .ok (.iload_n 2, 1) := by decide +kernel
theorem dX7_takes_25 : decode cX7_takes 25 = .ok (.iconst 0, 1) := by decide +kernel
theorem dX7_takes_26 : decode cX7_takes 26 = .ok (.invokevirtual 147, 3) := by decide +kernel
theorem dX7_takes_29 : decode cX7_takes 29 = .ok (.ireturn, 1) := by decide +kernel
theorem dX7_remembers_0 : decode cX7_remembers 0 = .ok (.aload_n 0, 1) := by decide +kernel
theorem dX7_remembers_1 : decode cX7_remembers 1 = .ok (.getfield 137, 3) := by decide +kernel
theorem dX7_remembers_4 : decode cX7_remembers 4 = .ok (.bipush 10, 2) := by decide +kernel
theorem dX7_remembers_6 : decode cX7_remembers 6 = .ok (.if_icmp .ne 42, 3) := by decide +kernel
theorem dX7_remembers_9 : decode cX7_remembers 9 = .ok (.iconst 0, 1) := by decide +kernel
theorem dX7_remembers_10 : decode cX7_remembers 10 = .ok (.istore_n 1, 1) := by decide +kernel
theorem dX7_remembers_11 : decode cX7_remembers 11 = .ok (.iload_n 1, 1) := by decide +kernel
theorem dX7_remembers_12 : decode cX7_remembers 12 = .ok (.bipush 63, 2) := by decide +kernel
theorem dX7_remembers_14 : decode cX7_remembers 14 = .ok (.if_icmp .ge 24, 3) := by decide +kernel
theorem dX7_remembers_17 : decode cX7_remembers 17 = .ok (.aload_n 0, 1) := by decide +kernel
theorem dX7_remembers_18 : decode cX7_remembers 18 = .ok (.getfield 23, 3) := by decide +kernel
theorem dX7_remembers_21 : decode cX7_remembers 21 = .ok (.iload_n 1, 1) := by decide +kernel
theorem dX7_remembers_22 : decode cX7_remembers 22 = .ok (.aload_n 0, 1) := by decide +kernel
theorem dX7_remembers_23 : decode cX7_remembers 23 = .ok (.getfield 23, 3) := by decide +kernel
theorem dX7_remembers_26 : decode cX7_remembers 26 = .ok (.iload_n 1, 1) := by decide +kernel
theorem dX7_remembers_27 : decode cX7_remembers 27 = .ok (.bipush 7, 2) := by decide +kernel
theorem dX7_remembers_29 : decode cX7_remembers 29 = .ok (.iadd, 1) := by decide +kernel
theorem dX7_remembers_30 : decode cX7_remembers 30 = .ok (.iaload, 1) := by decide +kernel
theorem dX7_remembers_31 : decode cX7_remembers 31 = .ok (.iastore, 1) := by decide +kernel
theorem dX7_remembers_32 : decode cX7_remembers 32 = .ok (.iinc 1 1, 3) := by decide +kernel
theorem dX7_remembers_35 : decode cX7_remembers 35 = .ok (.goto (-24), 3) := by decide +kernel
theorem dX7_remembers_38 : decode cX7_remembers 38 = .ok (.aload_n 0, 1) := by decide +kernel
theorem dX7_remembers_39 : decode cX7_remembers 39 = .ok (.dup, 1) := by decide +kernel
theorem dX7_remembers_40 : decode cX7_remembers 40 = .ok (.getfield 137, 3) := by decide +kernel
theorem dX7_remembers_43 : decode cX7_remembers 43 = .ok (.iconst 1, 1) := by decide +kernel
theorem dX7_remembers_44 : decode cX7_remembers 44 = .ok (.isub, 1) := by decide +kernel
theorem dX7_remembers_45 : decode cX7_remembers 45 = .ok (.putfield 137, 3) := by decide +kernel
theorem dX7_remembers_48 : decode cX7_remembers 48 = .ok (.iconst 0, 1) := by decide +kernel
theorem dX7_remembers_49 : decode cX7_remembers 49 = .ok (.istore_n 1, 1) := by decide +kernel
theorem dX7_remembers_50 : decode cX7_remembers 50 = .ok (.iload_n 1, 1) := by decide +kernel
theorem dX7_remembers_51 : decode cX7_remembers 51 = .ok (.bipush 7, 2) := by decide +kernel
theorem dX7_remembers_53 : decode cX7_remembers 53 = .ok (.if_icmp .ge 29, 3) := by decide +kernel
theorem dX7_remembers_56 : decode cX7_remembers 56 = .ok (.aload_n 0, 1) := by decide +kernel
theorem dX7_remembers_57 : decode cX7_remembers 57 = .ok (.getfield 23, 3) := by decide +kernel
theorem dX7_remembers_60 : decode cX7_remembers 60 = .ok (.bipush 7, 2) := by decide +kernel
theorem dX7_remembers_62 : decode cX7_remembers 62 = .ok (.aload_n 0, 1) := by decide +kernel
theorem dX7_remembers_63 : decode cX7_remembers 63 = .ok (.getfield 137, 3) := by decide +kernel
theorem dX7_remembers_66 : decode cX7_remembers 66 = .ok (.imul, 1) := by decide +kernel
theorem dX7_remembers_67 : decode cX7_remembers 67 = .ok (.iload_n 1, 1) := by decide +kernel
theorem dX7_remembers_68 : decode cX7_remembers 68 = .ok (.iadd, 1) := by decide +kernel
theorem dX7_remembers_69 : decode cX7_remembers 69 = .ok (.aload_n 0, 1) := by decide +kernel
theorem dX7_remembers_70 : decode cX7_remembers 70 = .ok (.getfield 20, 3) := by decide +kernel
theorem dX7_remembers_73 : decode cX7_remembers 73 = .ok (.iload_n 1, 1) := by decide +kernel
theorem dX7_remembers_74 : decode cX7_remembers 74 = .ok (.iaload, 1) := by decide +kernel
theorem dX7_remembers_75 : decode cX7_remembers 75 = .ok (.iastore, 1) := by decide +kernel
theorem dX7_remembers_76 : decode cX7_remembers 76 = .ok (.iinc 1 1, 3) := by decide +kernel
theorem dX7_remembers_79 : decode cX7_remembers 79 = .ok (.goto (-29), 3) := by decide +kernel
theorem dX7_remembers_82 : decode cX7_remembers 82 = .ok (.aload_n 0, 1) := by decide +kernel
theorem dX7_remembers_83 : decode cX7_remembers 83 = .ok (.dup, 1) := by decide +kernel
theorem dX7_remembers_84 : decode cX7_remembers 84 = .ok (.getfield 137, 3) := by decide +kernel
theorem dX7_remembers_87 : decode cX7_remembers 87 = .ok (.iconst 1, 1) := by decide +kernel
theorem dX7_remembers_88 : decode cX7_remembers 88 = .ok (.iadd, 1) := by decide +kernel
theorem dX7_remembers_89 : decode cX7_remembers 89 = .ok (.putfield 137, 3) := by decide +kernel
theorem dX7_remembers_92 : decode cX7_remembers 92 = .ok (.return_, 1) := by decide +kernel
theorem dX7_becomes_0 : decode cX7_becomes 0 = .ok (.aload_n 0, 1) := by decide +kernel
theorem dX7_becomes_1 : decode cX7_becomes 1 = .ok (.invokevirtual 167, 3) := by decide +kernel
theorem dX7_becomes_4 : decode cX7_becomes 4 = .ok (.aload_n 0, 1) := by decide +kernel
theorem dX7_becomes_5 : decode cX7_becomes 5 = .ok (.getfield 20, 3) := by decide +kernel
theorem dX7_becomes_8 : decode cX7_becomes 8 = .ok (.iconst 0, 1) := by decide +kernel
theorem dX7_becomes_9 : decode cX7_becomes 9 = .ok (.iload_n 1, 1) := by decide +kernel
theorem dX7_becomes_10 : decode cX7_becomes 10 = .ok (.iastore, 1) := by decide +kernel
theorem dX7_becomes_11 : decode cX7_becomes 11 = .ok (.aload_n 0, 1) := by decide +kernel
theorem dX7_becomes_12 : decode cX7_becomes 12 = .ok (.getfield 20, 3) := by decide +kernel
theorem dX7_becomes_15 : decode cX7_becomes 15 = .ok (.iconst 1, 1) := by decide +kernel
theorem dX7_becomes_16 : decode cX7_becomes 16 = .ok (.dup2, 1) := by decide +kernel
theorem dX7_becomes_17 : decode cX7_becomes 17 = .ok (.iaload, 1) := by decide +kernel
theorem dX7_becomes_18 : decode cX7_becomes 18 = .ok (.iload_n 3, 1) := by decide +kernel
theorem dX7_becomes_19 : decode cX7_becomes 19 = .ok (.iadd, 1) := by decide +kernel
theorem dX7_becomes_20 : decode cX7_becomes 20 = .ok (.iastore, 1) := by decide +kernel
theorem dX7_becomes_21 : decode cX7_becomes 21 = .ok (.aload_n 0, 1) := by decide +kernel
theorem dX7_becomes_22 : decode cX7_becomes 22 = .ok (.getfield 20, 3) := by decide +kernel
theorem dX7_becomes_25 : decode cX7_becomes 25 = .ok (.iconst 2, 1) := by decide +kernel
theorem dX7_becomes_26 : decode cX7_becomes 26 = .ok (.iload_n 2, 1) := by decide +kernel
theorem dX7_becomes_27 : decode cX7_becomes 27 = .ok (.iastore, 1) := by decide +kernel
theorem dX7_becomes_28 : decode cX7_becomes 28 = .ok (.iconst 0, 1) := by decide +kernel
theorem dX7_becomes_29 : decode cX7_becomes 29 = .ok (.istore 4, 2) := by decide +kernel
theorem dX7_becomes_31 : decode cX7_becomes 31 = .ok (.iload 4, 2) := by decide +kernel
theorem dX7_becomes_33 : decode cX7_becomes 33 = .ok (.iconst 4, 1) := by decide +kernel
theorem dX7_becomes_34 : decode cX7_becomes 34 = .ok (.if_icmp .ge 27, 3) := by decide +kernel
theorem dX7_becomes_37 : decode cX7_becomes 37 = .ok (.aload_n 0, 1) := by decide +kernel
theorem dX7_becomes_38 : decode cX7_becomes 38 = .ok (.getfield 20, 3) := by decide +kernel
theorem dX7_becomes_41 : decode cX7_becomes 41 = .ok (.iconst 3, 1) := by decide +kernel
theorem dX7_becomes_42 : decode cX7_becomes 42 = .ok (.iload 4, 2) := by decide +kernel
theorem dX7_becomes_44 : decode cX7_becomes 44 = .ok (.iadd, 1) := by decide +kernel
theorem dX7_becomes_45 : decode cX7_becomes 45 = .ok (.aload_n 0, 1) := by decide +kernel
theorem dX7_becomes_46 : decode cX7_becomes 46 = .ok (.getfield 48, 3) := by decide +kernel
theorem dX7_becomes_49 : decode cX7_becomes 49 = .ok (.iconst 4, 1) := by decide +kernel
theorem dX7_becomes_50 : decode cX7_becomes 50 = .ok (.iload 4, 2) := by decide +kernel
theorem dX7_becomes_52 : decode cX7_becomes 52 = .ok (.iadd, 1) := by decide +kernel
theorem dX7_becomes_53 : decode cX7_becomes 53 = .ok (.iaload, 1) := by decide +kernel
theorem dX7_becomes_54 : decode cX7_becomes 54 = .ok (.iastore, 1) := by decide +kernel
theorem dX7_becomes_55 : decode cX7_becomes 55 = .ok (.iinc 4 1, 3) := by decide +kernel
theorem dX7_becomes_58 : decode cX7_becomes 58 = .ok (.goto (-27), 3) := by decide +kernel
theorem dX7_becomes_61 : decode cX7_becomes 61 = .ok (.return_, 1) := by decide +kernel
theorem dX7_walks_0 : decode cX7_walks 0 = .ok (.aload_n 0, 1) := by decide +kernel
theorem dX7_walks_1 : decode cX7_walks 1 = .ok (.iload_n 1, 1) := by decide +kernel
theorem dX7_walks_2 : decode cX7_walks 2 = .ok (.invokevirtual 164, 3) := by decide +kernel
theorem dX7_walks_5 : decode cX7_walks 5 = .ok (.ifCond .ne 5, 3) := by decide +kernel
theorem dX7_walks_8 : decode cX7_walks 8 = .ok (.iconst (-1), 1) := by decide +kernel
theorem dX7_walks_9 : decode cX7_walks 9 = .ok (.ireturn, 1) := by decide +kernel
theorem dX7_walks_10 : decode cX7_walks 10 = .ok (.aload_n 0, 1) := by decide +kernel
theorem dX7_walks_11 : decode cX7_walks 11 = .ok (.getfield 20, 3) := by decide +kernel
theorem dX7_walks_14 : decode cX7_walks 14 = .ok (.iconst 0, 1) := by decide +kernel
theorem dX7_walks_15 : decode cX7_walks 15 = .ok (.iaload, 1) := by decide +kernel
theorem dX7_walks_16 : decode cX7_walks 16 = .ok (.aload_n 0, 1) := by decide +kernel
theorem dX7_walks_17 : decode cX7_walks 17 = .ok (.getfield 76, 3) := by decide +kernel
theorem dX7_walks_20 : decode cX7_walks 20 = .ok (.if_icmp .ne 6, 3) := by decide +kernel
theorem dX7_walks_23 : decode cX7_walks 23 = .ok (.bipush (-2), 2) := by decide +kernel
theorem dX7_walks_25 : decode cX7_walks 25 = .ok (.ireturn, 1) := by decide +kernel
theorem dX7_walks_26 : decode cX7_walks 26 = .ok (.aload_n 0, 1) := by decide +kernel
theorem dX7_walks_27 : decode cX7_walks 27 = .ok (.invokevirtual 155, 3) := by decide +kernel
theorem dX7_walks_30 : decode cX7_walks 30 = .ok (.aload_n 0, 1) := by decide +kernel
theorem dX7_walks_31 : decode cX7_walks 31 = .ok (.iconst 0, 1) := by decide +kernel
theorem dX7_walks_32 : decode cX7_walks 32 = .ok (.aload_n 0, 1) := by decide +kernel
theorem dX7_walks_33 : decode cX7_walks 33 = .ok (.getfield 20, 3) := by decide +kernel
theorem dX7_walks_36 : decode cX7_walks 36 = .ok (.iconst 0, 1) := by decide +kernel
theorem dX7_walks_37 : decode cX7_walks 37 = .ok (.iaload, 1) := by decide +kernel
theorem dX7_walks_38 : decode cX7_walks 38 = .ok (.iload_n 1, 1) := by decide +kernel
theorem dX7_walks_39 : decode cX7_walks 39 = .ok (.invokevirtual 158, 3) := by decide +kernel
theorem dX7_walks_42 : decode cX7_walks 42 = .ok (.aload_n 0, 1) := by decide +kernel
theorem dX7_walks_43 : decode cX7_walks 43 = .ok (.getfield 20, 3) := by decide +kernel
theorem dX7_walks_46 : decode cX7_walks 46 = .ok (.iconst 1, 1) := by decide +kernel
theorem dX7_walks_47 : decode cX7_walks 47 = .ok (.iaload, 1) := by decide +kernel
theorem dX7_walks_48 : decode cX7_walks 48 = .ok (.aload_n 0, 1) := by decide +kernel
theorem dX7_walks_49 : decode cX7_walks 49 = .ok (.getfield 51, 3) := by decide +kernel
theorem dX7_walks_52 : decode cX7_walks 52 = .ok (.iconst 1, 1) := by decide +kernel
theorem dX7_walks_53 : decode cX7_walks 53 = .ok (.iaload, 1) := by decide +kernel
theorem dX7_walks_54 : decode cX7_walks 54 = .ok (.iadd, 1) := by decide +kernel
theorem dX7_walks_55 : decode cX7_walks 55 = .ok (.sipush 9999, 3) := by decide +kernel
theorem dX7_walks_58 : decode cX7_walks 58 = .ok (.if_icmp .le 6, 3) := by decide +kernel
theorem dX7_walks_61 : decode cX7_walks 61 = .ok (.bipush (-2), 2) := by decide +kernel
theorem dX7_walks_63 : decode cX7_walks 63 = .ok (.ireturn, 1) := by decide +kernel
theorem dX7_walks_64 : decode cX7_walks 64 = .ok (.aload_n 0, 1) := by decide +kernel
theorem dX7_walks_65 : decode cX7_walks 65 = .ok (.aload_n 0, 1) := by decide +kernel
theorem dX7_walks_66 : decode cX7_walks 66 = .ok (.getfield 20, 3) := by decide +kernel
theorem dX7_walks_69 : decode cX7_walks 69 = .ok (.iconst 0, 1) := by decide +kernel
theorem dX7_walks_70 : decode cX7_walks 70 = .ok (.iaload, 1) := by decide +kernel
theorem dX7_walks_71 : decode cX7_walks 71 = .ok (.iconst 1, 1) := by decide +kernel
theorem dX7_walks_72 : decode cX7_walks 72 = .ok (.iadd, 1) := by decide +kernel
theorem dX7_walks_73 : decode cX7_walks 73 = .ok (.iload_n 1, 1) := by decide +kernel
theorem dX7_walks_74 : decode cX7_walks 74 = .ok (.aload_n 0, 1) := by decide +kernel
theorem dX7_walks_75 : decode cX7_walks 75 = .ok (.getfield 51, 3) := by decide +kernel
theorem dX7_walks_78 : decode cX7_walks 78 = .ok (.iconst 1, 1) := by decide +kernel
theorem dX7_walks_79 : decode cX7_walks 79 = .ok (.iaload, 1) := by decide +kernel
theorem dX7_walks_80 : decode cX7_walks 80 = .ok (.invokevirtual 170, 3) := by decide +kernel
theorem dX7_walks_83 : decode cX7_walks 83 = .ok (.aload_n 0, 1) := by decide +kernel
theorem dX7_walks_84 : decode cX7_walks 84 = .ok (.getfield 51, 3) := by decide +kernel
theorem dX7_walks_87 : decode cX7_walks 87 = .ok (.iconst 1, 1) := by decide +kernel
theorem dX7_walks_88 : decode cX7_walks 88 = .ok (.iaload, 1) := by decide +kernel
theorem dX7_walks_89 : decode cX7_walks 89 = .ok (.ireturn, 1) := by decide +kernel
theorem dX7_backs_0 : decode cX7_backs 0 = .ok (.aload_n 0, 1) := by decide +kernel
theorem dX7_backs_1 : decode cX7_backs 1 = .ok (.getfield 20, 3) := by decide +kernel
theorem dX7_backs_4 : decode cX7_backs 4 = .ok (.iconst 0, 1) := by decide +kernel
theorem dX7_backs_5 : decode cX7_backs 5 = .ok (.iaload, 1) := by decide +kernel
theorem dX7_backs_6 : decode cX7_backs 6 = .ok (.ifCond .ne 6, 3) := by decide +kernel
theorem dX7_backs_9 : decode cX7_backs 9 = .ok (.bipush (-2), 2) := by decide +kernel
theorem dX7_backs_11 : decode cX7_backs 11 = .ok (.ireturn, 1) := by decide +kernel
theorem dX7_backs_12 : decode cX7_backs 12 = .ok (.aload_n 0, 1) := by decide +kernel
theorem dX7_backs_13 : decode cX7_backs 13 = .ok (.getfield 20, 3) := by decide +kernel
theorem dX7_backs_16 : decode cX7_backs 16 = .ok (.iconst 0, 1) := by decide +kernel
theorem dX7_backs_17 : decode cX7_backs 17 = .ok (.iaload, 1) := by decide +kernel
theorem dX7_backs_18 : decode cX7_backs 18 = .ok (.iconst 1, 1) := by decide +kernel
theorem dX7_backs_19 : decode cX7_backs 19 = .ok (.isub, 1) := by decide +kernel
theorem dX7_backs_20 : decode cX7_backs 20 = .ok (.istore_n 1, 1) := by decide +kernel
theorem dX7_backs_21 : decode cX7_backs 21 = .ok (.aload_n 0, 1) := by decide +kernel
theorem dX7_backs_22 : decode cX7_backs 22 = .ok (.invokevirtual 155, 3) := by decide +kernel
theorem dX7_backs_25 : decode cX7_backs 25 = .ok (.iconst 2, 1) := by decide +kernel
theorem dX7_backs_26 : decode cX7_backs 26 = .ok (.aload_n 0, 1) := by decide +kernel
theorem dX7_backs_27 : decode cX7_backs 27 = .ok (.iload_n 1, 1) := by decide +kernel
theorem dX7_backs_28 : decode cX7_backs 28 = .ok (.aload_n 0, 1) := by decide +kernel
theorem dX7_backs_29 : decode cX7_backs 29 = .ok (.getfield 20, 3) := by decide +kernel
theorem dX7_backs_32 : decode cX7_backs 32 = .ok (.iconst 2, 1) := by decide +kernel
theorem dX7_backs_33 : decode cX7_backs 33 = .ok (.iaload, 1) := by decide +kernel
theorem dX7_backs_34 : decode cX7_backs 34 = .ok (.iconst 0, 1) := by decide +kernel
theorem dX7_backs_35 : decode cX7_backs 35 = .ok (.invokevirtual 147, 3) := by decide +kernel
theorem dX7_backs_38 : decode cX7_backs 38 = .ok (.imul, 1) := by decide +kernel
theorem dX7_backs_39 : decode cX7_backs 39 = .ok (.istore_n 2, 1) := by decide +kernel
theorem dX7_backs_40 : decode cX7_backs 40 = .ok (.aload_n 0, 1) := by decide +kernel
theorem dX7_backs_41 : decode cX7_backs 41 = .ok (.getfield 20, 3) := by decide +kernel
theorem dX7_backs_44 : decode cX7_backs 44 = .ok (.iconst 1, 1) := by decide +kernel
theorem dX7_backs_45 : decode cX7_backs 45 = .ok (.iaload, 1) := by decide +kernel
theorem dX7_backs_46 : decode cX7_backs 46 = .ok (.iload_n 2, 1) := by decide +kernel
theorem dX7_backs_47 : decode cX7_backs 47 = .ok (.iadd, 1) := by decide +kernel
theorem dX7_backs_48 : decode cX7_backs 48 = .ok (.sipush 9999, 3) := by decide +kernel
theorem dX7_backs_51 : decode cX7_backs 51 = .ok (.if_icmp .le 6, 3) := by decide +kernel
theorem dX7_backs_54 : decode cX7_backs 54 = .ok (.bipush (-2), 2) := by decide +kernel
theorem dX7_backs_56 : decode cX7_backs 56 = .ok (.ireturn, 1) := by decide +kernel
theorem dX7_backs_57 : decode cX7_backs 57 = .ok (.aload_n 0, 1) := by decide +kernel
theorem dX7_backs_58 : decode cX7_backs 58 = .ok (.iconst 0, 1) := by decide +kernel
theorem dX7_backs_59 : decode cX7_backs 59 = .ok (.aload_n 0, 1) := by decide +kernel
theorem dX7_backs_60 : decode cX7_backs 60 = .ok (.getfield 20, 3) := by decide +kernel
theorem dX7_backs_63 : decode cX7_backs 63 = .ok (.iconst 2, 1) := by decide +kernel
theorem dX7_backs_64 : decode cX7_backs 64 = .ok (.iaload, 1) := by decide +kernel
theorem dX7_backs_65 : decode cX7_backs 65 = .ok (.aload_n 0, 1) := by decide +kernel
theorem dX7_backs_66 : decode cX7_backs 66 = .ok (.getfield 13, 3) := by decide +kernel
theorem dX7_backs_69 : decode cX7_backs 69 = .ok (.iconst 4, 1) := by decide +kernel
theorem dX7_backs_70 : decode cX7_backs 70 = .ok (.iload_n 1, 1) := by decide +kernel
theorem dX7_backs_71 : decode cX7_backs 71 = .ok (.imul, 1) := by decide +kernel
theorem dX7_backs_72 : decode cX7_backs 72 = .ok (.iaload, 1) := by decide +kernel
theorem dX7_backs_73 : decode cX7_backs 73 = .ok (.invokevirtual 151, 3) := by decide +kernel
theorem dX7_backs_76 : decode cX7_backs 76 = .ok (.aload_n 0, 1) := by decide +kernel
theorem dX7_backs_77 : decode cX7_backs 77 = .ok (.iload_n 1, 1) := by decide +kernel
theorem dX7_backs_78 : decode cX7_backs 78 = .ok (.aload_n 0, 1) := by decide +kernel
theorem dX7_backs_79 : decode cX7_backs 79 = .ok (.getfield 20, 3) := by decide +kernel
theorem dX7_backs_82 : decode cX7_backs 82 = .ok (.iconst 2, 1) := by decide +kernel
theorem dX7_backs_83 : decode cX7_backs 83 = .ok (.iaload, 1) := by decide +kernel
theorem dX7_backs_84 : decode cX7_backs 84 = .ok (.iload_n 2, 1) := by decide +kernel
theorem dX7_backs_85 : decode cX7_backs 85 = .ok (.invokevirtual 170, 3) := by decide +kernel
theorem dX7_backs_88 : decode cX7_backs 88 = .ok (.iload_n 2, 1) := by decide +kernel
theorem dX7_backs_89 : decode cX7_backs 89 = .ok (.ireturn, 1) := by decide +kernel
theorem dX7_rests_0 : decode cX7_rests 0 = .ok (.iload_n 1, 1) := by decide +kernel
theorem dX7_rests_1 : decode cX7_rests 1 = .ok (.iconst 1, 1) := by decide +kernel
theorem dX7_rests_2 : decode cX7_rests 2 = .ok (.bipush 99, 2) := by decide +kernel
theorem dX7_rests_4 : decode cX7_rests 4 = .ok (.invokestatic 72, 3) := by decide +kernel
theorem dX7_rests_7 : decode cX7_rests 7 = .ok (.ifCond .ne 5, 3) := by decide +kernel
theorem dX7_rests_10 : decode cX7_rests 10 = .ok (.iconst (-1), 1) := by decide +kernel
theorem dX7_rests_11 : decode cX7_rests 11 = .ok (.ireturn, 1) := by decide +kernel
theorem dX7_rests_12 : decode cX7_rests 12 = .ok (.aload_n 0, 1) := by decide +kernel
theorem dX7_rests_13 : decode cX7_rests 13 = .ok (.getfield 20, 3) := by decide +kernel
theorem dX7_rests_16 : decode cX7_rests 16 = .ok (.iconst 1, 1) := by decide +kernel
theorem dX7_rests_17 : decode cX7_rests 17 = .ok (.iaload, 1) := by decide +kernel
theorem dX7_rests_18 : decode cX7_rests 18 = .ok (.iload_n 1, 1) := by decide +kernel
theorem dX7_rests_19 : decode cX7_rests 19 = .ok (.iadd, 1) := by decide +kernel
theorem dX7_rests_20 : decode cX7_rests 20 = .ok (.sipush 9999, 3) := by decide +kernel
theorem dX7_rests_23 : decode cX7_rests 23 = .ok (.if_icmp .le 6, 3) := by decide +kernel
theorem dX7_rests_26 : decode cX7_rests 26 = .ok (.bipush (-2), 2) := by decide +kernel
theorem dX7_rests_28 : decode cX7_rests 28 = .ok (.ireturn, 1) := by decide +kernel
theorem dX7_rests_29 : decode cX7_rests 29 = .ok (.aload_n 0, 1) := by decide +kernel
theorem dX7_rests_30 : decode cX7_rests 30 = .ok (.invokevirtual 155, 3) := by decide +kernel
theorem dX7_rests_33 : decode cX7_rests 33 = .ok (.aload_n 0, 1) := by decide +kernel
theorem dX7_rests_34 : decode cX7_rests 34 = .ok (.iconst 0, 1) := by decide +kernel
theorem dX7_rests_35 : decode cX7_rests 35 = .ok (.iconst (-1), 1) := by decide +kernel
theorem dX7_rests_36 : decode cX7_rests 36 = .ok (.iload_n 1, 1) := by decide +kernel
theorem dX7_rests_37 : decode cX7_rests 37 = .ok (.invokevirtual 151, 3) := by decide +kernel
theorem dX7_rests_40 : decode cX7_rests 40 = .ok (.aload_n 0, 1) := by decide +kernel
theorem dX7_rests_41 : decode cX7_rests 41 = .ok (.aload_n 0, 1) := by decide +kernel
theorem dX7_rests_42 : decode cX7_rests 42 = .ok (.getfield 20, 3) := by decide +kernel
theorem dX7_rests_45 : decode cX7_rests 45 = .ok (.iconst 0, 1) := by decide +kernel
theorem dX7_rests_46 : decode cX7_rests 46 = .ok (.iaload, 1) := by decide +kernel
theorem dX7_rests_47 : decode cX7_rests 47 = .ok (.aload_n 0, 1) := by decide +kernel
theorem dX7_rests_48 : decode cX7_rests 48 = .ok (.getfield 20, 3) := by decide +kernel
theorem dX7_rests_51 : decode cX7_rests 51 = .ok (.iconst 2, 1) := by decide +kernel
theorem dX7_rests_52 : decode cX7_rests 52 = .ok (.iaload, 1) := by decide +kernel
theorem dX7_rests_53 : decode cX7_rests 53 = .ok (.iload_n 1, 1) := by decide +kernel
theorem dX7_rests_54 : decode cX7_rests 54 = .ok (.invokevirtual 170, 3) := by decide +kernel
theorem dX7_rests_57 : decode cX7_rests 57 = .ok (.aload_n 0, 1) := by decide +kernel
theorem dX7_rests_58 : decode cX7_rests 58 = .ok (.getfield 20, 3) := by decide +kernel
theorem dX7_rests_61 : decode cX7_rests 61 = .ok (.iconst 1, 1) := by decide +kernel
theorem dX7_rests_62 : decode cX7_rests 62 = .ok (.iaload, 1) := by decide +kernel
theorem dX7_rests_63 : decode cX7_rests 63 = .ok (.ireturn, 1) := by decide +kernel
theorem dX7_undo_0 : decode cX7_undo 0 = .ok (.aload_n 0, 1) := by decide +kernel
theorem dX7_undo_1 : decode cX7_undo 1 = .ok (.getfield 137, 3) := by decide +kernel
theorem dX7_undo_4 : decode cX7_undo 4 = .ok (.ifCond .ne 6, 3) := by decide +kernel
theorem dX7_undo_7 : decode cX7_undo 7 = .ok (.bipush (-2), 2) := by decide +kernel
theorem dX7_undo_9 : decode cX7_undo 9 = .ok (.ireturn, 1) := by decide +kernel
theorem dX7_undo_10 : decode cX7_undo 10 = .ok (.aload_n 0, 1) := by decide +kernel
theorem dX7_undo_11 : decode cX7_undo 11 = .ok (.dup, 1) := by decide +kernel
theorem dX7_undo_12 : decode cX7_undo 12 = .ok (.getfield 137, 3) := by decide +kernel
theorem dX7_undo_15 : decode cX7_undo 15 = .ok (.iconst 1, 1) := by decide +kernel
theorem dX7_undo_16 : decode cX7_undo 16 = .ok (.isub, 1) := by decide +kernel
theorem dX7_undo_17 : decode cX7_undo 17 = .ok (.putfield 137, 3) := by decide +kernel
theorem dX7_undo_20 : decode cX7_undo 20 = .ok (.iconst 0, 1) := by decide +kernel
theorem dX7_undo_21 : decode cX7_undo 21 = .ok (.istore_n 1, 1) := by decide +kernel
theorem dX7_undo_22 : decode cX7_undo 22 = .ok (.iload_n 1, 1) := by decide +kernel
theorem dX7_undo_23 : decode cX7_undo 23 = .ok (.bipush 7, 2) := by decide +kernel
theorem dX7_undo_25 : decode cX7_undo 25 = .ok (.if_icmp .ge 29, 3) := by decide +kernel
theorem dX7_undo_28 : decode cX7_undo 28 = .ok (.aload_n 0, 1) := by decide +kernel
theorem dX7_undo_29 : decode cX7_undo 29 = .ok (.getfield 20, 3) := by decide +kernel
theorem dX7_undo_32 : decode cX7_undo 32 = .ok (.iload_n 1, 1) := by decide +kernel
theorem dX7_undo_33 : decode cX7_undo 33 = .ok (.aload_n 0, 1) := by decide +kernel
theorem dX7_undo_34 : decode cX7_undo 34 = .ok (.getfield 23, 3) := by decide +kernel
theorem dX7_undo_37 : decode cX7_undo 37 = .ok (.bipush 7, 2) := by decide +kernel
theorem dX7_undo_39 : decode cX7_undo 39 = .ok (.aload_n 0, 1) := by decide +kernel
theorem dX7_undo_40 : decode cX7_undo 40 = .ok (.getfield 137, 3) := by decide +kernel
theorem dX7_undo_43 : decode cX7_undo 43 = .ok (.imul, 1) := by decide +kernel
theorem dX7_undo_44 : decode cX7_undo 44 = .ok (.iload_n 1, 1) := by decide +kernel
theorem dX7_undo_45 : decode cX7_undo 45 = .ok (.iadd, 1) := by decide +kernel
theorem dX7_undo_46 : decode cX7_undo 46 = .ok (.iaload, 1) := by decide +kernel
theorem dX7_undo_47 : decode cX7_undo 47 = .ok (.iastore, 1) := by decide +kernel
theorem dX7_undo_48 : decode cX7_undo 48 = .ok (.iinc 1 1, 3) := by decide +kernel
theorem dX7_undo_51 : decode cX7_undo 51 = .ok (.goto (-29), 3) := by decide +kernel
theorem dX7_undo_54 : decode cX7_undo 54 = .ok (.aload_n 0, 1) := by decide +kernel
theorem dX7_undo_55 : decode cX7_undo 55 = .ok (.getfield 137, 3) := by decide +kernel
theorem dX7_undo_58 : decode cX7_undo 58 = .ok (.ireturn, 1) := by decide +kernel
theorem dX7_isFree_0 : decode cX7_isFree 0 = .ok (.aload_n 0, 1) := by decide +kernel
theorem dX7_isFree_1 : decode cX7_isFree 1 = .ok (.getfield 134, 3) := by decide +kernel
theorem dX7_isFree_4 : decode cX7_isFree 4 = .ok (.ifCond .eq 14, 3) := by decide +kernel
theorem dX7_isFree_7 : decode cX7_isFree 7 = .ok (.iload_n 1, 1) := by decide +kernel
theorem dX7_isFree_8 : decode cX7_isFree 8 = .ok (.aload_n 0, 1) := by decide +kernel
theorem dX7_isFree_9 : decode cX7_isFree 9 = .ok (.getfield 134, 3) := by decide +kernel
theorem dX7_isFree_12 : decode cX7_isFree 12 = .ok (.idiv, 1) := by decide +kernel
theorem dX7_isFree_13 : decode cX7_isFree 13 = .ok (.iconst 2, 1) := by decide +kernel
theorem dX7_isFree_14 : decode cX7_isFree 14 = .ok (.irem, 1) := by decide +kernel
theorem dX7_isFree_15 : decode cX7_isFree 15 = .ok (.ifCond .ne 7, 3) := by decide +kernel
theorem dX7_isFree_18 : decode cX7_isFree 18 = .ok (.iconst 1, 1) := by decide +kernel
theorem dX7_isFree_19 : decode cX7_isFree 19 = .ok (.goto 4, 3) := by decide +kernel
theorem dX7_isFree_22 : decode cX7_isFree 22 = .ok (.iconst 0, 1) := by decide +kernel
theorem dX7_isFree_23 : decode cX7_isFree 23 = .ok (.ireturn, 1) := by decide +kernel
theorem dX7_now_0 : decode cX7_now 0 = .ok (.iconst 0, 1) := by decide +kernel
theorem dX7_now_1 : decode cX7_now 1 = .ok (.istore_n 2, 1) := by decide +kernel
theorem dX7_now_2 : decode cX7_now 2 = .ok (.iconst 0, 1) := by decide +kernel
theorem dX7_now_3 : decode cX7_now 3 = .ok (.istore_n 3, 1) := by decide +kernel
theorem dX7_now_4 : decode cX7_now 4 = .ok (.iconst 0, 1) := by decide +kernel
theorem dX7_now_5 : decode cX7_now 5 = .ok (.istore 4, 2) := by decide +kernel
theorem dX7_now_7 : decode cX7_now 7 = .ok (.iload 4, 2) := by decide +kernel
theorem dX7_now_9 : decode cX7_now 9 = .ok (.aload_n 0, 1) := by decide +kernel
theorem dX7_now_10 : decode cX7_now 10 = .ok (.getfield 69, 3) := by decide +kernel
theorem dX7_now_13 : decode cX7_now 13 = .ok (.if_icmp .ge 43, 3) := by decide +kernel
theorem dX7_now_16 : decode cX7_now 16 = .ok (.iload_n 2, 1) := by decide +kernel
theorem dX7_now_17 : decode cX7_now 17 = .ok (.aload_n 0, 1) := by decide +kernel
theorem dX7_now_18 : decode cX7_now 18 = .ok (.getfield 20, 3) := by decide +kernel
theorem dX7_now_21 : decode cX7_now 21 = .ok (.iconst 3, 1) := by decide +kernel
theorem dX7_now_22 : decode cX7_now 22 = .ok (.iload 4, 2) := by decide +kernel
theorem dX7_now_24 : decode cX7_now 24 = .ok (.iadd, 1) := by decide +kernel
theorem dX7_now_25 : decode cX7_now 25 = .ok (.iaload, 1) := by decide +kernel
theorem dX7_now_26 : decode cX7_now 26 = .ok (.aload_n 0, 1) := by decide +kernel
theorem dX7_now_27 : decode cX7_now 27 = .ok (.getfield 7, 3) := by decide +kernel
theorem dX7_now_30 : decode cX7_now 30 = .ok (.iconst 2, 1) := by decide +kernel
theorem dX7_now_31 : decode cX7_now 31 = .ok (.iload 4, 2) := by decide +kernel
theorem dX7_now_33 : decode cX7_now 33 = .ok (.imul, 1) := by decide +kernel
theorem dX7_now_34 : decode cX7_now 34 = .ok (.iconst 1, 1) := by decide +kernel
theorem dX7_now_35 : decode cX7_now 35 = .ok (.iadd, 1) := by decide +kernel
theorem dX7_now_36 : decode cX7_now 36 = .ok (.iaload, 1) := by decide +kernel
theorem dX7_now_37 : decode cX7_now 37 = .ok (.if_icmp .le 10, 3) := by decide +kernel
theorem dX7_now_40 : decode cX7_now 40 = .ok (.iconst 1, 1) := by decide +kernel
theorem dX7_now_41 : decode cX7_now 41 = .ok (.iload 4, 2) := by decide +kernel
theorem dX7_now_43 : decode cX7_now 43 = .ok (.ishl, 1) := by decide +kernel
theorem dX7_now_44 : decode cX7_now 44 = .ok (.goto 4, 3) := by decide +kernel
theorem dX7_now_47 : decode cX7_now 47 = .ok (.iconst 0, 1) := by decide +kernel
theorem dX7_now_48 : decode cX7_now 48 = .ok (.ior, 1) := by decide +kernel
theorem dX7_now_49 : decode cX7_now 49 = .ok (.istore_n 2, 1) := by decide +kernel
theorem dX7_now_50 : decode cX7_now 50 = .ok (.iinc 4 1, 3) := by decide +kernel
theorem dX7_now_53 : decode cX7_now 53 = .ok (.goto (-46), 3) := by decide +kernel
theorem dX7_now_56 : decode cX7_now 56 = .ok (.aload_n 0, 1) := by decide +kernel
theorem dX7_now_57 : decode cX7_now 57 = .ok (.getfield 20, 3) := by decide +kernel
theorem dX7_now_60 : decode cX7_now 60 = .ok (.iconst 0, 1) := by decide +kernel
theorem dX7_now_61 : decode cX7_now 61 = .ok (.iaload, 1) := by decide +kernel
theorem dX7_now_62 : decode cX7_now 62 = .ok (.istore 4, 2) := by decide +kernel
theorem dX7_now_64 : decode cX7_now 64 = .ok (.iload 4, 2) := by decide +kernel
theorem dX7_now_66 : decode cX7_now 66 = .ok (.aload_n 0, 1) := by decide +kernel
theorem dX7_now_67 : decode cX7_now 67 = .ok (.getfield 76, 3) := by decide +kernel
theorem dX7_now_70 : decode cX7_now 70 = .ok (.if_icmp .ge 21, 3) := by decide +kernel
theorem dX7_now_73 : decode cX7_now 73 = .ok (.iload_n 3, 1) := by decide +kernel
theorem dX7_now_74 : decode cX7_now 74 = .ok (.aload_n 0, 1) := by decide +kernel
theorem dX7_now_75 : decode cX7_now 75 = .ok (.getfield 13, 3) := by decide +kernel
theorem dX7_now_78 : decode cX7_now 78 = .ok (.iconst 4, 1) := by decide +kernel
theorem dX7_now_79 : decode cX7_now 79 = .ok (.iload 4, 2) := by decide +kernel
theorem dX7_now_81 : decode cX7_now 81 = .ok (.imul, 1) := by decide +kernel
theorem dX7_now_82 : decode cX7_now 82 = .ok (.iaload, 1) := by decide +kernel
theorem dX7_now_83 : decode cX7_now 83 = .ok (.iadd, 1) := by decide +kernel
theorem dX7_now_84 : decode cX7_now 84 = .ok (.istore_n 3, 1) := by decide +kernel
theorem dX7_now_85 : decode cX7_now 85 = .ok (.iinc 4 1, 3) := by decide +kernel
theorem dX7_now_88 : decode cX7_now 88 = .ok (.goto (-24), 3) := by decide +kernel
theorem dX7_now_91 : decode cX7_now 91 = .ok (.iload_n 1, 1) := by decide +kernel
theorem dX7_now_92 : decode cX7_now 92 = .ok (.tableswitch 93 0 6 #[44, 44, 44, 51, 53, 72, 74], 44) := by decide +kernel
theorem dX7_now_136 : decode cX7_now 136 = .ok (.aload_n 0, 1) := by decide +kernel
theorem dX7_now_137 : decode cX7_now 137 = .ok (.getfield 20, 3) := by decide +kernel
theorem dX7_now_140 : decode cX7_now 140 = .ok (.iload_n 1, 1) := by decide +kernel
theorem dX7_now_141 : decode cX7_now 141 = .ok (.iaload, 1) := by decide +kernel
theorem dX7_now_142 : decode cX7_now 142 = .ok (.ireturn, 1) := by decide +kernel
theorem dX7_now_143 : decode cX7_now 143 = .ok (.iload_n 2, 1) := by decide +kernel
theorem dX7_now_144 : decode cX7_now 144 = .ok (.ireturn, 1) := by decide +kernel
theorem dX7_now_145 : decode cX7_now 145 = .ok (.aload_n 0, 1) := by decide +kernel
theorem dX7_now_146 : decode cX7_now 146 = .ok (.aload_n 0, 1) := by decide +kernel
theorem dX7_now_147 : decode cX7_now 147 = .ok (.getfield 20, 3) := by decide +kernel
theorem dX7_now_150 : decode cX7_now 150 = .ok (.iconst 1, 1) := by decide +kernel
theorem dX7_now_151 : decode cX7_now 151 = .ok (.iaload, 1) := by decide +kernel
theorem dX7_now_152 : decode cX7_now 152 = .ok (.invokevirtual 173, 3) := by decide +kernel
theorem dX7_now_155 : decode cX7_now 155 = .ok (.ifCond .eq 7, 3) := by decide +kernel
theorem dX7_now_158 : decode cX7_now 158 = .ok (.iconst 1, 1) := by decide +kernel
theorem dX7_now_159 : decode cX7_now 159 = .ok (.goto 4, 3) := by decide +kernel
theorem dX7_now_162 : decode cX7_now 162 = .ok (.iconst 0, 1) := by decide +kernel
theorem dX7_now_163 : decode cX7_now 163 = .ok (.ireturn, 1) := by decide +kernel
theorem dX7_now_164 : decode cX7_now 164 = .ok (.iload_n 3, 1) := by decide +kernel
theorem dX7_now_165 : decode cX7_now 165 = .ok (.ireturn, 1) := by decide +kernel
theorem dX7_now_166 : decode cX7_now 166 = .ok (.aload_n 0, 1) := by decide +kernel
theorem dX7_now_167 : decode cX7_now 167 = .ok (.getfield 20, 3) := by decide +kernel
theorem dX7_now_170 : decode cX7_now 170 = .ok (.iconst 0, 1) := by decide +kernel
theorem dX7_now_171 : decode cX7_now 171 = .ok (.iaload, 1) := by decide +kernel
theorem dX7_now_172 : decode cX7_now 172 = .ok (.aload_n 0, 1) := by decide +kernel
theorem dX7_now_173 : decode cX7_now 173 = .ok (.getfield 76, 3) := by decide +kernel
theorem dX7_now_176 : decode cX7_now 176 = .ok (.if_icmp .ne 7, 3) := by decide +kernel
theorem dX7_now_179 : decode cX7_now 179 = .ok (.iconst 1, 1) := by decide +kernel
theorem dX7_now_180 : decode cX7_now 180 = .ok (.goto 4, 3) := by decide +kernel
theorem dX7_now_183 : decode cX7_now 183 = .ok (.iconst 0, 1) := by decide +kernel
theorem dX7_now_184 : decode cX7_now 184 = .ok (.ireturn, 1) := by decide +kernel
theorem dX7_now_185 : decode cX7_now 185 = .ok (.iconst (-1), 1) := by decide +kernel
theorem dX7_now_186 : decode cX7_now 186 = .ok (.ireturn, 1) := by decide +kernel
theorem dX7_pairBy_0 : decode cX7_pairBy 0 = .ok (.iload_n 1, 1) := by decide +kernel
theorem dX7_pairBy_1 : decode cX7_pairBy 1 = .ok (.istore_n 2, 1) := by decide +kernel
theorem dX7_pairBy_2 : decode cX7_pairBy 2 = .ok (.iconst 0, 1) := by decide +kernel
theorem dX7_pairBy_3 : decode cX7_pairBy 3 = .ok (.istore_n 3, 1) := by decide +kernel
theorem dX7_pairBy_4 : decode cX7_pairBy 4 = .ok (.iload_n 3, 1) := by decide +kernel
theorem dX7_pairBy_5 : decode cX7_pairBy 5 = .ok (.aload_n 0, 1) := by decide +kernel
theorem dX7_pairBy_6 : decode cX7_pairBy 6 = .ok (.getfield 69, 3) := by decide +kernel
theorem dX7_pairBy_9 : decode cX7_pairBy 9 = .ok (.if_icmp .ge 41, 3) := by decide +kernel
theorem dX7_pairBy_12 : decode cX7_pairBy 12 = .ok (.aload_n 0, 1) := by decide +kernel
theorem dX7_pairBy_13 : decode cX7_pairBy 13 = .ok (.getfield 69, 3) := by decide +kernel
theorem dX7_pairBy_16 : decode cX7_pairBy 16 = .ok (.iconst 1, 1) := by decide +kernel
theorem dX7_pairBy_17 : decode cX7_pairBy 17 = .ok (.isub, 1) := by decide +kernel
theorem dX7_pairBy_18 : decode cX7_pairBy 18 = .ok (.iload_n 3, 1) := by decide +kernel
theorem dX7_pairBy_19 : decode cX7_pairBy 19 = .ok (.isub, 1) := by decide +kernel
theorem dX7_pairBy_20 : decode cX7_pairBy 20 = .ok (.istore 4, 2) := by decide +kernel
theorem dX7_pairBy_22 : decode cX7_pairBy 22 = .ok (.iload_n 2, 1) := by decide +kernel
theorem dX7_pairBy_23 : decode cX7_pairBy 23 = .ok (.iload 4, 2) := by decide +kernel
theorem dX7_pairBy_25 : decode cX7_pairBy 25 = .ok (.if_icmp .ge 14, 3) := by decide +kernel
theorem dX7_pairBy_28 : decode cX7_pairBy 28 = .ok (.bipush 10, 2) := by decide +kernel
theorem dX7_pairBy_30 : decode cX7_pairBy 30 = .ok (.iload_n 3, 1) := by decide +kernel
theorem dX7_pairBy_31 : decode cX7_pairBy 31 = .ok (.imul, 1) := by decide +kernel
theorem dX7_pairBy_32 : decode cX7_pairBy 32 = .ok (.iload_n 3, 1) := by decide +kernel
theorem dX7_pairBy_33 : decode cX7_pairBy 33 = .ok (.iadd, 1) := by decide +kernel
theorem dX7_pairBy_34 : decode cX7_pairBy 34 = .ok (.iconst 1, 1) := by decide +kernel
theorem dX7_pairBy_35 : decode cX7_pairBy 35 = .ok (.iadd, 1) := by decide +kernel
theorem dX7_pairBy_36 : decode cX7_pairBy 36 = .ok (.iload_n 2, 1) := by decide +kernel
theorem dX7_pairBy_37 : decode cX7_pairBy 37 = .ok (.iadd, 1) := by decide +kernel
theorem dX7_pairBy_38 : decode cX7_pairBy 38 = .ok (.ireturn, 1) := by decide +kernel
theorem dX7_pairBy_39 : decode cX7_pairBy 39 = .ok (.iload_n 2, 1) := by decide +kernel
theorem dX7_pairBy_40 : decode cX7_pairBy 40 = .ok (.iload 4, 2) := by decide +kernel
theorem dX7_pairBy_42 : decode cX7_pairBy 42 = .ok (.isub, 1) := by decide +kernel
theorem dX7_pairBy_43 : decode cX7_pairBy 43 = .ok (.istore_n 2, 1) := by decide +kernel
theorem dX7_pairBy_44 : decode cX7_pairBy 44 = .ok (.iinc 3 1, 3) := by decide +kernel
theorem dX7_pairBy_47 : decode cX7_pairBy 47 = .ok (.goto (-43), 3) := by decide +kernel
theorem dX7_pairBy_50 : decode cX7_pairBy 50 = .ok (.iconst (-1), 1) := by decide +kernel
theorem dX7_pairBy_51 : decode cX7_pairBy 51 = .ok (.ireturn, 1) := by decide +kernel
theorem dX7_isAsSeen_0 : decode cX7_isAsSeen 0 = .ok (.iconst 1, 1) := by decide +kernel
theorem dX7_isAsSeen_1 : decode cX7_isAsSeen 1 = .ok (.istore_n 3, 1) := by decide +kernel
theorem dX7_isAsSeen_2 : decode cX7_isAsSeen 2 = .ok (.iconst 0, 1) := by decide +kernel
theorem dX7_isAsSeen_3 : decode cX7_isAsSeen 3 = .ok (.istore 4, 2) := by decide +kernel
theorem dX7_isAsSeen_5 : decode cX7_isAsSeen 5 = .ok (.iload 4, 2) := by decide +kernel
theorem dX7_isAsSeen_7 : decode cX7_isAsSeen 7 = .ok (.aload_n 0, 1) := by decide +kernel
theorem dX7_isAsSeen_8 : decode cX7_isAsSeen 8 = .ok (.getfield 140, 3) := by decide +kernel
theorem dX7_isAsSeen_11 : decode cX7_isAsSeen 11 = .ok (.if_icmp .ge 47, 3) := by decide +kernel
theorem dX7_isAsSeen_14 : decode cX7_isAsSeen 14 = .ok (.iload_n 3, 1) := by decide +kernel
theorem dX7_isAsSeen_15 : decode cX7_isAsSeen 15 = .ok (.ifCond .eq 35, 3) := by decide +kernel
theorem dX7_isAsSeen_18 : decode cX7_isAsSeen 18 = .ok (.aload_n 0, 1) := by decide +kernel
theorem dX7_isAsSeen_19 : decode cX7_isAsSeen 19 = .ok (.getfield 33, 3) := by decide +kernel
theorem dX7_isAsSeen_22 : decode cX7_isAsSeen 22 = .ok (.iconst 2, 1) := by decide +kernel
theorem dX7_isAsSeen_23 : decode cX7_isAsSeen 23 = .ok (.iload 4, 2) := by decide +kernel
theorem dX7_isAsSeen_25 : decode cX7_isAsSeen 25 = .ok (.imul, 1) := by decide +kernel
theorem dX7_isAsSeen_26 : decode cX7_isAsSeen 26 = .ok (.iaload, 1) := by decide +kernel
theorem dX7_isAsSeen_27 : decode cX7_isAsSeen 27 = .ok (.iload_n 1, 1) := by decide +kernel
theorem dX7_isAsSeen_28 : decode cX7_isAsSeen 28 = .ok (.if_icmp .ne 18, 3) := by decide +kernel
theorem dX7_isAsSeen_31 : decode cX7_isAsSeen 31 = .ok (.aload_n 0, 1) := by decide +kernel
theorem dX7_isAsSeen_32 : decode cX7_isAsSeen 32 = .ok (.getfield 33, 3) := by decide +kernel
theorem dX7_isAsSeen_35 : decode cX7_isAsSeen 35 = .ok (.iconst 2, 1) := by decide +kernel
theorem dX7_isAsSeen_36 : decode cX7_isAsSeen 36 = .ok (.iload 4, 2) := by decide +kernel
theorem dX7_isAsSeen_38 : decode cX7_isAsSeen 38 = .ok (.imul, 1) := by decide +kernel
theorem dX7_isAsSeen_39 : decode cX7_isAsSeen 39 = .ok (.iconst 1, 1) := by decide +kernel
theorem dX7_isAsSeen_40 : decode cX7_isAsSeen 40 = .ok (.iadd, 1) := by decide +kernel
theorem dX7_isAsSeen_41 : decode cX7_isAsSeen 41 = .ok (.iaload, 1) := by decide +kernel
theorem dX7_isAsSeen_42 : decode cX7_isAsSeen 42 = .ok (.iload_n 2, 1) := by decide +kernel
theorem dX7_isAsSeen_43 : decode cX7_isAsSeen 43 = .ok (.if_icmp .ne 7, 3) := by decide +kernel
theorem dX7_isAsSeen_46 : decode cX7_isAsSeen 46 = .ok (.iconst 1, 1) := by decide +kernel
theorem dX7_isAsSeen_47 : decode cX7_isAsSeen 47 = .ok (.goto 4, 3) := by decide +kernel
theorem dX7_isAsSeen_50 : decode cX7_isAsSeen 50 = .ok (.iconst 0, 1) := by decide +kernel
theorem dX7_isAsSeen_51 : decode cX7_isAsSeen 51 = .ok (.istore_n 3, 1) := by decide +kernel
theorem dX7_isAsSeen_52 : decode cX7_isAsSeen 52 = .ok (.iinc 4 1, 3) := by decide +kernel
theorem dX7_isAsSeen_55 : decode cX7_isAsSeen 55 = .ok (.goto (-50), 3) := by decide +kernel
theorem dX7_isAsSeen_58 : decode cX7_isAsSeen 58 = .ok (.iload_n 3, 1) := by decide +kernel
theorem dX7_isAsSeen_59 : decode cX7_isAsSeen 59 = .ok (.ireturn, 1) := by decide +kernel
theorem dX7_goesDown_0 : decode cX7_goesDown 0 = .ok (.aload_n 0, 1) := by decide +kernel
theorem dX7_goesDown_1 : decode cX7_goesDown 1 = .ok (.iload_n 3, 1) := by decide +kernel
theorem dX7_goesDown_2 : decode cX7_goesDown 2 = .ok (.bipush 10, 2) := by decide +kernel
theorem dX7_goesDown_4 : decode cX7_goesDown 4 = .ok (.idiv, 1) := by decide +kernel
theorem dX7_goesDown_5 : decode cX7_goesDown 5 = .ok (.iload_n 1, 1) := by decide +kernel
theorem dX7_goesDown_6 : decode cX7_goesDown 6 = .ok (.invokevirtual 143, 3) := by decide +kernel
theorem dX7_goesDown_9 : decode cX7_goesDown 9 = .ok (.ifCond .ne 15, 3) := by decide +kernel
theorem dX7_goesDown_12 : decode cX7_goesDown 12 = .ok (.aload_n 0, 1) := by decide +kernel
theorem dX7_goesDown_13 : decode cX7_goesDown 13 = .ok (.iload_n 3, 1) := by decide +kernel
theorem dX7_goesDown_14 : decode cX7_goesDown 14 = .ok (.bipush 10, 2) := by decide +kernel
theorem dX7_goesDown_16 : decode cX7_goesDown 16 = .ok (.irem, 1) := by decide +kernel
theorem dX7_goesDown_17 : decode cX7_goesDown 17 = .ok (.iload_n 1, 1) := by decide +kernel
theorem dX7_goesDown_18 : decode cX7_goesDown 18 = .ok (.invokevirtual 143, 3) := by decide +kernel
theorem dX7_goesDown_21 : decode cX7_goesDown 21 = .ok (.ifCond .eq 7, 3) := by decide +kernel
theorem dX7_goesDown_24 : decode cX7_goesDown 24 = .ok (.iconst 1, 1) := by decide +kernel
theorem dX7_goesDown_25 : decode cX7_goesDown 25 = .ok (.goto 4, 3) := by decide +kernel
theorem dX7_goesDown_28 : decode cX7_goesDown 28 = .ok (.iconst 0, 1) := by decide +kernel
theorem dX7_goesDown_29 : decode cX7_goesDown 29 = .ok (.istore 5, 2) := by decide +kernel
theorem dX7_goesDown_31 : decode cX7_goesDown 31 = .ok (.aload_n 0, 1) := by decide +kernel
theorem dX7_goesDown_32 : decode cX7_goesDown 32 = .ok (.iload_n 1, 1) := by decide +kernel
theorem dX7_goesDown_33 : decode cX7_goesDown 33 = .ok (.iload_n 2, 1) := by decide +kernel
theorem dX7_goesDown_34 : decode cX7_goesDown 34 = .ok (.iload_n 3, 1) := by decide +kernel
theorem dX7_goesDown_35 : decode cX7_goesDown 35 = .ok (.invokevirtual 158, 3) := by decide +kernel
theorem dX7_goesDown_38 : decode cX7_goesDown 38 = .ok (.iload 4, 2) := by decide +kernel
theorem dX7_goesDown_40 : decode cX7_goesDown 40 = .ok (.ifCond .eq 33, 3) := by decide +kernel
theorem dX7_goesDown_43 : decode cX7_goesDown 43 = .ok (.iload 4, 2) := by decide +kernel
theorem dX7_goesDown_45 : decode cX7_goesDown 45 = .ok (.iconst 1, 1) := by decide +kernel
theorem dX7_goesDown_46 : decode cX7_goesDown 46 = .ok (.if_icmp .ne 11, 3) := by decide +kernel
theorem dX7_goesDown_49 : decode cX7_goesDown 49 = .ok (.iload 5, 2) := by decide +kernel
theorem dX7_goesDown_51 : decode cX7_goesDown 51 = .ok (.ifCond .ne 26, 3) := by decide +kernel
theorem dX7_goesDown_54 : decode cX7_goesDown 54 = .ok (.goto 19, 3) := by decide +kernel
theorem dX7_goesDown_57 : decode cX7_goesDown 57 = .ok (.aload_n 0, 1) := by decide +kernel
theorem dX7_goesDown_58 : decode cX7_goesDown 58 = .ok (.iload_n 2, 1) := by decide +kernel
theorem dX7_goesDown_59 : decode cX7_goesDown 59 = .ok (.aload_n 0, 1) := by decide +kernel
theorem dX7_goesDown_60 : decode cX7_goesDown 60 = .ok (.getfield 51, 3) := by decide +kernel
theorem dX7_goesDown_63 : decode cX7_goesDown 63 = .ok (.iload_n 1, 1) := by decide +kernel
theorem dX7_goesDown_64 : decode cX7_goesDown 64 = .ok (.iconst 1, 1) := by decide +kernel
theorem dX7_goesDown_65 : decode cX7_goesDown 65 = .ok (.iadd, 1) := by decide +kernel
theorem dX7_goesDown_66 : decode cX7_goesDown 66 = .ok (.iaload, 1) := by decide +kernel
theorem dX7_goesDown_67 : decode cX7_goesDown 67 = .ok (.invokevirtual 176, 3) := by decide +kernel
theorem dX7_goesDown_70 : decode cX7_goesDown 70 = .ok (.ifCond .eq 7, 3) := by decide +kernel
theorem dX7_goesDown_73 : decode cX7_goesDown 73 = .ok (.iconst 1, 1) := by decide +kernel
theorem dX7_goesDown_74 : decode cX7_goesDown 74 = .ok (.goto 4, 3) := by decide +kernel
theorem dX7_goesDown_77 : decode cX7_goesDown 77 = .ok (.iconst 0, 1) := by decide +kernel
theorem dX7_goesDown_78 : decode cX7_goesDown 78 = .ok (.ireturn, 1) := by decide +kernel
theorem dX7_finds_0 : decode cX7_finds 0 = .ok (.aload_n 0, 1) := by decide +kernel
theorem dX7_finds_1 : decode cX7_finds 1 = .ok (.getfield 179, 3) := by decide +kernel
theorem dX7_finds_4 : decode cX7_finds 4 = .ok (.ifCond .eq 21, 3) := by decide +kernel
theorem dX7_finds_7 : decode cX7_finds 7 = .ok (.iload_n 2, 1) := by decide +kernel
theorem dX7_finds_8 : decode cX7_finds 8 = .ok (.iconst 2, 1) := by decide +kernel
theorem dX7_finds_9 : decode cX7_finds 9 = .ok (.if_icmp .eq 20, 3) := by decide +kernel
theorem dX7_finds_12 : decode cX7_finds 12 = .ok (.aload_n 0, 1) := by decide +kernel
theorem dX7_finds_13 : decode cX7_finds 13 = .ok (.getfield 51, 3) := by decide +kernel
theorem dX7_finds_16 : decode cX7_finds 16 = .ok (.iload_n 1, 1) := by decide +kernel
theorem dX7_finds_17 : decode cX7_finds 17 = .ok (.iaload, 1) := by decide +kernel
theorem dX7_finds_18 : decode cX7_finds 18 = .ok (.aload_n 0, 1) := by decide +kernel
theorem dX7_finds_19 : decode cX7_finds 19 = .ok (.getfield 182, 3) := by decide +kernel
theorem dX7_finds_22 : decode cX7_finds 22 = .ok (.if_icmp .ge 7, 3) := by decide +kernel
theorem dX7_finds_25 : decode cX7_finds 25 = .ok (.iconst 1, 1) := by decide +kernel
theorem dX7_finds_26 : decode cX7_finds 26 = .ok (.goto 4, 3) := by decide +kernel
theorem dX7_finds_29 : decode cX7_finds 29 = .ok (.iconst 0, 1) := by decide +kernel
theorem dX7_finds_30 : decode cX7_finds 30 = .ok (.istore_n 3, 1) := by decide +kernel
theorem dX7_finds_31 : decode cX7_finds 31 = .ok (.iconst 0, 1) := by decide +kernel
theorem dX7_finds_32 : decode cX7_finds 32 = .ok (.istore 4, 2) := by decide +kernel
theorem dX7_finds_34 : decode cX7_finds 34 = .ok (.iload 4, 2) := by decide +kernel
theorem dX7_finds_36 : decode cX7_finds 36 = .ok (.iload_n 1, 1) := by decide +kernel
theorem dX7_finds_37 : decode cX7_finds 37 = .ok (.if_icmp .ge 89, 3) := by decide +kernel
theorem dX7_finds_40 : decode cX7_finds 40 = .ok (.aload_n 0, 1) := by decide +kernel
theorem dX7_finds_41 : decode cX7_finds 41 = .ok (.getfield 54, 3) := by decide +kernel
theorem dX7_finds_44 : decode cX7_finds 44 = .ok (.iload 4, 2) := by decide +kernel
theorem dX7_finds_46 : decode cX7_finds 46 = .ok (.iconst 1, 1) := by decide +kernel
theorem dX7_finds_47 : decode cX7_finds 47 = .ok (.iadd, 1) := by decide +kernel
theorem dX7_finds_48 : decode cX7_finds 48 = .ok (.iaload, 1) := by decide +kernel
theorem dX7_finds_49 : decode cX7_finds 49 = .ok (.istore 5, 2) := by decide +kernel
theorem dX7_finds_51 : decode cX7_finds 51 = .ok (.iconst 1, 1) := by decide +kernel
theorem dX7_finds_52 : decode cX7_finds 52 = .ok (.iload 5, 2) := by decide +kernel
theorem dX7_finds_54 : decode cX7_finds 54 = .ok (.bipush 10, 2) := by decide +kernel
theorem dX7_finds_56 : decode cX7_finds 56 = .ok (.idiv, 1) := by decide +kernel
theorem dX7_finds_57 : decode cX7_finds 57 = .ok (.ishl, 1) := by decide +kernel
theorem dX7_finds_58 : decode cX7_finds 58 = .ok (.iconst 1, 1) := by decide +kernel
theorem dX7_finds_59 : decode cX7_finds 59 = .ok (.iload 5, 2) := by decide +kernel
theorem dX7_finds_61 : decode cX7_finds 61 = .ok (.bipush 10, 2) := by decide +kernel
theorem dX7_finds_63 : decode cX7_finds 63 = .ok (.irem, 1) := by decide +kernel
theorem dX7_finds_64 : decode cX7_finds 64 = .ok (.ishl, 1) := by decide +kernel
theorem dX7_finds_65 : decode cX7_finds 65 = .ok (.ior, 1) := by decide +kernel
theorem dX7_finds_66 : decode cX7_finds 66 = .ok (.istore 6, 2) := by decide +kernel
theorem dX7_finds_68 : decode cX7_finds 68 = .ok (.aload_n 0, 1) := by decide +kernel
theorem dX7_finds_69 : decode cX7_finds 69 = .ok (.getfield 60, 3) := by decide +kernel
theorem dX7_finds_72 : decode cX7_finds 72 = .ok (.iload 4, 2) := by decide +kernel
theorem dX7_finds_74 : decode cX7_finds 74 = .ok (.iload_n 3, 1) := by decide +kernel
theorem dX7_finds_75 : decode cX7_finds 75 = .ok (.ifCond .eq 8, 3) := by decide +kernel
theorem dX7_finds_78 : decode cX7_finds 78 = .ok (.iload 5, 2) := by decide +kernel
theorem dX7_finds_80 : decode cX7_finds 80 = .ok (.goto 10, 3) := by decide +kernel
theorem dX7_finds_83 : decode cX7_finds 83 = .ok (.aload_n 0, 1) := by decide +kernel
theorem dX7_finds_84 : decode cX7_finds 84 = .ok (.getfield 60, 3) := by decide +kernel
theorem dX7_finds_87 : decode cX7_finds 87 = .ok (.iload 4, 2) := by decide +kernel
theorem dX7_finds_89 : decode cX7_finds 89 = .ok (.iaload, 1) := by decide +kernel
theorem dX7_finds_90 : decode cX7_finds 90 = .ok (.iastore, 1) := by decide +kernel
theorem dX7_finds_91 : decode cX7_finds 91 = .ok (.aload_n 0, 1) := by decide +kernel
theorem dX7_finds_92 : decode cX7_finds 92 = .ok (.getfield 63, 3) := by decide +kernel
theorem dX7_finds_95 : decode cX7_finds 95 = .ok (.iload 4, 2) := by decide +kernel
theorem dX7_finds_97 : decode cX7_finds 97 = .ok (.aload_n 0, 1) := by decide +kernel
theorem dX7_finds_98 : decode cX7_finds 98 = .ok (.getfield 179, 3) := by decide +kernel
theorem dX7_finds_101 : decode cX7_finds 101 = .ok (.ifCond .ne 8, 3) := by decide +kernel
theorem dX7_finds_104 : decode cX7_finds 104 = .ok (.iload 6, 2) := by decide +kernel
theorem dX7_finds_106 : decode cX7_finds 106 = .ok (.goto 13, 3) := by decide +kernel
theorem dX7_finds_109 : decode cX7_finds 109 = .ok (.aload_n 0, 1) := by decide +kernel
theorem dX7_finds_110 : decode cX7_finds 110 = .ok (.getfield 63, 3) := by decide +kernel
theorem dX7_finds_113 : decode cX7_finds 113 = .ok (.iload 4, 2) := by decide +kernel
theorem dX7_finds_115 : decode cX7_finds 115 = .ok (.iaload, 1) := by decide +kernel
theorem dX7_finds_116 : decode cX7_finds 116 = .ok (.iload 6, 2) := by decide +kernel
theorem dX7_finds_118 : decode cX7_finds 118 = .ok (.iand, 1) := by decide +kernel
theorem dX7_finds_119 : decode cX7_finds 119 = .ok (.iastore, 1) := by decide +kernel
theorem dX7_finds_120 : decode cX7_finds 120 = .ok (.iinc 4 1, 3) := by decide +kernel
theorem dX7_finds_123 : decode cX7_finds 123 = .ok (.goto (-89), 3) := by decide +kernel
theorem dX7_finds_126 : decode cX7_finds 126 = .ok (.aload_n 0, 1) := by decide +kernel
theorem dX7_finds_127 : decode cX7_finds 127 = .ok (.iload_n 3, 1) := by decide +kernel
theorem dX7_finds_128 : decode cX7_finds 128 = .ok (.ifCond .eq 12, 3) := by decide +kernel
theorem dX7_finds_131 : decode cX7_finds 131 = .ok (.aload_n 0, 1) := by decide +kernel
theorem dX7_finds_132 : decode cX7_finds 132 = .ok (.getfield 51, 3) := by decide +kernel
theorem dX7_finds_135 : decode cX7_finds 135 = .ok (.iload_n 1, 1) := by decide +kernel
theorem dX7_finds_136 : decode cX7_finds 136 = .ok (.iaload, 1) := by decide +kernel
theorem dX7_finds_137 : decode cX7_finds 137 = .ok (.goto 7, 3) := by decide +kernel
theorem dX7_finds_140 : decode cX7_finds 140 = .ok (.aload_n 0, 1) := by decide +kernel
theorem dX7_finds_141 : decode cX7_finds 141 = .ok (.getfield 182, 3) := by decide +kernel
theorem dX7_finds_144 : decode cX7_finds 144 = .ok (.putfield 182, 3) := by decide +kernel
theorem dX7_finds_147 : decode cX7_finds 147 = .ok (.aload_n 0, 1) := by decide +kernel
theorem dX7_finds_148 : decode cX7_finds 148 = .ok (.dup, 1) := by decide +kernel
theorem dX7_finds_149 : decode cX7_finds 149 = .ok (.getfield 179, 3) := by decide +kernel
theorem dX7_finds_152 : decode cX7_finds 152 = .ok (.iconst 1, 1) := by decide +kernel
theorem dX7_finds_153 : decode cX7_finds 153 = .ok (.iadd, 1) := by decide +kernel
theorem dX7_finds_154 : decode cX7_finds 154 = .ok (.putfield 179, 3) := by decide +kernel
theorem dX7_finds_157 : decode cX7_finds 157 = .ok (.return_, 1) := by decide +kernel
theorem dX7_search_0 : decode cX7_search 0 = .ok (.aload_n 0, 1) := by decide +kernel
theorem dX7_search_1 : decode cX7_search 1 = .ok (.getfield 76, 3) := by decide +kernel
theorem dX7_search_4 : decode cX7_search 4 = .ok (.iload_n 1, 1) := by decide +kernel
theorem dX7_search_5 : decode cX7_search 5 = .ok (.isub, 1) := by decide +kernel
theorem dX7_search_6 : decode cX7_search 6 = .ok (.istore_n 3, 1) := by decide +kernel
theorem dX7_search_7 : decode cX7_search 7 = .ok (.aload_n 0, 1) := by decide +kernel
theorem dX7_search_8 : decode cX7_search 8 = .ok (.iconst 0, 1) := by decide +kernel
theorem dX7_search_9 : decode cX7_search 9 = .ok (.putfield 179, 3) := by decide +kernel
theorem dX7_search_12 : decode cX7_search 12 = .ok (.aload_n 0, 1) := by decide +kernel
theorem dX7_search_13 : decode cX7_search 13 = .ok (.iconst 0, 1) := by decide +kernel
theorem dX7_search_14 : decode cX7_search 14 = .ok (.putfield 182, 3) := by decide +kernel
theorem dX7_search_17 : decode cX7_search 17 = .ok (.iconst 0, 1) := by decide +kernel
theorem dX7_search_18 : decode cX7_search 18 = .ok (.istore 4, 2) := by decide +kernel
theorem dX7_search_20 : decode cX7_search 20 = .ok (.aload_n 0, 1) := by decide +kernel
theorem dX7_search_21 : decode cX7_search 21 = .ok (.getfield 57, 3) := by decide +kernel
theorem dX7_search_24 : decode cX7_search 24 = .ok (.iconst 0, 1) := by decide +kernel
theorem dX7_search_25 : decode cX7_search 25 = .ok (.iconst 0, 1) := by decide +kernel
theorem dX7_search_26 : decode cX7_search 26 = .ok (.iastore, 1) := by decide +kernel
theorem dX7_search_27 : decode cX7_search 27 = .ok (.iload 4, 2) := by decide +kernel
theorem dX7_search_29 : decode cX7_search 29 = .ok (.ifCond .lt 86, 3) := by decide +kernel
theorem dX7_search_32 : decode cX7_search 32 = .ok (.iload 4, 2) := by decide +kernel
theorem dX7_search_34 : decode cX7_search 34 = .ok (.iload_n 3, 1) := by decide +kernel
theorem dX7_search_35 : decode cX7_search 35 = .ok (.if_icmp .ne 15, 3) := by decide +kernel
theorem dX7_search_38 : decode cX7_search 38 = .ok (.aload_n 0, 1) := by decide +kernel
theorem dX7_search_39 : decode cX7_search 39 = .ok (.iload_n 3, 1) := by decide +kernel
theorem dX7_search_40 : decode cX7_search 40 = .ok (.iload_n 2, 1) := by decide +kernel
theorem dX7_search_41 : decode cX7_search 41 = .ok (.invokevirtual 185, 3) := by decide +kernel
theorem dX7_search_44 : decode cX7_search 44 = .ok (.iinc 4 (-1), 3) := by decide +kernel
theorem dX7_search_47 : decode cX7_search 47 = .ok (.goto (-20), 3) := by decide +kernel
theorem dX7_search_50 : decode cX7_search 50 = .ok (.aload_n 0, 1) := by decide +kernel
theorem dX7_search_51 : decode cX7_search 51 = .ok (.aload_n 0, 1) := by decide +kernel
theorem dX7_search_52 : decode cX7_search 52 = .ok (.getfield 57, 3) := by decide +kernel
theorem dX7_search_55 : decode cX7_search 55 = .ok (.iload 4, 2) := by decide +kernel
theorem dX7_search_57 : decode cX7_search 57 = .ok (.iaload, 1) := by decide +kernel
theorem dX7_search_58 : decode cX7_search 58 = .ok (.invokevirtual 189, 3) := by decide +kernel
theorem dX7_search_61 : decode cX7_search 61 = .ok (.istore 5, 2) := by decide +kernel
theorem dX7_search_63 : decode cX7_search 63 = .ok (.aload_n 0, 1) := by decide +kernel
theorem dX7_search_64 : decode cX7_search 64 = .ok (.getfield 57, 3) := by decide +kernel
theorem dX7_search_67 : decode cX7_search 67 = .ok (.iload 4, 2) := by decide +kernel
theorem dX7_search_69 : decode cX7_search 69 = .ok (.dup2, 1) := by decide +kernel
theorem dX7_search_70 : decode cX7_search 70 = .ok (.iaload, 1) := by decide +kernel
theorem dX7_search_71 : decode cX7_search 71 = .ok (.iconst 1, 1) := by decide +kernel
theorem dX7_search_72 : decode cX7_search 72 = .ok (.iadd, 1) := by decide +kernel
theorem dX7_search_73 : decode cX7_search 73 = .ok (.iastore, 1) := by decide +kernel
theorem dX7_search_74 : decode cX7_search 74 = .ok (.iload 5, 2) := by decide +kernel
theorem dX7_search_76 : decode cX7_search 76 = .ok (.ifCond .ge 9, 3) := by decide +kernel
theorem dX7_search_79 : decode cX7_search 79 = .ok (.iinc 4 (-1), 3) := by decide +kernel
theorem dX7_search_82 : decode cX7_search 82 = .ok (.goto 30, 3) := by decide +kernel
theorem dX7_search_85 : decode cX7_search 85 = .ok (.aload_n 0, 1) := by decide +kernel
theorem dX7_search_86 : decode cX7_search 86 = .ok (.iload 4, 2) := by decide +kernel
theorem dX7_search_88 : decode cX7_search 88 = .ok (.iload_n 1, 1) := by decide +kernel
theorem dX7_search_89 : decode cX7_search 89 = .ok (.iload 4, 2) := by decide +kernel
theorem dX7_search_91 : decode cX7_search 91 = .ok (.iadd, 1) := by decide +kernel
theorem dX7_search_92 : decode cX7_search 92 = .ok (.iload 5, 2) := by decide +kernel
theorem dX7_search_94 : decode cX7_search 94 = .ok (.iload_n 2, 1) := by decide +kernel
theorem dX7_search_95 : decode cX7_search 95 = .ok (.invokevirtual 192, 3) := by decide +kernel
theorem dX7_search_98 : decode cX7_search 98 = .ok (.ifCond .eq 14, 3) := by decide +kernel
theorem dX7_search_101 : decode cX7_search 101 = .ok (.iinc 4 1, 3) := by decide +kernel
theorem dX7_search_104 : decode cX7_search 104 = .ok (.aload_n 0, 1) := by decide +kernel
theorem dX7_search_105 : decode cX7_search 105 = .ok (.getfield 57, 3) := by decide +kernel
theorem dX7_search_108 : decode cX7_search 108 = .ok (.iload 4, 2) := by decide +kernel
theorem dX7_search_110 : decode cX7_search 110 = .ok (.iconst 0, 1) := by decide +kernel
theorem dX7_search_111 : decode cX7_search 111 = .ok (.iastore, 1) := by decide +kernel
theorem dX7_search_112 : decode cX7_search 112 = .ok (.goto (-85), 3) := by decide +kernel
theorem dX7_search_115 : decode cX7_search 115 = .ok (.return_, 1) := by decide +kernel
theorem dX7_told_0 : decode cX7_told 0 = .ok (.iload_n 1, 1) := by decide +kernel
theorem dX7_told_1 : decode cX7_told 1 = .ok (.iconst (-1), 1) := by decide +kernel
theorem dX7_told_2 : decode cX7_told 2 = .ok (.iconst 5, 1) := by decide +kernel
theorem dX7_told_3 : decode cX7_told 3 = .ok (.invokestatic 72, 3) := by decide +kernel
theorem dX7_told_6 : decode cX7_told 6 = .ok (.ifCond .ne 5, 3) := by decide +kernel
theorem dX7_told_9 : decode cX7_told 9 = .ok (.iconst (-1), 1) := by decide +kernel
theorem dX7_told_10 : decode cX7_told 10 = .ok (.ireturn, 1) := by decide +kernel
theorem dX7_told_11 : decode cX7_told 11 = .ok (.aload_n 0, 1) := by decide +kernel
theorem dX7_told_12 : decode cX7_told 12 = .ok (.getfield 20, 3) := by decide +kernel
theorem dX7_told_15 : decode cX7_told 15 = .ok (.iconst 0, 1) := by decide +kernel
theorem dX7_told_16 : decode cX7_told 16 = .ok (.iaload, 1) := by decide +kernel
theorem dX7_told_17 : decode cX7_told 17 = .ok (.aload_n 0, 1) := by decide +kernel
theorem dX7_told_18 : decode cX7_told 18 = .ok (.getfield 76, 3) := by decide +kernel
theorem dX7_told_21 : decode cX7_told 21 = .ok (.if_icmp .eq 11, 3) := by decide +kernel
theorem dX7_told_24 : decode cX7_told 24 = .ok (.aload_n 0, 1) := by decide +kernel
theorem dX7_told_25 : decode cX7_told 25 = .ok (.getfield 69, 3) := by decide +kernel
theorem dX7_told_28 : decode cX7_told 28 = .ok (.iconst 2, 1) := by decide +kernel
theorem dX7_told_29 : decode cX7_told 29 = .ok (.if_icmp .ge 6, 3) := by decide +kernel
theorem dX7_told_32 : decode cX7_told 32 = .ok (.bipush (-9), 2) := by decide +kernel
theorem dX7_told_34 : decode cX7_told 34 = .ok (.ireturn, 1) := by decide +kernel
theorem dX7_told_35 : decode cX7_told 35 = .ok (.aload_n 0, 1) := by decide +kernel
theorem dX7_told_36 : decode cX7_told 36 = .ok (.invokevirtual 155, 3) := by decide +kernel
theorem dX7_told_39 : decode cX7_told 39 = .ok (.aload_n 0, 1) := by decide +kernel
theorem dX7_told_40 : decode cX7_told 40 = .ok (.aload_n 0, 1) := by decide +kernel
theorem dX7_told_41 : decode cX7_told 41 = .ok (.getfield 20, 3) := by decide +kernel
theorem dX7_told_44 : decode cX7_told 44 = .ok (.iconst 0, 1) := by decide +kernel
theorem dX7_told_45 : decode cX7_told 45 = .ok (.iaload, 1) := by decide +kernel
theorem dX7_told_46 : decode cX7_told 46 = .ok (.iload_n 2, 1) := by decide +kernel
theorem dX7_told_47 : decode cX7_told 47 = .ok (.invokevirtual 196, 3) := by decide +kernel
theorem dX7_told_50 : decode cX7_told 50 = .ok (.aload_n 0, 1) := by decide +kernel
theorem dX7_told_51 : decode cX7_told 51 = .ok (.getfield 179, 3) := by decide +kernel
theorem dX7_told_54 : decode cX7_told 54 = .ok (.ifCond .eq 27, 3) := by decide +kernel
theorem dX7_told_57 : decode cX7_told 57 = .ok (.iload_n 1, 1) := by decide +kernel
theorem dX7_told_58 : decode cX7_told 58 = .ok (.aload_n 0, 1) := by decide +kernel
theorem dX7_told_59 : decode cX7_told 59 = .ok (.getfield 76, 3) := by decide +kernel
theorem dX7_told_62 : decode cX7_told 62 = .ok (.if_icmp .ge 19, 3) := by decide +kernel
theorem dX7_told_65 : decode cX7_told 65 = .ok (.iload_n 1, 1) := by decide +kernel
theorem dX7_told_66 : decode cX7_told 66 = .ok (.iconst 0, 1) := by decide +kernel
theorem dX7_told_67 : decode cX7_told 67 = .ok (.aload_n 0, 1) := by decide +kernel
theorem dX7_told_68 : decode cX7_told 68 = .ok (.getfield 20, 3) := by decide +kernel
theorem dX7_told_71 : decode cX7_told 71 = .ok (.iconst 0, 1) := by decide +kernel
theorem dX7_told_72 : decode cX7_told 72 = .ok (.iaload, 1) := by decide +kernel
theorem dX7_told_73 : decode cX7_told 73 = .ok (.iconst 1, 1) := by decide +kernel
theorem dX7_told_74 : decode cX7_told 74 = .ok (.isub, 1) := by decide +kernel
theorem dX7_told_75 : decode cX7_told 75 = .ok (.invokestatic 72, 3) := by decide +kernel
theorem dX7_told_78 : decode cX7_told 78 = .ok (.ifCond .eq 6, 3) := by decide +kernel
theorem dX7_told_81 : decode cX7_told 81 = .ok (.bipush (-9), 2) := by decide +kernel
theorem dX7_told_83 : decode cX7_told 83 = .ok (.ireturn, 1) := by decide +kernel
theorem dX7_told_84 : decode cX7_told 84 = .ok (.iload_n 1, 1) := by decide +kernel
theorem dX7_told_85 : decode cX7_told 85 = .ok (.ifCond .ge 10, 3) := by decide +kernel
theorem dX7_told_88 : decode cX7_told 88 = .ok (.aload_n 0, 1) := by decide +kernel
theorem dX7_told_89 : decode cX7_told 89 = .ok (.getfield 182, 3) := by decide +kernel
theorem dX7_told_92 : decode cX7_told 92 = .ok (.goto 16, 3) := by decide +kernel
theorem dX7_told_95 : decode cX7_told 95 = .ok (.aload_n 0, 1) := by decide +kernel
theorem dX7_told_96 : decode cX7_told 96 = .ok (.getfield 60, 3) := by decide +kernel
theorem dX7_told_99 : decode cX7_told 99 = .ok (.iload_n 1, 1) := by decide +kernel
theorem dX7_told_100 : decode cX7_told 100 = .ok (.aload_n 0, 1) := by decide +kernel
theorem dX7_told_101 : decode cX7_told 101 = .ok (.getfield 20, 3) := by decide +kernel
theorem dX7_told_104 : decode cX7_told 104 = .ok (.iconst 0, 1) := by decide +kernel
theorem dX7_told_105 : decode cX7_told 105 = .ok (.iaload, 1) := by decide +kernel
theorem dX7_told_106 : decode cX7_told 106 = .ok (.isub, 1) := by decide +kernel
theorem dX7_told_107 : decode cX7_told 107 = .ok (.iaload, 1) := by decide +kernel
theorem dX7_told_108 : decode cX7_told 108 = .ok (.ireturn, 1) := by decide +kernel
theorem dX7_best_0 : decode cX7_best 0 = .ok (.aload_n 0, 1) := by decide +kernel
theorem dX7_best_1 : decode cX7_best 1 = .ok (.iload_n 1, 1) := by decide +kernel
theorem dX7_best_2 : decode cX7_best 2 = .ok (.iconst 0, 1) := by decide +kernel
theorem dX7_best_3 : decode cX7_best 3 = .ok (.invokevirtual 199, 3) := by decide +kernel
theorem dX7_best_6 : decode cX7_best 6 = .ok (.ireturn, 1) := by decide +kernel
theorem dX7_fresh_0 : decode cX7_fresh 0 = .ok (.aload_n 0, 1) := by decide +kernel
theorem dX7_fresh_1 : decode cX7_fresh 1 = .ok (.iload_n 1, 1) := by decide +kernel
theorem dX7_fresh_2 : decode cX7_fresh 2 = .ok (.iconst 1, 1) := by decide +kernel
theorem dX7_fresh_3 : decode cX7_fresh 3 = .ok (.invokevirtual 199, 3) := by decide +kernel
theorem dX7_fresh_6 : decode cX7_fresh 6 = .ok (.ireturn, 1) := by decide +kernel
theorem dX7_hired_0 : decode cX7_hired 0 = .ok (.aload_n 0, 1) := by decide +kernel
theorem dX7_hired_1 : decode cX7_hired 1 = .ok (.iload_n 1, 1) := by decide +kernel
theorem dX7_hired_2 : decode cX7_hired 2 = .ok (.invokevirtual 164, 3) := by decide +kernel
theorem dX7_hired_5 : decode cX7_hired 5 = .ok (.ifCond .eq 22, 3) := by decide +kernel
theorem dX7_hired_8 : decode cX7_hired 8 = .ok (.iload_n 2, 1) := by decide +kernel
theorem dX7_hired_9 : decode cX7_hired 9 = .ok (.iconst 0, 1) := by decide +kernel
theorem dX7_hired_10 : decode cX7_hired 10 = .ok (.bipush 99, 2) := by decide +kernel
theorem dX7_hired_12 : decode cX7_hired 12 = .ok (.invokestatic 72, 3) := by decide +kernel
theorem dX7_hired_15 : decode cX7_hired 15 = .ok (.ifCond .eq 12, 3) := by decide +kernel
theorem dX7_hired_18 : decode cX7_hired 18 = .ok (.iload_n 3, 1) := by decide +kernel
theorem dX7_hired_19 : decode cX7_hired 19 = .ok (.iconst 0, 1) := by decide +kernel
theorem dX7_hired_20 : decode cX7_hired 20 = .ok (.iconst 1, 1) := by decide +kernel
theorem dX7_hired_21 : decode cX7_hired 21 = .ok (.invokestatic 72, 3) := by decide +kernel
theorem dX7_hired_24 : decode cX7_hired 24 = .ok (.ifCond .ne 5, 3) := by decide +kernel
theorem dX7_hired_27 : decode cX7_hired 27 = .ok (.iconst (-1), 1) := by decide +kernel
theorem dX7_hired_28 : decode cX7_hired 28 = .ok (.ireturn, 1) := by decide +kernel
theorem dX7_hired_29 : decode cX7_hired 29 = .ok (.iconst 0, 1) := by decide +kernel
theorem dX7_hired_30 : decode cX7_hired 30 = .ok (.istore 4, 2) := by decide +kernel
theorem dX7_hired_32 : decode cX7_hired 32 = .ok (.bipush (-9), 2) := by decide +kernel
theorem dX7_hired_34 : decode cX7_hired 34 = .ok (.istore 5, 2) := by decide +kernel
theorem dX7_hired_36 : decode cX7_hired 36 = .ok (.iconst 0, 1) := by decide +kernel
theorem dX7_hired_37 : decode cX7_hired 37 = .ok (.istore 6, 2) := by decide +kernel
theorem dX7_hired_39 : decode cX7_hired 39 = .ok (.iconst 0, 1) := by decide +kernel
theorem dX7_hired_40 : decode cX7_hired 40 = .ok (.istore 7, 2) := by decide +kernel
theorem dX7_hired_42 : decode cX7_hired 42 = .ok (.iload 7, 2) := by decide +kernel
theorem dX7_hired_44 : decode cX7_hired 44 = .ok (.iconst 1, 1) := by decide +kernel
theorem dX7_hired_45 : decode cX7_hired 45 = .ok (.aload_n 0, 1) := by decide +kernel
theorem dX7_hired_46 : decode cX7_hired 46 = .ok (.getfield 76, 3) := by decide +kernel
theorem dX7_hired_49 : decode cX7_hired 49 = .ok (.ishl, 1) := by decide +kernel
theorem dX7_hired_50 : decode cX7_hired 50 = .ok (.if_icmp .ge 130, 3) := by decide +kernel
theorem dX7_hired_53 : decode cX7_hired 53 = .ok (.aload_n 0, 1) := by decide +kernel
theorem dX7_hired_54 : decode cX7_hired 54 = .ok (.iload 7, 2) := by decide +kernel
theorem dX7_hired_56 : decode cX7_hired 56 = .ok (.invokevirtual 203, 3) := by decide +kernel
theorem dX7_hired_59 : decode cX7_hired 59 = .ok (.istore 8, 2) := by decide +kernel
theorem dX7_hired_61 : decode cX7_hired 61 = .ok (.iload 7, 2) := by decide +kernel
theorem dX7_hired_63 : decode cX7_hired 63 = .ok (.aload_n 0, 1) := by decide +kernel
theorem dX7_hired_64 : decode cX7_hired 64 = .ok (.getfield 20, 3) := by decide +kernel
theorem dX7_hired_67 : decode cX7_hired 67 = .ok (.iconst 0, 1) := by decide +kernel
theorem dX7_hired_68 : decode cX7_hired 68 = .ok (.iaload, 1) := by decide +kernel
theorem dX7_hired_69 : decode cX7_hired 69 = .ok (.ishr, 1) := by decide +kernel
theorem dX7_hired_70 : decode cX7_hired 70 = .ok (.aload_n 0, 1) := by decide +kernel
theorem dX7_hired_71 : decode cX7_hired 71 = .ok (.getfield 20, 3) := by decide +kernel
theorem dX7_hired_74 : decode cX7_hired 74 = .ok (.iconst 0, 1) := by decide +kernel
theorem dX7_hired_75 : decode cX7_hired 75 = .ok (.iaload, 1) := by decide +kernel
theorem dX7_hired_76 : decode cX7_hired 76 = .ok (.ishl, 1) := by decide +kernel
theorem dX7_hired_77 : decode cX7_hired 77 = .ok (.iload 7, 2) := by decide +kernel
theorem dX7_hired_79 : decode cX7_hired 79 = .ok (.if_icmp .ne 95, 3) := by decide +kernel
theorem dX7_hired_82 : decode cX7_hired 82 = .ok (.iload 8, 2) := by decide +kernel
theorem dX7_hired_84 : decode cX7_hired 84 = .ok (.iload_n 2, 1) := by decide +kernel
theorem dX7_hired_85 : decode cX7_hired 85 = .ok (.if_icmp .gt 89, 3) := by decide +kernel
theorem dX7_hired_88 : decode cX7_hired 88 = .ok (.aload_n 0, 1) := by decide +kernel
theorem dX7_hired_89 : decode cX7_hired 89 = .ok (.iload_n 1, 1) := by decide +kernel
theorem dX7_hired_90 : decode cX7_hired 90 = .ok (.iload 7, 2) := by decide +kernel
theorem dX7_hired_92 : decode cX7_hired 92 = .ok (.invokevirtual 206, 3) := by decide +kernel
theorem dX7_hired_95 : decode cX7_hired 95 = .ok (.istore 9, 2) := by decide +kernel
theorem dX7_hired_97 : decode cX7_hired 97 = .ok (.iload 5, 2) := by decide +kernel
theorem dX7_hired_99 : decode cX7_hired 99 = .ok (.bipush (-9), 2) := by decide +kernel
theorem dX7_hired_101 : decode cX7_hired 101 = .ok (.if_icmp .eq 24, 3) := by decide +kernel
theorem dX7_hired_104 : decode cX7_hired 104 = .ok (.iload 9, 2) := by decide +kernel
theorem dX7_hired_106 : decode cX7_hired 106 = .ok (.iload 5, 2) := by decide +kernel
theorem dX7_hired_108 : decode cX7_hired 108 = .ok (.if_icmp .lt 17, 3) := by decide +kernel
theorem dX7_hired_111 : decode cX7_hired 111 = .ok (.iload 9, 2) := by decide +kernel
theorem dX7_hired_113 : decode cX7_hired 113 = .ok (.iload 5, 2) := by decide +kernel
theorem dX7_hired_115 : decode cX7_hired 115 = .ok (.if_icmp .ne 14, 3) := by decide +kernel
theorem dX7_hired_118 : decode cX7_hired 118 = .ok (.iload 8, 2) := by decide +kernel
theorem dX7_hired_120 : decode cX7_hired 120 = .ok (.iload 6, 2) := by decide +kernel
theorem dX7_hired_122 : decode cX7_hired 122 = .ok (.if_icmp .ge 7, 3) := by decide +kernel
theorem dX7_hired_125 : decode cX7_hired 125 = .ok (.iconst 1, 1) := by decide +kernel
theorem dX7_hired_126 : decode cX7_hired 126 = .ok (.goto 4, 3) := by decide +kernel
theorem dX7_hired_129 : decode cX7_hired 129 = .ok (.iconst 0, 1) := by decide +kernel
theorem dX7_hired_130 : decode cX7_hired 130 = .ok (.istore 10, 2) := by decide +kernel
theorem dX7_hired_132 : decode cX7_hired 132 = .ok (.iload 10, 2) := by decide +kernel
theorem dX7_hired_134 : decode cX7_hired 134 = .ok (.ifCond .eq 8, 3) := by decide +kernel
theorem dX7_hired_137 : decode cX7_hired 137 = .ok (.iload 7, 2) := by decide +kernel
theorem dX7_hired_139 : decode cX7_hired 139 = .ok (.goto 5, 3) := by decide +kernel
theorem dX7_hired_142 : decode cX7_hired 142 = .ok (.iload 4, 2) := by decide +kernel
theorem dX7_hired_144 : decode cX7_hired 144 = .ok (.istore 4, 2) := by decide +kernel
theorem dX7_hired_146 : decode cX7_hired 146 = .ok (.iload 10, 2) := by decide +kernel
theorem dX7_hired_148 : decode cX7_hired 148 = .ok (.ifCond .eq 8, 3) := by decide +kernel
theorem dX7_hired_151 : decode cX7_hired 151 = .ok (.iload 9, 2) := by decide +kernel
theorem dX7_hired_153 : decode cX7_hired 153 = .ok (.goto 5, 3) := by decide +kernel
theorem dX7_hired_156 : decode cX7_hired 156 = .ok (.iload 5, 2) := by decide +kernel
theorem dX7_hired_158 : decode cX7_hired 158 = .ok (.istore 5, 2) := by decide +kernel
theorem dX7_hired_160 : decode cX7_hired 160 = .ok (.iload 10, 2) := by decide +kernel
theorem dX7_hired_162 : decode cX7_hired 162 = .ok (.ifCond .eq 8, 3) := by decide +kernel
theorem dX7_hired_165 : decode cX7_hired 165 = .ok (.iload 8, 2) := by decide +kernel
theorem dX7_hired_167 : decode cX7_hired 167 = .ok (.goto 5, 3) := by decide +kernel
theorem dX7_hired_170 : decode cX7_hired 170 = .ok (.iload 6, 2) := by decide +kernel
theorem dX7_hired_172 : decode cX7_hired 172 = .ok (.istore 6, 2) := by decide +kernel
theorem dX7_hired_174 : decode cX7_hired 174 = .ok (.iinc 7 1, 3) := by decide +kernel
theorem dX7_hired_177 : decode cX7_hired 177 = .ok (.goto (-135), 3) := by decide +kernel
theorem dX7_hired_180 : decode cX7_hired 180 = .ok (.iload_n 3, 1) := by decide +kernel
theorem dX7_hired_181 : decode cX7_hired 181 = .ok (.ifCond .ne 8, 3) := by decide +kernel
theorem dX7_hired_184 : decode cX7_hired 184 = .ok (.iload 4, 2) := by decide +kernel
theorem dX7_hired_186 : decode cX7_hired 186 = .ok (.goto 5, 3) := by decide +kernel
theorem dX7_hired_189 : decode cX7_hired 189 = .ok (.iload 5, 2) := by decide +kernel
theorem dX7_hired_191 : decode cX7_hired 191 = .ok (.ireturn, 1) := by decide +kernel
theorem dX7_penceOf_0 : decode cX7_penceOf 0 = .ok (.iconst 0, 1) := by decide +kernel
theorem dX7_penceOf_1 : decode cX7_penceOf 1 = .ok (.istore_n 2, 1) := by decide +kernel
theorem dX7_penceOf_2 : decode cX7_penceOf 2 = .ok (.iconst 0, 1) := by decide +kernel
theorem dX7_penceOf_3 : decode cX7_penceOf 3 = .ok (.istore_n 3, 1) := by decide +kernel
theorem dX7_penceOf_4 : decode cX7_penceOf 4 = .ok (.iload_n 3, 1) := by decide +kernel
theorem dX7_penceOf_5 : decode cX7_penceOf 5 = .ok (.aload_n 0, 1) := by decide +kernel
theorem dX7_penceOf_6 : decode cX7_penceOf 6 = .ok (.getfield 76, 3) := by decide +kernel
theorem dX7_penceOf_9 : decode cX7_penceOf 9 = .ok (.if_icmp .ge 32, 3) := by decide +kernel
theorem dX7_penceOf_12 : decode cX7_penceOf 12 = .ok (.iload_n 2, 1) := by decide +kernel
theorem dX7_penceOf_13 : decode cX7_penceOf 13 = .ok (.iload_n 1, 1) := by decide +kernel
theorem dX7_penceOf_14 : decode cX7_penceOf 14 = .ok (.iload_n 3, 1) := by decide +kernel
theorem dX7_penceOf_15 : decode cX7_penceOf 15 = .ok (.invokestatic 209, 3) := by decide +kernel
theorem dX7_penceOf_18 : decode cX7_penceOf 18 = .ok (.ifCond .eq 14, 3) := by decide +kernel
theorem dX7_penceOf_21 : decode cX7_penceOf 21 = .ok (.aload_n 0, 1) := by decide +kernel
theorem dX7_penceOf_22 : decode cX7_penceOf 22 = .ok (.getfield 13, 3) := by decide +kernel
theorem dX7_penceOf_25 : decode cX7_penceOf 25 = .ok (.iconst 4, 1) := by decide +kernel
theorem dX7_penceOf_26 : decode cX7_penceOf 26 = .ok (.iload_n 3, 1) := by decide +kernel
theorem dX7_penceOf_27 : decode cX7_penceOf 27 = .ok (.imul, 1) := by decide +kernel
theorem dX7_penceOf_28 : decode cX7_penceOf 28 = .ok (.iaload, 1) := by decide +kernel
theorem dX7_penceOf_29 : decode cX7_penceOf 29 = .ok (.goto 4, 3) := by decide +kernel
theorem dX7_penceOf_32 : decode cX7_penceOf 32 = .ok (.iconst 0, 1) := by decide +kernel
theorem dX7_penceOf_33 : decode cX7_penceOf 33 = .ok (.iadd, 1) := by decide +kernel
theorem dX7_penceOf_34 : decode cX7_penceOf 34 = .ok (.istore_n 2, 1) := by decide +kernel
theorem dX7_penceOf_35 : decode cX7_penceOf 35 = .ok (.iinc 3 1, 3) := by decide +kernel
theorem dX7_penceOf_38 : decode cX7_penceOf 38 = .ok (.goto (-34), 3) := by decide +kernel
theorem dX7_penceOf_41 : decode cX7_penceOf 41 = .ok (.iload_n 2, 1) := by decide +kernel
theorem dX7_penceOf_42 : decode cX7_penceOf 42 = .ok (.ireturn, 1) := by decide +kernel
theorem dX7_minutesBy_0 : decode cX7_minutesBy 0 = .ok (.aload_n 0, 1) := by decide +kernel
theorem dX7_minutesBy_1 : decode cX7_minutesBy 1 = .ok (.invokevirtual 155, 3) := by decide +kernel
theorem dX7_minutesBy_4 : decode cX7_minutesBy 4 = .ok (.iconst 0, 1) := by decide +kernel
theorem dX7_minutesBy_5 : decode cX7_minutesBy 5 = .ok (.istore_n 3, 1) := by decide +kernel
theorem dX7_minutesBy_6 : decode cX7_minutesBy 6 = .ok (.aload_n 0, 1) := by decide +kernel
theorem dX7_minutesBy_7 : decode cX7_minutesBy 7 = .ok (.getfield 20, 3) := by decide +kernel
theorem dX7_minutesBy_10 : decode cX7_minutesBy 10 = .ok (.iconst 0, 1) := by decide +kernel
theorem dX7_minutesBy_11 : decode cX7_minutesBy 11 = .ok (.iaload, 1) := by decide +kernel
theorem dX7_minutesBy_12 : decode cX7_minutesBy 12 = .ok (.istore 4, 2) := by decide +kernel
theorem dX7_minutesBy_14 : decode cX7_minutesBy 14 = .ok (.iload 4, 2) := by decide +kernel
theorem dX7_minutesBy_16 : decode cX7_minutesBy 16 = .ok (.aload_n 0, 1) := by decide +kernel
theorem dX7_minutesBy_17 : decode cX7_minutesBy 17 = .ok (.getfield 76, 3) := by decide +kernel
theorem dX7_minutesBy_20 : decode cX7_minutesBy 20 = .ok (.if_icmp .ge 84, 3) := by decide +kernel
theorem dX7_minutesBy_23 : decode cX7_minutesBy 23 = .ok (.iload 4, 2) := by decide +kernel
theorem dX7_minutesBy_25 : decode cX7_minutesBy 25 = .ok (.aload_n 0, 1) := by decide +kernel
theorem dX7_minutesBy_26 : decode cX7_minutesBy 26 = .ok (.getfield 20, 3) := by decide +kernel
theorem dX7_minutesBy_29 : decode cX7_minutesBy 29 = .ok (.iconst 0, 1) := by decide +kernel
theorem dX7_minutesBy_30 : decode cX7_minutesBy 30 = .ok (.iaload, 1) := by decide +kernel
theorem dX7_minutesBy_31 : decode cX7_minutesBy 31 = .ok (.isub, 1) := by decide +kernel
theorem dX7_minutesBy_32 : decode cX7_minutesBy 32 = .ok (.istore 5, 2) := by decide +kernel
theorem dX7_minutesBy_34 : decode cX7_minutesBy 34 = .ok (.iload_n 3, 1) := by decide +kernel
theorem dX7_minutesBy_35 : decode cX7_minutesBy 35 = .ok (.iload_n 2, 1) := by decide +kernel
theorem dX7_minutesBy_36 : decode cX7_minutesBy 36 = .ok (.iload 4, 2) := by decide +kernel
theorem dX7_minutesBy_38 : decode cX7_minutesBy 38 = .ok (.invokestatic 209, 3) := by decide +kernel
theorem dX7_minutesBy_41 : decode cX7_minutesBy 41 = .ok (.ifCond .eq 17, 3) := by decide +kernel
theorem dX7_minutesBy_44 : decode cX7_minutesBy 44 = .ok (.iconst 3, 1) := by decide +kernel
theorem dX7_minutesBy_45 : decode cX7_minutesBy 45 = .ok (.aload_n 0, 1) := by decide +kernel
theorem dX7_minutesBy_46 : decode cX7_minutesBy 46 = .ok (.getfield 13, 3) := by decide +kernel
theorem dX7_minutesBy_49 : decode cX7_minutesBy 49 = .ok (.iconst 4, 1) := by decide +kernel
theorem dX7_minutesBy_50 : decode cX7_minutesBy 50 = .ok (.iload 4, 2) := by decide +kernel
theorem dX7_minutesBy_52 : decode cX7_minutesBy 52 = .ok (.imul, 1) := by decide +kernel
theorem dX7_minutesBy_53 : decode cX7_minutesBy 53 = .ok (.iaload, 1) := by decide +kernel
theorem dX7_minutesBy_54 : decode cX7_minutesBy 54 = .ok (.imul, 1) := by decide +kernel
theorem dX7_minutesBy_55 : decode cX7_minutesBy 55 = .ok (.goto 12, 3) := by decide +kernel
theorem dX7_minutesBy_58 : decode cX7_minutesBy 58 = .ok (.aload_n 0, 1) := by decide +kernel
theorem dX7_minutesBy_59 : decode cX7_minutesBy 59 = .ok (.iload 4, 2) := by decide +kernel
theorem dX7_minutesBy_61 : decode cX7_minutesBy 61 = .ok (.iload_n 1, 1) := by decide +kernel
theorem dX7_minutesBy_62 : decode cX7_minutesBy 62 = .ok (.iload 5, 2) := by decide +kernel
theorem dX7_minutesBy_64 : decode cX7_minutesBy 64 = .ok (.invokevirtual 147, 3) := by decide +kernel
theorem dX7_minutesBy_67 : decode cX7_minutesBy 67 = .ok (.iadd, 1) := by decide +kernel
theorem dX7_minutesBy_68 : decode cX7_minutesBy 68 = .ok (.istore_n 3, 1) := by decide +kernel
theorem dX7_minutesBy_69 : decode cX7_minutesBy 69 = .ok (.aload_n 0, 1) := by decide +kernel
theorem dX7_minutesBy_70 : decode cX7_minutesBy 70 = .ok (.iload 5, 2) := by decide +kernel
theorem dX7_minutesBy_72 : decode cX7_minutesBy 72 = .ok (.iload_n 2, 1) := by decide +kernel
theorem dX7_minutesBy_73 : decode cX7_minutesBy 73 = .ok (.iload 4, 2) := by decide +kernel
theorem dX7_minutesBy_75 : decode cX7_minutesBy 75 = .ok (.invokestatic 209, 3) := by decide +kernel
theorem dX7_minutesBy_78 : decode cX7_minutesBy 78 = .ok (.ifCond .eq 7, 3) := by decide +kernel
theorem dX7_minutesBy_81 : decode cX7_minutesBy 81 = .ok (.iconst (-1), 1) := by decide +kernel
theorem dX7_minutesBy_82 : decode cX7_minutesBy 82 = .ok (.goto 4, 3) := by decide +kernel
theorem dX7_minutesBy_85 : decode cX7_minutesBy 85 = .ok (.iload_n 1, 1) := by decide +kernel
theorem dX7_minutesBy_86 : decode cX7_minutesBy 86 = .ok (.aload_n 0, 1) := by decide +kernel
theorem dX7_minutesBy_87 : decode cX7_minutesBy 87 = .ok (.getfield 13, 3) := by decide +kernel
theorem dX7_minutesBy_90 : decode cX7_minutesBy 90 = .ok (.iconst 4, 1) := by decide +kernel
theorem dX7_minutesBy_91 : decode cX7_minutesBy 91 = .ok (.iload 4, 2) := by decide +kernel
theorem dX7_minutesBy_93 : decode cX7_minutesBy 93 = .ok (.imul, 1) := by decide +kernel
theorem dX7_minutesBy_94 : decode cX7_minutesBy 94 = .ok (.iaload, 1) := by decide +kernel
theorem dX7_minutesBy_95 : decode cX7_minutesBy 95 = .ok (.invokevirtual 151, 3) := by decide +kernel
theorem dX7_minutesBy_98 : decode cX7_minutesBy 98 = .ok (.iinc 4 1, 3) := by decide +kernel
theorem dX7_minutesBy_101 : decode cX7_minutesBy 101 = .ok (.goto (-87), 3) := by decide +kernel
theorem dX7_minutesBy_104 : decode cX7_minutesBy 104 = .ok (.iload_n 3, 1) := by decide +kernel
theorem dX7_minutesBy_105 : decode cX7_minutesBy 105 = .ok (.ireturn, 1) := by decide +kernel
theorem dX7_goIn_0 : decode cX7_goIn 0 = .ok (.aload_n 0, 1) := by decide +kernel
theorem dX7_goIn_1 : decode cX7_goIn 1 = .ok (.iload_n 1, 1) := by decide +kernel
theorem dX7_goIn_2 : decode cX7_goIn 2 = .ok (.invokevirtual 164, 3) := by decide +kernel
theorem dX7_goIn_5 : decode cX7_goIn 5 = .ok (.ifCond .ne 5, 3) := by decide +kernel
theorem dX7_goIn_8 : decode cX7_goIn 8 = .ok (.iconst (-1), 1) := by decide +kernel
theorem dX7_goIn_9 : decode cX7_goIn 9 = .ok (.ireturn, 1) := by decide +kernel
theorem dX7_goIn_10 : decode cX7_goIn 10 = .ok (.aload_n 0, 1) := by decide +kernel
theorem dX7_goIn_11 : decode cX7_goIn 11 = .ok (.iload_n 1, 1) := by decide +kernel
theorem dX7_goIn_12 : decode cX7_goIn 12 = .ok (.invokevirtual 212, 3) := by decide +kernel
theorem dX7_goIn_15 : decode cX7_goIn 15 = .ok (.istore_n 2, 1) := by decide +kernel
theorem dX7_goIn_16 : decode cX7_goIn 16 = .ok (.iconst 0, 1) := by decide +kernel
theorem dX7_goIn_17 : decode cX7_goIn 17 = .ok (.istore_n 3, 1) := by decide +kernel
theorem dX7_goIn_18 : decode cX7_goIn 18 = .ok (.iload_n 3, 1) := by decide +kernel
theorem dX7_goIn_19 : decode cX7_goIn 19 = .ok (.sipush 200, 3) := by decide +kernel
theorem dX7_goIn_22 : decode cX7_goIn 22 = .ok (.if_icmp .gt 53, 3) := by decide +kernel
theorem dX7_goIn_25 : decode cX7_goIn 25 = .ok (.aload_n 0, 1) := by decide +kernel
theorem dX7_goIn_26 : decode cX7_goIn 26 = .ok (.getfield 20, 3) := by decide +kernel
theorem dX7_goIn_29 : decode cX7_goIn 29 = .ok (.iconst 1, 1) := by decide +kernel
theorem dX7_goIn_30 : decode cX7_goIn 30 = .ok (.iaload, 1) := by decide +kernel
theorem dX7_goIn_31 : decode cX7_goIn 31 = .ok (.iload_n 3, 1) := by decide +kernel
theorem dX7_goIn_32 : decode cX7_goIn 32 = .ok (.iadd, 1) := by decide +kernel
theorem dX7_goIn_33 : decode cX7_goIn 33 = .ok (.istore 4, 2) := by decide +kernel
theorem dX7_goIn_35 : decode cX7_goIn 35 = .ok (.aload_n 0, 1) := by decide +kernel
theorem dX7_goIn_36 : decode cX7_goIn 36 = .ok (.getfield 134, 3) := by decide +kernel
theorem dX7_goIn_39 : decode cX7_goIn 39 = .ok (.ifCond .eq 28, 3) := by decide +kernel
theorem dX7_goIn_42 : decode cX7_goIn 42 = .ok (.aload_n 0, 1) := by decide +kernel
theorem dX7_goIn_43 : decode cX7_goIn 43 = .ok (.iload 4, 2) := by decide +kernel
theorem dX7_goIn_45 : decode cX7_goIn 45 = .ok (.invokevirtual 173, 3) := by decide +kernel
theorem dX7_goIn_48 : decode cX7_goIn 48 = .ok (.ifCond .eq 21, 3) := by decide +kernel
theorem dX7_goIn_51 : decode cX7_goIn 51 = .ok (.iload 4, 2) := by decide +kernel
theorem dX7_goIn_53 : decode cX7_goIn 53 = .ok (.aload_n 0, 1) := by decide +kernel
theorem dX7_goIn_54 : decode cX7_goIn 54 = .ok (.getfield 134, 3) := by decide +kernel
theorem dX7_goIn_57 : decode cX7_goIn 57 = .ok (.irem, 1) := by decide +kernel
theorem dX7_goIn_58 : decode cX7_goIn 58 = .ok (.iload_n 2, 1) := by decide +kernel
theorem dX7_goIn_59 : decode cX7_goIn 59 = .ok (.iadd, 1) := by decide +kernel
theorem dX7_goIn_60 : decode cX7_goIn 60 = .ok (.aload_n 0, 1) := by decide +kernel
theorem dX7_goIn_61 : decode cX7_goIn 61 = .ok (.getfield 134, 3) := by decide +kernel
theorem dX7_goIn_64 : decode cX7_goIn 64 = .ok (.if_icmp .gt 5, 3) := by decide +kernel
theorem dX7_goIn_67 : decode cX7_goIn 67 = .ok (.iload_n 3, 1) := by decide +kernel
theorem dX7_goIn_68 : decode cX7_goIn 68 = .ok (.ireturn, 1) := by decide +kernel
theorem dX7_goIn_69 : decode cX7_goIn 69 = .ok (.iinc 3 1, 3) := by decide +kernel
theorem dX7_goIn_72 : decode cX7_goIn 72 = .ok (.goto (-54), 3) := by decide +kernel
theorem dX7_goIn_75 : decode cX7_goIn 75 = .ok (.bipush (-9), 2) := by decide +kernel
theorem dX7_goIn_77 : decode cX7_goIn 77 = .ok (.ireturn, 1) := by decide +kernel
theorem dX7_meets_0 : decode cX7_meets 0 = .ok (.aload_n 0, 1) := by decide +kernel
theorem dX7_meets_1 : decode cX7_meets 1 = .ok (.iload_n 1, 1) := by decide +kernel
theorem dX7_meets_2 : decode cX7_meets 2 = .ok (.invokevirtual 164, 3) := by decide +kernel
theorem dX7_meets_5 : decode cX7_meets 5 = .ok (.ifCond .eq 34, 3) := by decide +kernel
theorem dX7_meets_8 : decode cX7_meets 8 = .ok (.iload_n 2, 1) := by decide +kernel
theorem dX7_meets_9 : decode cX7_meets 9 = .ok (.iconst 0, 1) := by decide +kernel
theorem dX7_meets_10 : decode cX7_meets 10 = .ok (.sipush 200, 3) := by decide +kernel
theorem dX7_meets_13 : decode cX7_meets 13 = .ok (.invokestatic 72, 3) := by decide +kernel
theorem dX7_meets_16 : decode cX7_meets 16 = .ok (.ifCond .eq 23, 3) := by decide +kernel
theorem dX7_meets_19 : decode cX7_meets 19 = .ok (.iload_n 3, 1) := by decide +kernel
theorem dX7_meets_20 : decode cX7_meets 20 = .ok (.iconst 1, 1) := by decide +kernel
theorem dX7_meets_21 : decode cX7_meets 21 = .ok (.bipush 9, 2) := by decide +kernel
theorem dX7_meets_23 : decode cX7_meets 23 = .ok (.invokestatic 72, 3) := by decide +kernel
theorem dX7_meets_26 : decode cX7_meets 26 = .ok (.ifCond .eq 13, 3) := by decide +kernel
theorem dX7_meets_29 : decode cX7_meets 29 = .ok (.iload 4, 2) := by decide +kernel
theorem dX7_meets_31 : decode cX7_meets 31 = .ok (.iconst 0, 1) := by decide +kernel
theorem dX7_meets_32 : decode cX7_meets 32 = .ok (.iconst 1, 1) := by decide +kernel
theorem dX7_meets_33 : decode cX7_meets 33 = .ok (.invokestatic 72, 3) := by decide +kernel
theorem dX7_meets_36 : decode cX7_meets 36 = .ok (.ifCond .ne 5, 3) := by decide +kernel
theorem dX7_meets_39 : decode cX7_meets 39 = .ok (.iconst (-1), 1) := by decide +kernel
theorem dX7_meets_40 : decode cX7_meets 40 = .ok (.ireturn, 1) := by decide +kernel
theorem dX7_meets_41 : decode cX7_meets 41 = .ok (.aload_n 0, 1) := by decide +kernel
theorem dX7_meets_42 : decode cX7_meets 42 = .ok (.iload_n 1, 1) := by decide +kernel
theorem dX7_meets_43 : decode cX7_meets 43 = .ok (.invokevirtual 212, 3) := by decide +kernel
theorem dX7_meets_46 : decode cX7_meets 46 = .ok (.pop, 1) := by decide +kernel
theorem dX7_meets_47 : decode cX7_meets 47 = .ok (.iconst 0, 1) := by decide +kernel
theorem dX7_meets_48 : decode cX7_meets 48 = .ok (.istore 5, 2) := by decide +kernel
theorem dX7_meets_50 : decode cX7_meets 50 = .ok (.aload_n 0, 1) := by decide +kernel
theorem dX7_meets_51 : decode cX7_meets 51 = .ok (.getfield 20, 3) := by decide +kernel
theorem dX7_meets_54 : decode cX7_meets 54 = .ok (.iconst 0, 1) := by decide +kernel
theorem dX7_meets_55 : decode cX7_meets 55 = .ok (.iaload, 1) := by decide +kernel
theorem dX7_meets_56 : decode cX7_meets 56 = .ok (.istore 6, 2) := by decide +kernel
theorem dX7_meets_58 : decode cX7_meets 58 = .ok (.iload 6, 2) := by decide +kernel
theorem dX7_meets_60 : decode cX7_meets 60 = .ok (.aload_n 0, 1) := by decide +kernel
theorem dX7_meets_61 : decode cX7_meets 61 = .ok (.getfield 76, 3) := by decide +kernel
theorem dX7_meets_64 : decode cX7_meets 64 = .ok (.if_icmp .ge 153, 3) := by decide +kernel
theorem dX7_meets_67 : decode cX7_meets 67 = .ok (.iconst 0, 1) := by decide +kernel
theorem dX7_meets_68 : decode cX7_meets 68 = .ok (.istore 7, 2) := by decide +kernel
theorem dX7_meets_70 : decode cX7_meets 70 = .ok (.iload 6, 2) := by decide +kernel
theorem dX7_meets_72 : decode cX7_meets 72 = .ok (.iconst 1, 1) := by decide +kernel
theorem dX7_meets_73 : decode cX7_meets 73 = .ok (.iadd, 1) := by decide +kernel
theorem dX7_meets_74 : decode cX7_meets 74 = .ok (.istore 8, 2) := by decide +kernel
theorem dX7_meets_76 : decode cX7_meets 76 = .ok (.iload 8, 2) := by decide +kernel
theorem dX7_meets_78 : decode cX7_meets 78 = .ok (.aload_n 0, 1) := by decide +kernel
theorem dX7_meets_79 : decode cX7_meets 79 = .ok (.getfield 76, 3) := by decide +kernel
theorem dX7_meets_82 : decode cX7_meets 82 = .ok (.if_icmp .ge 23, 3) := by decide +kernel
theorem dX7_meets_85 : decode cX7_meets 85 = .ok (.iload 7, 2) := by decide +kernel
theorem dX7_meets_87 : decode cX7_meets 87 = .ok (.aload_n 0, 1) := by decide +kernel
theorem dX7_meets_88 : decode cX7_meets 88 = .ok (.getfield 13, 3) := by decide +kernel
theorem dX7_meets_91 : decode cX7_meets 91 = .ok (.iconst 4, 1) := by decide +kernel
theorem dX7_meets_92 : decode cX7_meets 92 = .ok (.iload 8, 2) := by decide +kernel
theorem dX7_meets_94 : decode cX7_meets 94 = .ok (.imul, 1) := by decide +kernel
theorem dX7_meets_95 : decode cX7_meets 95 = .ok (.iaload, 1) := by decide +kernel
theorem dX7_meets_96 : decode cX7_meets 96 = .ok (.iadd, 1) := by decide +kernel
theorem dX7_meets_97 : decode cX7_meets 97 = .ok (.istore 7, 2) := by decide +kernel
theorem dX7_meets_99 : decode cX7_meets 99 = .ok (.iinc 8 1, 3) := by decide +kernel
theorem dX7_meets_102 : decode cX7_meets 102 = .ok (.goto (-26), 3) := by decide +kernel
theorem dX7_meets_105 : decode cX7_meets 105 = .ok (.iload 6, 2) := by decide +kernel
theorem dX7_meets_107 : decode cX7_meets 107 = .ok (.aload_n 0, 1) := by decide +kernel
theorem dX7_meets_108 : decode cX7_meets 108 = .ok (.getfield 20, 3) := by decide +kernel
theorem dX7_meets_111 : decode cX7_meets 111 = .ok (.iconst 0, 1) := by decide +kernel
theorem dX7_meets_112 : decode cX7_meets 112 = .ok (.iaload, 1) := by decide +kernel
theorem dX7_meets_113 : decode cX7_meets 113 = .ok (.isub, 1) := by decide +kernel
theorem dX7_meets_114 : decode cX7_meets 114 = .ok (.istore 8, 2) := by decide +kernel
theorem dX7_meets_116 : decode cX7_meets 116 = .ok (.iload_n 2, 1) := by decide +kernel
theorem dX7_meets_117 : decode cX7_meets 117 = .ok (.iload_n 3, 1) := by decide +kernel
theorem dX7_meets_118 : decode cX7_meets 118 = .ok (.iload 7, 2) := by decide +kernel
theorem dX7_meets_120 : decode cX7_meets 120 = .ok (.imul, 1) := by decide +kernel
theorem dX7_meets_121 : decode cX7_meets 121 = .ok (.iadd, 1) := by decide +kernel
theorem dX7_meets_122 : decode cX7_meets 122 = .ok (.istore 9, 2) := by decide +kernel
theorem dX7_meets_124 : decode cX7_meets 124 = .ok (.aload_n 0, 1) := by decide +kernel
theorem dX7_meets_125 : decode cX7_meets 125 = .ok (.getfield 51, 3) := by decide +kernel
theorem dX7_meets_128 : decode cX7_meets 128 = .ok (.iload 8, 2) := by decide +kernel
theorem dX7_meets_130 : decode cX7_meets 130 = .ok (.iaload, 1) := by decide +kernel
theorem dX7_meets_131 : decode cX7_meets 131 = .ok (.iload 9, 2) := by decide +kernel
theorem dX7_meets_133 : decode cX7_meets 133 = .ok (.iload_n 3, 1) := by decide +kernel
theorem dX7_meets_134 : decode cX7_meets 134 = .ok (.aload_n 0, 1) := by decide +kernel
theorem dX7_meets_135 : decode cX7_meets 135 = .ok (.getfield 13, 3) := by decide +kernel
theorem dX7_meets_138 : decode cX7_meets 138 = .ok (.iconst 4, 1) := by decide +kernel
theorem dX7_meets_139 : decode cX7_meets 139 = .ok (.iload 6, 2) := by decide +kernel
theorem dX7_meets_141 : decode cX7_meets 141 = .ok (.imul, 1) := by decide +kernel
theorem dX7_meets_142 : decode cX7_meets 142 = .ok (.iaload, 1) := by decide +kernel
theorem dX7_meets_143 : decode cX7_meets 143 = .ok (.imul, 1) := by decide +kernel
theorem dX7_meets_144 : decode cX7_meets 144 = .ok (.iadd, 1) := by decide +kernel
theorem dX7_meets_145 : decode cX7_meets 145 = .ok (.if_icmp .gt 21, 3) := by decide +kernel
theorem dX7_meets_148 : decode cX7_meets 148 = .ok (.iload 9, 2) := by decide +kernel
theorem dX7_meets_150 : decode cX7_meets 150 = .ok (.aload_n 0, 1) := by decide +kernel
theorem dX7_meets_151 : decode cX7_meets 151 = .ok (.getfield 51, 3) := by decide +kernel
theorem dX7_meets_154 : decode cX7_meets 154 = .ok (.iload 8, 2) := by decide +kernel
theorem dX7_meets_156 : decode cX7_meets 156 = .ok (.iconst 1, 1) := by decide +kernel
theorem dX7_meets_157 : decode cX7_meets 157 = .ok (.iadd, 1) := by decide +kernel
theorem dX7_meets_158 : decode cX7_meets 158 = .ok (.iaload, 1) := by decide +kernel
theorem dX7_meets_159 : decode cX7_meets 159 = .ok (.if_icmp .gt 7, 3) := by decide +kernel
theorem dX7_meets_162 : decode cX7_meets 162 = .ok (.iconst 1, 1) := by decide +kernel
theorem dX7_meets_163 : decode cX7_meets 163 = .ok (.goto 4, 3) := by decide +kernel
theorem dX7_meets_166 : decode cX7_meets 166 = .ok (.iconst 0, 1) := by decide +kernel
theorem dX7_meets_167 : decode cX7_meets 167 = .ok (.istore 10, 2) := by decide +kernel
theorem dX7_meets_169 : decode cX7_meets 169 = .ok (.iload 10, 2) := by decide +kernel
theorem dX7_meets_171 : decode cX7_meets 171 = .ok (.ifCond .eq 26, 3) := by decide +kernel
theorem dX7_meets_174 : decode cX7_meets 174 = .ok (.iload 4, 2) := by decide +kernel
theorem dX7_meets_176 : decode cX7_meets 176 = .ok (.ifCond .ne 8, 3) := by decide +kernel
theorem dX7_meets_179 : decode cX7_meets 179 = .ok (.iload 6, 2) := by decide +kernel
theorem dX7_meets_181 : decode cX7_meets 181 = .ok (.goto 15, 3) := by decide +kernel
theorem dX7_meets_184 : decode cX7_meets 184 = .ok (.iload 5, 2) := by decide +kernel
theorem dX7_meets_186 : decode cX7_meets 186 = .ok (.iload 7, 2) := by decide +kernel
theorem dX7_meets_188 : decode cX7_meets 188 = .ok (.if_icmp .ge 7, 3) := by decide +kernel
theorem dX7_meets_191 : decode cX7_meets 191 = .ok (.iconst 0, 1) := by decide +kernel
theorem dX7_meets_192 : decode cX7_meets 192 = .ok (.goto 4, 3) := by decide +kernel
theorem dX7_meets_195 : decode cX7_meets 195 = .ok (.iconst 1, 1) := by decide +kernel
theorem dX7_meets_196 : decode cX7_meets 196 = .ok (.ireturn, 1) := by decide +kernel
theorem dX7_meets_197 : decode cX7_meets 197 = .ok (.iload 5, 2) := by decide +kernel
theorem dX7_meets_199 : decode cX7_meets 199 = .ok (.aload_n 0, 1) := by decide +kernel
theorem dX7_meets_200 : decode cX7_meets 200 = .ok (.getfield 13, 3) := by decide +kernel
theorem dX7_meets_203 : decode cX7_meets 203 = .ok (.iconst 4, 1) := by decide +kernel
theorem dX7_meets_204 : decode cX7_meets 204 = .ok (.iload 6, 2) := by decide +kernel
theorem dX7_meets_206 : decode cX7_meets 206 = .ok (.imul, 1) := by decide +kernel
theorem dX7_meets_207 : decode cX7_meets 207 = .ok (.iaload, 1) := by decide +kernel
theorem dX7_meets_208 : decode cX7_meets 208 = .ok (.iadd, 1) := by decide +kernel
theorem dX7_meets_209 : decode cX7_meets 209 = .ok (.istore 5, 2) := by decide +kernel
theorem dX7_meets_211 : decode cX7_meets 211 = .ok (.iinc 6 1, 3) := by decide +kernel
theorem dX7_meets_214 : decode cX7_meets 214 = .ok (.goto (-156), 3) := by decide +kernel
theorem dX7_meets_217 : decode cX7_meets 217 = .ok (.bipush (-9), 2) := by decide +kernel
theorem dX7_meets_219 : decode cX7_meets 219 = .ok (.ireturn, 1) := by decide +kernel
theorem dX7_odds_0 : decode cX7_odds 0 = .ok (.aload_n 0, 1) := by decide +kernel
theorem dX7_odds_1 : decode cX7_odds 1 = .ok (.iload_n 1, 1) := by decide +kernel
theorem dX7_odds_2 : decode cX7_odds 2 = .ok (.invokevirtual 164, 3) := by decide +kernel
theorem dX7_odds_5 : decode cX7_odds 5 = .ok (.ifCond .eq 34, 3) := by decide +kernel
theorem dX7_odds_8 : decode cX7_odds 8 = .ok (.iload_n 2, 1) := by decide +kernel
theorem dX7_odds_9 : decode cX7_odds 9 = .ok (.iconst 0, 1) := by decide +kernel
theorem dX7_odds_10 : decode cX7_odds 10 = .ok (.bipush 10, 2) := by decide +kernel
theorem dX7_odds_12 : decode cX7_odds 12 = .ok (.invokestatic 72, 3) := by decide +kernel
theorem dX7_odds_15 : decode cX7_odds 15 = .ok (.ifCond .eq 24, 3) := by decide +kernel
theorem dX7_odds_18 : decode cX7_odds 18 = .ok (.iload_n 3, 1) := by decide +kernel
theorem dX7_odds_19 : decode cX7_odds 19 = .ok (.iconst 0, 1) := by decide +kernel
theorem dX7_odds_20 : decode cX7_odds 20 = .ok (.sipush 9999, 3) := by decide +kernel
theorem dX7_odds_23 : decode cX7_odds 23 = .ok (.invokestatic 72, 3) := by decide +kernel
theorem dX7_odds_26 : decode cX7_odds 26 = .ok (.ifCond .eq 13, 3) := by decide +kernel
theorem dX7_odds_29 : decode cX7_odds 29 = .ok (.iload 4, 2) := by decide +kernel
theorem dX7_odds_31 : decode cX7_odds 31 = .ok (.iconst 0, 1) := by decide +kernel
theorem dX7_odds_32 : decode cX7_odds 32 = .ok (.iconst 1, 1) := by decide +kernel
theorem dX7_odds_33 : decode cX7_odds 33 = .ok (.invokestatic 72, 3) := by decide +kernel
theorem dX7_odds_36 : decode cX7_odds 36 = .ok (.ifCond .ne 5, 3) := by decide +kernel
theorem dX7_odds_39 : decode cX7_odds 39 = .ok (.iconst (-1), 1) := by decide +kernel
theorem dX7_odds_40 : decode cX7_odds 40 = .ok (.ireturn, 1) := by decide +kernel
theorem dX7_odds_41 : decode cX7_odds 41 = .ok (.aload_n 0, 1) := by decide +kernel
theorem dX7_odds_42 : decode cX7_odds 42 = .ok (.iload_n 1, 1) := by decide +kernel
theorem dX7_odds_43 : decode cX7_odds 43 = .ok (.invokevirtual 212, 3) := by decide +kernel
theorem dX7_odds_46 : decode cX7_odds 46 = .ok (.istore 5, 2) := by decide +kernel
theorem dX7_odds_48 : decode cX7_odds 48 = .ok (.iconst 0, 1) := by decide +kernel
theorem dX7_odds_49 : decode cX7_odds 49 = .ok (.istore 6, 2) := by decide +kernel
theorem dX7_odds_51 : decode cX7_odds 51 = .ok (.aload_n 0, 1) := by decide +kernel
theorem dX7_odds_52 : decode cX7_odds 52 = .ok (.getfield 20, 3) := by decide +kernel
theorem dX7_odds_55 : decode cX7_odds 55 = .ok (.iconst 0, 1) := by decide +kernel
theorem dX7_odds_56 : decode cX7_odds 56 = .ok (.iaload, 1) := by decide +kernel
theorem dX7_odds_57 : decode cX7_odds 57 = .ok (.istore 7, 2) := by decide +kernel
theorem dX7_odds_59 : decode cX7_odds 59 = .ok (.iload 7, 2) := by decide +kernel
theorem dX7_odds_61 : decode cX7_odds 61 = .ok (.aload_n 0, 1) := by decide +kernel
theorem dX7_odds_62 : decode cX7_odds 62 = .ok (.getfield 76, 3) := by decide +kernel
theorem dX7_odds_65 : decode cX7_odds 65 = .ok (.if_icmp .ge 25, 3) := by decide +kernel
theorem dX7_odds_68 : decode cX7_odds 68 = .ok (.iload 6, 2) := by decide +kernel
theorem dX7_odds_70 : decode cX7_odds 70 = .ok (.aload_n 0, 1) := by decide +kernel
theorem dX7_odds_71 : decode cX7_odds 71 = .ok (.getfield 13, 3) := by decide +kernel
theorem dX7_odds_74 : decode cX7_odds 74 = .ok (.iconst 4, 1) := by decide +kernel
theorem dX7_odds_75 : decode cX7_odds 75 = .ok (.iload 7, 2) := by decide +kernel
theorem dX7_odds_77 : decode cX7_odds 77 = .ok (.imul, 1) := by decide +kernel
theorem dX7_odds_78 : decode cX7_odds 78 = .ok (.iconst 2, 1) := by decide +kernel
theorem dX7_odds_79 : decode cX7_odds 79 = .ok (.iadd, 1) := by decide +kernel
theorem dX7_odds_80 : decode cX7_odds 80 = .ok (.iaload, 1) := by decide +kernel
theorem dX7_odds_81 : decode cX7_odds 81 = .ok (.iadd, 1) := by decide +kernel
theorem dX7_odds_82 : decode cX7_odds 82 = .ok (.istore 6, 2) := by decide +kernel
theorem dX7_odds_84 : decode cX7_odds 84 = .ok (.iinc 7 1, 3) := by decide +kernel
theorem dX7_odds_87 : decode cX7_odds 87 = .ok (.goto (-28), 3) := by decide +kernel
theorem dX7_odds_90 : decode cX7_odds 90 = .ok (.iconst 0, 1) := by decide +kernel
theorem dX7_odds_91 : decode cX7_odds 91 = .ok (.istore 7, 2) := by decide +kernel
theorem dX7_odds_93 : decode cX7_odds 93 = .ok (.iconst 1, 1) := by decide +kernel
theorem dX7_odds_94 : decode cX7_odds 94 = .ok (.istore 8, 2) := by decide +kernel
theorem dX7_odds_96 : decode cX7_odds 96 = .ok (.iconst 0, 1) := by decide +kernel
theorem dX7_odds_97 : decode cX7_odds 97 = .ok (.istore 9, 2) := by decide +kernel
theorem dX7_odds_99 : decode cX7_odds 99 = .ok (.iload 9, 2) := by decide +kernel
theorem dX7_odds_101 : decode cX7_odds 101 = .ok (.iload 6, 2) := by decide +kernel
theorem dX7_odds_103 : decode cX7_odds 103 = .ok (.if_icmp .ge 16, 3) := by decide +kernel
theorem dX7_odds_106 : decode cX7_odds 106 = .ok (.iload 8, 2) := by decide +kernel
theorem dX7_odds_108 : decode cX7_odds 108 = .ok (.bipush 10, 2) := by decide +kernel
theorem dX7_odds_110 : decode cX7_odds 110 = .ok (.imul, 1) := by decide +kernel
theorem dX7_odds_111 : decode cX7_odds 111 = .ok (.istore 8, 2) := by decide +kernel
theorem dX7_odds_113 : decode cX7_odds 113 = .ok (.iinc 9 1, 3) := by decide +kernel
theorem dX7_odds_116 : decode cX7_odds 116 = .ok (.goto (-17), 3) := by decide +kernel
theorem dX7_odds_119 : decode cX7_odds 119 = .ok (.iconst 0, 1) := by decide +kernel
theorem dX7_odds_120 : decode cX7_odds 120 = .ok (.istore 9, 2) := by decide +kernel
theorem dX7_odds_122 : decode cX7_odds 122 = .ok (.iload 9, 2) := by decide +kernel
theorem dX7_odds_124 : decode cX7_odds 124 = .ok (.iconst 1, 1) := by decide +kernel
theorem dX7_odds_125 : decode cX7_odds 125 = .ok (.iload 6, 2) := by decide +kernel
theorem dX7_odds_127 : decode cX7_odds 127 = .ok (.ishl, 1) := by decide +kernel
theorem dX7_odds_128 : decode cX7_odds 128 = .ok (.if_icmp .ge 92, 3) := by decide +kernel
theorem dX7_odds_131 : decode cX7_odds 131 = .ok (.iconst 1, 1) := by decide +kernel
theorem dX7_odds_132 : decode cX7_odds 132 = .ok (.istore 10, 2) := by decide +kernel
theorem dX7_odds_134 : decode cX7_odds 134 = .ok (.iload 5, 2) := by decide +kernel
theorem dX7_odds_136 : decode cX7_odds 136 = .ok (.istore 11, 2) := by decide +kernel
theorem dX7_odds_138 : decode cX7_odds 138 = .ok (.iconst 0, 1) := by decide +kernel
theorem dX7_odds_139 : decode cX7_odds 139 = .ok (.istore 12, 2) := by decide +kernel
theorem dX7_odds_141 : decode cX7_odds 141 = .ok (.iload 12, 2) := by decide +kernel
theorem dX7_odds_143 : decode cX7_odds 143 = .ok (.iload 6, 2) := by decide +kernel
theorem dX7_odds_145 : decode cX7_odds 145 = .ok (.if_icmp .ge 52, 3) := by decide +kernel
theorem dX7_odds_148 : decode cX7_odds 148 = .ok (.iload 10, 2) := by decide +kernel
theorem dX7_odds_150 : decode cX7_odds 150 = .ok (.iload 9, 2) := by decide +kernel
theorem dX7_odds_152 : decode cX7_odds 152 = .ok (.iload 12, 2) := by decide +kernel
theorem dX7_odds_154 : decode cX7_odds 154 = .ok (.invokestatic 209, 3) := by decide +kernel
theorem dX7_odds_157 : decode cX7_odds 157 = .ok (.ifCond .eq 7, 3) := by decide +kernel
theorem dX7_odds_160 : decode cX7_odds 160 = .ok (.iload_n 2, 1) := by decide +kernel
theorem dX7_odds_161 : decode cX7_odds 161 = .ok (.goto 7, 3) := by decide +kernel
theorem dX7_odds_164 : decode cX7_odds 164 = .ok (.bipush 10, 2) := by decide +kernel
theorem dX7_odds_166 : decode cX7_odds 166 = .ok (.iload_n 2, 1) := by decide +kernel
theorem dX7_odds_167 : decode cX7_odds 167 = .ok (.isub, 1) := by decide +kernel
theorem dX7_odds_168 : decode cX7_odds 168 = .ok (.imul, 1) := by decide +kernel
theorem dX7_odds_169 : decode cX7_odds 169 = .ok (.istore 10, 2) := by decide +kernel
theorem dX7_odds_171 : decode cX7_odds 171 = .ok (.iload 11, 2) := by decide +kernel
theorem dX7_odds_173 : decode cX7_odds 173 = .ok (.iload 9, 2) := by decide +kernel
theorem dX7_odds_175 : decode cX7_odds 175 = .ok (.iload 12, 2) := by decide +kernel
theorem dX7_odds_177 : decode cX7_odds 177 = .ok (.invokestatic 209, 3) := by decide +kernel
theorem dX7_odds_180 : decode cX7_odds 180 = .ok (.ifCond .eq 7, 3) := by decide +kernel
theorem dX7_odds_183 : decode cX7_odds 183 = .ok (.iconst 5, 1) := by decide +kernel
theorem dX7_odds_184 : decode cX7_odds 184 = .ok (.goto 4, 3) := by decide +kernel
theorem dX7_odds_187 : decode cX7_odds 187 = .ok (.iconst 0, 1) := by decide +kernel
theorem dX7_odds_188 : decode cX7_odds 188 = .ok (.iadd, 1) := by decide +kernel
theorem dX7_odds_189 : decode cX7_odds 189 = .ok (.istore 11, 2) := by decide +kernel
theorem dX7_odds_191 : decode cX7_odds 191 = .ok (.iinc 12 1, 3) := by decide +kernel
theorem dX7_odds_194 : decode cX7_odds 194 = .ok (.goto (-53), 3) := by decide +kernel
theorem dX7_odds_197 : decode cX7_odds 197 = .ok (.iload 7, 2) := by decide +kernel
theorem dX7_odds_199 : decode cX7_odds 199 = .ok (.iload 11, 2) := by decide +kernel
theorem dX7_odds_201 : decode cX7_odds 201 = .ok (.iload_n 3, 1) := by decide +kernel
theorem dX7_odds_202 : decode cX7_odds 202 = .ok (.if_icmp .gt 8, 3) := by decide +kernel
theorem dX7_odds_205 : decode cX7_odds 205 = .ok (.iload 10, 2) := by decide +kernel
theorem dX7_odds_207 : decode cX7_odds 207 = .ok (.goto 4, 3) := by decide +kernel
theorem dX7_odds_210 : decode cX7_odds 210 = .ok (.iconst 0, 1) := by decide +kernel
theorem dX7_odds_211 : decode cX7_odds 211 = .ok (.iadd, 1) := by decide +kernel
theorem dX7_odds_212 : decode cX7_odds 212 = .ok (.istore 7, 2) := by decide +kernel
theorem dX7_odds_214 : decode cX7_odds 214 = .ok (.iinc 9 1, 3) := by decide +kernel
theorem dX7_odds_217 : decode cX7_odds 217 = .ok (.goto (-95), 3) := by decide +kernel
theorem dX7_odds_220 : decode cX7_odds 220 = .ok (.iload 7, 2) := by decide +kernel
theorem dX7_odds_222 : decode cX7_odds 222 = .ok (.istore 9, 2) := by decide +kernel
theorem dX7_odds_224 : decode cX7_odds 224 = .ok (.iload 8, 2) := by decide +kernel
theorem dX7_odds_226 : decode cX7_odds 226 = .ok (.istore 10, 2) := by decide +kernel
theorem dX7_odds_228 : decode cX7_odds 228 = .ok (.iload 10, 2) := by decide +kernel
theorem dX7_odds_230 : decode cX7_odds 230 = .ok (.ifCond .le 21, 3) := by decide +kernel
theorem dX7_odds_233 : decode cX7_odds 233 = .ok (.iload 9, 2) := by decide +kernel
theorem dX7_odds_235 : decode cX7_odds 235 = .ok (.iload 10, 2) := by decide +kernel
theorem dX7_odds_237 : decode cX7_odds 237 = .ok (.irem, 1) := by decide +kernel
theorem dX7_odds_238 : decode cX7_odds 238 = .ok (.istore 11, 2) := by decide +kernel
theorem dX7_odds_240 : decode cX7_odds 240 = .ok (.iload 10, 2) := by decide +kernel
theorem dX7_odds_242 : decode cX7_odds 242 = .ok (.istore 9, 2) := by decide +kernel
theorem dX7_odds_244 : decode cX7_odds 244 = .ok (.iload 11, 2) := by decide +kernel
theorem dX7_odds_246 : decode cX7_odds 246 = .ok (.istore 10, 2) := by decide +kernel
theorem dX7_odds_248 : decode cX7_odds 248 = .ok (.goto (-20), 3) := by decide +kernel
theorem dX7_odds_251 : decode cX7_odds 251 = .ok (.iload 4, 2) := by decide +kernel
theorem dX7_odds_253 : decode cX7_odds 253 = .ok (.ifCond .ne 8, 3) := by decide +kernel
theorem dX7_odds_256 : decode cX7_odds 256 = .ok (.iload 7, 2) := by decide +kernel
theorem dX7_odds_258 : decode cX7_odds 258 = .ok (.goto 5, 3) := by decide +kernel
theorem dX7_odds_261 : decode cX7_odds 261 = .ok (.iload 8, 2) := by decide +kernel
theorem dX7_odds_263 : decode cX7_odds 263 = .ok (.iload 9, 2) := by decide +kernel
theorem dX7_odds_265 : decode cX7_odds 265 = .ok (.idiv, 1) := by decide +kernel
theorem dX7_odds_266 : decode cX7_odds 266 = .ok (.ireturn, 1) := by decide +kernel
theorem dX7_saw_0 : decode cX7_saw 0 = .ok (.aload_n 0, 1) := by decide +kernel
theorem dX7_saw_1 : decode cX7_saw 1 = .ok (.iload_n 1, 1) := by decide +kernel
theorem dX7_saw_2 : decode cX7_saw 2 = .ok (.invokevirtual 161, 3) := by decide +kernel
theorem dX7_saw_5 : decode cX7_saw 5 = .ok (.ifCond .eq 27, 3) := by decide +kernel
theorem dX7_saw_8 : decode cX7_saw 8 = .ok (.aload_n 0, 1) := by decide +kernel
theorem dX7_saw_9 : decode cX7_saw 9 = .ok (.getfield 13, 3) := by decide +kernel
theorem dX7_saw_12 : decode cX7_saw 12 = .ok (.iconst 4, 1) := by decide +kernel
theorem dX7_saw_13 : decode cX7_saw 13 = .ok (.iload_n 1, 1) := by decide +kernel
theorem dX7_saw_14 : decode cX7_saw 14 = .ok (.imul, 1) := by decide +kernel
theorem dX7_saw_15 : decode cX7_saw 15 = .ok (.iconst 3, 1) := by decide +kernel
theorem dX7_saw_16 : decode cX7_saw 16 = .ok (.iadd, 1) := by decide +kernel
theorem dX7_saw_17 : decode cX7_saw 17 = .ok (.iaload, 1) := by decide +kernel
theorem dX7_saw_18 : decode cX7_saw 18 = .ok (.ifCond .eq 14, 3) := by decide +kernel
theorem dX7_saw_21 : decode cX7_saw 21 = .ok (.iload_n 2, 1) := by decide +kernel
theorem dX7_saw_22 : decode cX7_saw 22 = .ok (.iconst 0, 1) := by decide +kernel
theorem dX7_saw_23 : decode cX7_saw 23 = .ok (.sipush 9999, 3) := by decide +kernel
theorem dX7_saw_26 : decode cX7_saw 26 = .ok (.invokestatic 72, 3) := by decide +kernel
theorem dX7_saw_29 : decode cX7_saw 29 = .ok (.ifCond .ne 5, 3) := by decide +kernel
theorem dX7_saw_32 : decode cX7_saw 32 = .ok (.iconst (-1), 1) := by decide +kernel
theorem dX7_saw_33 : decode cX7_saw 33 = .ok (.ireturn, 1) := by decide +kernel
theorem dX7_saw_34 : decode cX7_saw 34 = .ok (.aload_n 0, 1) := by decide +kernel
theorem dX7_saw_35 : decode cX7_saw 35 = .ok (.getfield 140, 3) := by decide +kernel
theorem dX7_saw_38 : decode cX7_saw 38 = .ok (.bipush 6, 2) := by decide +kernel
theorem dX7_saw_40 : decode cX7_saw 40 = .ok (.if_icmp .ne 6, 3) := by decide +kernel
theorem dX7_saw_43 : decode cX7_saw 43 = .ok (.bipush (-3), 2) := by decide +kernel
theorem dX7_saw_45 : decode cX7_saw 45 = .ok (.ireturn, 1) := by decide +kernel
theorem dX7_saw_46 : decode cX7_saw 46 = .ok (.aload_n 0, 1) := by decide +kernel
theorem dX7_saw_47 : decode cX7_saw 47 = .ok (.getfield 33, 3) := by decide +kernel
theorem dX7_saw_50 : decode cX7_saw 50 = .ok (.iconst 2, 1) := by decide +kernel
theorem dX7_saw_51 : decode cX7_saw 51 = .ok (.aload_n 0, 1) := by decide +kernel
theorem dX7_saw_52 : decode cX7_saw 52 = .ok (.getfield 140, 3) := by decide +kernel
theorem dX7_saw_55 : decode cX7_saw 55 = .ok (.imul, 1) := by decide +kernel
theorem dX7_saw_56 : decode cX7_saw 56 = .ok (.iload_n 1, 1) := by decide +kernel
theorem dX7_saw_57 : decode cX7_saw 57 = .ok (.iastore, 1) := by decide +kernel
theorem dX7_saw_58 : decode cX7_saw 58 = .ok (.aload_n 0, 1) := by decide +kernel
theorem dX7_saw_59 : decode cX7_saw 59 = .ok (.getfield 33, 3) := by decide +kernel
theorem dX7_saw_62 : decode cX7_saw 62 = .ok (.iconst 2, 1) := by decide +kernel
theorem dX7_saw_63 : decode cX7_saw 63 = .ok (.aload_n 0, 1) := by decide +kernel
theorem dX7_saw_64 : decode cX7_saw 64 = .ok (.getfield 140, 3) := by decide +kernel
theorem dX7_saw_67 : decode cX7_saw 67 = .ok (.imul, 1) := by decide +kernel
theorem dX7_saw_68 : decode cX7_saw 68 = .ok (.iconst 1, 1) := by decide +kernel
theorem dX7_saw_69 : decode cX7_saw 69 = .ok (.iadd, 1) := by decide +kernel
theorem dX7_saw_70 : decode cX7_saw 70 = .ok (.iload_n 2, 1) := by decide +kernel
theorem dX7_saw_71 : decode cX7_saw 71 = .ok (.iastore, 1) := by decide +kernel
theorem dX7_saw_72 : decode cX7_saw 72 = .ok (.aload_n 0, 1) := by decide +kernel
theorem dX7_saw_73 : decode cX7_saw 73 = .ok (.dup, 1) := by decide +kernel
theorem dX7_saw_74 : decode cX7_saw 74 = .ok (.getfield 140, 3) := by decide +kernel
theorem dX7_saw_77 : decode cX7_saw 77 = .ok (.iconst 1, 1) := by decide +kernel
theorem dX7_saw_78 : decode cX7_saw 78 = .ok (.iadd, 1) := by decide +kernel
theorem dX7_saw_79 : decode cX7_saw 79 = .ok (.putfield 140, 3) := by decide +kernel
theorem dX7_saw_82 : decode cX7_saw 82 = .ok (.aload_n 0, 1) := by decide +kernel
theorem dX7_saw_83 : decode cX7_saw 83 = .ok (.getfield 140, 3) := by decide +kernel
theorem dX7_saw_86 : decode cX7_saw 86 = .ok (.ireturn, 1) := by decide +kernel
theorem dX7_forget_0 : decode cX7_forget 0 = .ok (.aload_n 0, 1) := by decide +kernel
theorem dX7_forget_1 : decode cX7_forget 1 = .ok (.getfield 140, 3) := by decide +kernel
theorem dX7_forget_4 : decode cX7_forget 4 = .ok (.istore_n 1, 1) := by decide +kernel
theorem dX7_forget_5 : decode cX7_forget 5 = .ok (.aload_n 0, 1) := by decide +kernel
theorem dX7_forget_6 : decode cX7_forget 6 = .ok (.iconst 0, 1) := by decide +kernel
theorem dX7_forget_7 : decode cX7_forget 7 = .ok (.putfield 140, 3) := by decide +kernel
theorem dX7_forget_10 : decode cX7_forget 10 = .ok (.iload_n 1, 1) := by decide +kernel
theorem dX7_forget_11 : decode cX7_forget 11 = .ok (.ireturn, 1) := by decide +kernel
theorem dX7_findFits_0 : decode cX7_findFits 0 = .ok (.iconst 0, 1) := by decide +kernel
theorem dX7_findFits_1 : decode cX7_findFits 1 = .ok (.istore_n 1, 1) := by decide +kernel
theorem dX7_findFits_2 : decode cX7_findFits 2 = .ok (.iload_n 1, 1) := by decide +kernel
theorem dX7_findFits_3 : decode cX7_findFits 3 = .ok (.iconst 4, 1) := by decide +kernel
theorem dX7_findFits_4 : decode cX7_findFits 4 = .ok (.if_icmp .ge 16, 3) := by decide +kernel
theorem dX7_findFits_7 : decode cX7_findFits 7 = .ok (.aload_n 0, 1) := by decide +kernel
theorem dX7_findFits_8 : decode cX7_findFits 8 = .ok (.getfield 48, 3) := by decide +kernel
theorem dX7_findFits_11 : decode cX7_findFits 11 = .ok (.iload_n 1, 1) := by decide +kernel
theorem dX7_findFits_12 : decode cX7_findFits 12 = .ok (.iconst 0, 1) := by decide +kernel
theorem dX7_findFits_13 : decode cX7_findFits 13 = .ok (.iastore, 1) := by decide +kernel
theorem dX7_findFits_14 : decode cX7_findFits 14 = .ok (.iinc 1 1, 3) := by decide +kernel
theorem dX7_findFits_17 : decode cX7_findFits 17 = .ok (.goto (-15), 3) := by decide +kernel
theorem dX7_findFits_20 : decode cX7_findFits 20 = .ok (.aload_n 0, 1) := by decide +kernel
theorem dX7_findFits_21 : decode cX7_findFits 21 = .ok (.getfield 51, 3) := by decide +kernel
theorem dX7_findFits_24 : decode cX7_findFits 24 = .ok (.iconst 0, 1) := by decide +kernel
theorem dX7_findFits_25 : decode cX7_findFits 25 = .ok (.iconst 0, 1) := by decide +kernel
theorem dX7_findFits_26 : decode cX7_findFits 26 = .ok (.iastore, 1) := by decide +kernel
theorem dX7_findFits_27 : decode cX7_findFits 27 = .ok (.aload_n 0, 1) := by decide +kernel
theorem dX7_findFits_28 : decode cX7_findFits 28 = .ok (.getfield 54, 3) := by decide +kernel
theorem dX7_findFits_31 : decode cX7_findFits 31 = .ok (.iconst 0, 1) := by decide +kernel
theorem dX7_findFits_32 : decode cX7_findFits 32 = .ok (.bipush (-9), 2) := by decide +kernel
theorem dX7_findFits_34 : decode cX7_findFits 34 = .ok (.iastore, 1) := by decide +kernel
theorem dX7_findFits_35 : decode cX7_findFits 35 = .ok (.aload_n 0, 1) := by decide +kernel
theorem dX7_findFits_36 : decode cX7_findFits 36 = .ok (.iconst 0, 1) := by decide +kernel
theorem dX7_findFits_37 : decode cX7_findFits 37 = .ok (.iconst 2, 1) := by decide +kernel
theorem dX7_findFits_38 : decode cX7_findFits 38 = .ok (.invokevirtual 196, 3) := by decide +kernel
theorem dX7_findFits_41 : decode cX7_findFits 41 = .ok (.return_, 1) := by decide +kernel
theorem dX7_fits_0 : decode cX7_fits 0 = .ok (.iload_n 1, 1) := by decide +kernel
theorem dX7_fits_1 : decode cX7_fits 1 = .ok (.iconst (-1), 1) := by decide +kernel
theorem dX7_fits_2 : decode cX7_fits 2 = .ok (.aload_n 0, 1) := by decide +kernel
theorem dX7_fits_3 : decode cX7_fits 3 = .ok (.getfield 76, 3) := by decide +kernel
theorem dX7_fits_6 : decode cX7_fits 6 = .ok (.iconst 1, 1) := by decide +kernel
theorem dX7_fits_7 : decode cX7_fits 7 = .ok (.isub, 1) := by decide +kernel
theorem dX7_fits_8 : decode cX7_fits 8 = .ok (.invokestatic 72, 3) := by decide +kernel
theorem dX7_fits_11 : decode cX7_fits 11 = .ok (.ifCond .ne 5, 3) := by decide +kernel
theorem dX7_fits_14 : decode cX7_fits 14 = .ok (.iconst (-1), 1) := by decide +kernel
theorem dX7_fits_15 : decode cX7_fits 15 = .ok (.ireturn, 1) := by decide +kernel
theorem dX7_fits_16 : decode cX7_fits 16 = .ok (.aload_n 0, 1) := by decide +kernel
theorem dX7_fits_17 : decode cX7_fits 17 = .ok (.invokevirtual 215, 3) := by decide +kernel
theorem dX7_fits_20 : decode cX7_fits 20 = .ok (.iload_n 1, 1) := by decide +kernel
theorem dX7_fits_21 : decode cX7_fits 21 = .ok (.ifCond .ge 10, 3) := by decide +kernel
theorem dX7_fits_24 : decode cX7_fits 24 = .ok (.aload_n 0, 1) := by decide +kernel
theorem dX7_fits_25 : decode cX7_fits 25 = .ok (.getfield 179, 3) := by decide +kernel
theorem dX7_fits_28 : decode cX7_fits 28 = .ok (.goto 21, 3) := by decide +kernel
theorem dX7_fits_31 : decode cX7_fits 31 = .ok (.aload_n 0, 1) := by decide +kernel
theorem dX7_fits_32 : decode cX7_fits 32 = .ok (.getfield 179, 3) := by decide +kernel
theorem dX7_fits_35 : decode cX7_fits 35 = .ok (.ifCond .ne 8, 3) := by decide +kernel
theorem dX7_fits_38 : decode cX7_fits 38 = .ok (.bipush (-9), 2) := by decide +kernel
theorem dX7_fits_40 : decode cX7_fits 40 = .ok (.goto 9, 3) := by decide +kernel
theorem dX7_fits_43 : decode cX7_fits 43 = .ok (.aload_n 0, 1) := by decide +kernel
theorem dX7_fits_44 : decode cX7_fits 44 = .ok (.getfield 60, 3) := by decide +kernel
theorem dX7_fits_47 : decode cX7_fits 47 = .ok (.iload_n 1, 1) := by decide +kernel
theorem dX7_fits_48 : decode cX7_fits 48 = .ok (.iaload, 1) := by decide +kernel
theorem dX7_fits_49 : decode cX7_fits 49 = .ok (.ireturn, 1) := by decide +kernel
theorem dX7_surely_0 : decode cX7_surely 0 = .ok (.aload_n 0, 1) := by decide +kernel
theorem dX7_surely_1 : decode cX7_surely 1 = .ok (.iload_n 1, 1) := by decide +kernel
theorem dX7_surely_2 : decode cX7_surely 2 = .ok (.invokevirtual 161, 3) := by decide +kernel
theorem dX7_surely_5 : decode cX7_surely 5 = .ok (.ifCond .ne 5, 3) := by decide +kernel
theorem dX7_surely_8 : decode cX7_surely 8 = .ok (.iconst (-1), 1) := by decide +kernel
theorem dX7_surely_9 : decode cX7_surely 9 = .ok (.ireturn, 1) := by decide +kernel
theorem dX7_surely_10 : decode cX7_surely 10 = .ok (.aload_n 0, 1) := by decide +kernel
theorem dX7_surely_11 : decode cX7_surely 11 = .ok (.invokevirtual 215, 3) := by decide +kernel
theorem dX7_surely_14 : decode cX7_surely 14 = .ok (.aload_n 0, 1) := by decide +kernel
theorem dX7_surely_15 : decode cX7_surely 15 = .ok (.getfield 179, 3) := by decide +kernel
theorem dX7_surely_18 : decode cX7_surely 18 = .ok (.ifCond .ne 7, 3) := by decide +kernel
theorem dX7_surely_21 : decode cX7_surely 21 = .ok (.iconst 0, 1) := by decide +kernel
theorem dX7_surely_22 : decode cX7_surely 22 = .ok (.goto 9, 3) := by decide +kernel
theorem dX7_surely_25 : decode cX7_surely 25 = .ok (.aload_n 0, 1) := by decide +kernel
theorem dX7_surely_26 : decode cX7_surely 26 = .ok (.getfield 63, 3) := by decide +kernel
theorem dX7_surely_29 : decode cX7_surely 29 = .ok (.iload_n 1, 1) := by decide +kernel
theorem dX7_surely_30 : decode cX7_surely 30 = .ok (.iaload, 1) := by decide +kernel
theorem dX7_surely_31 : decode cX7_surely 31 = .ok (.ireturn, 1) := by decide +kernel
theorem dX7_stepMark_0 : decode cX7_stepMark 0 = .ok (.aload_n 0, 1) := by decide +kernel
theorem dX7_stepMark_1 : decode cX7_stepMark 1 = .ok (.dup, 1) := by decide +kernel
theorem dX7_stepMark_2 : decode cX7_stepMark 2 = .ok (.getfield 218, 3) := by decide +kernel
theorem dX7_stepMark_5 : decode cX7_stepMark 5 = .ok (.lconst 1, 1) := by decide +kernel
theorem dX7_stepMark_6 : decode cX7_stepMark 6 = .ok (.ladd, 1) := by decide +kernel
theorem dX7_stepMark_7 : decode cX7_stepMark 7 = .ok (.putfield 218, 3) := by decide +kernel
theorem dX7_stepMark_10 : decode cX7_stepMark 10 = .ok (.aload_n 0, 1) := by decide +kernel
theorem dX7_stepMark_11 : decode cX7_stepMark 11 = .ok (.getfield 13, 3) := by decide +kernel
theorem dX7_stepMark_14 : decode cX7_stepMark 14 = .ok (.iconst 4, 1) := by decide +kernel
theorem dX7_stepMark_15 : decode cX7_stepMark 15 = .ok (.iload_n 1, 1) := by decide +kernel
theorem dX7_stepMark_16 : decode cX7_stepMark 16 = .ok (.imul, 1) := by decide +kernel
theorem dX7_stepMark_17 : decode cX7_stepMark 17 = .ok (.iaload, 1) := by decide +kernel
theorem dX7_stepMark_18 : decode cX7_stepMark 18 = .ok (.ireturn, 1) := by decide +kernel
theorem dX7_firmMark_0 : decode cX7_firmMark 0 = .ok (.aload_n 0, 1) := by decide +kernel
theorem dX7_firmMark_1 : decode cX7_firmMark 1 = .ok (.dup, 1) := by decide +kernel
theorem dX7_firmMark_2 : decode cX7_firmMark 2 = .ok (.getfield 218, 3) := by decide +kernel
theorem dX7_firmMark_5 : decode cX7_firmMark 5 = .ok (.ldc2_w 222, 3) := by decide +kernel
theorem dX7_firmMark_8 : decode cX7_firmMark 8 = .ok (.ladd, 1) := by decide +kernel
theorem dX7_firmMark_9 : decode cX7_firmMark 9 = .ok (.putfield 218, 3) := by decide +kernel
theorem dX7_firmMark_12 : decode cX7_firmMark 12 = .ok (.aload_n 0, 1) := by decide +kernel
theorem dX7_firmMark_13 : decode cX7_firmMark 13 = .ok (.iload_n 1, 1) := by decide +kernel
theorem dX7_firmMark_14 : decode cX7_firmMark 14 = .ok (.invokevirtual 224, 3) := by decide +kernel
theorem dX7_firmMark_17 : decode cX7_firmMark 17 = .ok (.aload_n 0, 1) := by decide +kernel
theorem dX7_firmMark_18 : decode cX7_firmMark 18 = .ok (.getfield 13, 3) := by decide +kernel
theorem dX7_firmMark_21 : decode cX7_firmMark 21 = .ok (.iconst 4, 1) := by decide +kernel
theorem dX7_firmMark_22 : decode cX7_firmMark 22 = .ok (.iload_n 1, 1) := by decide +kernel
theorem dX7_firmMark_23 : decode cX7_firmMark 23 = .ok (.imul, 1) := by decide +kernel
theorem dX7_firmMark_24 : decode cX7_firmMark 24 = .ok (.iconst 1, 1) := by decide +kernel
theorem dX7_firmMark_25 : decode cX7_firmMark 25 = .ok (.iadd, 1) := by decide +kernel
theorem dX7_firmMark_26 : decode cX7_firmMark 26 = .ok (.iaload, 1) := by decide +kernel
theorem dX7_firmMark_27 : decode cX7_firmMark 27 = .ok (.iadd, 1) := by decide +kernel
theorem dX7_firmMark_28 : decode cX7_firmMark 28 = .ok (.ireturn, 1) := by decide +kernel
theorem dX7_slimyMark_0 : decode cX7_slimyMark 0 = .ok (.aload_n 0, 1) := by decide +kernel
theorem dX7_slimyMark_1 : decode cX7_slimyMark 1 = .ok (.dup, 1) := by decide +kernel
theorem dX7_slimyMark_2 : decode cX7_slimyMark 2 = .ok (.getfield 218, 3) := by decide +kernel
theorem dX7_slimyMark_5 : decode cX7_slimyMark 5 = .ok (.ldc2_w 227, 3) := by decide +kernel
theorem dX7_slimyMark_8 : decode cX7_slimyMark 8 = .ok (.ladd, 1) := by decide +kernel
theorem dX7_slimyMark_9 : decode cX7_slimyMark 9 = .ok (.putfield 218, 3) := by decide +kernel
theorem dX7_slimyMark_12 : decode cX7_slimyMark 12 = .ok (.iconst 0, 1) := by decide +kernel
theorem dX7_slimyMark_13 : decode cX7_slimyMark 13 = .ok (.istore_n 2, 1) := by decide +kernel
theorem dX7_slimyMark_14 : decode cX7_slimyMark 14 = .ok (.iconst 0, 1) := by decide +kernel
theorem dX7_slimyMark_15 : decode cX7_slimyMark 15 = .ok (.istore_n 3, 1) := by decide +kernel
theorem dX7_slimyMark_16 : decode cX7_slimyMark 16 = .ok (.iload_n 3, 1) := by decide +kernel
theorem dX7_slimyMark_17 : decode cX7_slimyMark 17 = .ok (.aload_n 0, 1) := by decide +kernel
theorem dX7_slimyMark_18 : decode cX7_slimyMark 18 = .ok (.getfield 69, 3) := by decide +kernel
theorem dX7_slimyMark_21 : decode cX7_slimyMark 21 = .ok (.if_icmp .ge 20, 3) := by decide +kernel
theorem dX7_slimyMark_24 : decode cX7_slimyMark 24 = .ok (.iload_n 2, 1) := by decide +kernel
theorem dX7_slimyMark_25 : decode cX7_slimyMark 25 = .ok (.aload_n 0, 1) := by decide +kernel
theorem dX7_slimyMark_26 : decode cX7_slimyMark 26 = .ok (.getfield 20, 3) := by decide +kernel
theorem dX7_slimyMark_29 : decode cX7_slimyMark 29 = .ok (.iconst 3, 1) := by decide +kernel
theorem dX7_slimyMark_30 : decode cX7_slimyMark 30 = .ok (.iload_n 3, 1) := by decide +kernel
theorem dX7_slimyMark_31 : decode cX7_slimyMark 31 = .ok (.iadd, 1) := by decide +kernel
theorem dX7_slimyMark_32 : decode cX7_slimyMark 32 = .ok (.iaload, 1) := by decide +kernel
theorem dX7_slimyMark_33 : decode cX7_slimyMark 33 = .ok (.iadd, 1) := by decide +kernel
theorem dX7_slimyMark_34 : decode cX7_slimyMark 34 = .ok (.istore_n 2, 1) := by decide +kernel
theorem dX7_slimyMark_35 : decode cX7_slimyMark 35 = .ok (.iinc 3 1, 3) := by decide +kernel
theorem dX7_slimyMark_38 : decode cX7_slimyMark 38 = .ok (.goto (-22), 3) := by decide +kernel
theorem dX7_slimyMark_41 : decode cX7_slimyMark 41 = .ok (.aload_n 0, 1) := by decide +kernel
theorem dX7_slimyMark_42 : decode cX7_slimyMark 42 = .ok (.iload_n 1, 1) := by decide +kernel
theorem dX7_slimyMark_43 : decode cX7_slimyMark 43 = .ok (.invokevirtual 224, 3) := by decide +kernel
theorem dX7_slimyMark_46 : decode cX7_slimyMark 46 = .ok (.iload_n 2, 1) := by decide +kernel
theorem dX7_slimyMark_47 : decode cX7_slimyMark 47 = .ok (.isub, 1) := by decide +kernel
theorem dX7_slimyMark_48 : decode cX7_slimyMark 48 = .ok (.ireturn, 1) := by decide +kernel
theorem dX7_shafts_0 : decode cX7_shafts 0 = .ok (.iconst 0, 1) := by decide +kernel
theorem dX7_shafts_1 : decode cX7_shafts 1 = .ok (.istore_n 1, 1) := by decide +kernel
theorem dX7_shafts_2 : decode cX7_shafts 2 = .ok (.iconst 0, 1) := by decide +kernel
theorem dX7_shafts_3 : decode cX7_shafts 3 = .ok (.istore_n 2, 1) := by decide +kernel
theorem dX7_shafts_4 : decode cX7_shafts 4 = .ok (.iload_n 2, 1) := by decide +kernel
theorem dX7_shafts_5 : decode cX7_shafts 5 = .ok (.aload_n 0, 1) := by decide +kernel
theorem dX7_shafts_6 : decode cX7_shafts 6 = .ok (.getfield 76, 3) := by decide +kernel
theorem dX7_shafts_9 : decode cX7_shafts 9 = .ok (.if_icmp .ge 22, 3) := by decide +kernel
theorem dX7_shafts_12 : decode cX7_shafts 12 = .ok (.iload_n 1, 1) := by decide +kernel
theorem dX7_shafts_13 : decode cX7_shafts 13 = .ok (.aload_n 0, 1) := by decide +kernel
theorem dX7_shafts_14 : decode cX7_shafts 14 = .ok (.getfield 13, 3) := by decide +kernel
theorem dX7_shafts_17 : decode cX7_shafts 17 = .ok (.iconst 4, 1) := by decide +kernel
theorem dX7_shafts_18 : decode cX7_shafts 18 = .ok (.iload_n 2, 1) := by decide +kernel
theorem dX7_shafts_19 : decode cX7_shafts 19 = .ok (.imul, 1) := by decide +kernel
theorem dX7_shafts_20 : decode cX7_shafts 20 = .ok (.iconst 3, 1) := by decide +kernel
theorem dX7_shafts_21 : decode cX7_shafts 21 = .ok (.iadd, 1) := by decide +kernel
theorem dX7_shafts_22 : decode cX7_shafts 22 = .ok (.iaload, 1) := by decide +kernel
theorem dX7_shafts_23 : decode cX7_shafts 23 = .ok (.iadd, 1) := by decide +kernel
theorem dX7_shafts_24 : decode cX7_shafts 24 = .ok (.istore_n 1, 1) := by decide +kernel
theorem dX7_shafts_25 : decode cX7_shafts 25 = .ok (.iinc 2 1, 3) := by decide +kernel
theorem dX7_shafts_28 : decode cX7_shafts 28 = .ok (.goto (-24), 3) := by decide +kernel
theorem dX7_shafts_31 : decode cX7_shafts 31 = .ok (.iload_n 1, 1) := by decide +kernel
theorem dX7_shafts_32 : decode cX7_shafts 32 = .ok (.ireturn, 1) := by decide +kernel
theorem dX7_mark_0 : decode cX7_mark 0 = .ok (.iload_n 1, 1) := by decide +kernel
theorem dX7_mark_1 : decode cX7_mark 1 = .ok (.iconst 0, 1) := by decide +kernel
theorem dX7_mark_2 : decode cX7_mark 2 = .ok (.iconst 5, 1) := by decide +kernel
theorem dX7_mark_3 : decode cX7_mark 3 = .ok (.invokestatic 72, 3) := by decide +kernel
theorem dX7_mark_6 : decode cX7_mark 6 = .ok (.ifCond .eq 11, 3) := by decide +kernel
theorem dX7_mark_9 : decode cX7_mark 9 = .ok (.aload_n 0, 1) := by decide +kernel
theorem dX7_mark_10 : decode cX7_mark 10 = .ok (.iload_n 2, 1) := by decide +kernel
theorem dX7_mark_11 : decode cX7_mark 11 = .ok (.invokevirtual 161, 3) := by decide +kernel
theorem dX7_mark_14 : decode cX7_mark 14 = .ok (.ifCond .ne 6, 3) := by decide +kernel
theorem dX7_mark_17 : decode cX7_mark 17 = .ok (.ldc 229, 2) := by decide +kernel
theorem dX7_mark_19 : decode cX7_mark 19 = .ok (.ireturn, 1) := by decide +kernel
theorem dX7_mark_20 : decode cX7_mark 20 = .ok (.iload_n 1, 1) := by decide +kernel
theorem dX7_mark_21 : decode cX7_mark 21 = .ok (.tableswitch 96 0 4 #[35, 41, 47, 53, 73], 35) := by decide +kernel
theorem dX7_mark_56 : decode cX7_mark 56 = .ok (.aload_n 0, 1) := by decide +kernel
theorem dX7_mark_57 : decode cX7_mark 57 = .ok (.iload_n 2, 1) := by decide +kernel
theorem dX7_mark_58 : decode cX7_mark 58 = .ok (.invokevirtual 224, 3) := by decide +kernel
theorem dX7_mark_61 : decode cX7_mark 61 = .ok (.ireturn, 1) := by decide +kernel
theorem dX7_mark_62 : decode cX7_mark 62 = .ok (.aload_n 0, 1) := by decide +kernel
theorem dX7_mark_63 : decode cX7_mark 63 = .ok (.iload_n 2, 1) := by decide +kernel
theorem dX7_mark_64 : decode cX7_mark 64 = .ok (.invokevirtual 230, 3) := by decide +kernel
theorem dX7_mark_67 : decode cX7_mark 67 = .ok (.ireturn, 1) := by decide +kernel
theorem dX7_mark_68 : decode cX7_mark 68 = .ok (.aload_n 0, 1) := by decide +kernel
theorem dX7_mark_69 : decode cX7_mark 69 = .ok (.iload_n 2, 1) := by decide +kernel
theorem dX7_mark_70 : decode cX7_mark 70 = .ok (.invokevirtual 233, 3) := by decide +kernel
theorem dX7_mark_73 : decode cX7_mark 73 = .ok (.ireturn, 1) := by decide +kernel
theorem dX7_mark_74 : decode cX7_mark 74 = .ok (.aload_n 0, 1) := by decide +kernel
theorem dX7_mark_75 : decode cX7_mark 75 = .ok (.dup, 1) := by decide +kernel
theorem dX7_mark_76 : decode cX7_mark 76 = .ok (.getfield 218, 3) := by decide +kernel
theorem dX7_mark_79 : decode cX7_mark 79 = .ok (.ldc2_w 236, 3) := by decide +kernel
theorem dX7_mark_82 : decode cX7_mark 82 = .ok (.ladd, 1) := by decide +kernel
theorem dX7_mark_83 : decode cX7_mark 83 = .ok (.putfield 218, 3) := by decide +kernel
theorem dX7_mark_86 : decode cX7_mark 86 = .ok (.iconst 2, 1) := by decide +kernel
theorem dX7_mark_87 : decode cX7_mark 87 = .ok (.aload_n 0, 1) := by decide +kernel
theorem dX7_mark_88 : decode cX7_mark 88 = .ok (.iload_n 2, 1) := by decide +kernel
theorem dX7_mark_89 : decode cX7_mark 89 = .ok (.invokevirtual 230, 3) := by decide +kernel
theorem dX7_mark_92 : decode cX7_mark 92 = .ok (.imul, 1) := by decide +kernel
theorem dX7_mark_93 : decode cX7_mark 93 = .ok (.ireturn, 1) := by decide +kernel
theorem dX7_mark_94 : decode cX7_mark 94 = .ok (.aload_n 0, 1) := by decide +kernel
theorem dX7_mark_95 : decode cX7_mark 95 = .ok (.dup, 1) := by decide +kernel
theorem dX7_mark_96 : decode cX7_mark 96 = .ok (.getfield 218, 3) := by decide +kernel
theorem dX7_mark_99 : decode cX7_mark 99 = .ok (.ldc2_w 238, 3) := by decide +kernel
theorem dX7_mark_102 : decode cX7_mark 102 = .ok (.ladd, 1) := by decide +kernel
theorem dX7_mark_103 : decode cX7_mark 103 = .ok (.putfield 218, 3) := by decide +kernel
theorem dX7_mark_106 : decode cX7_mark 106 = .ok (.aload_n 0, 1) := by decide +kernel
theorem dX7_mark_107 : decode cX7_mark 107 = .ok (.iload_n 2, 1) := by decide +kernel
theorem dX7_mark_108 : decode cX7_mark 108 = .ok (.invokevirtual 233, 3) := by decide +kernel
theorem dX7_mark_111 : decode cX7_mark 111 = .ok (.aload_n 0, 1) := by decide +kernel
theorem dX7_mark_112 : decode cX7_mark 112 = .ok (.invokevirtual 240, 3) := by decide +kernel
theorem dX7_mark_115 : decode cX7_mark 115 = .ok (.iadd, 1) := by decide +kernel
theorem dX7_mark_116 : decode cX7_mark 116 = .ok (.ireturn, 1) := by decide +kernel
theorem dX7_mark_117 : decode cX7_mark 117 = .ok (.aload_n 0, 1) := by decide +kernel
theorem dX7_mark_118 : decode cX7_mark 118 = .ok (.dup, 1) := by decide +kernel
theorem dX7_mark_119 : decode cX7_mark 119 = .ok (.getfield 218, 3) := by decide +kernel
theorem dX7_mark_122 : decode cX7_mark 122 = .ok (.ldc2_w 244, 3) := by decide +kernel
theorem dX7_mark_125 : decode cX7_mark 125 = .ok (.ladd, 1) := by decide +kernel
theorem dX7_mark_126 : decode cX7_mark 126 = .ok (.putfield 218, 3) := by decide +kernel
theorem dX7_mark_129 : decode cX7_mark 129 = .ok (.aload_n 0, 1) := by decide +kernel
theorem dX7_mark_130 : decode cX7_mark 130 = .ok (.iload_n 2, 1) := by decide +kernel
theorem dX7_mark_131 : decode cX7_mark 131 = .ok (.invokevirtual 224, 3) := by decide +kernel
theorem dX7_mark_134 : decode cX7_mark 134 = .ok (.aload_n 0, 1) := by decide +kernel
theorem dX7_mark_135 : decode cX7_mark 135 = .ok (.getfield 20, 3) := by decide +kernel
theorem dX7_mark_138 : decode cX7_mark 138 = .ok (.iconst 1, 1) := by decide +kernel
theorem dX7_mark_139 : decode cX7_mark 139 = .ok (.iaload, 1) := by decide +kernel
theorem dX7_mark_140 : decode cX7_mark 140 = .ok (.iadd, 1) := by decide +kernel
theorem dX7_mark_141 : decode cX7_mark 141 = .ok (.ireturn, 1) := by decide +kernel
theorem dX7_keep_0 : decode cX7_keep 0 = .ok (.iload_n 1, 1) := by decide +kernel
theorem dX7_keep_1 : decode cX7_keep 1 = .ok (.iconst 0, 1) := by decide +kernel
theorem dX7_keep_2 : decode cX7_keep 2 = .ok (.iconst 1, 1) := by decide +kernel
theorem dX7_keep_3 : decode cX7_keep 3 = .ok (.invokestatic 72, 3) := by decide +kernel
theorem dX7_keep_6 : decode cX7_keep 6 = .ok (.ifCond .ne 5, 3) := by decide +kernel
theorem dX7_keep_9 : decode cX7_keep 9 = .ok (.iconst (-1), 1) := by decide +kernel
theorem dX7_keep_10 : decode cX7_keep 10 = .ok (.ireturn, 1) := by decide +kernel
theorem dX7_keep_11 : decode cX7_keep 11 = .ok (.bipush 78, 2) := by decide +kernel
theorem dX7_keep_13 : decode cX7_keep 13 = .ok (.iload_n 1, 1) := by decide +kernel
theorem dX7_keep_14 : decode cX7_keep 14 = .ok (.imul, 1) := by decide +kernel
theorem dX7_keep_15 : decode cX7_keep 15 = .ok (.istore_n 2, 1) := by decide +kernel
theorem dX7_keep_16 : decode cX7_keep 16 = .ok (.iconst 0, 1) := by decide +kernel
theorem dX7_keep_17 : decode cX7_keep 17 = .ok (.istore_n 3, 1) := by decide +kernel
theorem dX7_keep_18 : decode cX7_keep 18 = .ok (.iload_n 3, 1) := by decide +kernel
theorem dX7_keep_19 : decode cX7_keep 19 = .ok (.bipush 7, 2) := by decide +kernel
theorem dX7_keep_21 : decode cX7_keep 21 = .ok (.if_icmp .ge 23, 3) := by decide +kernel
theorem dX7_keep_24 : decode cX7_keep 24 = .ok (.aload_n 0, 1) := by decide +kernel
theorem dX7_keep_25 : decode cX7_keep 25 = .ok (.getfield 26, 3) := by decide +kernel
theorem dX7_keep_28 : decode cX7_keep 28 = .ok (.iload_n 2, 1) := by decide +kernel
theorem dX7_keep_29 : decode cX7_keep 29 = .ok (.iload_n 3, 1) := by decide +kernel
theorem dX7_keep_30 : decode cX7_keep 30 = .ok (.iadd, 1) := by decide +kernel
theorem dX7_keep_31 : decode cX7_keep 31 = .ok (.aload_n 0, 1) := by decide +kernel
theorem dX7_keep_32 : decode cX7_keep 32 = .ok (.getfield 20, 3) := by decide +kernel
theorem dX7_keep_35 : decode cX7_keep 35 = .ok (.iload_n 3, 1) := by decide +kernel
theorem dX7_keep_36 : decode cX7_keep 36 = .ok (.iaload, 1) := by decide +kernel
theorem dX7_keep_37 : decode cX7_keep 37 = .ok (.iastore, 1) := by decide +kernel
theorem dX7_keep_38 : decode cX7_keep 38 = .ok (.iinc 3 1, 3) := by decide +kernel
theorem dX7_keep_41 : decode cX7_keep 41 = .ok (.goto (-23), 3) := by decide +kernel
theorem dX7_keep_44 : decode cX7_keep 44 = .ok (.aload_n 0, 1) := by decide +kernel
theorem dX7_keep_45 : decode cX7_keep 45 = .ok (.getfield 26, 3) := by decide +kernel
theorem dX7_keep_48 : decode cX7_keep 48 = .ok (.iload_n 2, 1) := by decide +kernel
theorem dX7_keep_49 : decode cX7_keep 49 = .ok (.bipush 7, 2) := by decide +kernel
theorem dX7_keep_51 : decode cX7_keep 51 = .ok (.iadd, 1) := by decide +kernel
theorem dX7_keep_52 : decode cX7_keep 52 = .ok (.aload_n 0, 1) := by decide +kernel
theorem dX7_keep_53 : decode cX7_keep 53 = .ok (.getfield 137, 3) := by decide +kernel
theorem dX7_keep_56 : decode cX7_keep 56 = .ok (.iastore, 1) := by decide +kernel
theorem dX7_keep_57 : decode cX7_keep 57 = .ok (.iconst 0, 1) := by decide +kernel
theorem dX7_keep_58 : decode cX7_keep 58 = .ok (.istore_n 3, 1) := by decide +kernel
theorem dX7_keep_59 : decode cX7_keep 59 = .ok (.iload_n 3, 1) := by decide +kernel
theorem dX7_keep_60 : decode cX7_keep 60 = .ok (.bipush 70, 2) := by decide +kernel
theorem dX7_keep_62 : decode cX7_keep 62 = .ok (.if_icmp .ge 28, 3) := by decide +kernel
theorem dX7_keep_65 : decode cX7_keep 65 = .ok (.aload_n 0, 1) := by decide +kernel
theorem dX7_keep_66 : decode cX7_keep 66 = .ok (.getfield 26, 3) := by decide +kernel
theorem dX7_keep_69 : decode cX7_keep 69 = .ok (.iload_n 2, 1) := by decide +kernel
theorem dX7_keep_70 : decode cX7_keep 70 = .ok (.bipush 7, 2) := by decide +kernel
theorem dX7_keep_72 : decode cX7_keep 72 = .ok (.iadd, 1) := by decide +kernel
theorem dX7_keep_73 : decode cX7_keep 73 = .ok (.iconst 1, 1) := by decide +kernel
theorem dX7_keep_74 : decode cX7_keep 74 = .ok (.iadd, 1) := by decide +kernel
theorem dX7_keep_75 : decode cX7_keep 75 = .ok (.iload_n 3, 1) := by decide +kernel
theorem dX7_keep_76 : decode cX7_keep 76 = .ok (.iadd, 1) := by decide +kernel
theorem dX7_keep_77 : decode cX7_keep 77 = .ok (.aload_n 0, 1) := by decide +kernel
theorem dX7_keep_78 : decode cX7_keep 78 = .ok (.getfield 23, 3) := by decide +kernel
theorem dX7_keep_81 : decode cX7_keep 81 = .ok (.iload_n 3, 1) := by decide +kernel
theorem dX7_keep_82 : decode cX7_keep 82 = .ok (.iaload, 1) := by decide +kernel
theorem dX7_keep_83 : decode cX7_keep 83 = .ok (.iastore, 1) := by decide +kernel
theorem dX7_keep_84 : decode cX7_keep 84 = .ok (.iinc 3 1, 3) := by decide +kernel
theorem dX7_keep_87 : decode cX7_keep 87 = .ok (.goto (-28), 3) := by decide +kernel
theorem dX7_keep_90 : decode cX7_keep 90 = .ok (.aload_n 0, 1) := by decide +kernel
theorem dX7_keep_91 : decode cX7_keep 91 = .ok (.getfield 29, 3) := by decide +kernel
theorem dX7_keep_94 : decode cX7_keep 94 = .ok (.iload_n 1, 1) := by decide +kernel
theorem dX7_keep_95 : decode cX7_keep 95 = .ok (.iconst 1, 1) := by decide +kernel
theorem dX7_keep_96 : decode cX7_keep 96 = .ok (.bastore, 1) := by decide +kernel
theorem dX7_keep_97 : decode cX7_keep 97 = .ok (.aload_n 0, 1) := by decide +kernel
theorem dX7_keep_98 : decode cX7_keep 98 = .ok (.getfield 20, 3) := by decide +kernel
theorem dX7_keep_101 : decode cX7_keep 101 = .ok (.iconst 1, 1) := by decide +kernel
theorem dX7_keep_102 : decode cX7_keep 102 = .ok (.iaload, 1) := by decide +kernel
theorem dX7_keep_103 : decode cX7_keep 103 = .ok (.ireturn, 1) := by decide +kernel
theorem dX7_back_0 : decode cX7_back 0 = .ok (.iload_n 1, 1) := by decide +kernel
theorem dX7_back_1 : decode cX7_back 1 = .ok (.iconst 0, 1) := by decide +kernel
theorem dX7_back_2 : decode cX7_back 2 = .ok (.iconst 1, 1) := by decide +kernel
theorem dX7_back_3 : decode cX7_back 3 = .ok (.invokestatic 72, 3) := by decide +kernel
theorem dX7_back_6 : decode cX7_back 6 = .ok (.ifCond .ne 5, 3) := by decide +kernel
theorem dX7_back_9 : decode cX7_back 9 = .ok (.iconst (-1), 1) := by decide +kernel
theorem dX7_back_10 : decode cX7_back 10 = .ok (.ireturn, 1) := by decide +kernel
theorem dX7_back_11 : decode cX7_back 11 = .ok (.aload_n 0, 1) := by decide +kernel
theorem dX7_back_12 : decode cX7_back 12 = .ok (.getfield 29, 3) := by decide +kernel
theorem dX7_back_15 : decode cX7_back 15 = .ok (.iload_n 1, 1) := by decide +kernel
theorem dX7_back_16 : decode cX7_back 16 = .ok (.baload, 1) := by decide +kernel
theorem dX7_back_17 : decode cX7_back 17 = .ok (.ifCond .ne 6, 3) := by decide +kernel
theorem dX7_back_20 : decode cX7_back 20 = .ok (.bipush (-2), 2) := by decide +kernel
theorem dX7_back_22 : decode cX7_back 22 = .ok (.ireturn, 1) := by decide +kernel
theorem dX7_back_23 : decode cX7_back 23 = .ok (.bipush 78, 2) := by decide +kernel
theorem dX7_back_25 : decode cX7_back 25 = .ok (.iload_n 1, 1) := by decide +kernel
theorem dX7_back_26 : decode cX7_back 26 = .ok (.imul, 1) := by decide +kernel
theorem dX7_back_27 : decode cX7_back 27 = .ok (.istore_n 2, 1) := by decide +kernel
theorem dX7_back_28 : decode cX7_back 28 = .ok (.iconst 0, 1) := by decide +kernel
theorem dX7_back_29 : decode cX7_back 29 = .ok (.istore_n 3, 1) := by decide +kernel
theorem dX7_back_30 : decode cX7_back 30 = .ok (.iload_n 3, 1) := by decide +kernel
theorem dX7_back_31 : decode cX7_back 31 = .ok (.bipush 7, 2) := by decide +kernel
theorem dX7_back_33 : decode cX7_back 33 = .ok (.if_icmp .ge 23, 3) := by decide +kernel
theorem dX7_back_36 : decode cX7_back 36 = .ok (.aload_n 0, 1) := by decide +kernel
theorem dX7_back_37 : decode cX7_back 37 = .ok (.getfield 20, 3) := by decide +kernel
theorem dX7_back_40 : decode cX7_back 40 = .ok (.iload_n 3, 1) := by decide +kernel
theorem dX7_back_41 : decode cX7_back 41 = .ok (.aload_n 0, 1) := by decide +kernel
theorem dX7_back_42 : decode cX7_back 42 = .ok (.getfield 26, 3) := by decide +kernel
theorem dX7_back_45 : decode cX7_back 45 = .ok (.iload_n 2, 1) := by decide +kernel
theorem dX7_back_46 : decode cX7_back 46 = .ok (.iload_n 3, 1) := by decide +kernel
theorem dX7_back_47 : decode cX7_back 47 = .ok (.iadd, 1) := by decide +kernel
theorem dX7_back_48 : decode cX7_back 48 = .ok (.iaload, 1) := by decide +kernel
theorem dX7_back_49 : decode cX7_back 49 = .ok (.iastore, 1) := by decide +kernel
theorem dX7_back_50 : decode cX7_back 50 = .ok (.iinc 3 1, 3) := by decide +kernel
theorem dX7_back_53 : decode cX7_back 53 = .ok (.goto (-23), 3) := by decide +kernel
theorem dX7_back_56 : decode cX7_back 56 = .ok (.aload_n 0, 1) := by decide +kernel
theorem dX7_back_57 : decode cX7_back 57 = .ok (.aload_n 0, 1) := by decide +kernel
theorem dX7_back_58 : decode cX7_back 58 = .ok (.getfield 26, 3) := by decide +kernel
theorem dX7_back_61 : decode cX7_back 61 = .ok (.iload_n 2, 1) := by decide +kernel
theorem dX7_back_62 : decode cX7_back 62 = .ok (.bipush 7, 2) := by decide +kernel
theorem dX7_back_64 : decode cX7_back 64 = .ok (.iadd, 1) := by decide +kernel
theorem dX7_back_65 : decode cX7_back 65 = .ok (.iaload, 1) := by decide +kernel
theorem dX7_back_66 : decode cX7_back 66 = .ok (.putfield 137, 3) := by decide +kernel
theorem dX7_back_69 : decode cX7_back 69 = .ok (.iconst 0, 1) := by decide +kernel
theorem dX7_back_70 : decode cX7_back 70 = .ok (.istore_n 3, 1) := by decide +kernel
theorem dX7_back_71 : decode cX7_back 71 = .ok (.iload_n 3, 1) := by decide +kernel
theorem dX7_back_72 : decode cX7_back 72 = .ok (.bipush 70, 2) := by decide +kernel
theorem dX7_back_74 : decode cX7_back 74 = .ok (.if_icmp .ge 28, 3) := by decide +kernel
theorem dX7_back_77 : decode cX7_back 77 = .ok (.aload_n 0, 1) := by decide +kernel
theorem dX7_back_78 : decode cX7_back 78 = .ok (.getfield 23, 3) := by decide +kernel
theorem dX7_back_81 : decode cX7_back 81 = .ok (.iload_n 3, 1) := by decide +kernel
theorem dX7_back_82 : decode cX7_back 82 = .ok (.aload_n 0, 1) := by decide +kernel
theorem dX7_back_83 : decode cX7_back 83 = .ok (.getfield 26, 3) := by decide +kernel
theorem dX7_back_86 : decode cX7_back 86 = .ok (.iload_n 2, 1) := by decide +kernel
theorem dX7_back_87 : decode cX7_back 87 = .ok (.bipush 7, 2) := by decide +kernel
theorem dX7_back_89 : decode cX7_back 89 = .ok (.iadd, 1) := by decide +kernel
theorem dX7_back_90 : decode cX7_back 90 = .ok (.iconst 1, 1) := by decide +kernel
theorem dX7_back_91 : decode cX7_back 91 = .ok (.iadd, 1) := by decide +kernel
theorem dX7_back_92 : decode cX7_back 92 = .ok (.iload_n 3, 1) := by decide +kernel
theorem dX7_back_93 : decode cX7_back 93 = .ok (.iadd, 1) := by decide +kernel
theorem dX7_back_94 : decode cX7_back 94 = .ok (.iaload, 1) := by decide +kernel
theorem dX7_back_95 : decode cX7_back 95 = .ok (.iastore, 1) := by decide +kernel
theorem dX7_back_96 : decode cX7_back 96 = .ok (.iinc 3 1, 3) := by decide +kernel
theorem dX7_back_99 : decode cX7_back 99 = .ok (.goto (-28), 3) := by decide +kernel
theorem dX7_back_102 : decode cX7_back 102 = .ok (.aload_n 0, 1) := by decide +kernel
theorem dX7_back_103 : decode cX7_back 103 = .ok (.getfield 20, 3) := by decide +kernel
theorem dX7_back_106 : decode cX7_back 106 = .ok (.iconst 1, 1) := by decide +kernel
theorem dX7_back_107 : decode cX7_back 107 = .ok (.iaload, 1) := by decide +kernel
theorem dX7_back_108 : decode cX7_back 108 = .ok (.ireturn, 1) := by decide +kernel
theorem dX7_count_0 : decode cX7_count 0 = .ok (.iload_n 1, 1) := by decide +kernel
theorem dX7_count_1 : decode cX7_count 1 = .ok (.tableswitch 78 0 6 #[43, 48, 53, 58, 63, 68, 73], 43) := by decide +kernel
theorem dX7_count_44 : decode cX7_count 44 = .ok (.aload_n 0, 1) := by decide +kernel
theorem dX7_count_45 : decode cX7_count 45 = .ok (.getfield 69, 3) := by decide +kernel
theorem dX7_count_48 : decode cX7_count 48 = .ok (.ireturn, 1) := by decide +kernel
theorem dX7_count_49 : decode cX7_count 49 = .ok (.aload_n 0, 1) := by decide +kernel
theorem dX7_count_50 : decode cX7_count 50 = .ok (.getfield 76, 3) := by decide +kernel
theorem dX7_count_53 : decode cX7_count 53 = .ok (.ireturn, 1) := by decide +kernel
theorem dX7_count_54 : decode cX7_count 54 = .ok (.aload_n 0, 1) := by decide +kernel
theorem dX7_count_55 : decode cX7_count 55 = .ok (.getfield 16, 3) := by decide +kernel
theorem dX7_count_58 : decode cX7_count 58 = .ok (.ireturn, 1) := by decide +kernel
theorem dX7_count_59 : decode cX7_count 59 = .ok (.aload_n 0, 1) := by decide +kernel
theorem dX7_count_60 : decode cX7_count 60 = .ok (.getfield 134, 3) := by decide +kernel
theorem dX7_count_63 : decode cX7_count 63 = .ok (.ireturn, 1) := by decide +kernel
theorem dX7_count_64 : decode cX7_count 64 = .ok (.aload_n 0, 1) := by decide +kernel
theorem dX7_count_65 : decode cX7_count 65 = .ok (.getfield 140, 3) := by decide +kernel
theorem dX7_count_68 : decode cX7_count 68 = .ok (.ireturn, 1) := by decide +kernel
theorem dX7_count_69 : decode cX7_count 69 = .ok (.aload_n 0, 1) := by decide +kernel
theorem dX7_count_70 : decode cX7_count 70 = .ok (.getfield 137, 3) := by decide +kernel
theorem dX7_count_73 : decode cX7_count 73 = .ok (.ireturn, 1) := by decide +kernel
theorem dX7_count_74 : decode cX7_count 74 = .ok (.aload_n 0, 1) := by decide +kernel
theorem dX7_count_75 : decode cX7_count 75 = .ok (.getfield 83, 3) := by decide +kernel
theorem dX7_count_78 : decode cX7_count 78 = .ok (.ireturn, 1) := by decide +kernel
theorem dX7_count_79 : decode cX7_count 79 = .ok (.iconst (-1), 1) := by decide +kernel
theorem dX7_count_80 : decode cX7_count 80 = .ok (.ireturn, 1) := by decide +kernel
theorem dX7_trace_0 : decode cX7_trace 0 = .ok (.aload_n 0, 1) := by decide +kernel
theorem dX7_trace_1 : decode cX7_trace 1 = .ok (.getfield 218, 3) := by decide +kernel
theorem dX7_trace_4 : decode cX7_trace 4 = .ok (.lreturn, 1) := by decide +kernel
