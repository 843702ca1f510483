theorem dX0_init_0 : decode cX0_init 0 = .ok (.aload_n 0, 1) := by decide +kernel
theorem dX0_init_1 : decode cX0_init 1 = .ok (.invokespecial 3, 3) := by decide +kernel
theorem dX0_init_4 : decode cX0_init 4 = .ok (.aload_n 0, 1) := by decide +kernel
theorem dX0_init_5 : decode cX0_init 5 = .ok (.bipush (-9), 2) := by decide +kernel
theorem dX0_init_7 : decode cX0_init 7 = .ok (.putfield 9, 3) := by decide +kernel
theorem dX0_init_10 : decode cX0_init 10 = .ok (.aload_n 0, 1) := by decide +kernel
theorem dX0_init_11 : decode cX0_init 11 = .ok (.iconst 4, 1) := by decide +kernel
theorem dX0_init_12 : decode cX0_init 12 = .ok (.newarray .int, 2) := by decide +kernel
theorem dX0_init_14 : decode cX0_init 14 = .ok (.putfield 15, 3) := by decide +kernel
theorem dX0_init_17 : decode cX0_init 17 = .ok (.return_, 1) := by decide +kernel
theorem dX0_begin_0 : decode cX0_begin 0 = .ok (.aload_n 0, 1) := by decide +kernel
theorem dX0_begin_1 : decode cX0_begin 1 = .ok (.iconst 0, 1) := by decide +kernel
theorem dX0_begin_2 : decode cX0_begin 2 = .ok (.putfield 19, 3) := by decide +kernel
theorem dX0_begin_5 : decode cX0_begin 5 = .ok (.aload_n 0, 1) := by decide +kernel
theorem dX0_begin_6 : decode cX0_begin 6 = .ok (.iconst 0, 1) := by decide +kernel
theorem dX0_begin_7 : decode cX0_begin 7 = .ok (.putfield 22, 3) := by decide +kernel
theorem dX0_begin_10 : decode cX0_begin 10 = .ok (.aload_n 0, 1) := by decide +kernel
theorem dX0_begin_11 : decode cX0_begin 11 = .ok (.bipush (-9), 2) := by decide +kernel
theorem dX0_begin_13 : decode cX0_begin 13 = .ok (.putfield 9, 3) := by decide +kernel
theorem dX0_begin_16 : decode cX0_begin 16 = .ok (.iconst 0, 1) := by decide +kernel
theorem dX0_begin_17 : decode cX0_begin 17 = .ok (.istore_n 1, 1) := by decide +kernel
theorem dX0_begin_18 : decode cX0_begin 18 = .ok (.iload_n 1, 1) := by decide +kernel
theorem dX0_begin_19 : decode cX0_begin 19 = .ok (.iconst 4, 1) := by decide +kernel
theorem dX0_begin_20 : decode cX0_begin 20 = .ok (.if_icmp .ge 16, 3) := by decide +kernel
theorem dX0_begin_23 : decode cX0_begin 23 = .ok (.aload_n 0, 1) := by decide +kernel
theorem dX0_begin_24 : decode cX0_begin 24 = .ok (.getfield 15, 3) := by decide +kernel
theorem dX0_begin_27 : decode cX0_begin 27 = .ok (.iload_n 1, 1) := by decide +kernel
theorem dX0_begin_28 : decode cX0_begin 28 = .ok (.iconst 0, 1) := by decide +kernel
theorem dX0_begin_29 : decode cX0_begin 29 = .ok (.iastore, 1) := by decide +kernel
theorem dX0_begin_30 : decode cX0_begin 30 = .ok (.iinc 1 1, 3) := by decide +kernel
theorem dX0_begin_33 : decode cX0_begin 33 = .ok (.goto (-15), 3) := by decide +kernel
theorem dX0_begin_36 : decode cX0_begin 36 = .ok (.return_, 1) := by decide +kernel
theorem dX0_copy_0 : decode cX0_copy 0 = .ok (.aload_n 0, 1) := by decide +kernel
theorem dX0_copy_1 : decode cX0_copy 1 = .ok (.aload_n 1, 1) := by decide +kernel
theorem dX0_copy_2 : decode cX0_copy 2 = .ok (.getfield 19, 3) := by decide +kernel
theorem dX0_copy_5 : decode cX0_copy 5 = .ok (.putfield 19, 3) := by decide +kernel
theorem dX0_copy_8 : decode cX0_copy 8 = .ok (.aload_n 0, 1) := by decide +kernel
theorem dX0_copy_9 : decode cX0_copy 9 = .ok (.aload_n 1, 1) := by decide +kernel
theorem dX0_copy_10 : decode cX0_copy 10 = .ok (.getfield 22, 3) := by decide +kernel
theorem dX0_copy_13 : decode cX0_copy 13 = .ok (.putfield 22, 3) := by decide +kernel
theorem dX0_copy_16 : decode cX0_copy 16 = .ok (.aload_n 0, 1) := by decide +kernel
theorem dX0_copy_17 : decode cX0_copy 17 = .ok (.aload_n 1, 1) := by decide +kernel
theorem dX0_copy_18 : decode cX0_copy 18 = .ok (.getfield 9, 3) := by decide +kernel
theorem dX0_copy_21 : decode cX0_copy 21 = .ok (.putfield 9, 3) := by decide +kernel
theorem dX0_copy_24 : decode cX0_copy 24 = .ok (.iconst 0, 1) := by decide +kernel
theorem dX0_copy_25 : decode cX0_copy 25 = .ok (.istore_n 2, 1) := by decide +kernel
theorem dX0_copy_26 : decode cX0_copy 26 = .ok (.iload_n 2, 1) := by decide +kernel
theorem dX0_copy_27 : decode cX0_copy 27 = .ok (.iconst 4, 1) := by decide +kernel
theorem dX0_copy_28 : decode cX0_copy 28 = .ok (.if_icmp .ge 21, 3) := by decide +kernel
theorem dX0_copy_31 : decode cX0_copy 31 = .ok (.aload_n 0, 1) := by decide +kernel
theorem dX0_copy_32 : decode cX0_copy 32 = .ok (.getfield 15, 3) := by decide +kernel
theorem dX0_copy_35 : decode cX0_copy 35 = .ok (.iload_n 2, 1) := by decide +kernel
theorem dX0_copy_36 : decode cX0_copy 36 = .ok (.aload_n 1, 1) := by decide +kernel
theorem dX0_copy_37 : decode cX0_copy 37 = .ok (.getfield 15, 3) := by decide +kernel
theorem dX0_copy_40 : decode cX0_copy 40 = .ok (.iload_n 2, 1) := by decide +kernel
theorem dX0_copy_41 : decode cX0_copy 41 = .ok (.iaload, 1) := by decide +kernel
theorem dX0_copy_42 : decode cX0_copy 42 = .ok (.iastore, 1) := by decide +kernel
theorem dX0_copy_43 : decode cX0_copy 43 = .ok (.iinc 2 1, 3) := by decide +kernel
theorem dX0_copy_46 : decode cX0_copy 46 = .ok (.goto (-20), 3) := by decide +kernel
theorem dX0_copy_49 : decode cX0_copy 49 = .ok (.return_, 1) := by decide +kernel
theorem dX0_isWorn_0 : decode cX0_isWorn 0 = .ok (.aload_n 0, 1) := by decide +kernel
theorem dX0_isWorn_1 : decode cX0_isWorn 1 = .ok (.getfield 15, 3) := by decide +kernel
theorem dX0_isWorn_4 : decode cX0_isWorn 4 = .ok (.iload_n 2, 1) := by decide +kernel
theorem dX0_isWorn_5 : decode cX0_isWorn 5 = .ok (.iaload, 1) := by decide +kernel
theorem dX0_isWorn_6 : decode cX0_isWorn 6 = .ok (.aload_n 1, 1) := by decide +kernel
theorem dX0_isWorn_7 : decode cX0_isWorn 7 = .ok (.getfield 25, 3) := by decide +kernel
theorem dX0_isWorn_10 : decode cX0_isWorn 10 = .ok (.iload_n 2, 1) := by decide +kernel
theorem dX0_isWorn_11 : decode cX0_isWorn 11 = .ok (.iaload, 1) := by decide +kernel
theorem dX0_isWorn_12 : decode cX0_isWorn 12 = .ok (.if_icmp .le 7, 3) := by decide +kernel
theorem dX0_isWorn_15 : decode cX0_isWorn 15 = .ok (.iconst 1, 1) := by decide +kernel
theorem dX0_isWorn_16 : decode cX0_isWorn 16 = .ok (.goto 4, 3) := by decide +kernel
theorem dX0_isWorn_19 : decode cX0_isWorn 19 = .ok (.iconst 0, 1) := by decide +kernel
theorem dX0_isWorn_20 : decode cX0_isWorn 20 = .ok (.ireturn, 1) := by decide +kernel
theorem dX0_wornBits_0 : decode cX0_wornBits 0 = .ok (.iconst 0, 1) := by decide +kernel
theorem dX0_wornBits_1 : decode cX0_wornBits 1 = .ok (.istore_n 2, 1) := by decide +kernel
theorem dX0_wornBits_2 : decode cX0_wornBits 2 = .ok (.iconst 0, 1) := by decide +kernel
theorem dX0_wornBits_3 : decode cX0_wornBits 3 = .ok (.istore_n 3, 1) := by decide +kernel
theorem dX0_wornBits_4 : decode cX0_wornBits 4 = .ok (.iload_n 3, 1) := by decide +kernel
theorem dX0_wornBits_5 : decode cX0_wornBits 5 = .ok (.aload_n 1, 1) := by decide +kernel
theorem dX0_wornBits_6 : decode cX0_wornBits 6 = .ok (.getfield 30, 3) := by decide +kernel
theorem dX0_wornBits_9 : decode cX0_wornBits 9 = .ok (.if_icmp .ge 24, 3) := by decide +kernel
theorem dX0_wornBits_12 : decode cX0_wornBits 12 = .ok (.aload_n 0, 1) := by decide +kernel
theorem dX0_wornBits_13 : decode cX0_wornBits 13 = .ok (.aload_n 1, 1) := by decide +kernel
theorem dX0_wornBits_14 : decode cX0_wornBits 14 = .ok (.iload_n 3, 1) := by decide +kernel
theorem dX0_wornBits_15 : decode cX0_wornBits 15 = .ok (.invokevirtual 33, 3) := by decide +kernel
theorem dX0_wornBits_18 : decode cX0_wornBits 18 = .ok (.ifCond .eq 9, 3) := by decide +kernel
theorem dX0_wornBits_21 : decode cX0_wornBits 21 = .ok (.iload_n 2, 1) := by decide +kernel
theorem dX0_wornBits_22 : decode cX0_wornBits 22 = .ok (.iconst 1, 1) := by decide +kernel
theorem dX0_wornBits_23 : decode cX0_wornBits 23 = .ok (.iload_n 3, 1) := by decide +kernel
theorem dX0_wornBits_24 : decode cX0_wornBits 24 = .ok (.ishl, 1) := by decide +kernel
theorem dX0_wornBits_25 : decode cX0_wornBits 25 = .ok (.ior, 1) := by decide +kernel
theorem dX0_wornBits_26 : decode cX0_wornBits 26 = .ok (.istore_n 2, 1) := by decide +kernel
theorem dX0_wornBits_27 : decode cX0_wornBits 27 = .ok (.iinc 3 1, 3) := by decide +kernel
theorem dX0_wornBits_30 : decode cX0_wornBits 30 = .ok (.goto (-26), 3) := by decide +kernel
theorem dX0_wornBits_33 : decode cX0_wornBits 33 = .ok (.iload_n 2, 1) := by decide +kernel
theorem dX0_wornBits_34 : decode cX0_wornBits 34 = .ok (.ireturn, 1) := by decide +kernel
theorem dX0_wornOf_0 : decode cX0_wornOf 0 = .ok (.iload_n 2, 1) := by decide +kernel
theorem dX0_wornOf_1 : decode cX0_wornOf 1 = .ok (.bipush 10, 2) := by decide +kernel
theorem dX0_wornOf_3 : decode cX0_wornOf 3 = .ok (.idiv, 1) := by decide +kernel
theorem dX0_wornOf_4 : decode cX0_wornOf 4 = .ok (.istore_n 3, 1) := by decide +kernel
theorem dX0_wornOf_5 : decode cX0_wornOf 5 = .ok (.iload_n 2, 1) := by decide +kernel
theorem dX0_wornOf_6 : decode cX0_wornOf 6 = .ok (.bipush 10, 2) := by decide +kernel
theorem dX0_wornOf_8 : decode cX0_wornOf 8 = .ok (.irem, 1) := by decide +kernel
theorem dX0_wornOf_9 : decode cX0_wornOf 9 = .ok (.istore 4, 2) := by decide +kernel
theorem dX0_wornOf_11 : decode cX0_wornOf 11 = .ok (.aload_n 0, 1) := by decide +kernel
theorem dX0_wornOf_12 : decode cX0_wornOf 12 = .ok (.getfield 15, 3) := by decide +kernel
theorem dX0_wornOf_15 : decode cX0_wornOf 15 = .ok (.iload_n 3, 1) := by decide +kernel
theorem dX0_wornOf_16 : decode cX0_wornOf 16 = .ok (.iaload, 1) := by decide +kernel
theorem dX0_wornOf_17 : decode cX0_wornOf 17 = .ok (.aload_n 1, 1) := by decide +kernel
theorem dX0_wornOf_18 : decode cX0_wornOf 18 = .ok (.getfield 25, 3) := by decide +kernel
theorem dX0_wornOf_21 : decode cX0_wornOf 21 = .ok (.iload_n 3, 1) := by decide +kernel
theorem dX0_wornOf_22 : decode cX0_wornOf 22 = .ok (.iaload, 1) := by decide +kernel
theorem dX0_wornOf_23 : decode cX0_wornOf 23 = .ok (.if_icmp .le 7, 3) := by decide +kernel
theorem dX0_wornOf_26 : decode cX0_wornOf 26 = .ok (.iconst 1, 1) := by decide +kernel
theorem dX0_wornOf_27 : decode cX0_wornOf 27 = .ok (.goto 4, 3) := by decide +kernel
theorem dX0_wornOf_30 : decode cX0_wornOf 30 = .ok (.iconst 0, 1) := by decide +kernel
theorem dX0_wornOf_31 : decode cX0_wornOf 31 = .ok (.aload_n 0, 1) := by decide +kernel
theorem dX0_wornOf_32 : decode cX0_wornOf 32 = .ok (.getfield 15, 3) := by decide +kernel
theorem dX0_wornOf_35 : decode cX0_wornOf 35 = .ok (.iload 4, 2) := by decide +kernel
theorem dX0_wornOf_37 : decode cX0_wornOf 37 = .ok (.iaload, 1) := by decide +kernel
theorem dX0_wornOf_38 : decode cX0_wornOf 38 = .ok (.aload_n 1, 1) := by decide +kernel
theorem dX0_wornOf_39 : decode cX0_wornOf 39 = .ok (.getfield 25, 3) := by decide +kernel
theorem dX0_wornOf_42 : decode cX0_wornOf 42 = .ok (.iload 4, 2) := by decide +kernel
theorem dX0_wornOf_44 : decode cX0_wornOf 44 = .ok (.iaload, 1) := by decide +kernel
theorem dX0_wornOf_45 : decode cX0_wornOf 45 = .ok (.if_icmp .le 7, 3) := by decide +kernel
theorem dX0_wornOf_48 : decode cX0_wornOf 48 = .ok (.iconst 1, 1) := by decide +kernel
theorem dX0_wornOf_49 : decode cX0_wornOf 49 = .ok (.goto 4, 3) := by decide +kernel
theorem dX0_wornOf_52 : decode cX0_wornOf 52 = .ok (.iconst 0, 1) := by decide +kernel
theorem dX0_wornOf_53 : decode cX0_wornOf 53 = .ok (.iadd, 1) := by decide +kernel
theorem dX0_wornOf_54 : decode cX0_wornOf 54 = .ok (.ireturn, 1) := by decide +kernel
theorem dX0_tiredTogether_0 : decode cX0_tiredTogether 0 = .ok (.iconst 0, 1) := by decide +kernel
theorem dX0_tiredTogether_1 : decode cX0_tiredTogether 1 = .ok (.istore_n 1, 1) := by decide +kernel
theorem dX0_tiredTogether_2 : decode cX0_tiredTogether 2 = .ok (.iconst 0, 1) := by decide +kernel
theorem dX0_tiredTogether_3 : decode cX0_tiredTogether 3 = .ok (.istore_n 2, 1) := by decide +kernel
theorem dX0_tiredTogether_4 : decode cX0_tiredTogether 4 = .ok (.iload_n 2, 1) := by decide +kernel
theorem dX0_tiredTogether_5 : decode cX0_tiredTogether 5 = .ok (.iconst 4, 1) := by decide +kernel
theorem dX0_tiredTogether_6 : decode cX0_tiredTogether 6 = .ok (.if_icmp .ge 18, 3) := by decide +kernel
theorem dX0_tiredTogether_9 : decode cX0_tiredTogether 9 = .ok (.iload_n 1, 1) := by decide +kernel
theorem dX0_tiredTogether_10 : decode cX0_tiredTogether 10 = .ok (.aload_n 0, 1) := by decide +kernel
theorem dX0_tiredTogether_11 : decode cX0_tiredTogether 11 = .ok (.getfield 15, 3) := by decide +kernel
theorem dX0_tiredTogether_14 : decode cX0_tiredTogether 14 = .ok (.iload_n 2, 1) := by decide +kernel
theorem dX0_tiredTogether_15 : decode cX0_tiredTogether 15 = .ok (.iaload, 1) := by decide +kernel
theorem dX0_tiredTogether_16 : decode cX0_tiredTogether 16 = .ok (.iadd, 1) := by decide +kernel
theorem dX0_tiredTogether_17 : decode cX0_tiredTogether 17 = .ok (.istore_n 1, 1) := by decide +kernel
theorem dX0_tiredTogether_18 : decode cX0_tiredTogether 18 = .ok (.iinc 2 1, 3) := by decide +kernel
theorem dX0_tiredTogether_21 : decode cX0_tiredTogether 21 = .ok (.goto (-17), 3) := by decide +kernel
theorem dX0_tiredTogether_24 : decode cX0_tiredTogether 24 = .ok (.iload_n 1, 1) := by decide +kernel
theorem dX0_tiredTogether_25 : decode cX0_tiredTogether 25 = .ok (.ireturn, 1) := by decide +kernel
theorem dX0_minutesOn_0 : decode cX0_minutesOn 0 = .ok (.aload_n 1, 1) := by decide +kernel
theorem dX0_minutesOn_1 : decode cX0_minutesOn 1 = .ok (.getfield 37, 3) := by decide +kernel
theorem dX0_minutesOn_4 : decode cX0_minutesOn 4 = .ok (.iload_n 2, 1) := by decide +kernel
theorem dX0_minutesOn_5 : decode cX0_minutesOn 5 = .ok (.iaload, 1) := by decide +kernel
theorem dX0_minutesOn_6 : decode cX0_minutesOn 6 = .ok (.aload_n 1, 1) := by decide +kernel
theorem dX0_minutesOn_7 : decode cX0_minutesOn 7 = .ok (.iload_n 2, 1) := by decide +kernel
theorem dX0_minutesOn_8 : decode cX0_minutesOn 8 = .ok (.iload_n 3, 1) := by decide +kernel
theorem dX0_minutesOn_9 : decode cX0_minutesOn 9 = .ok (.invokevirtual 40, 3) := by decide +kernel
theorem dX0_minutesOn_12 : decode cX0_minutesOn 12 = .ok (.iconst 3, 1) := by decide +kernel
theorem dX0_minutesOn_13 : decode cX0_minutesOn 13 = .ok (.aload_n 0, 1) := by decide +kernel
theorem dX0_minutesOn_14 : decode cX0_minutesOn 14 = .ok (.aload_n 1, 1) := by decide +kernel
theorem dX0_minutesOn_15 : decode cX0_minutesOn 15 = .ok (.iload_n 3, 1) := by decide +kernel
theorem dX0_minutesOn_16 : decode cX0_minutesOn 16 = .ok (.invokevirtual 44, 3) := by decide +kernel
theorem dX0_minutesOn_19 : decode cX0_minutesOn 19 = .ok (.imul, 1) := by decide +kernel
theorem dX0_minutesOn_20 : decode cX0_minutesOn 20 = .ok (.iadd, 1) := by decide +kernel
theorem dX0_minutesOn_21 : decode cX0_minutesOn 21 = .ok (.imul, 1) := by decide +kernel
theorem dX0_minutesOn_22 : decode cX0_minutesOn 22 = .ok (.ireturn, 1) := by decide +kernel
theorem dX0_minutesToWalk_0 : decode cX0_minutesToWalk 0 = .ok (.aload_n 0, 1) := by decide +kernel
theorem dX0_minutesToWalk_1 : decode cX0_minutesToWalk 1 = .ok (.aload_n 1, 1) := by decide +kernel
theorem dX0_minutesToWalk_2 : decode cX0_minutesToWalk 2 = .ok (.aload_n 0, 1) := by decide +kernel
theorem dX0_minutesToWalk_3 : decode cX0_minutesToWalk 3 = .ok (.getfield 19, 3) := by decide +kernel
theorem dX0_minutesToWalk_6 : decode cX0_minutesToWalk 6 = .ok (.iload_n 2, 1) := by decide +kernel
theorem dX0_minutesToWalk_7 : decode cX0_minutesToWalk 7 = .ok (.invokevirtual 48, 3) := by decide +kernel
theorem dX0_minutesToWalk_10 : decode cX0_minutesToWalk 10 = .ok (.istore_n 3, 1) := by decide +kernel
theorem dX0_minutesToWalk_11 : decode cX0_minutesToWalk 11 = .ok (.aload_n 0, 1) := by decide +kernel
theorem dX0_minutesToWalk_12 : decode cX0_minutesToWalk 12 = .ok (.getfield 9, 3) := by decide +kernel
theorem dX0_minutesToWalk_15 : decode cX0_minutesToWalk 15 = .ok (.bipush (-9), 2) := by decide +kernel
theorem dX0_minutesToWalk_17 : decode cX0_minutesToWalk 17 = .ok (.if_icmp .eq 11, 3) := by decide +kernel
theorem dX0_minutesToWalk_20 : decode cX0_minutesToWalk 20 = .ok (.aload_n 0, 1) := by decide +kernel
theorem dX0_minutesToWalk_21 : decode cX0_minutesToWalk 21 = .ok (.getfield 9, 3) := by decide +kernel
theorem dX0_minutesToWalk_24 : decode cX0_minutesToWalk 24 = .ok (.iload_n 2, 1) := by decide +kernel
theorem dX0_minutesToWalk_25 : decode cX0_minutesToWalk 25 = .ok (.if_icmp .ne 7, 3) := by decide +kernel
theorem dX0_minutesToWalk_28 : decode cX0_minutesToWalk 28 = .ok (.iload_n 3, 1) := by decide +kernel
theorem dX0_minutesToWalk_29 : decode cX0_minutesToWalk 29 = .ok (.goto 9, 3) := by decide +kernel
theorem dX0_minutesToWalk_32 : decode cX0_minutesToWalk 32 = .ok (.iload_n 3, 1) := by decide +kernel
theorem dX0_minutesToWalk_33 : decode cX0_minutesToWalk 33 = .ok (.aload_n 1, 1) := by decide +kernel
theorem dX0_minutesToWalk_34 : decode cX0_minutesToWalk 34 = .ok (.getfield 52, 3) := by decide +kernel
theorem dX0_minutesToWalk_37 : decode cX0_minutesToWalk 37 = .ok (.iadd, 1) := by decide +kernel
theorem dX0_minutesToWalk_38 : decode cX0_minutesToWalk 38 = .ok (.ireturn, 1) := by decide +kernel
theorem dX0_walkOn_0 : decode cX0_walkOn 0 = .ok (.aload_n 0, 1) := by decide +kernel
theorem dX0_walkOn_1 : decode cX0_walkOn 1 = .ok (.getfield 19, 3) := by decide +kernel
theorem dX0_walkOn_4 : decode cX0_walkOn 4 = .ok (.aload_n 1, 1) := by decide +kernel
theorem dX0_walkOn_5 : decode cX0_walkOn 5 = .ok (.getfield 55, 3) := by decide +kernel
theorem dX0_walkOn_8 : decode cX0_walkOn 8 = .ok (.if_icmp .ge 37, 3) := by decide +kernel
theorem dX0_walkOn_11 : decode cX0_walkOn 11 = .ok (.aload_n 0, 1) := by decide +kernel
theorem dX0_walkOn_12 : decode cX0_walkOn 12 = .ok (.iload_n 3, 1) := by decide +kernel
theorem dX0_walkOn_13 : decode cX0_walkOn 13 = .ok (.putfield 22, 3) := by decide +kernel
theorem dX0_walkOn_16 : decode cX0_walkOn 16 = .ok (.aload_n 0, 1) := by decide +kernel
theorem dX0_walkOn_17 : decode cX0_walkOn 17 = .ok (.iload_n 2, 1) := by decide +kernel
theorem dX0_walkOn_18 : decode cX0_walkOn 18 = .ok (.aload_n 1, 1) := by decide +kernel
theorem dX0_walkOn_19 : decode cX0_walkOn 19 = .ok (.getfield 37, 3) := by decide +kernel
theorem dX0_walkOn_22 : decode cX0_walkOn 22 = .ok (.aload_n 0, 1) := by decide +kernel
theorem dX0_walkOn_23 : decode cX0_walkOn 23 = .ok (.getfield 19, 3) := by decide +kernel
theorem dX0_walkOn_26 : decode cX0_walkOn 26 = .ok (.iaload, 1) := by decide +kernel
theorem dX0_walkOn_27 : decode cX0_walkOn 27 = .ok (.invokevirtual 58, 3) := by decide +kernel
theorem dX0_walkOn_30 : decode cX0_walkOn 30 = .ok (.aload_n 0, 1) := by decide +kernel
theorem dX0_walkOn_31 : decode cX0_walkOn 31 = .ok (.iload_n 2, 1) := by decide +kernel
theorem dX0_walkOn_32 : decode cX0_walkOn 32 = .ok (.putfield 9, 3) := by decide +kernel
theorem dX0_walkOn_35 : decode cX0_walkOn 35 = .ok (.aload_n 0, 1) := by decide +kernel
theorem dX0_walkOn_36 : decode cX0_walkOn 36 = .ok (.dup, 1) := by decide +kernel
theorem dX0_walkOn_37 : decode cX0_walkOn 37 = .ok (.getfield 19, 3) := by decide +kernel
theorem dX0_walkOn_40 : decode cX0_walkOn 40 = .ok (.iconst 1, 1) := by decide +kernel
theorem dX0_walkOn_41 : decode cX0_walkOn 41 = .ok (.iadd, 1) := by decide +kernel
theorem dX0_walkOn_42 : decode cX0_walkOn 42 = .ok (.putfield 19, 3) := by decide +kernel
theorem dX0_walkOn_45 : decode cX0_walkOn 45 = .ok (.return_, 1) := by decide +kernel
theorem dX0_tire_0 : decode cX0_tire 0 = .ok (.iconst 0, 1) := by decide +kernel
theorem dX0_tire_1 : decode cX0_tire 1 = .ok (.istore_n 3, 1) := by decide +kernel
theorem dX0_tire_2 : decode cX0_tire 2 = .ok (.iload_n 3, 1) := by decide +kernel
theorem dX0_tire_3 : decode cX0_tire 3 = .ok (.iconst 4, 1) := by decide +kernel
theorem dX0_tire_4 : decode cX0_tire 4 = .ok (.if_icmp .ge 65, 3) := by decide +kernel
theorem dX0_tire_7 : decode cX0_tire 7 = .ok (.iload_n 3, 1) := by decide +kernel
theorem dX0_tire_8 : decode cX0_tire 8 = .ok (.iload_n 1, 1) := by decide +kernel
theorem dX0_tire_9 : decode cX0_tire 9 = .ok (.bipush 10, 2) := by decide +kernel
theorem dX0_tire_11 : decode cX0_tire 11 = .ok (.idiv, 1) := by decide +kernel
theorem dX0_tire_12 : decode cX0_tire 12 = .ok (.if_icmp .eq 11, 3) := by decide +kernel
theorem dX0_tire_15 : decode cX0_tire 15 = .ok (.iload_n 3, 1) := by decide +kernel
theorem dX0_tire_16 : decode cX0_tire 16 = .ok (.iload_n 1, 1) := by decide +kernel
theorem dX0_tire_17 : decode cX0_tire 17 = .ok (.bipush 10, 2) := by decide +kernel
theorem dX0_tire_19 : decode cX0_tire 19 = .ok (.irem, 1) := by decide +kernel
theorem dX0_tire_20 : decode cX0_tire 20 = .ok (.if_icmp .ne 25, 3) := by decide +kernel
theorem dX0_tire_23 : decode cX0_tire 23 = .ok (.aload_n 0, 1) := by decide +kernel
theorem dX0_tire_24 : decode cX0_tire 24 = .ok (.getfield 15, 3) := by decide +kernel
theorem dX0_tire_27 : decode cX0_tire 27 = .ok (.iload_n 3, 1) := by decide +kernel
theorem dX0_tire_28 : decode cX0_tire 28 = .ok (.aload_n 0, 1) := by decide +kernel
theorem dX0_tire_29 : decode cX0_tire 29 = .ok (.getfield 15, 3) := by decide +kernel
theorem dX0_tire_32 : decode cX0_tire 32 = .ok (.iload_n 3, 1) := by decide +kernel
theorem dX0_tire_33 : decode cX0_tire 33 = .ok (.iaload, 1) := by decide +kernel
theorem dX0_tire_34 : decode cX0_tire 34 = .ok (.iload_n 2, 1) := by decide +kernel
theorem dX0_tire_35 : decode cX0_tire 35 = .ok (.iadd, 1) := by decide +kernel
theorem dX0_tire_36 : decode cX0_tire 36 = .ok (.bipush 99, 2) := by decide +kernel
theorem dX0_tire_38 : decode cX0_tire 38 = .ok (.invokestatic 62, 3) := by decide +kernel
theorem dX0_tire_41 : decode cX0_tire 41 = .ok (.iastore, 1) := by decide +kernel
theorem dX0_tire_42 : decode cX0_tire 42 = .ok (.goto 21, 3) := by decide +kernel
theorem dX0_tire_45 : decode cX0_tire 45 = .ok (.aload_n 0, 1) := by decide +kernel
theorem dX0_tire_46 : decode cX0_tire 46 = .ok (.getfield 15, 3) := by decide +kernel
theorem dX0_tire_49 : decode cX0_tire 49 = .ok (.iload_n 3, 1) := by decide +kernel
theorem dX0_tire_50 : decode cX0_tire 50 = .ok (.aload_n 0, 1) := by decide +kernel
theorem dX0_tire_51 : decode cX0_tire 51 = .ok (.getfield 15, 3) := by decide +kernel
theorem dX0_tire_54 : decode cX0_tire 54 = .ok (.iload_n 3, 1) := by decide +kernel
theorem dX0_tire_55 : decode cX0_tire 55 = .ok (.iaload, 1) := by decide +kernel
theorem dX0_tire_56 : decode cX0_tire 56 = .ok (.iload_n 2, 1) := by decide +kernel
theorem dX0_tire_57 : decode cX0_tire 57 = .ok (.isub, 1) := by decide +kernel
theorem dX0_tire_58 : decode cX0_tire 58 = .ok (.iconst 0, 1) := by decide +kernel
theorem dX0_tire_59 : decode cX0_tire 59 = .ok (.invokestatic 67, 3) := by decide +kernel
theorem dX0_tire_62 : decode cX0_tire 62 = .ok (.iastore, 1) := by decide +kernel
theorem dX0_tire_63 : decode cX0_tire 63 = .ok (.iinc 3 1, 3) := by decide +kernel
theorem dX0_tire_66 : decode cX0_tire 66 = .ok (.goto (-64), 3) := by decide +kernel
theorem dX0_tire_69 : decode cX0_tire 69 = .ok (.return_, 1) := by decide +kernel
theorem dX0_ease_0 : decode cX0_ease 0 = .ok (.iconst 0, 1) := by decide +kernel
theorem dX0_ease_1 : decode cX0_ease 1 = .ok (.istore_n 2, 1) := by decide +kernel
theorem dX0_ease_2 : decode cX0_ease 2 = .ok (.iload_n 2, 1) := by decide +kernel
theorem dX0_ease_3 : decode cX0_ease 3 = .ok (.iconst 4, 1) := by decide +kernel
theorem dX0_ease_4 : decode cX0_ease 4 = .ok (.if_icmp .ge 27, 3) := by decide +kernel
theorem dX0_ease_7 : decode cX0_ease 7 = .ok (.aload_n 0, 1) := by decide +kernel
theorem dX0_ease_8 : decode cX0_ease 8 = .ok (.getfield 15, 3) := by decide +kernel
theorem dX0_ease_11 : decode cX0_ease 11 = .ok (.iload_n 2, 1) := by decide +kernel
theorem dX0_ease_12 : decode cX0_ease 12 = .ok (.aload_n 0, 1) := by decide +kernel
theorem dX0_ease_13 : decode cX0_ease 13 = .ok (.getfield 15, 3) := by decide +kernel
theorem dX0_ease_16 : decode cX0_ease 16 = .ok (.iload_n 2, 1) := by decide +kernel
theorem dX0_ease_17 : decode cX0_ease 17 = .ok (.iaload, 1) := by decide +kernel
theorem dX0_ease_18 : decode cX0_ease 18 = .ok (.iload_n 1, 1) := by decide +kernel
theorem dX0_ease_19 : decode cX0_ease 19 = .ok (.isub, 1) := by decide +kernel
theorem dX0_ease_20 : decode cX0_ease 20 = .ok (.iconst 0, 1) := by decide +kernel
theorem dX0_ease_21 : decode cX0_ease 21 = .ok (.invokestatic 67, 3) := by decide +kernel
theorem dX0_ease_24 : decode cX0_ease 24 = .ok (.iastore, 1) := by decide +kernel
theorem dX0_ease_25 : decode cX0_ease 25 = .ok (.iinc 2 1, 3) := by decide +kernel
theorem dX0_ease_28 : decode cX0_ease 28 = .ok (.goto (-26), 3) := by decide +kernel
theorem dX0_ease_31 : decode cX0_ease 31 = .ok (.return_, 1) := by decide +kernel
theorem dX1_init_0 : decode cX1_init 0 = .ok (.aload_n 0, 1) := by decide +kernel
theorem dX1_init_1 : decode cX1_init 1 = .ok (.invokespecial 3, 3) := by decide +kernel
theorem dX1_init_4 : decode cX1_init 4 = .ok (.aload_n 0, 1) := by decide +kernel
theorem dX1_init_5 : decode cX1_init 5 = .ok (.bipush (-9), 2) := by decide +kernel
theorem dX1_init_7 : decode cX1_init 7 = .ok (.putfield 9, 3) := by decide +kernel
theorem dX1_init_10 : decode cX1_init 10 = .ok (.aload_n 0, 1) := by decide +kernel
theorem dX1_init_11 : decode cX1_init 11 = .ok (.bipush 6, 2) := by decide +kernel
theorem dX1_init_13 : decode cX1_init 13 = .ok (.newarray .int, 2) := by decide +kernel
theorem dX1_init_15 : decode cX1_init 15 = .ok (.putfield 15, 3) := by decide +kernel
theorem dX1_init_18 : decode cX1_init 18 = .ok (.aload_n 0, 1) := by decide +kernel
theorem dX1_init_19 : decode cX1_init 19 = .ok (.bipush 6, 2) := by decide +kernel
theorem dX1_init_21 : decode cX1_init 21 = .ok (.newarray .int, 2) := by decide +kernel
theorem dX1_init_23 : decode cX1_init 23 = .ok (.putfield 19, 3) := by decide +kernel
theorem dX1_init_26 : decode cX1_init 26 = .ok (.aload_n 0, 1) := by decide +kernel
theorem dX1_init_27 : decode cX1_init 27 = .ok (.bipush 7, 2) := by decide +kernel
theorem dX1_init_29 : decode cX1_init 29 = .ok (.anewarray 22, 3) := by decide +kernel
theorem dX1_init_32 : decode cX1_init 32 = .ok (.putfield 24, 3) := by decide +kernel
theorem dX1_init_35 : decode cX1_init 35 = .ok (.aload_n 0, 1) := by decide +kernel
theorem dX1_init_36 : decode cX1_init 36 = .ok (.iload_n 1, 1) := by decide +kernel
theorem dX1_init_37 : decode cX1_init 37 = .ok (.putfield 28, 3) := by decide +kernel
theorem dX1_init_40 : decode cX1_init 40 = .ok (.iconst 0, 1) := by decide +kernel
theorem dX1_init_41 : decode cX1_init 41 = .ok (.istore_n 2, 1) := by decide +kernel
theorem dX1_init_42 : decode cX1_init 42 = .ok (.iload_n 2, 1) := by decide +kernel
theorem dX1_init_43 : decode cX1_init 43 = .ok (.bipush 6, 2) := by decide +kernel
theorem dX1_init_45 : decode cX1_init 45 = .ok (.if_icmp .gt 22, 3) := by decide +kernel
theorem dX1_init_48 : decode cX1_init 48 = .ok (.aload_n 0, 1) := by decide +kernel
theorem dX1_init_49 : decode cX1_init 49 = .ok (.getfield 24, 3) := by decide +kernel
theorem dX1_init_52 : decode cX1_init 52 = .ok (.iload_n 2, 1) := by decide +kernel
theorem dX1_init_53 : decode cX1_init 53 = .ok (.new 22, 3) := by decide +kernel
theorem dX1_init_56 : decode cX1_init 56 = .ok (.dup, 1) := by decide +kernel
theorem dX1_init_57 : decode cX1_init 57 = .ok (.invokespecial 32, 3) := by decide +kernel
theorem dX1_init_60 : decode cX1_init 60 = .ok (.aastore, 1) := by decide +kernel
theorem dX1_init_61 : decode cX1_init 61 = .ok (.iinc 2 1, 3) := by decide +kernel
theorem dX1_init_64 : decode cX1_init 64 = .ok (.goto (-22), 3) := by decide +kernel
theorem dX1_init_67 : decode cX1_init 67 = .ok (.return_, 1) := by decide +kernel
theorem dX1_plan_0 : decode cX1_plan 0 = .ok (.aload_n 0, 1) := by decide +kernel
theorem dX1_plan_1 : decode cX1_plan 1 = .ok (.iconst 1, 1) := by decide +kernel
theorem dX1_plan_2 : decode cX1_plan 2 = .ok (.putfield 33, 3) := by decide +kernel
theorem dX1_plan_5 : decode cX1_plan 5 = .ok (.aload_n 0, 1) := by decide +kernel
theorem dX1_plan_6 : decode cX1_plan 6 = .ok (.bipush (-9), 2) := by decide +kernel
theorem dX1_plan_8 : decode cX1_plan 8 = .ok (.putfield 9, 3) := by decide +kernel
theorem dX1_plan_11 : decode cX1_plan 11 = .ok (.iconst 0, 1) := by decide +kernel
theorem dX1_plan_12 : decode cX1_plan 12 = .ok (.istore_n 3, 1) := by decide +kernel
theorem dX1_plan_13 : decode cX1_plan 13 = .ok (.iload_n 3, 1) := by decide +kernel
theorem dX1_plan_14 : decode cX1_plan 14 = .ok (.bipush 6, 2) := by decide +kernel
theorem dX1_plan_16 : decode cX1_plan 16 = .ok (.if_icmp .ge 25, 3) := by decide +kernel
theorem dX1_plan_19 : decode cX1_plan 19 = .ok (.aload_n 0, 1) := by decide +kernel
theorem dX1_plan_20 : decode cX1_plan 20 = .ok (.getfield 15, 3) := by decide +kernel
theorem dX1_plan_23 : decode cX1_plan 23 = .ok (.iload_n 3, 1) := by decide +kernel
theorem dX1_plan_24 : decode cX1_plan 24 = .ok (.bipush (-9), 2) := by decide +kernel
theorem dX1_plan_26 : decode cX1_plan 26 = .ok (.iastore, 1) := by decide +kernel
theorem dX1_plan_27 : decode cX1_plan 27 = .ok (.aload_n 0, 1) := by decide +kernel
theorem dX1_plan_28 : decode cX1_plan 28 = .ok (.getfield 19, 3) := by decide +kernel
theorem dX1_plan_31 : decode cX1_plan 31 = .ok (.iload_n 3, 1) := by decide +kernel
theorem dX1_plan_32 : decode cX1_plan 32 = .ok (.bipush (-9), 2) := by decide +kernel
theorem dX1_plan_34 : decode cX1_plan 34 = .ok (.iastore, 1) := by decide +kernel
theorem dX1_plan_35 : decode cX1_plan 35 = .ok (.iinc 3 1, 3) := by decide +kernel
theorem dX1_plan_38 : decode cX1_plan 38 = .ok (.goto (-25), 3) := by decide +kernel
theorem dX1_plan_41 : decode cX1_plan 41 = .ok (.aload_n 1, 1) := by decide +kernel
theorem dX1_plan_42 : decode cX1_plan 42 = .ok (.getfield 36, 3) := by decide +kernel
theorem dX1_plan_45 : decode cX1_plan 45 = .ok (.ifCond .le 49, 3) := by decide +kernel
theorem dX1_plan_48 : decode cX1_plan 48 = .ok (.aload_n 2, 1) := by decide +kernel
theorem dX1_plan_49 : decode cX1_plan 49 = .ok (.getfield 41, 3) := by decide +kernel
theorem dX1_plan_52 : decode cX1_plan 52 = .ok (.aload_n 1, 1) := by decide +kernel
theorem dX1_plan_53 : decode cX1_plan 53 = .ok (.getfield 44, 3) := by decide +kernel
theorem dX1_plan_56 : decode cX1_plan 56 = .ok (.if_icmp .ge 38, 3) := by decide +kernel
theorem dX1_plan_59 : decode cX1_plan 59 = .ok (.aload_n 0, 1) := by decide +kernel
theorem dX1_plan_60 : decode cX1_plan 60 = .ok (.getfield 24, 3) := by decide +kernel
theorem dX1_plan_63 : decode cX1_plan 63 = .ok (.aload_n 2, 1) := by decide +kernel
theorem dX1_plan_64 : decode cX1_plan 64 = .ok (.getfield 41, 3) := by decide +kernel
theorem dX1_plan_67 : decode cX1_plan 67 = .ok (.aaload, 1) := by decide +kernel
theorem dX1_plan_68 : decode cX1_plan 68 = .ok (.aload_n 2, 1) := by decide +kernel
theorem dX1_plan_69 : decode cX1_plan 69 = .ok (.invokevirtual 47, 3) := by decide +kernel
theorem dX1_plan_72 : decode cX1_plan 72 = .ok (.aload_n 0, 1) := by decide +kernel
theorem dX1_plan_73 : decode cX1_plan 73 = .ok (.getfield 24, 3) := by decide +kernel
theorem dX1_plan_76 : decode cX1_plan 76 = .ok (.aload_n 2, 1) := by decide +kernel
theorem dX1_plan_77 : decode cX1_plan 77 = .ok (.getfield 41, 3) := by decide +kernel
theorem dX1_plan_80 : decode cX1_plan 80 = .ok (.aaload, 1) := by decide +kernel
theorem dX1_plan_81 : decode cX1_plan 81 = .ok (.iconst 0, 1) := by decide +kernel
theorem dX1_plan_82 : decode cX1_plan 82 = .ok (.putfield 51, 3) := by decide +kernel
theorem dX1_plan_85 : decode cX1_plan 85 = .ok (.aload_n 0, 1) := by decide +kernel
theorem dX1_plan_86 : decode cX1_plan 86 = .ok (.aload_n 1, 1) := by decide +kernel
theorem dX1_plan_87 : decode cX1_plan 87 = .ok (.aload_n 2, 1) := by decide +kernel
theorem dX1_plan_88 : decode cX1_plan 88 = .ok (.getfield 41, 3) := by decide +kernel
theorem dX1_plan_91 : decode cX1_plan 91 = .ok (.invokevirtual 54, 3) := by decide +kernel
theorem dX1_plan_94 : decode cX1_plan 94 = .ok (.return_, 1) := by decide +kernel
theorem dX1_search_0 : decode cX1_search 0 = .ok (.iload_n 2, 1) := by decide +kernel
theorem dX1_search_1 : decode cX1_search 1 = .ok (.aload_n 1, 1) := by decide +kernel
theorem dX1_search_2 : decode cX1_search 2 = .ok (.getfield 44, 3) := by decide +kernel
theorem dX1_search_5 : decode cX1_search 5 = .ok (.if_icmp .ge 9, 3) := by decide +kernel
theorem dX1_search_8 : decode cX1_search 8 = .ok (.iload_n 2, 1) := by decide +kernel
theorem dX1_search_9 : decode cX1_search 9 = .ok (.bipush 6, 2) := by decide +kernel
theorem dX1_search_11 : decode cX1_search 11 = .ok (.if_icmp .lt 17, 3) := by decide +kernel
theorem dX1_search_14 : decode cX1_search 14 = .ok (.aload_n 0, 1) := by decide +kernel
theorem dX1_search_15 : decode cX1_search 15 = .ok (.aload_n 0, 1) := by decide +kernel
theorem dX1_search_16 : decode cX1_search 16 = .ok (.getfield 24, 3) := by decide +kernel
theorem dX1_search_19 : decode cX1_search 19 = .ok (.iload_n 2, 1) := by decide +kernel
theorem dX1_search_20 : decode cX1_search 20 = .ok (.aaload, 1) := by decide +kernel
theorem dX1_search_21 : decode cX1_search 21 = .ok (.getfield 51, 3) := by decide +kernel
theorem dX1_search_24 : decode cX1_search 24 = .ok (.invokevirtual 58, 3) := by decide +kernel
theorem dX1_search_27 : decode cX1_search 27 = .ok (.return_, 1) := by decide +kernel
theorem dX1_search_28 : decode cX1_search 28 = .ok (.aload_n 0, 1) := by decide +kernel
theorem dX1_search_29 : decode cX1_search 29 = .ok (.getfield 24, 3) := by decide +kernel
theorem dX1_search_32 : decode cX1_search 32 = .ok (.iload_n 2, 1) := by decide +kernel
theorem dX1_search_33 : decode cX1_search 33 = .ok (.aaload, 1) := by decide +kernel
theorem dX1_search_34 : decode cX1_search 34 = .ok (.astore_n 3, 1) := by decide +kernel
theorem dX1_search_35 : decode cX1_search 35 = .ok (.aload_n 0, 1) := by decide +kernel
theorem dX1_search_36 : decode cX1_search 36 = .ok (.getfield 24, 3) := by decide +kernel
theorem dX1_search_39 : decode cX1_search 39 = .ok (.iload_n 2, 1) := by decide +kernel
theorem dX1_search_40 : decode cX1_search 40 = .ok (.iconst 1, 1) := by decide +kernel
theorem dX1_search_41 : decode cX1_search 41 = .ok (.iadd, 1) := by decide +kernel
theorem dX1_search_42 : decode cX1_search 42 = .ok (.aaload, 1) := by decide +kernel
theorem dX1_search_43 : decode cX1_search 43 = .ok (.astore 4, 2) := by decide +kernel
theorem dX1_search_45 : decode cX1_search 45 = .ok (.iconst 0, 1) := by decide +kernel
theorem dX1_search_46 : decode cX1_search 46 = .ok (.istore 5, 2) := by decide +kernel
theorem dX1_search_48 : decode cX1_search 48 = .ok (.iload 5, 2) := by decide +kernel
theorem dX1_search_50 : decode cX1_search 50 = .ok (.aload_n 1, 1) := by decide +kernel
theorem dX1_search_51 : decode cX1_search 51 = .ok (.getfield 36, 3) := by decide +kernel
theorem dX1_search_54 : decode cX1_search 54 = .ok (.if_icmp .ge 97, 3) := by decide +kernel
theorem dX1_search_57 : decode cX1_search 57 = .ok (.aload_n 1, 1) := by decide +kernel
theorem dX1_search_58 : decode cX1_search 58 = .ok (.getfield 62, 3) := by decide +kernel
theorem dX1_search_61 : decode cX1_search 61 = .ok (.iload 5, 2) := by decide +kernel
theorem dX1_search_63 : decode cX1_search 63 = .ok (.iaload, 1) := by decide +kernel
theorem dX1_search_64 : decode cX1_search 64 = .ok (.istore 6, 2) := by decide +kernel
theorem dX1_search_66 : decode cX1_search 66 = .ok (.aload_n 0, 1) := by decide +kernel
theorem dX1_search_67 : decode cX1_search 67 = .ok (.getfield 28, 3) := by decide +kernel
theorem dX1_search_70 : decode cX1_search 70 = .ok (.ifCond .eq 16, 3) := by decide +kernel
theorem dX1_search_73 : decode cX1_search 73 = .ok (.aload_n 3, 1) := by decide +kernel
theorem dX1_search_74 : decode cX1_search 74 = .ok (.aload_n 1, 1) := by decide +kernel
theorem dX1_search_75 : decode cX1_search 75 = .ok (.iload 6, 2) := by decide +kernel
theorem dX1_search_77 : decode cX1_search 77 = .ok (.invokevirtual 65, 3) := by decide +kernel
theorem dX1_search_80 : decode cX1_search 80 = .ok (.ifCond .le 6, 3) := by decide +kernel
theorem dX1_search_83 : decode cX1_search 83 = .ok (.goto 62, 3) := by decide +kernel
theorem dX1_search_86 : decode cX1_search 86 = .ok (.aload_n 3, 1) := by decide +kernel
theorem dX1_search_87 : decode cX1_search 87 = .ok (.getfield 51, 3) := by decide +kernel
theorem dX1_search_90 : decode cX1_search 90 = .ok (.aload_n 3, 1) := by decide +kernel
theorem dX1_search_91 : decode cX1_search 91 = .ok (.aload_n 1, 1) := by decide +kernel
theorem dX1_search_92 : decode cX1_search 92 = .ok (.iload 6, 2) := by decide +kernel
theorem dX1_search_94 : decode cX1_search 94 = .ok (.invokevirtual 69, 3) := by decide +kernel
theorem dX1_search_97 : decode cX1_search 97 = .ok (.iadd, 1) := by decide +kernel
theorem dX1_search_98 : decode cX1_search 98 = .ok (.istore 7, 2) := by decide +kernel
theorem dX1_search_100 : decode cX1_search 100 = .ok (.aload_n 0, 1) := by decide +kernel
theorem dX1_search_101 : decode cX1_search 101 = .ok (.aload_n 1, 1) := by decide +kernel
theorem dX1_search_102 : decode cX1_search 102 = .ok (.iload_n 2, 1) := by decide +kernel
theorem dX1_search_103 : decode cX1_search 103 = .ok (.iconst 1, 1) := by decide +kernel
theorem dX1_search_104 : decode cX1_search 104 = .ok (.iadd, 1) := by decide +kernel
theorem dX1_search_105 : decode cX1_search 105 = .ok (.iload 7, 2) := by decide +kernel
theorem dX1_search_107 : decode cX1_search 107 = .ok (.invokevirtual 72, 3) := by decide +kernel
theorem dX1_search_110 : decode cX1_search 110 = .ok (.ifCond .eq 35, 3) := by decide +kernel
theorem dX1_search_113 : decode cX1_search 113 = .ok (.aload 4, 2) := by decide +kernel
theorem dX1_search_115 : decode cX1_search 115 = .ok (.aload_n 3, 1) := by decide +kernel
theorem dX1_search_116 : decode cX1_search 116 = .ok (.invokevirtual 47, 3) := by decide +kernel
theorem dX1_search_119 : decode cX1_search 119 = .ok (.aload 4, 2) := by decide +kernel
theorem dX1_search_121 : decode cX1_search 121 = .ok (.aload_n 1, 1) := by decide +kernel
theorem dX1_search_122 : decode cX1_search 122 = .ok (.iload 6, 2) := by decide +kernel
theorem dX1_search_124 : decode cX1_search 124 = .ok (.iload 7, 2) := by decide +kernel
theorem dX1_search_126 : decode cX1_search 126 = .ok (.invokevirtual 76, 3) := by decide +kernel
theorem dX1_search_129 : decode cX1_search 129 = .ok (.aload_n 0, 1) := by decide +kernel
theorem dX1_search_130 : decode cX1_search 130 = .ok (.getfield 19, 3) := by decide +kernel
theorem dX1_search_133 : decode cX1_search 133 = .ok (.iload_n 2, 1) := by decide +kernel
theorem dX1_search_134 : decode cX1_search 134 = .ok (.iload 6, 2) := by decide +kernel
theorem dX1_search_136 : decode cX1_search 136 = .ok (.iastore, 1) := by decide +kernel
theorem dX1_search_137 : decode cX1_search 137 = .ok (.aload_n 0, 1) := by decide +kernel
theorem dX1_search_138 : decode cX1_search 138 = .ok (.aload_n 1, 1) := by decide +kernel
theorem dX1_search_139 : decode cX1_search 139 = .ok (.iload_n 2, 1) := by decide +kernel
theorem dX1_search_140 : decode cX1_search 140 = .ok (.iconst 1, 1) := by decide +kernel
theorem dX1_search_141 : decode cX1_search 141 = .ok (.iadd, 1) := by decide +kernel
theorem dX1_search_142 : decode cX1_search 142 = .ok (.invokevirtual 54, 3) := by decide +kernel
theorem dX1_search_145 : decode cX1_search 145 = .ok (.iinc 5 1, 3) := by decide +kernel
theorem dX1_search_148 : decode cX1_search 148 = .ok (.goto (-100), 3) := by decide +kernel
theorem dX1_search_151 : decode cX1_search 151 = .ok (.return_, 1) := by decide +kernel
theorem dX1_mayBeQuicker_0 : decode cX1_mayBeQuicker 0 = .ok (.aload_n 0, 1) := by decide +kernel
theorem dX1_mayBeQuicker_1 : decode cX1_mayBeQuicker 1 = .ok (.getfield 9, 3) := by decide +kernel
theorem dX1_mayBeQuicker_4 : decode cX1_mayBeQuicker 4 = .ok (.bipush (-9), 2) := by decide +kernel
theorem dX1_mayBeQuicker_6 : decode cX1_mayBeQuicker 6 = .ok (.if_icmp .eq 28, 3) := by decide +kernel
theorem dX1_mayBeQuicker_9 : decode cX1_mayBeQuicker 9 = .ok (.iload_n 3, 1) := by decide +kernel
theorem dX1_mayBeQuicker_10 : decode cX1_mayBeQuicker 10 = .ok (.aload_n 1, 1) := by decide +kernel
theorem dX1_mayBeQuicker_11 : decode cX1_mayBeQuicker 11 = .ok (.getfield 80, 3) := by decide +kernel
theorem dX1_mayBeQuicker_14 : decode cX1_mayBeQuicker 14 = .ok (.aload_n 1, 1) := by decide +kernel
theorem dX1_mayBeQuicker_15 : decode cX1_mayBeQuicker 15 = .ok (.getfield 44, 3) := by decide +kernel
theorem dX1_mayBeQuicker_18 : decode cX1_mayBeQuicker 18 = .ok (.iaload, 1) := by decide +kernel
theorem dX1_mayBeQuicker_19 : decode cX1_mayBeQuicker 19 = .ok (.iadd, 1) := by decide +kernel
theorem dX1_mayBeQuicker_20 : decode cX1_mayBeQuicker 20 = .ok (.aload_n 1, 1) := by decide +kernel
theorem dX1_mayBeQuicker_21 : decode cX1_mayBeQuicker 21 = .ok (.getfield 80, 3) := by decide +kernel
theorem dX1_mayBeQuicker_24 : decode cX1_mayBeQuicker 24 = .ok (.iload_n 2, 1) := by decide +kernel
theorem dX1_mayBeQuicker_25 : decode cX1_mayBeQuicker 25 = .ok (.iaload, 1) := by decide +kernel
theorem dX1_mayBeQuicker_26 : decode cX1_mayBeQuicker 26 = .ok (.isub, 1) := by decide +kernel
theorem dX1_mayBeQuicker_27 : decode cX1_mayBeQuicker 27 = .ok (.aload_n 0, 1) := by decide +kernel
theorem dX1_mayBeQuicker_28 : decode cX1_mayBeQuicker 28 = .ok (.getfield 9, 3) := by decide +kernel
theorem dX1_mayBeQuicker_31 : decode cX1_mayBeQuicker 31 = .ok (.if_icmp .ge 7, 3) := by decide +kernel
theorem dX1_mayBeQuicker_34 : decode cX1_mayBeQuicker 34 = .ok (.iconst 1, 1) := by decide +kernel
theorem dX1_mayBeQuicker_35 : decode cX1_mayBeQuicker 35 = .ok (.goto 4, 3) := by decide +kernel
theorem dX1_mayBeQuicker_38 : decode cX1_mayBeQuicker 38 = .ok (.iconst 0, 1) := by decide +kernel
theorem dX1_mayBeQuicker_39 : decode cX1_mayBeQuicker 39 = .ok (.ireturn, 1) := by decide +kernel
theorem dX1_take_0 : decode cX1_take 0 = .ok (.aload_n 0, 1) := by decide +kernel
theorem dX1_take_1 : decode cX1_take 1 = .ok (.iload_n 1, 1) := by decide +kernel
theorem dX1_take_2 : decode cX1_take 2 = .ok (.putfield 9, 3) := by decide +kernel
theorem dX1_take_5 : decode cX1_take 5 = .ok (.iconst 0, 1) := by decide +kernel
theorem dX1_take_6 : decode cX1_take 6 = .ok (.istore_n 2, 1) := by decide +kernel
theorem dX1_take_7 : decode cX1_take 7 = .ok (.iload_n 2, 1) := by decide +kernel
theorem dX1_take_8 : decode cX1_take 8 = .ok (.bipush 6, 2) := by decide +kernel
theorem dX1_take_10 : decode cX1_take 10 = .ok (.if_icmp .ge 21, 3) := by decide +kernel
theorem dX1_take_13 : decode cX1_take 13 = .ok (.aload_n 0, 1) := by decide +kernel
theorem dX1_take_14 : decode cX1_take 14 = .ok (.getfield 15, 3) := by decide +kernel
theorem dX1_take_17 : decode cX1_take 17 = .ok (.iload_n 2, 1) := by decide +kernel
theorem dX1_take_18 : decode cX1_take 18 = .ok (.aload_n 0, 1) := by decide +kernel
theorem dX1_take_19 : decode cX1_take 19 = .ok (.getfield 19, 3) := by decide +kernel
theorem dX1_take_22 : decode cX1_take 22 = .ok (.iload_n 2, 1) := by decide +kernel
theorem dX1_take_23 : decode cX1_take 23 = .ok (.iaload, 1) := by decide +kernel
theorem dX1_take_24 : decode cX1_take 24 = .ok (.iastore, 1) := by decide +kernel
theorem dX1_take_25 : decode cX1_take 25 = .ok (.iinc 2 1, 3) := by decide +kernel
theorem dX1_take_28 : decode cX1_take 28 = .ok (.goto (-21), 3) := by decide +kernel
theorem dX1_take_31 : decode cX1_take 31 = .ok (.return_, 1) := by decide +kernel
theorem dX2_init_0 : decode cX2_init 0 = .ok (.aload_n 0, 1) := by decide +kernel
theorem dX2_init_1 : decode cX2_init 1 = .ok (.invokespecial 3, 3) := by decide +kernel
theorem dX2_init_4 : decode cX2_init 4 = .ok (.aload_n 0, 1) := by decide +kernel
theorem dX2_init_5 : decode cX2_init 5 = .ok (.sipush 200, 3) := by decide +kernel
theorem dX2_init_8 : decode cX2_init 8 = .ok (.newarray .int, 2) := by decide +kernel
theorem dX2_init_10 : decode cX2_init 10 = .ok (.putfield 9, 3) := by decide +kernel
theorem dX2_init_13 : decode cX2_init 13 = .ok (.aload_n 0, 1) := by decide +kernel
theorem dX2_init_14 : decode cX2_init 14 = .ok (.iconst 4, 1) := by decide +kernel
theorem dX2_init_15 : decode cX2_init 15 = .ok (.newarray .int, 2) := by decide +kernel
theorem dX2_init_17 : decode cX2_init 17 = .ok (.putfield 15, 3) := by decide +kernel
theorem dX2_init_20 : decode cX2_init 20 = .ok (.return_, 1) := by decide +kernel
theorem dX2_readInto_0 : decode cX2_readInto 0 = .ok (.aload_n 1, 1) := by decide +kernel
theorem dX2_readInto_1 : decode cX2_readInto 1 = .ok (.invokevirtual 18, 3) := by decide +kernel
theorem dX2_readInto_4 : decode cX2_readInto 4 = .ok (.aload_n 0, 1) := by decide +kernel
theorem dX2_readInto_5 : decode cX2_readInto 5 = .ok (.iconst 0, 1) := by decide +kernel
theorem dX2_readInto_6 : decode cX2_readInto 6 = .ok (.putfield 23, 3) := by decide +kernel
theorem dX2_readInto_9 : decode cX2_readInto 9 = .ok (.aload_n 0, 1) := by decide +kernel
theorem dX2_readInto_10 : decode cX2_readInto 10 = .ok (.iconst 0, 1) := by decide +kernel
theorem dX2_readInto_11 : decode cX2_readInto 11 = .ok (.putfield 27, 3) := by decide +kernel
theorem dX2_readInto_14 : decode cX2_readInto 14 = .ok (.aload_n 0, 1) := by decide +kernel
theorem dX2_readInto_15 : decode cX2_readInto 15 = .ok (.iconst 0, 1) := by decide +kernel
theorem dX2_readInto_16 : decode cX2_readInto 16 = .ok (.putfield 31, 3) := by decide +kernel
theorem dX2_readInto_19 : decode cX2_readInto 19 = .ok (.iconst 0, 1) := by decide +kernel
theorem dX2_readInto_20 : decode cX2_readInto 20 = .ok (.istore_n 2, 1) := by decide +kernel
theorem dX2_readInto_21 : decode cX2_readInto 21 = .ok (.aload_n 0, 1) := by decide +kernel
theorem dX2_readInto_22 : decode cX2_readInto 22 = .ok (.invokevirtual 34, 3) := by decide +kernel
theorem dX2_readInto_25 : decode cX2_readInto 25 = .ok (.iconst 0, 1) := by decide +kernel
theorem dX2_readInto_26 : decode cX2_readInto 26 = .ok (.istore_n 3, 1) := by decide +kernel
theorem dX2_readInto_27 : decode cX2_readInto 27 = .ok (.iload_n 3, 1) := by decide +kernel
theorem dX2_readInto_28 : decode cX2_readInto 28 = .ok (.sipush 200, 3) := by decide +kernel
theorem dX2_readInto_31 : decode cX2_readInto 31 = .ok (.if_icmp .ge 39, 3) := by decide +kernel
theorem dX2_readInto_34 : decode cX2_readInto 34 = .ok (.aload_n 0, 1) := by decide +kernel
theorem dX2_readInto_35 : decode cX2_readInto 35 = .ok (.getfield 37, 3) := by decide +kernel
theorem dX2_readInto_38 : decode cX2_readInto 38 = .ok (.ifCond .eq 32, 3) := by decide +kernel
theorem dX2_readInto_41 : decode cX2_readInto 41 = .ok (.aload_n 0, 1) := by decide +kernel
theorem dX2_readInto_42 : decode cX2_readInto 42 = .ok (.aload_n 1, 1) := by decide +kernel
theorem dX2_readInto_43 : decode cX2_readInto 43 = .ok (.invokevirtual 40, 3) := by decide +kernel
theorem dX2_readInto_46 : decode cX2_readInto 46 = .ok (.ifCond .ne 11, 3) := by decide +kernel
theorem dX2_readInto_49 : decode cX2_readInto 49 = .ok (.bipush (-10), 2) := by decide +kernel
theorem dX2_readInto_51 : decode cX2_readInto 51 = .ok (.aload_n 0, 1) := by decide +kernel
theorem dX2_readInto_52 : decode cX2_readInto 52 = .ok (.getfield 44, 3) := by decide +kernel
theorem dX2_readInto_55 : decode cX2_readInto 55 = .ok (.isub, 1) := by decide +kernel
theorem dX2_readInto_56 : decode cX2_readInto 56 = .ok (.ireturn, 1) := by decide +kernel
theorem dX2_readInto_57 : decode cX2_readInto 57 = .ok (.iinc 2 1, 3) := by decide +kernel
theorem dX2_readInto_60 : decode cX2_readInto 60 = .ok (.aload_n 0, 1) := by decide +kernel
theorem dX2_readInto_61 : decode cX2_readInto 61 = .ok (.invokevirtual 34, 3) := by decide +kernel
theorem dX2_readInto_64 : decode cX2_readInto 64 = .ok (.iinc 3 1, 3) := by decide +kernel
theorem dX2_readInto_67 : decode cX2_readInto 67 = .ok (.goto (-40), 3) := by decide +kernel
theorem dX2_readInto_70 : decode cX2_readInto 70 = .ok (.aload_n 1, 1) := by decide +kernel
theorem dX2_readInto_71 : decode cX2_readInto 71 = .ok (.invokevirtual 47, 3) := by decide +kernel
theorem dX2_readInto_74 : decode cX2_readInto 74 = .ok (.iload_n 2, 1) := by decide +kernel
theorem dX2_readInto_75 : decode cX2_readInto 75 = .ok (.ireturn, 1) := by decide +kernel
theorem dX2_readItem_0 : decode cX2_readItem 0 = .ok (.aload_n 0, 1) := by decide +kernel
theorem dX2_readItem_1 : decode cX2_readItem 1 = .ok (.getfield 37, 3) := by decide +kernel
theorem dX2_readItem_4 : decode cX2_readItem 4 = .ok (.iconst 1, 1) := by decide +kernel
theorem dX2_readItem_5 : decode cX2_readItem 5 = .ok (.if_icmp .ne 10, 3) := by decide +kernel
theorem dX2_readItem_8 : decode cX2_readItem 8 = .ok (.aload_n 0, 1) := by decide +kernel
theorem dX2_readItem_9 : decode cX2_readItem 9 = .ok (.getfield 50, 3) := by decide +kernel
theorem dX2_readItem_12 : decode cX2_readItem 12 = .ok (.goto 4, 3) := by decide +kernel
theorem dX2_readItem_15 : decode cX2_readItem 15 = .ok (.iconst 0, 1) := by decide +kernel
theorem dX2_readItem_16 : decode cX2_readItem 16 = .ok (.istore_n 2, 1) := by decide +kernel
theorem dX2_readItem_17 : decode cX2_readItem 17 = .ok (.aload_n 0, 1) := by decide +kernel
theorem dX2_readItem_18 : decode cX2_readItem 18 = .ok (.aload_n 1, 1) := by decide +kernel
theorem dX2_readItem_19 : decode cX2_readItem 19 = .ok (.iload_n 2, 1) := by decide +kernel
theorem dX2_readItem_20 : decode cX2_readItem 20 = .ok (.invokevirtual 53, 3) := by decide +kernel
theorem dX2_readItem_23 : decode cX2_readItem 23 = .ok (.ifCond .eq 14, 3) := by decide +kernel
theorem dX2_readItem_26 : decode cX2_readItem 26 = .ok (.aload_n 0, 1) := by decide +kernel
theorem dX2_readItem_27 : decode cX2_readItem 27 = .ok (.iload_n 2, 1) := by decide +kernel
theorem dX2_readItem_28 : decode cX2_readItem 28 = .ok (.invokestatic 57, 3) := by decide +kernel
theorem dX2_readItem_31 : decode cX2_readItem 31 = .ok (.invokevirtual 61, 3) := by decide +kernel
theorem dX2_readItem_34 : decode cX2_readItem 34 = .ok (.ifCond .ne 5, 3) := by decide +kernel
theorem dX2_readItem_37 : decode cX2_readItem 37 = .ok (.iconst 0, 1) := by decide +kernel
theorem dX2_readItem_38 : decode cX2_readItem 38 = .ok (.ireturn, 1) := by decide +kernel
theorem dX2_readItem_39 : decode cX2_readItem 39 = .ok (.aload_n 0, 1) := by decide +kernel
theorem dX2_readItem_40 : decode cX2_readItem 40 = .ok (.aload_n 1, 1) := by decide +kernel
theorem dX2_readItem_41 : decode cX2_readItem 41 = .ok (.iload_n 2, 1) := by decide +kernel
theorem dX2_readItem_42 : decode cX2_readItem 42 = .ok (.invokevirtual 65, 3) := by decide +kernel
theorem dX2_readItem_45 : decode cX2_readItem 45 = .ok (.iconst 1, 1) := by decide +kernel
theorem dX2_readItem_46 : decode cX2_readItem 46 = .ok (.ireturn, 1) := by decide +kernel
theorem dX2_mayBegin_0 : decode cX2_mayBegin 0 = .ok (.iload_n 2, 1) := by decide +kernel
theorem dX2_mayBegin_1 : decode cX2_mayBegin 1 = .ok (.lookupswitch 98 #[(99, 72), (104, 85), (116, 57), (119, 43)], 43) := by decide +kernel
theorem dX2_mayBegin_44 : decode cX2_mayBegin 44 = .ok (.aload_n 1, 1) := by decide +kernel
theorem dX2_mayBegin_45 : decode cX2_mayBegin 45 = .ok (.getfield 69, 3) := by decide +kernel
theorem dX2_mayBegin_48 : decode cX2_mayBegin 48 = .ok (.iconst 4, 1) := by decide +kernel
theorem dX2_mayBegin_49 : decode cX2_mayBegin 49 = .ok (.if_icmp .ge 7, 3) := by decide +kernel
theorem dX2_mayBegin_52 : decode cX2_mayBegin 52 = .ok (.iconst 1, 1) := by decide +kernel
theorem dX2_mayBegin_53 : decode cX2_mayBegin 53 = .ok (.goto 4, 3) := by decide +kernel
theorem dX2_mayBegin_56 : decode cX2_mayBegin 56 = .ok (.iconst 0, 1) := by decide +kernel
theorem dX2_mayBegin_57 : decode cX2_mayBegin 57 = .ok (.ireturn, 1) := by decide +kernel
theorem dX2_mayBegin_58 : decode cX2_mayBegin 58 = .ok (.aload_n 1, 1) := by decide +kernel
theorem dX2_mayBegin_59 : decode cX2_mayBegin 59 = .ok (.getfield 72, 3) := by decide +kernel
theorem dX2_mayBegin_62 : decode cX2_mayBegin 62 = .ok (.bipush 6, 2) := by decide +kernel
theorem dX2_mayBegin_64 : decode cX2_mayBegin 64 = .ok (.if_icmp .ge 7, 3) := by decide +kernel
theorem dX2_mayBegin_67 : decode cX2_mayBegin 67 = .ok (.iconst 1, 1) := by decide +kernel
theorem dX2_mayBegin_68 : decode cX2_mayBegin 68 = .ok (.goto 4, 3) := by decide +kernel
theorem dX2_mayBegin_71 : decode cX2_mayBegin 71 = .ok (.iconst 0, 1) := by decide +kernel
theorem dX2_mayBegin_72 : decode cX2_mayBegin 72 = .ok (.ireturn, 1) := by decide +kernel
theorem dX2_mayBegin_73 : decode cX2_mayBegin 73 = .ok (.aload_n 0, 1) := by decide +kernel
theorem dX2_mayBegin_74 : decode cX2_mayBegin 74 = .ok (.getfield 27, 3) := by decide +kernel
theorem dX2_mayBegin_77 : decode cX2_mayBegin 77 = .ok (.ifCond .ne 7, 3) := by decide +kernel
theorem dX2_mayBegin_80 : decode cX2_mayBegin 80 = .ok (.iconst 1, 1) := by decide +kernel
theorem dX2_mayBegin_81 : decode cX2_mayBegin 81 = .ok (.goto 4, 3) := by decide +kernel
theorem dX2_mayBegin_84 : decode cX2_mayBegin 84 = .ok (.iconst 0, 1) := by decide +kernel
theorem dX2_mayBegin_85 : decode cX2_mayBegin 85 = .ok (.ireturn, 1) := by decide +kernel
theorem dX2_mayBegin_86 : decode cX2_mayBegin 86 = .ok (.aload_n 0, 1) := by decide +kernel
theorem dX2_mayBegin_87 : decode cX2_mayBegin 87 = .ok (.getfield 31, 3) := by decide +kernel
theorem dX2_mayBegin_90 : decode cX2_mayBegin 90 = .ok (.ifCond .ne 7, 3) := by decide +kernel
theorem dX2_mayBegin_93 : decode cX2_mayBegin 93 = .ok (.iconst 1, 1) := by decide +kernel
theorem dX2_mayBegin_94 : decode cX2_mayBegin 94 = .ok (.goto 4, 3) := by decide +kernel
theorem dX2_mayBegin_97 : decode cX2_mayBegin 97 = .ok (.iconst 0, 1) := by decide +kernel
theorem dX2_mayBegin_98 : decode cX2_mayBegin 98 = .ok (.ireturn, 1) := by decide +kernel
theorem dX2_mayBegin_99 : decode cX2_mayBegin 99 = .ok (.iconst 0, 1) := by decide +kernel
theorem dX2_mayBegin_100 : decode cX2_mayBegin 100 = .ok (.ireturn, 1) := by decide +kernel
theorem dX2_boundsOf_0 : decode cX2_boundsOf 0 = .ok (.iload_n 0, 1) := by decide +kernel
theorem dX2_boundsOf_1 : decode cX2_boundsOf 1 = .ok (.lookupswitch 47 #[(99, 43), (116, 39), (119, 35)], 35) := by decide +kernel
theorem dX2_boundsOf_36 : decode cX2_boundsOf 36 = .ok (.getstatic 75, 3) := by decide +kernel
theorem dX2_boundsOf_39 : decode cX2_boundsOf 39 = .ok (.areturn, 1) := by decide +kernel
theorem dX2_boundsOf_40 : decode cX2_boundsOf 40 = .ok (.getstatic 78, 3) := by decide +kernel
theorem dX2_boundsOf_43 : decode cX2_boundsOf 43 = .ok (.areturn, 1) := by decide +kernel
theorem dX2_boundsOf_44 : decode cX2_boundsOf 44 = .ok (.getstatic 81, 3) := by decide +kernel
theorem dX2_boundsOf_47 : decode cX2_boundsOf 47 = .ok (.areturn, 1) := by decide +kernel
theorem dX2_boundsOf_48 : decode cX2_boundsOf 48 = .ok (.getstatic 84, 3) := by decide +kernel
theorem dX2_boundsOf_51 : decode cX2_boundsOf 51 = .ok (.areturn, 1) := by decide +kernel
theorem dX2_readNumbers_0 : decode cX2_readNumbers 0 = .ok (.iconst 0, 1) := by decide +kernel
theorem dX2_readNumbers_1 : decode cX2_readNumbers 1 = .ok (.istore_n 2, 1) := by decide +kernel
theorem dX2_readNumbers_2 : decode cX2_readNumbers 2 = .ok (.iload_n 2, 1) := by decide +kernel
theorem dX2_readNumbers_3 : decode cX2_readNumbers 3 = .ok (.aload_n 0, 1) := by decide +kernel
theorem dX2_readNumbers_4 : decode cX2_readNumbers 4 = .ok (.getfield 15, 3) := by decide +kernel
theorem dX2_readNumbers_7 : decode cX2_readNumbers 7 = .ok (.arraylength, 1) := by decide +kernel
theorem dX2_readNumbers_8 : decode cX2_readNumbers 8 = .ok (.if_icmp .ge 69, 3) := by decide +kernel
theorem dX2_readNumbers_11 : decode cX2_readNumbers 11 = .ok (.iconst 2, 1) := by decide +kernel
theorem dX2_readNumbers_12 : decode cX2_readNumbers 12 = .ok (.iload_n 2, 1) := by decide +kernel
theorem dX2_readNumbers_13 : decode cX2_readNumbers 13 = .ok (.imul, 1) := by decide +kernel
theorem dX2_readNumbers_14 : decode cX2_readNumbers 14 = .ok (.iconst 1, 1) := by decide +kernel
theorem dX2_readNumbers_15 : decode cX2_readNumbers 15 = .ok (.iadd, 1) := by decide +kernel
theorem dX2_readNumbers_16 : decode cX2_readNumbers 16 = .ok (.aload_n 1, 1) := by decide +kernel
theorem dX2_readNumbers_17 : decode cX2_readNumbers 17 = .ok (.arraylength, 1) := by decide +kernel
theorem dX2_readNumbers_18 : decode cX2_readNumbers 18 = .ok (.if_icmp .ge 59, 3) := by decide +kernel
theorem dX2_readNumbers_21 : decode cX2_readNumbers 21 = .ok (.aload_n 0, 1) := by decide +kernel
theorem dX2_readNumbers_22 : decode cX2_readNumbers 22 = .ok (.invokevirtual 34, 3) := by decide +kernel
theorem dX2_readNumbers_25 : decode cX2_readNumbers 25 = .ok (.aload_n 0, 1) := by decide +kernel
theorem dX2_readNumbers_26 : decode cX2_readNumbers 26 = .ok (.getfield 37, 3) := by decide +kernel
theorem dX2_readNumbers_29 : decode cX2_readNumbers 29 = .ok (.iconst 2, 1) := by decide +kernel
theorem dX2_readNumbers_30 : decode cX2_readNumbers 30 = .ok (.if_icmp .ne 29, 3) := by decide +kernel
theorem dX2_readNumbers_33 : decode cX2_readNumbers 33 = .ok (.aload_n 0, 1) := by decide +kernel
theorem dX2_readNumbers_34 : decode cX2_readNumbers 34 = .ok (.getfield 50, 3) := by decide +kernel
theorem dX2_readNumbers_37 : decode cX2_readNumbers 37 = .ok (.aload_n 1, 1) := by decide +kernel
theorem dX2_readNumbers_38 : decode cX2_readNumbers 38 = .ok (.iconst 2, 1) := by decide +kernel
theorem dX2_readNumbers_39 : decode cX2_readNumbers 39 = .ok (.iload_n 2, 1) := by decide +kernel
theorem dX2_readNumbers_40 : decode cX2_readNumbers 40 = .ok (.imul, 1) := by decide +kernel
theorem dX2_readNumbers_41 : decode cX2_readNumbers 41 = .ok (.iaload, 1) := by decide +kernel
theorem dX2_readNumbers_42 : decode cX2_readNumbers 42 = .ok (.if_icmp .lt 17, 3) := by decide +kernel
theorem dX2_readNumbers_45 : decode cX2_readNumbers 45 = .ok (.aload_n 0, 1) := by decide +kernel
theorem dX2_readNumbers_46 : decode cX2_readNumbers 46 = .ok (.getfield 50, 3) := by decide +kernel
theorem dX2_readNumbers_49 : decode cX2_readNumbers 49 = .ok (.aload_n 1, 1) := by decide +kernel
theorem dX2_readNumbers_50 : decode cX2_readNumbers 50 = .ok (.iconst 2, 1) := by decide +kernel
theorem dX2_readNumbers_51 : decode cX2_readNumbers 51 = .ok (.iload_n 2, 1) := by decide +kernel
theorem dX2_readNumbers_52 : decode cX2_readNumbers 52 = .ok (.imul, 1) := by decide +kernel
theorem dX2_readNumbers_53 : decode cX2_readNumbers 53 = .ok (.iconst 1, 1) := by decide +kernel
theorem dX2_readNumbers_54 : decode cX2_readNumbers 54 = .ok (.iadd, 1) := by decide +kernel
theorem dX2_readNumbers_55 : decode cX2_readNumbers 55 = .ok (.iaload, 1) := by decide +kernel
theorem dX2_readNumbers_56 : decode cX2_readNumbers 56 = .ok (.if_icmp .le 5, 3) := by decide +kernel
theorem dX2_readNumbers_59 : decode cX2_readNumbers 59 = .ok (.iconst 0, 1) := by decide +kernel
theorem dX2_readNumbers_60 : decode cX2_readNumbers 60 = .ok (.ireturn, 1) := by decide +kernel
theorem dX2_readNumbers_61 : decode cX2_readNumbers 61 = .ok (.aload_n 0, 1) := by decide +kernel
theorem dX2_readNumbers_62 : decode cX2_readNumbers 62 = .ok (.getfield 15, 3) := by decide +kernel
theorem dX2_readNumbers_65 : decode cX2_readNumbers 65 = .ok (.iload_n 2, 1) := by decide +kernel
theorem dX2_readNumbers_66 : decode cX2_readNumbers 66 = .ok (.aload_n 0, 1) := by decide +kernel
theorem dX2_readNumbers_67 : decode cX2_readNumbers 67 = .ok (.getfield 50, 3) := by decide +kernel
theorem dX2_readNumbers_70 : decode cX2_readNumbers 70 = .ok (.iastore, 1) := by decide +kernel
theorem dX2_readNumbers_71 : decode cX2_readNumbers 71 = .ok (.iinc 2 1, 3) := by decide +kernel
theorem dX2_readNumbers_74 : decode cX2_readNumbers 74 = .ok (.goto (-72), 3) := by decide +kernel
theorem dX2_readNumbers_77 : decode cX2_readNumbers 77 = .ok (.aload_n 0, 1) := by decide +kernel
theorem dX2_readNumbers_78 : decode cX2_readNumbers 78 = .ok (.invokevirtual 34, 3) := by decide +kernel
theorem dX2_readNumbers_81 : decode cX2_readNumbers 81 = .ok (.aload_n 0, 1) := by decide +kernel
theorem dX2_readNumbers_82 : decode cX2_readNumbers 82 = .ok (.getfield 37, 3) := by decide +kernel
theorem dX2_readNumbers_85 : decode cX2_readNumbers 85 = .ok (.iconst 3, 1) := by decide +kernel
theorem dX2_readNumbers_86 : decode cX2_readNumbers 86 = .ok (.if_icmp .ne 7, 3) := by decide +kernel
theorem dX2_readNumbers_89 : decode cX2_readNumbers 89 = .ok (.iconst 1, 1) := by decide +kernel
theorem dX2_readNumbers_90 : decode cX2_readNumbers 90 = .ok (.goto 4, 3) := by decide +kernel
theorem dX2_readNumbers_93 : decode cX2_readNumbers 93 = .ok (.iconst 0, 1) := by decide +kernel
theorem dX2_readNumbers_94 : decode cX2_readNumbers 94 = .ok (.ireturn, 1) := by decide +kernel
theorem dX2_tell_0 : decode cX2_tell 0 = .ok (.iload_n 2, 1) := by decide +kernel
theorem dX2_tell_1 : decode cX2_tell 1 = .ok (.lookupswitch 103 #[(99, 85), (116, 54), (119, 35)], 35) := by decide +kernel
theorem dX2_tell_36 : decode cX2_tell 36 = .ok (.aload_n 1, 1) := by decide +kernel
theorem dX2_tell_37 : decode cX2_tell 37 = .ok (.aload_n 0, 1) := by decide +kernel
theorem dX2_tell_38 : decode cX2_tell 38 = .ok (.getfield 15, 3) := by decide +kernel
theorem dX2_tell_41 : decode cX2_tell 41 = .ok (.iconst 0, 1) := by decide +kernel
theorem dX2_tell_42 : decode cX2_tell 42 = .ok (.iaload, 1) := by decide +kernel
theorem dX2_tell_43 : decode cX2_tell 43 = .ok (.aload_n 0, 1) := by decide +kernel
theorem dX2_tell_44 : decode cX2_tell 44 = .ok (.getfield 15, 3) := by decide +kernel
theorem dX2_tell_47 : decode cX2_tell 47 = .ok (.iconst 1, 1) := by decide +kernel
theorem dX2_tell_48 : decode cX2_tell 48 = .ok (.iaload, 1) := by decide +kernel
theorem dX2_tell_49 : decode cX2_tell 49 = .ok (.invokevirtual 87, 3) := by decide +kernel
theorem dX2_tell_52 : decode cX2_tell 52 = .ok (.goto 67, 3) := by decide +kernel
theorem dX2_tell_55 : decode cX2_tell 55 = .ok (.aload_n 1, 1) := by decide +kernel
theorem dX2_tell_56 : decode cX2_tell 56 = .ok (.aload_n 0, 1) := by decide +kernel
theorem dX2_tell_57 : decode cX2_tell 57 = .ok (.getfield 15, 3) := by decide +kernel
theorem dX2_tell_60 : decode cX2_tell 60 = .ok (.iconst 0, 1) := by decide +kernel
theorem dX2_tell_61 : decode cX2_tell 61 = .ok (.iaload, 1) := by decide +kernel
theorem dX2_tell_62 : decode cX2_tell 62 = .ok (.aload_n 0, 1) := by decide +kernel
theorem dX2_tell_63 : decode cX2_tell 63 = .ok (.getfield 15, 3) := by decide +kernel
theorem dX2_tell_66 : decode cX2_tell 66 = .ok (.iconst 1, 1) := by decide +kernel
theorem dX2_tell_67 : decode cX2_tell 67 = .ok (.iaload, 1) := by decide +kernel
theorem dX2_tell_68 : decode cX2_tell 68 = .ok (.aload_n 0, 1) := by decide +kernel
theorem dX2_tell_69 : decode cX2_tell 69 = .ok (.getfield 15, 3) := by decide +kernel
theorem dX2_tell_72 : decode cX2_tell 72 = .ok (.iconst 2, 1) := by decide +kernel
theorem dX2_tell_73 : decode cX2_tell 73 = .ok (.iaload, 1) := by decide +kernel
theorem dX2_tell_74 : decode cX2_tell 74 = .ok (.aload_n 0, 1) := by decide +kernel
theorem dX2_tell_75 : decode cX2_tell 75 = .ok (.getfield 15, 3) := by decide +kernel
theorem dX2_tell_78 : decode cX2_tell 78 = .ok (.iconst 3, 1) := by decide +kernel
theorem dX2_tell_79 : decode cX2_tell 79 = .ok (.iaload, 1) := by decide +kernel
theorem dX2_tell_80 : decode cX2_tell 80 = .ok (.invokevirtual 91, 3) := by decide +kernel
theorem dX2_tell_83 : decode cX2_tell 83 = .ok (.goto 36, 3) := by decide +kernel
theorem dX2_tell_86 : decode cX2_tell 86 = .ok (.aload_n 0, 1) := by decide +kernel
theorem dX2_tell_87 : decode cX2_tell 87 = .ok (.iconst 1, 1) := by decide +kernel
theorem dX2_tell_88 : decode cX2_tell 88 = .ok (.putfield 27, 3) := by decide +kernel
theorem dX2_tell_91 : decode cX2_tell 91 = .ok (.aload_n 1, 1) := by decide +kernel
theorem dX2_tell_92 : decode cX2_tell 92 = .ok (.aload_n 0, 1) := by decide +kernel
theorem dX2_tell_93 : decode cX2_tell 93 = .ok (.getfield 15, 3) := by decide +kernel
theorem dX2_tell_96 : decode cX2_tell 96 = .ok (.iconst 0, 1) := by decide +kernel
theorem dX2_tell_97 : decode cX2_tell 97 = .ok (.iaload, 1) := by decide +kernel
theorem dX2_tell_98 : decode cX2_tell 98 = .ok (.putfield 95, 3) := by decide +kernel
theorem dX2_tell_101 : decode cX2_tell 101 = .ok (.goto 18, 3) := by decide +kernel
theorem dX2_tell_104 : decode cX2_tell 104 = .ok (.aload_n 0, 1) := by decide +kernel
theorem dX2_tell_105 : decode cX2_tell 105 = .ok (.iconst 1, 1) := by decide +kernel
theorem dX2_tell_106 : decode cX2_tell 106 = .ok (.putfield 31, 3) := by decide +kernel
theorem dX2_tell_109 : decode cX2_tell 109 = .ok (.aload_n 1, 1) := by decide +kernel
theorem dX2_tell_110 : decode cX2_tell 110 = .ok (.aload_n 0, 1) := by decide +kernel
theorem dX2_tell_111 : decode cX2_tell 111 = .ok (.getfield 15, 3) := by decide +kernel
theorem dX2_tell_114 : decode cX2_tell 114 = .ok (.iconst 0, 1) := by decide +kernel
theorem dX2_tell_115 : decode cX2_tell 115 = .ok (.iaload, 1) := by decide +kernel
theorem dX2_tell_116 : decode cX2_tell 116 = .ok (.putfield 98, 3) := by decide +kernel
theorem dX2_tell_119 : decode cX2_tell 119 = .ok (.return_, 1) := by decide +kernel
theorem dX2_nextToken_0 : decode cX2_nextToken 0 = .ok (.aload_n 0, 1) := by decide +kernel
theorem dX2_nextToken_1 : decode cX2_nextToken 1 = .ok (.getfield 23, 3) := by decide +kernel
theorem dX2_nextToken_4 : decode cX2_nextToken 4 = .ok (.aload_n 0, 1) := by decide +kernel
theorem dX2_nextToken_5 : decode cX2_nextToken 5 = .ok (.getfield 101, 3) := by decide +kernel
theorem dX2_nextToken_8 : decode cX2_nextToken 8 = .ok (.if_icmp .ge 30, 3) := by decide +kernel
theorem dX2_nextToken_11 : decode cX2_nextToken 11 = .ok (.aload_n 0, 1) := by decide +kernel
theorem dX2_nextToken_12 : decode cX2_nextToken 12 = .ok (.getfield 9, 3) := by decide +kernel
theorem dX2_nextToken_15 : decode cX2_nextToken 15 = .ok (.aload_n 0, 1) := by decide +kernel
theorem dX2_nextToken_16 : decode cX2_nextToken 16 = .ok (.getfield 23, 3) := by decide +kernel
theorem dX2_nextToken_19 : decode cX2_nextToken 19 = .ok (.iaload, 1) := by decide +kernel
theorem dX2_nextToken_20 : decode cX2_nextToken 20 = .ok (.bipush 32, 2) := by decide +kernel
theorem dX2_nextToken_22 : decode cX2_nextToken 22 = .ok (.if_icmp .ne 16, 3) := by decide +kernel
theorem dX2_nextToken_25 : decode cX2_nextToken 25 = .ok (.aload_n 0, 1) := by decide +kernel
theorem dX2_nextToken_26 : decode cX2_nextToken 26 = .ok (.dup, 1) := by decide +kernel
theorem dX2_nextToken_27 : decode cX2_nextToken 27 = .ok (.getfield 23, 3) := by decide +kernel
theorem dX2_nextToken_30 : decode cX2_nextToken 30 = .ok (.iconst 1, 1) := by decide +kernel
theorem dX2_nextToken_31 : decode cX2_nextToken 31 = .ok (.iadd, 1) := by decide +kernel
theorem dX2_nextToken_32 : decode cX2_nextToken 32 = .ok (.putfield 23, 3) := by decide +kernel
theorem dX2_nextToken_35 : decode cX2_nextToken 35 = .ok (.goto (-35), 3) := by decide +kernel
theorem dX2_nextToken_38 : decode cX2_nextToken 38 = .ok (.aload_n 0, 1) := by decide +kernel
theorem dX2_nextToken_39 : decode cX2_nextToken 39 = .ok (.aload_n 0, 1) := by decide +kernel
theorem dX2_nextToken_40 : decode cX2_nextToken 40 = .ok (.getfield 23, 3) := by decide +kernel
theorem dX2_nextToken_43 : decode cX2_nextToken 43 = .ok (.putfield 44, 3) := by decide +kernel
theorem dX2_nextToken_46 : decode cX2_nextToken 46 = .ok (.aload_n 0, 1) := by decide +kernel
theorem dX2_nextToken_47 : decode cX2_nextToken 47 = .ok (.iconst 0, 1) := by decide +kernel
theorem dX2_nextToken_48 : decode cX2_nextToken 48 = .ok (.putfield 50, 3) := by decide +kernel
theorem dX2_nextToken_51 : decode cX2_nextToken 51 = .ok (.aload_n 0, 1) := by decide +kernel
theorem dX2_nextToken_52 : decode cX2_nextToken 52 = .ok (.getfield 23, 3) := by decide +kernel
theorem dX2_nextToken_55 : decode cX2_nextToken 55 = .ok (.aload_n 0, 1) := by decide +kernel
theorem dX2_nextToken_56 : decode cX2_nextToken 56 = .ok (.getfield 101, 3) := by decide +kernel
theorem dX2_nextToken_59 : decode cX2_nextToken 59 = .ok (.if_icmp .lt 11, 3) := by decide +kernel
theorem dX2_nextToken_62 : decode cX2_nextToken 62 = .ok (.aload_n 0, 1) := by decide +kernel
theorem dX2_nextToken_63 : decode cX2_nextToken 63 = .ok (.iconst 0, 1) := by decide +kernel
theorem dX2_nextToken_64 : decode cX2_nextToken 64 = .ok (.putfield 37, 3) := by decide +kernel
theorem dX2_nextToken_67 : decode cX2_nextToken 67 = .ok (.goto 80, 3) := by decide +kernel
theorem dX2_nextToken_70 : decode cX2_nextToken 70 = .ok (.aload_n 0, 1) := by decide +kernel
theorem dX2_nextToken_71 : decode cX2_nextToken 71 = .ok (.getfield 9, 3) := by decide +kernel
theorem dX2_nextToken_74 : decode cX2_nextToken 74 = .ok (.aload_n 0, 1) := by decide +kernel
theorem dX2_nextToken_75 : decode cX2_nextToken 75 = .ok (.getfield 23, 3) := by decide +kernel
theorem dX2_nextToken_78 : decode cX2_nextToken 78 = .ok (.iaload, 1) := by decide +kernel
theorem dX2_nextToken_79 : decode cX2_nextToken 79 = .ok (.invokestatic 104, 3) := by decide +kernel
theorem dX2_nextToken_82 : decode cX2_nextToken 82 = .ok (.ifCond .eq 10, 3) := by decide +kernel
theorem dX2_nextToken_85 : decode cX2_nextToken 85 = .ok (.aload_n 0, 1) := by decide +kernel
theorem dX2_nextToken_86 : decode cX2_nextToken 86 = .ok (.invokevirtual 108, 3) := by decide +kernel
theorem dX2_nextToken_89 : decode cX2_nextToken 89 = .ok (.goto 58, 3) := by decide +kernel
theorem dX2_nextToken_92 : decode cX2_nextToken 92 = .ok (.aload_n 0, 1) := by decide +kernel
theorem dX2_nextToken_93 : decode cX2_nextToken 93 = .ok (.getfield 9, 3) := by decide +kernel
theorem dX2_nextToken_96 : decode cX2_nextToken 96 = .ok (.aload_n 0, 1) := by decide +kernel
theorem dX2_nextToken_97 : decode cX2_nextToken 97 = .ok (.getfield 23, 3) := by decide +kernel
theorem dX2_nextToken_100 : decode cX2_nextToken 100 = .ok (.iaload, 1) := by decide +kernel
theorem dX2_nextToken_101 : decode cX2_nextToken 101 = .ok (.invokestatic 111, 3) := by decide +kernel
theorem dX2_nextToken_104 : decode cX2_nextToken 104 = .ok (.ifCond .eq 10, 3) := by decide +kernel
theorem dX2_nextToken_107 : decode cX2_nextToken 107 = .ok (.aload_n 0, 1) := by decide +kernel
theorem dX2_nextToken_108 : decode cX2_nextToken 108 = .ok (.invokevirtual 114, 3) := by decide +kernel
theorem dX2_nextToken_111 : decode cX2_nextToken 111 = .ok (.goto 36, 3) := by decide +kernel
theorem dX2_nextToken_114 : decode cX2_nextToken 114 = .ok (.aload_n 0, 1) := by decide +kernel
theorem dX2_nextToken_115 : decode cX2_nextToken 115 = .ok (.aload_n 0, 1) := by decide +kernel
theorem dX2_nextToken_116 : decode cX2_nextToken 116 = .ok (.getfield 9, 3) := by decide +kernel
theorem dX2_nextToken_119 : decode cX2_nextToken 119 = .ok (.aload_n 0, 1) := by decide +kernel
theorem dX2_nextToken_120 : decode cX2_nextToken 120 = .ok (.getfield 23, 3) := by decide +kernel
theorem dX2_nextToken_123 : decode cX2_nextToken 123 = .ok (.iaload, 1) := by decide +kernel
theorem dX2_nextToken_124 : decode cX2_nextToken 124 = .ok (.bipush 59, 2) := by decide +kernel
theorem dX2_nextToken_126 : decode cX2_nextToken 126 = .ok (.if_icmp .ne 7, 3) := by decide +kernel
theorem dX2_nextToken_129 : decode cX2_nextToken 129 = .ok (.iconst 3, 1) := by decide +kernel
theorem dX2_nextToken_130 : decode cX2_nextToken 130 = .ok (.goto 4, 3) := by decide +kernel
theorem dX2_nextToken_133 : decode cX2_nextToken 133 = .ok (.iconst 4, 1) := by decide +kernel
theorem dX2_nextToken_134 : decode cX2_nextToken 134 = .ok (.putfield 37, 3) := by decide +kernel
theorem dX2_nextToken_137 : decode cX2_nextToken 137 = .ok (.aload_n 0, 1) := by decide +kernel
theorem dX2_nextToken_138 : decode cX2_nextToken 138 = .ok (.dup, 1) := by decide +kernel
theorem dX2_nextToken_139 : decode cX2_nextToken 139 = .ok (.getfield 23, 3) := by decide +kernel
theorem dX2_nextToken_142 : decode cX2_nextToken 142 = .ok (.iconst 1, 1) := by decide +kernel
theorem dX2_nextToken_143 : decode cX2_nextToken 143 = .ok (.iadd, 1) := by decide +kernel
theorem dX2_nextToken_144 : decode cX2_nextToken 144 = .ok (.putfield 23, 3) := by decide +kernel
theorem dX2_nextToken_147 : decode cX2_nextToken 147 = .ok (.return_, 1) := by decide +kernel
theorem dX2_takeLetters_0 : decode cX2_takeLetters 0 = .ok (.aload_n 0, 1) := by decide +kernel
theorem dX2_takeLetters_1 : decode cX2_takeLetters 1 = .ok (.iconst 1, 1) := by decide +kernel
theorem dX2_takeLetters_2 : decode cX2_takeLetters 2 = .ok (.putfield 37, 3) := by decide +kernel
theorem dX2_takeLetters_5 : decode cX2_takeLetters 5 = .ok (.aload_n 0, 1) := by decide +kernel
theorem dX2_takeLetters_6 : decode cX2_takeLetters 6 = .ok (.getfield 23, 3) := by decide +kernel
theorem dX2_takeLetters_9 : decode cX2_takeLetters 9 = .ok (.aload_n 0, 1) := by decide +kernel
theorem dX2_takeLetters_10 : decode cX2_takeLetters 10 = .ok (.getfield 101, 3) := by decide +kernel
theorem dX2_takeLetters_13 : decode cX2_takeLetters 13 = .ok (.if_icmp .ge 31, 3) := by decide +kernel
theorem dX2_takeLetters_16 : decode cX2_takeLetters 16 = .ok (.aload_n 0, 1) := by decide +kernel
theorem dX2_takeLetters_17 : decode cX2_takeLetters 17 = .ok (.getfield 9, 3) := by decide +kernel
theorem dX2_takeLetters_20 : decode cX2_takeLetters 20 = .ok (.aload_n 0, 1) := by decide +kernel
theorem dX2_takeLetters_21 : decode cX2_takeLetters 21 = .ok (.getfield 23, 3) := by decide +kernel
theorem dX2_takeLetters_24 : decode cX2_takeLetters 24 = .ok (.iaload, 1) := by decide +kernel
theorem dX2_takeLetters_25 : decode cX2_takeLetters 25 = .ok (.invokestatic 104, 3) := by decide +kernel
theorem dX2_takeLetters_28 : decode cX2_takeLetters 28 = .ok (.ifCond .eq 16, 3) := by decide +kernel
theorem dX2_takeLetters_31 : decode cX2_takeLetters 31 = .ok (.aload_n 0, 1) := by decide +kernel
theorem dX2_takeLetters_32 : decode cX2_takeLetters 32 = .ok (.dup, 1) := by decide +kernel
theorem dX2_takeLetters_33 : decode cX2_takeLetters 33 = .ok (.getfield 23, 3) := by decide +kernel
theorem dX2_takeLetters_36 : decode cX2_takeLetters 36 = .ok (.iconst 1, 1) := by decide +kernel
theorem dX2_takeLetters_37 : decode cX2_takeLetters 37 = .ok (.iadd, 1) := by decide +kernel
theorem dX2_takeLetters_38 : decode cX2_takeLetters 38 = .ok (.putfield 23, 3) := by decide +kernel
theorem dX2_takeLetters_41 : decode cX2_takeLetters 41 = .ok (.goto (-36), 3) := by decide +kernel
theorem dX2_takeLetters_44 : decode cX2_takeLetters 44 = .ok (.aload_n 0, 1) := by decide +kernel
theorem dX2_takeLetters_45 : decode cX2_takeLetters 45 = .ok (.aload_n 0, 1) := by decide +kernel
theorem dX2_takeLetters_46 : decode cX2_takeLetters 46 = .ok (.getfield 23, 3) := by decide +kernel
theorem dX2_takeLetters_49 : decode cX2_takeLetters 49 = .ok (.aload_n 0, 1) := by decide +kernel
theorem dX2_takeLetters_50 : decode cX2_takeLetters 50 = .ok (.getfield 44, 3) := by decide +kernel
theorem dX2_takeLetters_53 : decode cX2_takeLetters 53 = .ok (.iconst 1, 1) := by decide +kernel
theorem dX2_takeLetters_54 : decode cX2_takeLetters 54 = .ok (.iadd, 1) := by decide +kernel
theorem dX2_takeLetters_55 : decode cX2_takeLetters 55 = .ok (.if_icmp .ne 15, 3) := by decide +kernel
theorem dX2_takeLetters_58 : decode cX2_takeLetters 58 = .ok (.aload_n 0, 1) := by decide +kernel
theorem dX2_takeLetters_59 : decode cX2_takeLetters 59 = .ok (.getfield 9, 3) := by decide +kernel
theorem dX2_takeLetters_62 : decode cX2_takeLetters 62 = .ok (.aload_n 0, 1) := by decide +kernel
theorem dX2_takeLetters_63 : decode cX2_takeLetters 63 = .ok (.getfield 44, 3) := by decide +kernel
theorem dX2_takeLetters_66 : decode cX2_takeLetters 66 = .ok (.iaload, 1) := by decide +kernel
theorem dX2_takeLetters_67 : decode cX2_takeLetters 67 = .ok (.goto 4, 3) := by decide +kernel
theorem dX2_takeLetters_70 : decode cX2_takeLetters 70 = .ok (.iconst 0, 1) := by decide +kernel
theorem dX2_takeLetters_71 : decode cX2_takeLetters 71 = .ok (.putfield 50, 3) := by decide +kernel
theorem dX2_takeLetters_74 : decode cX2_takeLetters 74 = .ok (.return_, 1) := by decide +kernel
theorem dX2_takeNumber_0 : decode cX2_takeNumber 0 = .ok (.aload_n 0, 1) := by decide +kernel
theorem dX2_takeNumber_1 : decode cX2_takeNumber 1 = .ok (.getfield 23, 3) := by decide +kernel
theorem dX2_takeNumber_4 : decode cX2_takeNumber 4 = .ok (.aload_n 0, 1) := by decide +kernel
theorem dX2_takeNumber_5 : decode cX2_takeNumber 5 = .ok (.getfield 101, 3) := by decide +kernel
theorem dX2_takeNumber_8 : decode cX2_takeNumber 8 = .ok (.if_icmp .ge 60, 3) := by decide +kernel
theorem dX2_takeNumber_11 : decode cX2_takeNumber 11 = .ok (.aload_n 0, 1) := by decide +kernel
theorem dX2_takeNumber_12 : decode cX2_takeNumber 12 = .ok (.getfield 9, 3) := by decide +kernel
theorem dX2_takeNumber_15 : decode cX2_takeNumber 15 = .ok (.aload_n 0, 1) := by decide +kernel
theorem dX2_takeNumber_16 : decode cX2_takeNumber 16 = .ok (.getfield 23, 3) := by decide +kernel
theorem dX2_takeNumber_19 : decode cX2_takeNumber 19 = .ok (.iaload, 1) := by decide +kernel
theorem dX2_takeNumber_20 : decode cX2_takeNumber 20 = .ok (.invokestatic 111, 3) := by decide +kernel
theorem dX2_takeNumber_23 : decode cX2_takeNumber 23 = .ok (.ifCond .eq 45, 3) := by decide +kernel
theorem dX2_takeNumber_26 : decode cX2_takeNumber 26 = .ok (.aload_n 0, 1) := by decide +kernel
theorem dX2_takeNumber_27 : decode cX2_takeNumber 27 = .ok (.aload_n 0, 1) := by decide +kernel
theorem dX2_takeNumber_28 : decode cX2_takeNumber 28 = .ok (.getfield 50, 3) := by decide +kernel
theorem dX2_takeNumber_31 : decode cX2_takeNumber 31 = .ok (.bipush 10, 2) := by decide +kernel
theorem dX2_takeNumber_33 : decode cX2_takeNumber 33 = .ok (.imul, 1) := by decide +kernel
theorem dX2_takeNumber_34 : decode cX2_takeNumber 34 = .ok (.aload_n 0, 1) := by decide +kernel
theorem dX2_takeNumber_35 : decode cX2_takeNumber 35 = .ok (.getfield 9, 3) := by decide +kernel
theorem dX2_takeNumber_38 : decode cX2_takeNumber 38 = .ok (.aload_n 0, 1) := by decide +kernel
theorem dX2_takeNumber_39 : decode cX2_takeNumber 39 = .ok (.getfield 23, 3) := by decide +kernel
theorem dX2_takeNumber_42 : decode cX2_takeNumber 42 = .ok (.iaload, 1) := by decide +kernel
theorem dX2_takeNumber_43 : decode cX2_takeNumber 43 = .ok (.iadd, 1) := by decide +kernel
theorem dX2_takeNumber_44 : decode cX2_takeNumber 44 = .ok (.bipush 48, 2) := by decide +kernel
theorem dX2_takeNumber_46 : decode cX2_takeNumber 46 = .ok (.isub, 1) := by decide +kernel
theorem dX2_takeNumber_47 : decode cX2_takeNumber 47 = .ok (.bipush 100, 2) := by decide +kernel
theorem dX2_takeNumber_49 : decode cX2_takeNumber 49 = .ok (.invokestatic 117, 3) := by decide +kernel
theorem dX2_takeNumber_52 : decode cX2_takeNumber 52 = .ok (.putfield 50, 3) := by decide +kernel
theorem dX2_takeNumber_55 : decode cX2_takeNumber 55 = .ok (.aload_n 0, 1) := by decide +kernel
theorem dX2_takeNumber_56 : decode cX2_takeNumber 56 = .ok (.dup, 1) := by decide +kernel
theorem dX2_takeNumber_57 : decode cX2_takeNumber 57 = .ok (.getfield 23, 3) := by decide +kernel
theorem dX2_takeNumber_60 : decode cX2_takeNumber 60 = .ok (.iconst 1, 1) := by decide +kernel
theorem dX2_takeNumber_61 : decode cX2_takeNumber 61 = .ok (.iadd, 1) := by decide +kernel
theorem dX2_takeNumber_62 : decode cX2_takeNumber 62 = .ok (.putfield 23, 3) := by decide +kernel
theorem dX2_takeNumber_65 : decode cX2_takeNumber 65 = .ok (.goto (-65), 3) := by decide +kernel
theorem dX2_takeNumber_68 : decode cX2_takeNumber 68 = .ok (.aload_n 0, 1) := by decide +kernel
theorem dX2_takeNumber_69 : decode cX2_takeNumber 69 = .ok (.getfield 9, 3) := by decide +kernel
theorem dX2_takeNumber_72 : decode cX2_takeNumber 72 = .ok (.aload_n 0, 1) := by decide +kernel
theorem dX2_takeNumber_73 : decode cX2_takeNumber 73 = .ok (.getfield 44, 3) := by decide +kernel
theorem dX2_takeNumber_76 : decode cX2_takeNumber 76 = .ok (.iaload, 1) := by decide +kernel
theorem dX2_takeNumber_77 : decode cX2_takeNumber 77 = .ok (.bipush 48, 2) := by decide +kernel
theorem dX2_takeNumber_79 : decode cX2_takeNumber 79 = .ok (.if_icmp .ne 20, 3) := by decide +kernel
theorem dX2_takeNumber_82 : decode cX2_takeNumber 82 = .ok (.aload_n 0, 1) := by decide +kernel
theorem dX2_takeNumber_83 : decode cX2_takeNumber 83 = .ok (.getfield 23, 3) := by decide +kernel
theorem dX2_takeNumber_86 : decode cX2_takeNumber 86 = .ok (.aload_n 0, 1) := by decide +kernel
theorem dX2_takeNumber_87 : decode cX2_takeNumber 87 = .ok (.getfield 44, 3) := by decide +kernel
theorem dX2_takeNumber_90 : decode cX2_takeNumber 90 = .ok (.iconst 1, 1) := by decide +kernel
theorem dX2_takeNumber_91 : decode cX2_takeNumber 91 = .ok (.iadd, 1) := by decide +kernel
theorem dX2_takeNumber_92 : decode cX2_takeNumber 92 = .ok (.if_icmp .le 7, 3) := by decide +kernel
theorem dX2_takeNumber_95 : decode cX2_takeNumber 95 = .ok (.iconst 1, 1) := by decide +kernel
theorem dX2_takeNumber_96 : decode cX2_takeNumber 96 = .ok (.goto 4, 3) := by decide +kernel
theorem dX2_takeNumber_99 : decode cX2_takeNumber 99 = .ok (.iconst 0, 1) := by decide +kernel
theorem dX2_takeNumber_100 : decode cX2_takeNumber 100 = .ok (.istore_n 1, 1) := by decide +kernel
theorem dX2_takeNumber_101 : decode cX2_takeNumber 101 = .ok (.aload_n 0, 1) := by decide +kernel
theorem dX2_takeNumber_102 : decode cX2_takeNumber 102 = .ok (.iload_n 1, 1) := by decide +kernel
theorem dX2_takeNumber_103 : decode cX2_takeNumber 103 = .ok (.ifCond .ne 12, 3) := by decide +kernel
theorem dX2_takeNumber_106 : decode cX2_takeNumber 106 = .ok (.aload_n 0, 1) := by decide +kernel
theorem dX2_takeNumber_107 : decode cX2_takeNumber 107 = .ok (.getfield 50, 3) := by decide +kernel
theorem dX2_takeNumber_110 : decode cX2_takeNumber 110 = .ok (.bipush 99, 2) := by decide +kernel
theorem dX2_takeNumber_112 : decode cX2_takeNumber 112 = .ok (.if_icmp .le 7, 3) := by decide +kernel
theorem dX2_takeNumber_115 : decode cX2_takeNumber 115 = .ok (.iconst 4, 1) := by decide +kernel
theorem dX2_takeNumber_116 : decode cX2_takeNumber 116 = .ok (.goto 4, 3) := by decide +kernel
theorem dX2_takeNumber_119 : decode cX2_takeNumber 119 = .ok (.iconst 2, 1) := by decide +kernel
theorem dX2_takeNumber_120 : decode cX2_takeNumber 120 = .ok (.putfield 37, 3) := by decide +kernel
theorem dX2_takeNumber_123 : decode cX2_takeNumber 123 = .ok (.return_, 1) := by decide +kernel
theorem dX2_isLetter_0 : decode cX2_isLetter 0 = .ok (.iload_n 0, 1) := by decide +kernel
theorem dX2_isLetter_1 : decode cX2_isLetter 1 = .ok (.bipush 97, 2) := by decide +kernel
theorem dX2_isLetter_3 : decode cX2_isLetter 3 = .ok (.if_icmp .lt 13, 3) := by decide +kernel
theorem dX2_isLetter_6 : decode cX2_isLetter 6 = .ok (.iload_n 0, 1) := by decide +kernel
theorem dX2_isLetter_7 : decode cX2_isLetter 7 = .ok (.bipush 122, 2) := by decide +kernel
theorem dX2_isLetter_9 : decode cX2_isLetter 9 = .ok (.if_icmp .gt 7, 3) := by decide +kernel
theorem dX2_isLetter_12 : decode cX2_isLetter 12 = .ok (.iconst 1, 1) := by decide +kernel
theorem dX2_isLetter_13 : decode cX2_isLetter 13 = .ok (.goto 4, 3) := by decide +kernel
theorem dX2_isLetter_16 : decode cX2_isLetter 16 = .ok (.iconst 0, 1) := by decide +kernel
theorem dX2_isLetter_17 : decode cX2_isLetter 17 = .ok (.ireturn, 1) := by decide +kernel
theorem dX2_isDigit_0 : decode cX2_isDigit 0 = .ok (.iload_n 0, 1) := by decide +kernel
theorem dX2_isDigit_1 : decode cX2_isDigit 1 = .ok (.bipush 48, 2) := by decide +kernel
theorem dX2_isDigit_3 : decode cX2_isDigit 3 = .ok (.if_icmp .lt 13, 3) := by decide +kernel
theorem dX2_isDigit_6 : decode cX2_isDigit 6 = .ok (.iload_n 0, 1) := by decide +kernel
theorem dX2_isDigit_7 : decode cX2_isDigit 7 = .ok (.bipush 57, 2) := by decide +kernel
theorem dX2_isDigit_9 : decode cX2_isDigit 9 = .ok (.if_icmp .gt 7, 3) := by decide +kernel
theorem dX2_isDigit_12 : decode cX2_isDigit 12 = .ok (.iconst 1, 1) := by decide +kernel
theorem dX2_isDigit_13 : decode cX2_isDigit 13 = .ok (.goto 4, 3) := by decide +kernel
theorem dX2_isDigit_16 : decode cX2_isDigit 16 = .ok (.iconst 0, 1) := by decide +kernel
theorem dX2_isDigit_17 : decode cX2_isDigit 17 = .ok (.ireturn, 1) := by decide +kernel
theorem dX3_init_0 : decode cX3_init 0 = .ok (.aload_n 0, 1) := by decide +kernel
theorem dX3_init_1 : decode cX3_init 1 = .ok (.invokespecial 3, 3) := by decide +kernel
theorem dX3_init_4 : decode cX3_init 4 = .ok (.aload_n 0, 1) := by decide +kernel
theorem dX3_init_5 : decode cX3_init 5 = .ok (.bipush 6, 2) := by decide +kernel
theorem dX3_init_7 : decode cX3_init 7 = .ok (.newarray .int, 2) := by decide +kernel
theorem dX3_init_9 : decode cX3_init 9 = .ok (.putfield 9, 3) := by decide +kernel
theorem dX3_init_12 : decode cX3_init 12 = .ok (.aload_n 0, 1) := by decide +kernel
theorem dX3_init_13 : decode cX3_init 13 = .ok (.bipush 6, 2) := by decide +kernel
theorem dX3_init_15 : decode cX3_init 15 = .ok (.newarray .int, 2) := by decide +kernel
theorem dX3_init_17 : decode cX3_init 17 = .ok (.putfield 15, 3) := by decide +kernel
theorem dX3_init_20 : decode cX3_init 20 = .ok (.aload_n 0, 1) := by decide +kernel
theorem dX3_init_21 : decode cX3_init 21 = .ok (.bipush 6, 2) := by decide +kernel
theorem dX3_init_23 : decode cX3_init 23 = .ok (.newarray .int, 2) := by decide +kernel
theorem dX3_init_25 : decode cX3_init 25 = .ok (.putfield 18, 3) := by decide +kernel
theorem dX3_init_28 : decode cX3_init 28 = .ok (.aload_n 0, 1) := by decide +kernel
theorem dX3_init_29 : decode cX3_init 29 = .ok (.bipush 6, 2) := by decide +kernel
theorem dX3_init_31 : decode cX3_init 31 = .ok (.newarray .int, 2) := by decide +kernel
theorem dX3_init_33 : decode cX3_init 33 = .ok (.putfield 21, 3) := by decide +kernel
theorem dX3_init_36 : decode cX3_init 36 = .ok (.aload_n 0, 1) := by decide +kernel
theorem dX3_init_37 : decode cX3_init 37 = .ok (.bipush 6, 2) := by decide +kernel
theorem dX3_init_39 : decode cX3_init 39 = .ok (.newarray .int, 2) := by decide +kernel
theorem dX3_init_41 : decode cX3_init 41 = .ok (.putfield 24, 3) := by decide +kernel
theorem dX3_init_44 : decode cX3_init 44 = .ok (.aload_n 0, 1) := by decide +kernel
theorem dX3_init_45 : decode cX3_init 45 = .ok (.bipush 6, 2) := by decide +kernel
theorem dX3_init_47 : decode cX3_init 47 = .ok (.newarray .int, 2) := by decide +kernel
theorem dX3_init_49 : decode cX3_init 49 = .ok (.putfield 27, 3) := by decide +kernel
theorem dX3_init_52 : decode cX3_init 52 = .ok (.aload_n 0, 1) := by decide +kernel
theorem dX3_init_53 : decode cX3_init 53 = .ok (.bipush 7, 2) := by decide +kernel
theorem dX3_init_55 : decode cX3_init 55 = .ok (.anewarray 30, 3) := by decide +kernel
theorem dX3_init_58 : decode cX3_init 58 = .ok (.putfield 32, 3) := by decide +kernel
theorem dX3_init_61 : decode cX3_init 61 = .ok (.iconst 0, 1) := by decide +kernel
theorem dX3_init_62 : decode cX3_init 62 = .ok (.istore_n 1, 1) := by decide +kernel
theorem dX3_init_63 : decode cX3_init 63 = .ok (.iload_n 1, 1) := by decide +kernel
theorem dX3_init_64 : decode cX3_init 64 = .ok (.bipush 6, 2) := by decide +kernel
theorem dX3_init_66 : decode cX3_init 66 = .ok (.if_icmp .gt 22, 3) := by decide +kernel
theorem dX3_init_69 : decode cX3_init 69 = .ok (.aload_n 0, 1) := by decide +kernel
theorem dX3_init_70 : decode cX3_init 70 = .ok (.getfield 32, 3) := by decide +kernel
theorem dX3_init_73 : decode cX3_init 73 = .ok (.iload_n 1, 1) := by decide +kernel
theorem dX3_init_74 : decode cX3_init 74 = .ok (.new 30, 3) := by decide +kernel
theorem dX3_init_77 : decode cX3_init 77 = .ok (.dup, 1) := by decide +kernel
theorem dX3_init_78 : decode cX3_init 78 = .ok (.invokespecial 36, 3) := by decide +kernel
theorem dX3_init_81 : decode cX3_init 81 = .ok (.aastore, 1) := by decide +kernel
theorem dX3_init_82 : decode cX3_init 82 = .ok (.iinc 1 1, 3) := by decide +kernel
theorem dX3_init_85 : decode cX3_init 85 = .ok (.goto (-22), 3) := by decide +kernel
theorem dX3_init_88 : decode cX3_init 88 = .ok (.return_, 1) := by decide +kernel
theorem dX3_add_0 : decode cX3_add 0 = .ok (.aload_n 0, 1) := by decide +kernel
theorem dX3_add_1 : decode cX3_add 1 = .ok (.getfield 37, 3) := by decide +kernel
theorem dX3_add_4 : decode cX3_add 4 = .ok (.bipush 6, 2) := by decide +kernel
theorem dX3_add_6 : decode cX3_add 6 = .ok (.if_icmp .ge 38, 3) := by decide +kernel
theorem dX3_add_9 : decode cX3_add 9 = .ok (.aload_n 0, 1) := by decide +kernel
theorem dX3_add_10 : decode cX3_add 10 = .ok (.getfield 18, 3) := by decide +kernel
theorem dX3_add_13 : decode cX3_add 13 = .ok (.aload_n 0, 1) := by decide +kernel
theorem dX3_add_14 : decode cX3_add 14 = .ok (.getfield 37, 3) := by decide +kernel
theorem dX3_add_17 : decode cX3_add 17 = .ok (.iload_n 1, 1) := by decide +kernel
theorem dX3_add_18 : decode cX3_add 18 = .ok (.iastore, 1) := by decide +kernel
theorem dX3_add_19 : decode cX3_add 19 = .ok (.aload_n 0, 1) := by decide +kernel
theorem dX3_add_20 : decode cX3_add 20 = .ok (.getfield 21, 3) := by decide +kernel
theorem dX3_add_23 : decode cX3_add 23 = .ok (.aload_n 0, 1) := by decide +kernel
theorem dX3_add_24 : decode cX3_add 24 = .ok (.getfield 37, 3) := by decide +kernel
theorem dX3_add_27 : decode cX3_add 27 = .ok (.iload_n 2, 1) := by decide +kernel
theorem dX3_add_28 : decode cX3_add 28 = .ok (.iastore, 1) := by decide +kernel
theorem dX3_add_29 : decode cX3_add 29 = .ok (.aload_n 0, 1) := by decide +kernel
theorem dX3_add_30 : decode cX3_add 30 = .ok (.dup, 1) := by decide +kernel
theorem dX3_add_31 : decode cX3_add 31 = .ok (.getfield 37, 3) := by decide +kernel
theorem dX3_add_34 : decode cX3_add 34 = .ok (.iconst 1, 1) := by decide +kernel
theorem dX3_add_35 : decode cX3_add 35 = .ok (.iadd, 1) := by decide +kernel
theorem dX3_add_36 : decode cX3_add 36 = .ok (.putfield 37, 3) := by decide +kernel
theorem dX3_add_39 : decode cX3_add 39 = .ok (.aload_n 0, 1) := by decide +kernel
theorem dX3_add_40 : decode cX3_add 40 = .ok (.iconst 0, 1) := by decide +kernel
theorem dX3_add_41 : decode cX3_add 41 = .ok (.putfield 41, 3) := by decide +kernel
theorem dX3_add_44 : decode cX3_add 44 = .ok (.return_, 1) := by decide +kernel
theorem dX3_look_0 : decode cX3_look 0 = .ok (.aload_n 0, 1) := by decide +kernel
theorem dX3_look_1 : decode cX3_look 1 = .ok (.getfield 41, 3) := by decide +kernel
theorem dX3_look_4 : decode cX3_look 4 = .ok (.ifCond .eq 4, 3) := by decide +kernel
theorem dX3_look_7 : decode cX3_look 7 = .ok (.return_, 1) := by decide +kernel
theorem dX3_look_8 : decode cX3_look 8 = .ok (.aload_n 0, 1) := by decide +kernel
theorem dX3_look_9 : decode cX3_look 9 = .ok (.iconst 1, 1) := by decide +kernel
theorem dX3_look_10 : decode cX3_look 10 = .ok (.putfield 41, 3) := by decide +kernel
theorem dX3_look_13 : decode cX3_look 13 = .ok (.aload_n 0, 1) := by decide +kernel
theorem dX3_look_14 : decode cX3_look 14 = .ok (.iconst 0, 1) := by decide +kernel
theorem dX3_look_15 : decode cX3_look 15 = .ok (.putfield 45, 3) := by decide +kernel
theorem dX3_look_18 : decode cX3_look 18 = .ok (.iconst 0, 1) := by decide +kernel
theorem dX3_look_19 : decode cX3_look 19 = .ok (.istore_n 2, 1) := by decide +kernel
theorem dX3_look_20 : decode cX3_look 20 = .ok (.iload_n 2, 1) := by decide +kernel
theorem dX3_look_21 : decode cX3_look 21 = .ok (.bipush 6, 2) := by decide +kernel
theorem dX3_look_23 : decode cX3_look 23 = .ok (.if_icmp .ge 17, 3) := by decide +kernel
theorem dX3_look_26 : decode cX3_look 26 = .ok (.aload_n 0, 1) := by decide +kernel
theorem dX3_look_27 : decode cX3_look 27 = .ok (.getfield 15, 3) := by decide +kernel
theorem dX3_look_30 : decode cX3_look 30 = .ok (.iload_n 2, 1) := by decide +kernel
theorem dX3_look_31 : decode cX3_look 31 = .ok (.bipush 15, 2) := by decide +kernel
theorem dX3_look_33 : decode cX3_look 33 = .ok (.iastore, 1) := by decide +kernel
theorem dX3_look_34 : decode cX3_look 34 = .ok (.iinc 2 1, 3) := by decide +kernel
theorem dX3_look_37 : decode cX3_look 37 = .ok (.goto (-17), 3) := by decide +kernel
theorem dX3_look_40 : decode cX3_look 40 = .ok (.aload_n 0, 1) := by decide +kernel
theorem dX3_look_41 : decode cX3_look 41 = .ok (.invokevirtual 48, 3) := by decide +kernel
theorem dX3_look_44 : decode cX3_look 44 = .ok (.ifCond .eq 18, 3) := by decide +kernel
theorem dX3_look_47 : decode cX3_look 47 = .ok (.aload_n 0, 1) := by decide +kernel
theorem dX3_look_48 : decode cX3_look 48 = .ok (.getfield 32, 3) := by decide +kernel
theorem dX3_look_51 : decode cX3_look 51 = .ok (.iconst 0, 1) := by decide +kernel
theorem dX3_look_52 : decode cX3_look 52 = .ok (.aaload, 1) := by decide +kernel
theorem dX3_look_53 : decode cX3_look 53 = .ok (.invokevirtual 52, 3) := by decide +kernel
theorem dX3_look_56 : decode cX3_look 56 = .ok (.aload_n 0, 1) := by decide +kernel
theorem dX3_look_57 : decode cX3_look 57 = .ok (.aload_n 1, 1) := by decide +kernel
theorem dX3_look_58 : decode cX3_look 58 = .ok (.iconst 0, 1) := by decide +kernel
theorem dX3_look_59 : decode cX3_look 59 = .ok (.invokevirtual 55, 3) := by decide +kernel
theorem dX3_look_62 : decode cX3_look 62 = .ok (.return_, 1) := by decide +kernel
theorem dX3_gatherDue_0 : decode cX3_gatherDue 0 = .ok (.aload_n 0, 1) := by decide +kernel
theorem dX3_gatherDue_1 : decode cX3_gatherDue 1 = .ok (.iconst (-1), 1) := by decide +kernel
theorem dX3_gatherDue_2 : decode cX3_gatherDue 2 = .ok (.putfield 59, 3) := by decide +kernel
theorem dX3_gatherDue_5 : decode cX3_gatherDue 5 = .ok (.iconst 0, 1) := by decide +kernel
theorem dX3_gatherDue_6 : decode cX3_gatherDue 6 = .ok (.istore_n 1, 1) := by decide +kernel
theorem dX3_gatherDue_7 : decode cX3_gatherDue 7 = .ok (.iload_n 1, 1) := by decide +kernel
theorem dX3_gatherDue_8 : decode cX3_gatherDue 8 = .ok (.bipush 6, 2) := by decide +kernel
theorem dX3_gatherDue_10 : decode cX3_gatherDue 10 = .ok (.if_icmp .ge 17, 3) := by decide +kernel
theorem dX3_gatherDue_13 : decode cX3_gatherDue 13 = .ok (.aload_n 0, 1) := by decide +kernel
theorem dX3_gatherDue_14 : decode cX3_gatherDue 14 = .ok (.getfield 24, 3) := by decide +kernel
theorem dX3_gatherDue_17 : decode cX3_gatherDue 17 = .ok (.iload_n 1, 1) := by decide +kernel
theorem dX3_gatherDue_18 : decode cX3_gatherDue 18 = .ok (.bipush (-9), 2) := by decide +kernel
theorem dX3_gatherDue_20 : decode cX3_gatherDue 20 = .ok (.iastore, 1) := by decide +kernel
theorem dX3_gatherDue_21 : decode cX3_gatherDue 21 = .ok (.iinc 1 1, 3) := by decide +kernel
theorem dX3_gatherDue_24 : decode cX3_gatherDue 24 = .ok (.goto (-17), 3) := by decide +kernel
theorem dX3_gatherDue_27 : decode cX3_gatherDue 27 = .ok (.iconst 0, 1) := by decide +kernel
theorem dX3_gatherDue_28 : decode cX3_gatherDue 28 = .ok (.istore_n 1, 1) := by decide +kernel
theorem dX3_gatherDue_29 : decode cX3_gatherDue 29 = .ok (.iload_n 1, 1) := by decide +kernel
theorem dX3_gatherDue_30 : decode cX3_gatherDue 30 = .ok (.aload_n 0, 1) := by decide +kernel
theorem dX3_gatherDue_31 : decode cX3_gatherDue 31 = .ok (.getfield 37, 3) := by decide +kernel
theorem dX3_gatherDue_34 : decode cX3_gatherDue 34 = .ok (.if_icmp .ge 68, 3) := by decide +kernel
theorem dX3_gatherDue_37 : decode cX3_gatherDue 37 = .ok (.aload_n 0, 1) := by decide +kernel
theorem dX3_gatherDue_38 : decode cX3_gatherDue 38 = .ok (.getfield 18, 3) := by decide +kernel
theorem dX3_gatherDue_41 : decode cX3_gatherDue 41 = .ok (.iload_n 1, 1) := by decide +kernel
theorem dX3_gatherDue_42 : decode cX3_gatherDue 42 = .ok (.iaload, 1) := by decide +kernel
theorem dX3_gatherDue_43 : decode cX3_gatherDue 43 = .ok (.istore_n 2, 1) := by decide +kernel
theorem dX3_gatherDue_44 : decode cX3_gatherDue 44 = .ok (.aload_n 0, 1) := by decide +kernel
theorem dX3_gatherDue_45 : decode cX3_gatherDue 45 = .ok (.getfield 24, 3) := by decide +kernel
theorem dX3_gatherDue_48 : decode cX3_gatherDue 48 = .ok (.iload_n 2, 1) := by decide +kernel
theorem dX3_gatherDue_49 : decode cX3_gatherDue 49 = .ok (.iaload, 1) := by decide +kernel
theorem dX3_gatherDue_50 : decode cX3_gatherDue 50 = .ok (.bipush (-9), 2) := by decide +kernel
theorem dX3_gatherDue_52 : decode cX3_gatherDue 52 = .ok (.if_icmp .eq 20, 3) := by decide +kernel
theorem dX3_gatherDue_55 : decode cX3_gatherDue 55 = .ok (.aload_n 0, 1) := by decide +kernel
theorem dX3_gatherDue_56 : decode cX3_gatherDue 56 = .ok (.getfield 24, 3) := by decide +kernel
theorem dX3_gatherDue_59 : decode cX3_gatherDue 59 = .ok (.iload_n 2, 1) := by decide +kernel
theorem dX3_gatherDue_60 : decode cX3_gatherDue 60 = .ok (.iaload, 1) := by decide +kernel
theorem dX3_gatherDue_61 : decode cX3_gatherDue 61 = .ok (.aload_n 0, 1) := by decide +kernel
theorem dX3_gatherDue_62 : decode cX3_gatherDue 62 = .ok (.getfield 21, 3) := by decide +kernel
theorem dX3_gatherDue_65 : decode cX3_gatherDue 65 = .ok (.iload_n 1, 1) := by decide +kernel
theorem dX3_gatherDue_66 : decode cX3_gatherDue 66 = .ok (.iaload, 1) := by decide +kernel
theorem dX3_gatherDue_67 : decode cX3_gatherDue 67 = .ok (.if_icmp .eq 5, 3) := by decide +kernel
theorem dX3_gatherDue_70 : decode cX3_gatherDue 70 = .ok (.iconst 0, 1) := by decide +kernel
theorem dX3_gatherDue_71 : decode cX3_gatherDue 71 = .ok (.ireturn, 1) := by decide +kernel
theorem dX3_gatherDue_72 : decode cX3_gatherDue 72 = .ok (.aload_n 0, 1) := by decide +kernel
theorem dX3_gatherDue_73 : decode cX3_gatherDue 73 = .ok (.getfield 24, 3) := by decide +kernel
theorem dX3_gatherDue_76 : decode cX3_gatherDue 76 = .ok (.iload_n 2, 1) := by decide +kernel
theorem dX3_gatherDue_77 : decode cX3_gatherDue 77 = .ok (.aload_n 0, 1) := by decide +kernel
theorem dX3_gatherDue_78 : decode cX3_gatherDue 78 = .ok (.getfield 21, 3) := by decide +kernel
theorem dX3_gatherDue_81 : decode cX3_gatherDue 81 = .ok (.iload_n 1, 1) := by decide +kernel
theorem dX3_gatherDue_82 : decode cX3_gatherDue 82 = .ok (.iaload, 1) := by decide +kernel
theorem dX3_gatherDue_83 : decode cX3_gatherDue 83 = .ok (.iastore, 1) := by decide +kernel
theorem dX3_gatherDue_84 : decode cX3_gatherDue 84 = .ok (.aload_n 0, 1) := by decide +kernel
theorem dX3_gatherDue_85 : decode cX3_gatherDue 85 = .ok (.aload_n 0, 1) := by decide +kernel
theorem dX3_gatherDue_86 : decode cX3_gatherDue 86 = .ok (.getfield 59, 3) := by decide +kernel
theorem dX3_gatherDue_89 : decode cX3_gatherDue 89 = .ok (.iload_n 2, 1) := by decide +kernel
theorem dX3_gatherDue_90 : decode cX3_gatherDue 90 = .ok (.invokestatic 62, 3) := by decide +kernel
theorem dX3_gatherDue_93 : decode cX3_gatherDue 93 = .ok (.putfield 59, 3) := by decide +kernel
theorem dX3_gatherDue_96 : decode cX3_gatherDue 96 = .ok (.iinc 1 1, 3) := by decide +kernel
theorem dX3_gatherDue_99 : decode cX3_gatherDue 99 = .ok (.goto (-70), 3) := by decide +kernel
theorem dX3_gatherDue_102 : decode cX3_gatherDue 102 = .ok (.iconst 1, 1) := by decide +kernel
theorem dX3_gatherDue_103 : decode cX3_gatherDue 103 = .ok (.ireturn, 1) := by decide +kernel
theorem dX3_search_0 : decode cX3_search 0 = .ok (.iload_n 2, 1) := by decide +kernel
theorem dX3_search_1 : decode cX3_search 1 = .ok (.aload_n 0, 1) := by decide +kernel
theorem dX3_search_2 : decode cX3_search 2 = .ok (.getfield 59, 3) := by decide +kernel
theorem dX3_search_5 : decode cX3_search 5 = .ok (.if_icmp .gt 17, 3) := by decide +kernel
theorem dX3_search_8 : decode cX3_search 8 = .ok (.iload_n 2, 1) := by decide +kernel
theorem dX3_search_9 : decode cX3_search 9 = .ok (.aload_n 1, 1) := by decide +kernel
theorem dX3_search_10 : decode cX3_search 10 = .ok (.getfield 68, 3) := by decide +kernel
theorem dX3_search_13 : decode cX3_search 13 = .ok (.if_icmp .ge 9, 3) := by decide +kernel
theorem dX3_search_16 : decode cX3_search 16 = .ok (.iload_n 2, 1) := by decide +kernel
theorem dX3_search_17 : decode cX3_search 17 = .ok (.bipush 6, 2) := by decide +kernel
theorem dX3_search_19 : decode cX3_search 19 = .ok (.if_icmp .lt 10, 3) := by decide +kernel
theorem dX3_search_22 : decode cX3_search 22 = .ok (.aload_n 0, 1) := by decide +kernel
theorem dX3_search_23 : decode cX3_search 23 = .ok (.aload_n 1, 1) := by decide +kernel
theorem dX3_search_24 : decode cX3_search 24 = .ok (.iload_n 2, 1) := by decide +kernel
theorem dX3_search_25 : decode cX3_search 25 = .ok (.invokevirtual 73, 3) := by decide +kernel
theorem dX3_search_28 : decode cX3_search 28 = .ok (.return_, 1) := by decide +kernel
theorem dX3_search_29 : decode cX3_search 29 = .ok (.aload_n 0, 1) := by decide +kernel
theorem dX3_search_30 : decode cX3_search 30 = .ok (.getfield 32, 3) := by decide +kernel
theorem dX3_search_33 : decode cX3_search 33 = .ok (.iload_n 2, 1) := by decide +kernel
theorem dX3_search_34 : decode cX3_search 34 = .ok (.aaload, 1) := by decide +kernel
theorem dX3_search_35 : decode cX3_search 35 = .ok (.astore_n 3, 1) := by decide +kernel
theorem dX3_search_36 : decode cX3_search 36 = .ok (.aload_n 0, 1) := by decide +kernel
theorem dX3_search_37 : decode cX3_search 37 = .ok (.getfield 32, 3) := by decide +kernel
theorem dX3_search_40 : decode cX3_search 40 = .ok (.iload_n 2, 1) := by decide +kernel
theorem dX3_search_41 : decode cX3_search 41 = .ok (.iconst 1, 1) := by decide +kernel
theorem dX3_search_42 : decode cX3_search 42 = .ok (.iadd, 1) := by decide +kernel
theorem dX3_search_43 : decode cX3_search 43 = .ok (.aaload, 1) := by decide +kernel
theorem dX3_search_44 : decode cX3_search 44 = .ok (.astore 4, 2) := by decide +kernel
theorem dX3_search_46 : decode cX3_search 46 = .ok (.iconst 0, 1) := by decide +kernel
theorem dX3_search_47 : decode cX3_search 47 = .ok (.istore 5, 2) := by decide +kernel
theorem dX3_search_49 : decode cX3_search 49 = .ok (.iload 5, 2) := by decide +kernel
theorem dX3_search_51 : decode cX3_search 51 = .ok (.aload_n 1, 1) := by decide +kernel
theorem dX3_search_52 : decode cX3_search 52 = .ok (.getfield 76, 3) := by decide +kernel
theorem dX3_search_55 : decode cX3_search 55 = .ok (.if_icmp .ge 75, 3) := by decide +kernel
theorem dX3_search_58 : decode cX3_search 58 = .ok (.aload_n 1, 1) := by decide +kernel
theorem dX3_search_59 : decode cX3_search 59 = .ok (.getfield 79, 3) := by decide +kernel
theorem dX3_search_62 : decode cX3_search 62 = .ok (.iload 5, 2) := by decide +kernel
theorem dX3_search_64 : decode cX3_search 64 = .ok (.iaload, 1) := by decide +kernel
theorem dX3_search_65 : decode cX3_search 65 = .ok (.istore 6, 2) := by decide +kernel
theorem dX3_search_67 : decode cX3_search 67 = .ok (.aload_n 3, 1) := by decide +kernel
theorem dX3_search_68 : decode cX3_search 68 = .ok (.getfield 82, 3) := by decide +kernel
theorem dX3_search_71 : decode cX3_search 71 = .ok (.aload_n 3, 1) := by decide +kernel
theorem dX3_search_72 : decode cX3_search 72 = .ok (.aload_n 1, 1) := by decide +kernel
theorem dX3_search_73 : decode cX3_search 73 = .ok (.iload 6, 2) := by decide +kernel
theorem dX3_search_75 : decode cX3_search 75 = .ok (.invokevirtual 84, 3) := by decide +kernel
theorem dX3_search_78 : decode cX3_search 78 = .ok (.iadd, 1) := by decide +kernel
theorem dX3_search_79 : decode cX3_search 79 = .ok (.istore 7, 2) := by decide +kernel
theorem dX3_search_81 : decode cX3_search 81 = .ok (.aload_n 0, 1) := by decide +kernel
theorem dX3_search_82 : decode cX3_search 82 = .ok (.aload_n 1, 1) := by decide +kernel
theorem dX3_search_83 : decode cX3_search 83 = .ok (.iload_n 2, 1) := by decide +kernel
theorem dX3_search_84 : decode cX3_search 84 = .ok (.iload 7, 2) := by decide +kernel
theorem dX3_search_86 : decode cX3_search 86 = .ok (.invokevirtual 88, 3) := by decide +kernel
theorem dX3_search_89 : decode cX3_search 89 = .ok (.ifCond .eq 35, 3) := by decide +kernel
theorem dX3_search_92 : decode cX3_search 92 = .ok (.aload 4, 2) := by decide +kernel
theorem dX3_search_94 : decode cX3_search 94 = .ok (.aload_n 3, 1) := by decide +kernel
theorem dX3_search_95 : decode cX3_search 95 = .ok (.invokevirtual 92, 3) := by decide +kernel
theorem dX3_search_98 : decode cX3_search 98 = .ok (.aload 4, 2) := by decide +kernel
theorem dX3_search_100 : decode cX3_search 100 = .ok (.aload_n 1, 1) := by decide +kernel
theorem dX3_search_101 : decode cX3_search 101 = .ok (.iload 6, 2) := by decide +kernel
theorem dX3_search_103 : decode cX3_search 103 = .ok (.iload 7, 2) := by decide +kernel
theorem dX3_search_105 : decode cX3_search 105 = .ok (.invokevirtual 96, 3) := by decide +kernel
theorem dX3_search_108 : decode cX3_search 108 = .ok (.aload_n 0, 1) := by decide +kernel
theorem dX3_search_109 : decode cX3_search 109 = .ok (.getfield 27, 3) := by decide +kernel
theorem dX3_search_112 : decode cX3_search 112 = .ok (.iload_n 2, 1) := by decide +kernel
theorem dX3_search_113 : decode cX3_search 113 = .ok (.iload 6, 2) := by decide +kernel
theorem dX3_search_115 : decode cX3_search 115 = .ok (.iastore, 1) := by decide +kernel
theorem dX3_search_116 : decode cX3_search 116 = .ok (.aload_n 0, 1) := by decide +kernel
theorem dX3_search_117 : decode cX3_search 117 = .ok (.aload_n 1, 1) := by decide +kernel
theorem dX3_search_118 : decode cX3_search 118 = .ok (.iload_n 2, 1) := by decide +kernel
theorem dX3_search_119 : decode cX3_search 119 = .ok (.iconst 1, 1) := by decide +kernel
theorem dX3_search_120 : decode cX3_search 120 = .ok (.iadd, 1) := by decide +kernel
theorem dX3_search_121 : decode cX3_search 121 = .ok (.invokevirtual 55, 3) := by decide +kernel
theorem dX3_search_124 : decode cX3_search 124 = .ok (.iinc 5 1, 3) := by decide +kernel
theorem dX3_search_127 : decode cX3_search 127 = .ok (.goto (-78), 3) := by decide +kernel
theorem dX3_search_130 : decode cX3_search 130 = .ok (.return_, 1) := by decide +kernel
theorem dX3_mayFit_0 : decode cX3_mayFit 0 = .ok (.iload_n 2, 1) := by decide +kernel
theorem dX3_mayFit_1 : decode cX3_mayFit 1 = .ok (.istore 4, 2) := by decide +kernel
theorem dX3_mayFit_3 : decode cX3_mayFit 3 = .ok (.iload 4, 2) := by decide +kernel
theorem dX3_mayFit_5 : decode cX3_mayFit 5 = .ok (.aload_n 1, 1) := by decide +kernel
theorem dX3_mayFit_6 : decode cX3_mayFit 6 = .ok (.getfield 68, 3) := by decide +kernel
theorem dX3_mayFit_9 : decode cX3_mayFit 9 = .ok (.if_icmp .ge 95, 3) := by decide +kernel
theorem dX3_mayFit_12 : decode cX3_mayFit 12 = .ok (.aload_n 0, 1) := by decide +kernel
theorem dX3_mayFit_13 : decode cX3_mayFit 13 = .ok (.getfield 24, 3) := by decide +kernel
theorem dX3_mayFit_16 : decode cX3_mayFit 16 = .ok (.iload 4, 2) := by decide +kernel
theorem dX3_mayFit_18 : decode cX3_mayFit 18 = .ok (.iaload, 1) := by decide +kernel
theorem dX3_mayFit_19 : decode cX3_mayFit 19 = .ok (.bipush (-9), 2) := by decide +kernel
theorem dX3_mayFit_21 : decode cX3_mayFit 21 = .ok (.if_icmp .eq 77, 3) := by decide +kernel
theorem dX3_mayFit_24 : decode cX3_mayFit 24 = .ok (.iload_n 3, 1) := by decide +kernel
theorem dX3_mayFit_25 : decode cX3_mayFit 25 = .ok (.aload_n 1, 1) := by decide +kernel
theorem dX3_mayFit_26 : decode cX3_mayFit 26 = .ok (.getfield 100, 3) := by decide +kernel
theorem dX3_mayFit_29 : decode cX3_mayFit 29 = .ok (.iload 4, 2) := by decide +kernel
theorem dX3_mayFit_31 : decode cX3_mayFit 31 = .ok (.iconst 1, 1) := by decide +kernel
theorem dX3_mayFit_32 : decode cX3_mayFit 32 = .ok (.iadd, 1) := by decide +kernel
theorem dX3_mayFit_33 : decode cX3_mayFit 33 = .ok (.iaload, 1) := by decide +kernel
theorem dX3_mayFit_34 : decode cX3_mayFit 34 = .ok (.iadd, 1) := by decide +kernel
theorem dX3_mayFit_35 : decode cX3_mayFit 35 = .ok (.aload_n 1, 1) := by decide +kernel
theorem dX3_mayFit_36 : decode cX3_mayFit 36 = .ok (.getfield 100, 3) := by decide +kernel
theorem dX3_mayFit_39 : decode cX3_mayFit 39 = .ok (.iload_n 2, 1) := by decide +kernel
theorem dX3_mayFit_40 : decode cX3_mayFit 40 = .ok (.iconst 1, 1) := by decide +kernel
theorem dX3_mayFit_41 : decode cX3_mayFit 41 = .ok (.iadd, 1) := by decide +kernel
theorem dX3_mayFit_42 : decode cX3_mayFit 42 = .ok (.iaload, 1) := by decide +kernel
theorem dX3_mayFit_43 : decode cX3_mayFit 43 = .ok (.isub, 1) := by decide +kernel
theorem dX3_mayFit_44 : decode cX3_mayFit 44 = .ok (.istore 5, 2) := by decide +kernel
theorem dX3_mayFit_46 : decode cX3_mayFit 46 = .ok (.iload_n 3, 1) := by decide +kernel
theorem dX3_mayFit_47 : decode cX3_mayFit 47 = .ok (.aload_n 1, 1) := by decide +kernel
theorem dX3_mayFit_48 : decode cX3_mayFit 48 = .ok (.getfield 103, 3) := by decide +kernel
theorem dX3_mayFit_51 : decode cX3_mayFit 51 = .ok (.iload 4, 2) := by decide +kernel
theorem dX3_mayFit_53 : decode cX3_mayFit 53 = .ok (.iconst 1, 1) := by decide +kernel
theorem dX3_mayFit_54 : decode cX3_mayFit 54 = .ok (.iadd, 1) := by decide +kernel
theorem dX3_mayFit_55 : decode cX3_mayFit 55 = .ok (.iaload, 1) := by decide +kernel
theorem dX3_mayFit_56 : decode cX3_mayFit 56 = .ok (.iadd, 1) := by decide +kernel
theorem dX3_mayFit_57 : decode cX3_mayFit 57 = .ok (.aload_n 1, 1) := by decide +kernel
theorem dX3_mayFit_58 : decode cX3_mayFit 58 = .ok (.getfield 103, 3) := by decide +kernel
theorem dX3_mayFit_61 : decode cX3_mayFit 61 = .ok (.iload_n 2, 1) := by decide +kernel
theorem dX3_mayFit_62 : decode cX3_mayFit 62 = .ok (.iconst 1, 1) := by decide +kernel
theorem dX3_mayFit_63 : decode cX3_mayFit 63 = .ok (.iadd, 1) := by decide +kernel
theorem dX3_mayFit_64 : decode cX3_mayFit 64 = .ok (.iaload, 1) := by decide +kernel
theorem dX3_mayFit_65 : decode cX3_mayFit 65 = .ok (.isub, 1) := by decide +kernel
theorem dX3_mayFit_66 : decode cX3_mayFit 66 = .ok (.istore 6, 2) := by decide +kernel
theorem dX3_mayFit_68 : decode cX3_mayFit 68 = .ok (.iload 5, 2) := by decide +kernel
theorem dX3_mayFit_70 : decode cX3_mayFit 70 = .ok (.aload_n 0, 1) := by decide +kernel
theorem dX3_mayFit_71 : decode cX3_mayFit 71 = .ok (.getfield 24, 3) := by decide +kernel
theorem dX3_mayFit_74 : decode cX3_mayFit 74 = .ok (.iload 4, 2) := by decide +kernel
theorem dX3_mayFit_76 : decode cX3_mayFit 76 = .ok (.iaload, 1) := by decide +kernel
theorem dX3_mayFit_77 : decode cX3_mayFit 77 = .ok (.if_icmp .gt 19, 3) := by decide +kernel
theorem dX3_mayFit_80 : decode cX3_mayFit 80 = .ok (.aload_n 0, 1) := by decide +kernel
theorem dX3_mayFit_81 : decode cX3_mayFit 81 = .ok (.getfield 24, 3) := by decide +kernel
theorem dX3_mayFit_84 : decode cX3_mayFit 84 = .ok (.iload 4, 2) := by decide +kernel
theorem dX3_mayFit_86 : decode cX3_mayFit 86 = .ok (.iaload, 1) := by decide +kernel
theorem dX3_mayFit_87 : decode cX3_mayFit 87 = .ok (.iload 6, 2) := by decide +kernel
theorem dX3_mayFit_89 : decode cX3_mayFit 89 = .ok (.if_icmp .gt 7, 3) := by decide +kernel
theorem dX3_mayFit_92 : decode cX3_mayFit 92 = .ok (.iconst 1, 1) := by decide +kernel
theorem dX3_mayFit_93 : decode cX3_mayFit 93 = .ok (.goto 4, 3) := by decide +kernel
theorem dX3_mayFit_96 : decode cX3_mayFit 96 = .ok (.iconst 0, 1) := by decide +kernel
theorem dX3_mayFit_97 : decode cX3_mayFit 97 = .ok (.ireturn, 1) := by decide +kernel
theorem dX3_mayFit_98 : decode cX3_mayFit 98 = .ok (.iinc 4 1, 3) := by decide +kernel
theorem dX3_mayFit_101 : decode cX3_mayFit 101 = .ok (.goto (-98), 3) := by decide +kernel
theorem dX3_mayFit_104 : decode cX3_mayFit 104 = .ok (.iconst 1, 1) := by decide +kernel
theorem dX3_mayFit_105 : decode cX3_mayFit 105 = .ok (.ireturn, 1) := by decide +kernel
theorem dX3_addRows_0 : decode cX3_addRows 0 = .ok (.aload_n 1, 1) := by decide +kernel
theorem dX3_addRows_1 : decode cX3_addRows 1 = .ok (.getfield 76, 3) := by decide +kernel
theorem dX3_addRows_4 : decode cX3_addRows 4 = .ok (.aload_n 1, 1) := by decide +kernel
theorem dX3_addRows_5 : decode cX3_addRows 5 = .ok (.getfield 68, 3) := by decide +kernel
theorem dX3_addRows_8 : decode cX3_addRows 8 = .ok (.iload_n 2, 1) := by decide +kernel
theorem dX3_addRows_9 : decode cX3_addRows 9 = .ok (.isub, 1) := by decide +kernel
theorem dX3_addRows_10 : decode cX3_addRows 10 = .ok (.invokestatic 106, 3) := by decide +kernel
theorem dX3_addRows_13 : decode cX3_addRows 13 = .ok (.istore_n 3, 1) := by decide +kernel
theorem dX3_addRows_14 : decode cX3_addRows 14 = .ok (.iload_n 3, 1) := by decide +kernel
theorem dX3_addRows_15 : decode cX3_addRows 15 = .ok (.ifCond .ne 4, 3) := by decide +kernel
theorem dX3_addRows_18 : decode cX3_addRows 18 = .ok (.return_, 1) := by decide +kernel
theorem dX3_addRows_19 : decode cX3_addRows 19 = .ok (.iload_n 2, 1) := by decide +kernel
theorem dX3_addRows_20 : decode cX3_addRows 20 = .ok (.istore 4, 2) := by decide +kernel
theorem dX3_addRows_22 : decode cX3_addRows 22 = .ok (.iload 4, 2) := by decide +kernel
theorem dX3_addRows_24 : decode cX3_addRows 24 = .ok (.aload_n 1, 1) := by decide +kernel
theorem dX3_addRows_25 : decode cX3_addRows 25 = .ok (.getfield 68, 3) := by decide +kernel
theorem dX3_addRows_28 : decode cX3_addRows 28 = .ok (.if_icmp .ge 22, 3) := by decide +kernel
theorem dX3_addRows_31 : decode cX3_addRows 31 = .ok (.aload_n 0, 1) := by decide +kernel
theorem dX3_addRows_32 : decode cX3_addRows 32 = .ok (.getfield 27, 3) := by decide +kernel
theorem dX3_addRows_35 : decode cX3_addRows 35 = .ok (.iload 4, 2) := by decide +kernel
theorem dX3_addRows_37 : decode cX3_addRows 37 = .ok (.aload_n 1, 1) := by decide +kernel
theorem dX3_addRows_38 : decode cX3_addRows 38 = .ok (.getfield 79, 3) := by decide +kernel
theorem dX3_addRows_41 : decode cX3_addRows 41 = .ok (.iconst 0, 1) := by decide +kernel
theorem dX3_addRows_42 : decode cX3_addRows 42 = .ok (.iaload, 1) := by decide +kernel
theorem dX3_addRows_43 : decode cX3_addRows 43 = .ok (.iastore, 1) := by decide +kernel
theorem dX3_addRows_44 : decode cX3_addRows 44 = .ok (.iinc 4 1, 3) := by decide +kernel
theorem dX3_addRows_47 : decode cX3_addRows 47 = .ok (.goto (-25), 3) := by decide +kernel
theorem dX3_addRows_50 : decode cX3_addRows 50 = .ok (.iconst 0, 1) := by decide +kernel
theorem dX3_addRows_51 : decode cX3_addRows 51 = .ok (.istore 4, 2) := by decide +kernel
theorem dX3_addRows_53 : decode cX3_addRows 53 = .ok (.iload 4, 2) := by decide +kernel
theorem dX3_addRows_55 : decode cX3_addRows 55 = .ok (.aload_n 1, 1) := by decide +kernel
theorem dX3_addRows_56 : decode cX3_addRows 56 = .ok (.getfield 68, 3) := by decide +kernel
theorem dX3_addRows_59 : decode cX3_addRows 59 = .ok (.if_icmp .ge 68, 3) := by decide +kernel
theorem dX3_addRows_62 : decode cX3_addRows 62 = .ok (.aload_n 0, 1) := by decide +kernel
theorem dX3_addRows_63 : decode cX3_addRows 63 = .ok (.getfield 45, 3) := by decide +kernel
theorem dX3_addRows_66 : decode cX3_addRows 66 = .ok (.ifCond .ne 17, 3) := by decide +kernel
theorem dX3_addRows_69 : decode cX3_addRows 69 = .ok (.aload_n 0, 1) := by decide +kernel
theorem dX3_addRows_70 : decode cX3_addRows 70 = .ok (.getfield 9, 3) := by decide +kernel
theorem dX3_addRows_73 : decode cX3_addRows 73 = .ok (.iload 4, 2) := by decide +kernel
theorem dX3_addRows_75 : decode cX3_addRows 75 = .ok (.aload_n 0, 1) := by decide +kernel
theorem dX3_addRows_76 : decode cX3_addRows 76 = .ok (.getfield 27, 3) := by decide +kernel
theorem dX3_addRows_79 : decode cX3_addRows 79 = .ok (.iload 4, 2) := by decide +kernel
theorem dX3_addRows_81 : decode cX3_addRows 81 = .ok (.iaload, 1) := by decide +kernel
theorem dX3_addRows_82 : decode cX3_addRows 82 = .ok (.iastore, 1) := by decide +kernel
theorem dX3_addRows_83 : decode cX3_addRows 83 = .ok (.aload_n 0, 1) := by decide +kernel
theorem dX3_addRows_84 : decode cX3_addRows 84 = .ok (.getfield 15, 3) := by decide +kernel
theorem dX3_addRows_87 : decode cX3_addRows 87 = .ok (.iload 4, 2) := by decide +kernel
theorem dX3_addRows_89 : decode cX3_addRows 89 = .ok (.dup2, 1) := by decide +kernel
theorem dX3_addRows_90 : decode cX3_addRows 90 = .ok (.iaload, 1) := by decide +kernel
theorem dX3_addRows_91 : decode cX3_addRows 91 = .ok (.iload 4, 2) := by decide +kernel
theorem dX3_addRows_93 : decode cX3_addRows 93 = .ok (.iload_n 2, 1) := by decide +kernel
theorem dX3_addRows_94 : decode cX3_addRows 94 = .ok (.if_icmp .lt 15, 3) := by decide +kernel
theorem dX3_addRows_97 : decode cX3_addRows 97 = .ok (.aload_n 1, 1) := by decide +kernel
theorem dX3_addRows_98 : decode cX3_addRows 98 = .ok (.getfield 76, 3) := by decide +kernel
theorem dX3_addRows_101 : decode cX3_addRows 101 = .ok (.iconst 1, 1) := by decide +kernel
theorem dX3_addRows_102 : decode cX3_addRows 102 = .ok (.if_icmp .le 7, 3) := by decide +kernel
theorem dX3_addRows_105 : decode cX3_addRows 105 = .ok (.iconst 0, 1) := by decide +kernel
theorem dX3_addRows_106 : decode cX3_addRows 106 = .ok (.goto 13, 3) := by decide +kernel
theorem dX3_addRows_109 : decode cX3_addRows 109 = .ok (.aload_n 0, 1) := by decide +kernel
theorem dX3_addRows_110 : decode cX3_addRows 110 = .ok (.getfield 27, 3) := by decide +kernel
theorem dX3_addRows_113 : decode cX3_addRows 113 = .ok (.iload 4, 2) := by decide +kernel
theorem dX3_addRows_115 : decode cX3_addRows 115 = .ok (.iaload, 1) := by decide +kernel
theorem dX3_addRows_116 : decode cX3_addRows 116 = .ok (.invokestatic 109, 3) := by decide +kernel
theorem dX3_addRows_119 : decode cX3_addRows 119 = .ok (.iand, 1) := by decide +kernel
theorem dX3_addRows_120 : decode cX3_addRows 120 = .ok (.iastore, 1) := by decide +kernel
theorem dX3_addRows_121 : decode cX3_addRows 121 = .ok (.iinc 4 1, 3) := by decide +kernel
theorem dX3_addRows_124 : decode cX3_addRows 124 = .ok (.goto (-71), 3) := by decide +kernel
theorem dX3_addRows_127 : decode cX3_addRows 127 = .ok (.aload_n 0, 1) := by decide +kernel
theorem dX3_addRows_128 : decode cX3_addRows 128 = .ok (.dup, 1) := by decide +kernel
theorem dX3_addRows_129 : decode cX3_addRows 129 = .ok (.getfield 45, 3) := by decide +kernel
theorem dX3_addRows_132 : decode cX3_addRows 132 = .ok (.iload_n 3, 1) := by decide +kernel
theorem dX3_addRows_133 : decode cX3_addRows 133 = .ok (.iadd, 1) := by decide +kernel
theorem dX3_addRows_134 : decode cX3_addRows 134 = .ok (.putfield 45, 3) := by decide +kernel
theorem dX3_addRows_137 : decode cX3_addRows 137 = .ok (.return_, 1) := by decide +kernel
theorem dX3_bitsOf_0 : decode cX3_bitsOf 0 = .ok (.iconst 1, 1) := by decide +kernel
theorem dX3_bitsOf_1 : decode cX3_bitsOf 1 = .ok (.iload_n 0, 1) := by decide +kernel
theorem dX3_bitsOf_2 : decode cX3_bitsOf 2 = .ok (.bipush 10, 2) := by decide +kernel
theorem dX3_bitsOf_4 : decode cX3_bitsOf 4 = .ok (.idiv, 1) := by decide +kernel
theorem dX3_bitsOf_5 : decode cX3_bitsOf 5 = .ok (.ishl, 1) := by decide +kernel
theorem dX3_bitsOf_6 : decode cX3_bitsOf 6 = .ok (.iconst 1, 1) := by decide +kernel
theorem dX3_bitsOf_7 : decode cX3_bitsOf 7 = .ok (.iload_n 0, 1) := by decide +kernel
theorem dX3_bitsOf_8 : decode cX3_bitsOf 8 = .ok (.bipush 10, 2) := by decide +kernel
theorem dX3_bitsOf_10 : decode cX3_bitsOf 10 = .ok (.irem, 1) := by decide +kernel
theorem dX3_bitsOf_11 : decode cX3_bitsOf 11 = .ok (.ishl, 1) := by decide +kernel
theorem dX3_bitsOf_12 : decode cX3_bitsOf 12 = .ok (.ior, 1) := by decide +kernel
theorem dX3_bitsOf_13 : decode cX3_bitsOf 13 = .ok (.ireturn, 1) := by decide +kernel
theorem dX4_init_0 : decode cX4_init 0 = .ok (.aload_n 0, 1) := by decide +kernel
theorem dX4_init_1 : decode cX4_init 1 = .ok (.invokespecial 3, 3) := by decide +kernel
theorem dX4_init_4 : decode cX4_init 4 = .ok (.aload_n 0, 1) := by decide +kernel
theorem dX4_init_5 : decode cX4_init 5 = .ok (.iconst 1, 1) := by decide +kernel
theorem dX4_init_6 : decode cX4_init 6 = .ok (.putfield 9, 3) := by decide +kernel
theorem dX4_init_9 : decode cX4_init 9 = .ok (.aload_n 0, 1) := by decide +kernel
theorem dX4_init_10 : decode cX4_init 10 = .ok (.iconst 4, 1) := by decide +kernel
theorem dX4_init_11 : decode cX4_init 11 = .ok (.newarray .int, 2) := by decide +kernel
theorem dX4_init_13 : decode cX4_init 13 = .ok (.putfield 15, 3) := by decide +kernel
theorem dX4_init_16 : decode cX4_init 16 = .ok (.aload_n 0, 1) := by decide +kernel
theorem dX4_init_17 : decode cX4_init 17 = .ok (.iconst 4, 1) := by decide +kernel
theorem dX4_init_18 : decode cX4_init 18 = .ok (.newarray .int, 2) := by decide +kernel
theorem dX4_init_20 : decode cX4_init 20 = .ok (.putfield 19, 3) := by decide +kernel
theorem dX4_init_23 : decode cX4_init 23 = .ok (.aload_n 0, 1) := by decide +kernel
theorem dX4_init_24 : decode cX4_init 24 = .ok (.bipush 6, 2) := by decide +kernel
theorem dX4_init_26 : decode cX4_init 26 = .ok (.newarray .int, 2) := by decide +kernel
theorem dX4_init_28 : decode cX4_init 28 = .ok (.putfield 22, 3) := by decide +kernel
theorem dX4_init_31 : decode cX4_init 31 = .ok (.aload_n 0, 1) := by decide +kernel
theorem dX4_init_32 : decode cX4_init 32 = .ok (.bipush 6, 2) := by decide +kernel
theorem dX4_init_34 : decode cX4_init 34 = .ok (.newarray .int, 2) := by decide +kernel
theorem dX4_init_36 : decode cX4_init 36 = .ok (.putfield 25, 3) := by decide +kernel
theorem dX4_init_39 : decode cX4_init 39 = .ok (.aload_n 0, 1) := by decide +kernel
theorem dX4_init_40 : decode cX4_init 40 = .ok (.bipush 6, 2) := by decide +kernel
theorem dX4_init_42 : decode cX4_init 42 = .ok (.newarray .int, 2) := by decide +kernel
theorem dX4_init_44 : decode cX4_init 44 = .ok (.putfield 28, 3) := by decide +kernel
theorem dX4_init_47 : decode cX4_init 47 = .ok (.aload_n 0, 1) := by decide +kernel
theorem dX4_init_48 : decode cX4_init 48 = .ok (.bipush 6, 2) := by decide +kernel
theorem dX4_init_50 : decode cX4_init 50 = .ok (.newarray .int, 2) := by decide +kernel
theorem dX4_init_52 : decode cX4_init 52 = .ok (.putfield 31, 3) := by decide +kernel
theorem dX4_init_55 : decode cX4_init 55 = .ok (.aload_n 0, 1) := by decide +kernel
theorem dX4_init_56 : decode cX4_init 56 = .ok (.bipush 6, 2) := by decide +kernel
theorem dX4_init_58 : decode cX4_init 58 = .ok (.newarray .int, 2) := by decide +kernel
theorem dX4_init_60 : decode cX4_init 60 = .ok (.putfield 34, 3) := by decide +kernel
theorem dX4_init_63 : decode cX4_init 63 = .ok (.aload_n 0, 1) := by decide +kernel
theorem dX4_init_64 : decode cX4_init 64 = .ok (.bipush 7, 2) := by decide +kernel
theorem dX4_init_66 : decode cX4_init 66 = .ok (.newarray .int, 2) := by decide +kernel
theorem dX4_init_68 : decode cX4_init 68 = .ok (.putfield 37, 3) := by decide +kernel
theorem dX4_init_71 : decode cX4_init 71 = .ok (.aload_n 0, 1) := by decide +kernel
theorem dX4_init_72 : decode cX4_init 72 = .ok (.bipush 7, 2) := by decide +kernel
theorem dX4_init_74 : decode cX4_init 74 = .ok (.newarray .int, 2) := by decide +kernel
theorem dX4_init_76 : decode cX4_init 76 = .ok (.putfield 40, 3) := by decide +kernel
theorem dX4_init_79 : decode cX4_init 79 = .ok (.return_, 1) := by decide +kernel
theorem dX4_empty_0 : decode cX4_empty 0 = .ok (.aload_n 0, 1) := by decide +kernel
theorem dX4_empty_1 : decode cX4_empty 1 = .ok (.iconst 0, 1) := by decide +kernel
theorem dX4_empty_2 : decode cX4_empty 2 = .ok (.putfield 43, 3) := by decide +kernel
theorem dX4_empty_5 : decode cX4_empty 5 = .ok (.aload_n 0, 1) := by decide +kernel
theorem dX4_empty_6 : decode cX4_empty 6 = .ok (.iconst 0, 1) := by decide +kernel
theorem dX4_empty_7 : decode cX4_empty 7 = .ok (.putfield 46, 3) := by decide +kernel
theorem dX4_empty_10 : decode cX4_empty 10 = .ok (.aload_n 0, 1) := by decide +kernel
theorem dX4_empty_11 : decode cX4_empty 11 = .ok (.iconst 1, 1) := by decide +kernel
theorem dX4_empty_12 : decode cX4_empty 12 = .ok (.putfield 9, 3) := by decide +kernel
theorem dX4_empty_15 : decode cX4_empty 15 = .ok (.aload_n 0, 1) := by decide +kernel
theorem dX4_empty_16 : decode cX4_empty 16 = .ok (.iconst 0, 1) := by decide +kernel
theorem dX4_empty_17 : decode cX4_empty 17 = .ok (.putfield 49, 3) := by decide +kernel
theorem dX4_empty_20 : decode cX4_empty 20 = .ok (.return_, 1) := by decide +kernel
theorem dX4_addWalker_0 : decode cX4_addWalker 0 = .ok (.aload_n 0, 1) := by decide +kernel
theorem dX4_addWalker_1 : decode cX4_addWalker 1 = .ok (.getfield 43, 3) := by decide +kernel
theorem dX4_addWalker_4 : decode cX4_addWalker 4 = .ok (.iconst 4, 1) := by decide +kernel
theorem dX4_addWalker_5 : decode cX4_addWalker 5 = .ok (.if_icmp .ge 33, 3) := by decide +kernel
theorem dX4_addWalker_8 : decode cX4_addWalker 8 = .ok (.aload_n 0, 1) := by decide +kernel
theorem dX4_addWalker_9 : decode cX4_addWalker 9 = .ok (.getfield 15, 3) := by decide +kernel
theorem dX4_addWalker_12 : decode cX4_addWalker 12 = .ok (.aload_n 0, 1) := by decide +kernel
theorem dX4_addWalker_13 : decode cX4_addWalker 13 = .ok (.getfield 43, 3) := by decide +kernel
theorem dX4_addWalker_16 : decode cX4_addWalker 16 = .ok (.iload_n 1, 1) := by decide +kernel
theorem dX4_addWalker_17 : decode cX4_addWalker 17 = .ok (.iastore, 1) := by decide +kernel
theorem dX4_addWalker_18 : decode cX4_addWalker 18 = .ok (.aload_n 0, 1) := by decide +kernel
theorem dX4_addWalker_19 : decode cX4_addWalker 19 = .ok (.getfield 19, 3) := by decide +kernel
theorem dX4_addWalker_22 : decode cX4_addWalker 22 = .ok (.aload_n 0, 1) := by decide +kernel
theorem dX4_addWalker_23 : decode cX4_addWalker 23 = .ok (.getfield 43, 3) := by decide +kernel
theorem dX4_addWalker_26 : decode cX4_addWalker 26 = .ok (.iload_n 2, 1) := by decide +kernel
theorem dX4_addWalker_27 : decode cX4_addWalker 27 = .ok (.iastore, 1) := by decide +kernel
theorem dX4_addWalker_28 : decode cX4_addWalker 28 = .ok (.aload_n 0, 1) := by decide +kernel
theorem dX4_addWalker_29 : decode cX4_addWalker 29 = .ok (.dup, 1) := by decide +kernel
theorem dX4_addWalker_30 : decode cX4_addWalker 30 = .ok (.getfield 43, 3) := by decide +kernel
theorem dX4_addWalker_33 : decode cX4_addWalker 33 = .ok (.iconst 1, 1) := by decide +kernel
theorem dX4_addWalker_34 : decode cX4_addWalker 34 = .ok (.iadd, 1) := by decide +kernel
theorem dX4_addWalker_35 : decode cX4_addWalker 35 = .ok (.putfield 43, 3) := by decide +kernel
theorem dX4_addWalker_38 : decode cX4_addWalker 38 = .ok (.return_, 1) := by decide +kernel
theorem dX4_addStretch_0 : decode cX4_addStretch 0 = .ok (.aload_n 0, 1) := by decide +kernel
theorem dX4_addStretch_1 : decode cX4_addStretch 1 = .ok (.getfield 46, 3) := by decide +kernel
theorem dX4_addStretch_4 : decode cX4_addStretch 4 = .ok (.bipush 6, 2) := by decide +kernel
theorem dX4_addStretch_6 : decode cX4_addStretch 6 = .ok (.if_icmp .ge 54, 3) := by decide +kernel
theorem dX4_addStretch_9 : decode cX4_addStretch 9 = .ok (.aload_n 0, 1) := by decide +kernel
theorem dX4_addStretch_10 : decode cX4_addStretch 10 = .ok (.getfield 22, 3) := by decide +kernel
theorem dX4_addStretch_13 : decode cX4_addStretch 13 = .ok (.aload_n 0, 1) := by decide +kernel
theorem dX4_addStretch_14 : decode cX4_addStretch 14 = .ok (.getfield 46, 3) := by decide +kernel
theorem dX4_addStretch_17 : decode cX4_addStretch 17 = .ok (.iload_n 1, 1) := by decide +kernel
theorem dX4_addStretch_18 : decode cX4_addStretch 18 = .ok (.iastore, 1) := by decide +kernel
theorem dX4_addStretch_19 : decode cX4_addStretch 19 = .ok (.aload_n 0, 1) := by decide +kernel
theorem dX4_addStretch_20 : decode cX4_addStretch 20 = .ok (.getfield 25, 3) := by decide +kernel
theorem dX4_addStretch_23 : decode cX4_addStretch 23 = .ok (.aload_n 0, 1) := by decide +kernel
theorem dX4_addStretch_24 : decode cX4_addStretch 24 = .ok (.getfield 46, 3) := by decide +kernel
theorem dX4_addStretch_27 : decode cX4_addStretch 27 = .ok (.iload_n 2, 1) := by decide +kernel
theorem dX4_addStretch_28 : decode cX4_addStretch 28 = .ok (.iastore, 1) := by decide +kernel
theorem dX4_addStretch_29 : decode cX4_addStretch 29 = .ok (.aload_n 0, 1) := by decide +kernel
theorem dX4_addStretch_30 : decode cX4_addStretch 30 = .ok (.getfield 28, 3) := by decide +kernel
theorem dX4_addStretch_33 : decode cX4_addStretch 33 = .ok (.aload_n 0, 1) := by decide +kernel
theorem dX4_addStretch_34 : decode cX4_addStretch 34 = .ok (.getfield 46, 3) := by decide +kernel
theorem dX4_addStretch_37 : decode cX4_addStretch 37 = .ok (.iload_n 3, 1) := by decide +kernel
theorem dX4_addStretch_38 : decode cX4_addStretch 38 = .ok (.iastore, 1) := by decide +kernel
theorem dX4_addStretch_39 : decode cX4_addStretch 39 = .ok (.aload_n 0, 1) := by decide +kernel
theorem dX4_addStretch_40 : decode cX4_addStretch 40 = .ok (.getfield 31, 3) := by decide +kernel
theorem dX4_addStretch_43 : decode cX4_addStretch 43 = .ok (.aload_n 0, 1) := by decide +kernel
theorem dX4_addStretch_44 : decode cX4_addStretch 44 = .ok (.getfield 46, 3) := by decide +kernel
theorem dX4_addStretch_47 : decode cX4_addStretch 47 = .ok (.iload 4, 2) := by decide +kernel
theorem dX4_addStretch_49 : decode cX4_addStretch 49 = .ok (.iastore, 1) := by decide +kernel
theorem dX4_addStretch_50 : decode cX4_addStretch 50 = .ok (.aload_n 0, 1) := by decide +kernel
theorem dX4_addStretch_51 : decode cX4_addStretch 51 = .ok (.dup, 1) := by decide +kernel
theorem dX4_addStretch_52 : decode cX4_addStretch 52 = .ok (.getfield 46, 3) := by decide +kernel
theorem dX4_addStretch_55 : decode cX4_addStretch 55 = .ok (.iconst 1, 1) := by decide +kernel
theorem dX4_addStretch_56 : decode cX4_addStretch 56 = .ok (.iadd, 1) := by decide +kernel
theorem dX4_addStretch_57 : decode cX4_addStretch 57 = .ok (.putfield 46, 3) := by decide +kernel
theorem dX4_addStretch_60 : decode cX4_addStretch 60 = .ok (.return_, 1) := by decide +kernel
theorem dX4_prepare_0 : decode cX4_prepare 0 = .ok (.aload_n 0, 1) := by decide +kernel
theorem dX4_prepare_1 : decode cX4_prepare 1 = .ok (.iconst 0, 1) := by decide +kernel
theorem dX4_prepare_2 : decode cX4_prepare 2 = .ok (.putfield 52, 3) := by decide +kernel
theorem dX4_prepare_5 : decode cX4_prepare 5 = .ok (.iconst 0, 1) := by decide +kernel
theorem dX4_prepare_6 : decode cX4_prepare 6 = .ok (.istore_n 1, 1) := by decide +kernel
theorem dX4_prepare_7 : decode cX4_prepare 7 = .ok (.iload_n 1, 1) := by decide +kernel
theorem dX4_prepare_8 : decode cX4_prepare 8 = .ok (.aload_n 0, 1) := by decide +kernel
theorem dX4_prepare_9 : decode cX4_prepare 9 = .ok (.getfield 43, 3) := by decide +kernel
theorem dX4_prepare_12 : decode cX4_prepare 12 = .ok (.if_icmp .ge 61, 3) := by decide +kernel
theorem dX4_prepare_15 : decode cX4_prepare 15 = .ok (.iload_n 1, 1) := by decide +kernel
theorem dX4_prepare_16 : decode cX4_prepare 16 = .ok (.iconst 1, 1) := by decide +kernel
theorem dX4_prepare_17 : decode cX4_prepare 17 = .ok (.iadd, 1) := by decide +kernel
theorem dX4_prepare_18 : decode cX4_prepare 18 = .ok (.istore_n 2, 1) := by decide +kernel
theorem dX4_prepare_19 : decode cX4_prepare 19 = .ok (.iload_n 2, 1) := by decide +kernel
theorem dX4_prepare_20 : decode cX4_prepare 20 = .ok (.aload_n 0, 1) := by decide +kernel
theorem dX4_prepare_21 : decode cX4_prepare 21 = .ok (.getfield 43, 3) := by decide +kernel
theorem dX4_prepare_24 : decode cX4_prepare 24 = .ok (.if_icmp .ge 43, 3) := by decide +kernel
theorem dX4_prepare_27 : decode cX4_prepare 27 = .ok (.aload_n 0, 1) := by decide +kernel
theorem dX4_prepare_28 : decode cX4_prepare 28 = .ok (.getfield 52, 3) := by decide +kernel
theorem dX4_prepare_31 : decode cX4_prepare 31 = .ok (.bipush 6, 2) := by decide +kernel
theorem dX4_prepare_33 : decode cX4_prepare 33 = .ok (.if_icmp .ge 34, 3) := by decide +kernel
theorem dX4_prepare_36 : decode cX4_prepare 36 = .ok (.aload_n 0, 1) := by decide +kernel
theorem dX4_prepare_37 : decode cX4_prepare 37 = .ok (.getfield 34, 3) := by decide +kernel
theorem dX4_prepare_40 : decode cX4_prepare 40 = .ok (.aload_n 0, 1) := by decide +kernel
theorem dX4_prepare_41 : decode cX4_prepare 41 = .ok (.getfield 52, 3) := by decide +kernel
theorem dX4_prepare_44 : decode cX4_prepare 44 = .ok (.bipush 10, 2) := by decide +kernel
theorem dX4_prepare_46 : decode cX4_prepare 46 = .ok (.iload_n 1, 1) := by decide +kernel
theorem dX4_prepare_47 : decode cX4_prepare 47 = .ok (.imul, 1) := by decide +kernel
theorem dX4_prepare_48 : decode cX4_prepare 48 = .ok (.iload_n 2, 1) := by decide +kernel
theorem dX4_prepare_49 : decode cX4_prepare 49 = .ok (.iadd, 1) := by decide +kernel
theorem dX4_prepare_50 : decode cX4_prepare 50 = .ok (.iastore, 1) := by decide +kernel
theorem dX4_prepare_51 : decode cX4_prepare 51 = .ok (.aload_n 0, 1) := by decide +kernel
theorem dX4_prepare_52 : decode cX4_prepare 52 = .ok (.dup, 1) := by decide +kernel
theorem dX4_prepare_53 : decode cX4_prepare 53 = .ok (.getfield 52, 3) := by decide +kernel
theorem dX4_prepare_56 : decode cX4_prepare 56 = .ok (.iconst 1, 1) := by decide +kernel
theorem dX4_prepare_57 : decode cX4_prepare 57 = .ok (.iadd, 1) := by decide +kernel
theorem dX4_prepare_58 : decode cX4_prepare 58 = .ok (.putfield 52, 3) := by decide +kernel
theorem dX4_prepare_61 : decode cX4_prepare 61 = .ok (.iinc 2 1, 3) := by decide +kernel
theorem dX4_prepare_64 : decode cX4_prepare 64 = .ok (.goto (-45), 3) := by decide +kernel
theorem dX4_prepare_67 : decode cX4_prepare 67 = .ok (.iinc 1 1, 3) := by decide +kernel
theorem dX4_prepare_70 : decode cX4_prepare 70 = .ok (.goto (-63), 3) := by decide +kernel
theorem dX4_prepare_73 : decode cX4_prepare 73 = .ok (.iconst 0, 1) := by decide +kernel
theorem dX4_prepare_74 : decode cX4_prepare 74 = .ok (.istore_n 1, 1) := by decide +kernel
theorem dX4_prepare_75 : decode cX4_prepare 75 = .ok (.iload_n 1, 1) := by decide +kernel
theorem dX4_prepare_76 : decode cX4_prepare 76 = .ok (.aload_n 0, 1) := by decide +kernel
theorem dX4_prepare_77 : decode cX4_prepare 77 = .ok (.getfield 46, 3) := by decide +kernel
theorem dX4_prepare_80 : decode cX4_prepare 80 = .ok (.if_icmp .ge 14, 3) := by decide +kernel
theorem dX4_prepare_83 : decode cX4_prepare 83 = .ok (.aload_n 0, 1) := by decide +kernel
theorem dX4_prepare_84 : decode cX4_prepare 84 = .ok (.iload_n 1, 1) := by decide +kernel
theorem dX4_prepare_85 : decode cX4_prepare 85 = .ok (.invokevirtual 55, 3) := by decide +kernel
theorem dX4_prepare_88 : decode cX4_prepare 88 = .ok (.iinc 1 1, 3) := by decide +kernel
theorem dX4_prepare_91 : decode cX4_prepare 91 = .ok (.goto (-16), 3) := by decide +kernel
theorem dX4_prepare_94 : decode cX4_prepare 94 = .ok (.return_, 1) := by decide +kernel
theorem dX4_boundMinutes_0 : decode cX4_boundMinutes 0 = .ok (.iconst 0, 1) := by decide +kernel
theorem dX4_boundMinutes_1 : decode cX4_boundMinutes 1 = .ok (.istore_n 2, 1) := by decide +kernel
theorem dX4_boundMinutes_2 : decode cX4_boundMinutes 2 = .ok (.iconst 0, 1) := by decide +kernel
theorem dX4_boundMinutes_3 : decode cX4_boundMinutes 3 = .ok (.istore_n 3, 1) := by decide +kernel
theorem dX4_boundMinutes_4 : decode cX4_boundMinutes 4 = .ok (.iconst 0, 1) := by decide +kernel
theorem dX4_boundMinutes_5 : decode cX4_boundMinutes 5 = .ok (.istore 4, 2) := by decide +kernel
theorem dX4_boundMinutes_7 : decode cX4_boundMinutes 7 = .ok (.iload 4, 2) := by decide +kernel
theorem dX4_boundMinutes_9 : decode cX4_boundMinutes 9 = .ok (.aload_n 0, 1) := by decide +kernel
theorem dX4_boundMinutes_10 : decode cX4_boundMinutes 10 = .ok (.getfield 52, 3) := by decide +kernel
theorem dX4_boundMinutes_13 : decode cX4_boundMinutes 13 = .ok (.if_icmp .ge 50, 3) := by decide +kernel
theorem dX4_boundMinutes_16 : decode cX4_boundMinutes 16 = .ok (.aload_n 0, 1) := by decide +kernel
theorem dX4_boundMinutes_17 : decode cX4_boundMinutes 17 = .ok (.iload_n 1, 1) := by decide +kernel
theorem dX4_boundMinutes_18 : decode cX4_boundMinutes 18 = .ok (.aload_n 0, 1) := by decide +kernel
theorem dX4_boundMinutes_19 : decode cX4_boundMinutes 19 = .ok (.getfield 34, 3) := by decide +kernel
theorem dX4_boundMinutes_22 : decode cX4_boundMinutes 22 = .ok (.iload 4, 2) := by decide +kernel
theorem dX4_boundMinutes_24 : decode cX4_boundMinutes 24 = .ok (.iaload, 1) := by decide +kernel
theorem dX4_boundMinutes_25 : decode cX4_boundMinutes 25 = .ok (.invokevirtual 59, 3) := by decide +kernel
theorem dX4_boundMinutes_28 : decode cX4_boundMinutes 28 = .ok (.istore 5, 2) := by decide +kernel
theorem dX4_boundMinutes_30 : decode cX4_boundMinutes 30 = .ok (.iload 4, 2) := by decide +kernel
theorem dX4_boundMinutes_32 : decode cX4_boundMinutes 32 = .ok (.ifCond .ne 8, 3) := by decide +kernel
theorem dX4_boundMinutes_35 : decode cX4_boundMinutes 35 = .ok (.iload 5, 2) := by decide +kernel
theorem dX4_boundMinutes_37 : decode cX4_boundMinutes 37 = .ok (.goto 9, 3) := by decide +kernel
theorem dX4_boundMinutes_40 : decode cX4_boundMinutes 40 = .ok (.iload_n 2, 1) := by decide +kernel
theorem dX4_boundMinutes_41 : decode cX4_boundMinutes 41 = .ok (.iload 5, 2) := by decide +kernel
theorem dX4_boundMinutes_43 : decode cX4_boundMinutes 43 = .ok (.invokestatic 63, 3) := by decide +kernel
theorem dX4_boundMinutes_46 : decode cX4_boundMinutes 46 = .ok (.istore_n 2, 1) := by decide +kernel
theorem dX4_boundMinutes_47 : decode cX4_boundMinutes 47 = .ok (.iload_n 3, 1) := by decide +kernel
theorem dX4_boundMinutes_48 : decode cX4_boundMinutes 48 = .ok (.iload 5, 2) := by decide +kernel
theorem dX4_boundMinutes_50 : decode cX4_boundMinutes 50 = .ok (.bipush 6, 2) := by decide +kernel
theorem dX4_boundMinutes_52 : decode cX4_boundMinutes 52 = .ok (.iadd, 1) := by decide +kernel
theorem dX4_boundMinutes_53 : decode cX4_boundMinutes 53 = .ok (.invokestatic 68, 3) := by decide +kernel
theorem dX4_boundMinutes_56 : decode cX4_boundMinutes 56 = .ok (.istore_n 3, 1) := by decide +kernel
theorem dX4_boundMinutes_57 : decode cX4_boundMinutes 57 = .ok (.iinc 4 1, 3) := by decide +kernel
theorem dX4_boundMinutes_60 : decode cX4_boundMinutes 60 = .ok (.goto (-53), 3) := by decide +kernel
theorem dX4_boundMinutes_63 : decode cX4_boundMinutes 63 = .ok (.aload_n 0, 1) := by decide +kernel
theorem dX4_boundMinutes_64 : decode cX4_boundMinutes 64 = .ok (.getfield 37, 3) := by decide +kernel
theorem dX4_boundMinutes_67 : decode cX4_boundMinutes 67 = .ok (.iload_n 1, 1) := by decide +kernel
theorem dX4_boundMinutes_68 : decode cX4_boundMinutes 68 = .ok (.iconst 1, 1) := by decide +kernel
theorem dX4_boundMinutes_69 : decode cX4_boundMinutes 69 = .ok (.iadd, 1) := by decide +kernel
theorem dX4_boundMinutes_70 : decode cX4_boundMinutes 70 = .ok (.aload_n 0, 1) := by decide +kernel
theorem dX4_boundMinutes_71 : decode cX4_boundMinutes 71 = .ok (.getfield 37, 3) := by decide +kernel
theorem dX4_boundMinutes_74 : decode cX4_boundMinutes 74 = .ok (.iload_n 1, 1) := by decide +kernel
theorem dX4_boundMinutes_75 : decode cX4_boundMinutes 75 = .ok (.iaload, 1) := by decide +kernel
theorem dX4_boundMinutes_76 : decode cX4_boundMinutes 76 = .ok (.iload_n 2, 1) := by decide +kernel
theorem dX4_boundMinutes_77 : decode cX4_boundMinutes 77 = .ok (.aload_n 0, 1) := by decide +kernel
theorem dX4_boundMinutes_78 : decode cX4_boundMinutes 78 = .ok (.getfield 22, 3) := by decide +kernel
theorem dX4_boundMinutes_81 : decode cX4_boundMinutes 81 = .ok (.iload_n 1, 1) := by decide +kernel
theorem dX4_boundMinutes_82 : decode cX4_boundMinutes 82 = .ok (.iaload, 1) := by decide +kernel
theorem dX4_boundMinutes_83 : decode cX4_boundMinutes 83 = .ok (.imul, 1) := by decide +kernel
theorem dX4_boundMinutes_84 : decode cX4_boundMinutes 84 = .ok (.iadd, 1) := by decide +kernel
theorem dX4_boundMinutes_85 : decode cX4_boundMinutes 85 = .ok (.iastore, 1) := by decide +kernel
theorem dX4_boundMinutes_86 : decode cX4_boundMinutes 86 = .ok (.aload_n 0, 1) := by decide +kernel
theorem dX4_boundMinutes_87 : decode cX4_boundMinutes 87 = .ok (.getfield 40, 3) := by decide +kernel
theorem dX4_boundMinutes_90 : decode cX4_boundMinutes 90 = .ok (.iload_n 1, 1) := by decide +kernel
theorem dX4_boundMinutes_91 : decode cX4_boundMinutes 91 = .ok (.iconst 1, 1) := by decide +kernel
theorem dX4_boundMinutes_92 : decode cX4_boundMinutes 92 = .ok (.iadd, 1) := by decide +kernel
theorem dX4_boundMinutes_93 : decode cX4_boundMinutes 93 = .ok (.aload_n 0, 1) := by decide +kernel
theorem dX4_boundMinutes_94 : decode cX4_boundMinutes 94 = .ok (.getfield 40, 3) := by decide +kernel
theorem dX4_boundMinutes_97 : decode cX4_boundMinutes 97 = .ok (.iload_n 1, 1) := by decide +kernel
theorem dX4_boundMinutes_98 : decode cX4_boundMinutes 98 = .ok (.iaload, 1) := by decide +kernel
theorem dX4_boundMinutes_99 : decode cX4_boundMinutes 99 = .ok (.iload_n 3, 1) := by decide +kernel
theorem dX4_boundMinutes_100 : decode cX4_boundMinutes 100 = .ok (.aload_n 0, 1) := by decide +kernel
theorem dX4_boundMinutes_101 : decode cX4_boundMinutes 101 = .ok (.getfield 22, 3) := by decide +kernel
theorem dX4_boundMinutes_104 : decode cX4_boundMinutes 104 = .ok (.iload_n 1, 1) := by decide +kernel
theorem dX4_boundMinutes_105 : decode cX4_boundMinutes 105 = .ok (.iaload, 1) := by decide +kernel
theorem dX4_boundMinutes_106 : decode cX4_boundMinutes 106 = .ok (.imul, 1) := by decide +kernel
theorem dX4_boundMinutes_107 : decode cX4_boundMinutes 107 = .ok (.iadd, 1) := by decide +kernel
theorem dX4_boundMinutes_108 : decode cX4_boundMinutes 108 = .ok (.aload_n 0, 1) := by decide +kernel
theorem dX4_boundMinutes_109 : decode cX4_boundMinutes 109 = .ok (.getfield 9, 3) := by decide +kernel
theorem dX4_boundMinutes_112 : decode cX4_boundMinutes 112 = .ok (.iadd, 1) := by decide +kernel
theorem dX4_boundMinutes_113 : decode cX4_boundMinutes 113 = .ok (.iastore, 1) := by decide +kernel
theorem dX4_boundMinutes_114 : decode cX4_boundMinutes 114 = .ok (.return_, 1) := by decide +kernel
theorem dX4_hasStretch_0 : decode cX4_hasStretch 0 = .ok (.iload_n 1, 1) := by decide +kernel
theorem dX4_hasStretch_1 : decode cX4_hasStretch 1 = .ok (.ifCond .lt 15, 3) := by decide +kernel
theorem dX4_hasStretch_4 : decode cX4_hasStretch 4 = .ok (.iload_n 1, 1) := by decide +kernel
theorem dX4_hasStretch_5 : decode cX4_hasStretch 5 = .ok (.aload_n 0, 1) := by decide +kernel
theorem dX4_hasStretch_6 : decode cX4_hasStretch 6 = .ok (.getfield 46, 3) := by decide +kernel
theorem dX4_hasStretch_9 : decode cX4_hasStretch 9 = .ok (.if_icmp .ge 7, 3) := by decide +kernel
theorem dX4_hasStretch_12 : decode cX4_hasStretch 12 = .ok (.iconst 1, 1) := by decide +kernel
theorem dX4_hasStretch_13 : decode cX4_hasStretch 13 = .ok (.goto 4, 3) := by decide +kernel
theorem dX4_hasStretch_16 : decode cX4_hasStretch 16 = .ok (.iconst 0, 1) := by decide +kernel
theorem dX4_hasStretch_17 : decode cX4_hasStretch 17 = .ok (.ireturn, 1) := by decide +kernel
theorem dX4_hasPair_0 : decode cX4_hasPair 0 = .ok (.iload_n 1, 1) := by decide +kernel
theorem dX4_hasPair_1 : decode cX4_hasPair 1 = .ok (.ifCond .lt 29, 3) := by decide +kernel
theorem dX4_hasPair_4 : decode cX4_hasPair 4 = .ok (.iload_n 1, 1) := by decide +kernel
theorem dX4_hasPair_5 : decode cX4_hasPair 5 = .ok (.bipush 10, 2) := by decide +kernel
theorem dX4_hasPair_7 : decode cX4_hasPair 7 = .ok (.idiv, 1) := by decide +kernel
theorem dX4_hasPair_8 : decode cX4_hasPair 8 = .ok (.iload_n 1, 1) := by decide +kernel
theorem dX4_hasPair_9 : decode cX4_hasPair 9 = .ok (.bipush 10, 2) := by decide +kernel
theorem dX4_hasPair_11 : decode cX4_hasPair 11 = .ok (.irem, 1) := by decide +kernel
theorem dX4_hasPair_12 : decode cX4_hasPair 12 = .ok (.if_icmp .ge 18, 3) := by decide +kernel
theorem dX4_hasPair_15 : decode cX4_hasPair 15 = .ok (.iload_n 1, 1) := by decide +kernel
theorem dX4_hasPair_16 : decode cX4_hasPair 16 = .ok (.bipush 10, 2) := by decide +kernel
theorem dX4_hasPair_18 : decode cX4_hasPair 18 = .ok (.irem, 1) := by decide +kernel
theorem dX4_hasPair_19 : decode cX4_hasPair 19 = .ok (.aload_n 0, 1) := by decide +kernel
theorem dX4_hasPair_20 : decode cX4_hasPair 20 = .ok (.getfield 43, 3) := by decide +kernel
theorem dX4_hasPair_23 : decode cX4_hasPair 23 = .ok (.if_icmp .ge 7, 3) := by decide +kernel
theorem dX4_hasPair_26 : decode cX4_hasPair 26 = .ok (.iconst 1, 1) := by decide +kernel
theorem dX4_hasPair_27 : decode cX4_hasPair 27 = .ok (.goto 4, 3) := by decide +kernel
theorem dX4_hasPair_30 : decode cX4_hasPair 30 = .ok (.iconst 0, 1) := by decide +kernel
theorem dX4_hasPair_31 : decode cX4_hasPair 31 = .ok (.ireturn, 1) := by decide +kernel
theorem dX4_unwornRate_0 : decode cX4_unwornRate 0 = .ok (.aload_n 0, 1) := by decide +kernel
theorem dX4_unwornRate_1 : decode cX4_unwornRate 1 = .ok (.getfield 15, 3) := by decide +kernel
theorem dX4_unwornRate_4 : decode cX4_unwornRate 4 = .ok (.iload_n 2, 1) := by decide +kernel
theorem dX4_unwornRate_5 : decode cX4_unwornRate 5 = .ok (.bipush 10, 2) := by decide +kernel
theorem dX4_unwornRate_7 : decode cX4_unwornRate 7 = .ok (.idiv, 1) := by decide +kernel
theorem dX4_unwornRate_8 : decode cX4_unwornRate 8 = .ok (.iaload, 1) := by decide +kernel
theorem dX4_unwornRate_9 : decode cX4_unwornRate 9 = .ok (.aload_n 0, 1) := by decide +kernel
theorem dX4_unwornRate_10 : decode cX4_unwornRate 10 = .ok (.getfield 15, 3) := by decide +kernel
theorem dX4_unwornRate_13 : decode cX4_unwornRate 13 = .ok (.iload_n 2, 1) := by decide +kernel
theorem dX4_unwornRate_14 : decode cX4_unwornRate 14 = .ok (.bipush 10, 2) := by decide +kernel
theorem dX4_unwornRate_16 : decode cX4_unwornRate 16 = .ok (.irem, 1) := by decide +kernel
theorem dX4_unwornRate_17 : decode cX4_unwornRate 17 = .ok (.iaload, 1) := by decide +kernel
theorem dX4_unwornRate_18 : decode cX4_unwornRate 18 = .ok (.iadd, 1) := by decide +kernel
theorem dX4_unwornRate_19 : decode cX4_unwornRate 19 = .ok (.istore_n 3, 1) := by decide +kernel
theorem dX4_unwornRate_20 : decode cX4_unwornRate 20 = .ok (.iconst 4, 1) := by decide +kernel
theorem dX4_unwornRate_21 : decode cX4_unwornRate 21 = .ok (.aload_n 0, 1) := by decide +kernel
theorem dX4_unwornRate_22 : decode cX4_unwornRate 22 = .ok (.getfield 28, 3) := by decide +kernel
theorem dX4_unwornRate_25 : decode cX4_unwornRate 25 = .ok (.iload_n 1, 1) := by decide +kernel
theorem dX4_unwornRate_26 : decode cX4_unwornRate 26 = .ok (.iaload, 1) := by decide +kernel
theorem dX4_unwornRate_27 : decode cX4_unwornRate 27 = .ok (.iadd, 1) := by decide +kernel
theorem dX4_unwornRate_28 : decode cX4_unwornRate 28 = .ok (.istore 4, 2) := by decide +kernel
theorem dX4_unwornRate_30 : decode cX4_unwornRate 30 = .ok (.aload_n 0, 1) := by decide +kernel
theorem dX4_unwornRate_31 : decode cX4_unwornRate 31 = .ok (.getfield 25, 3) := by decide +kernel
theorem dX4_unwornRate_34 : decode cX4_unwornRate 34 = .ok (.iload_n 1, 1) := by decide +kernel
theorem dX4_unwornRate_35 : decode cX4_unwornRate 35 = .ok (.iaload, 1) := by decide +kernel
theorem dX4_unwornRate_36 : decode cX4_unwornRate 36 = .ok (.iload_n 3, 1) := by decide +kernel
theorem dX4_unwornRate_37 : decode cX4_unwornRate 37 = .ok (.if_icmp .le 6, 3) := by decide +kernel
theorem dX4_unwornRate_40 : decode cX4_unwornRate 40 = .ok (.iinc 4 2, 3) := by decide +kernel
theorem dX4_unwornRate_43 : decode cX4_unwornRate 43 = .ok (.aload_n 0, 1) := by decide +kernel
theorem dX4_unwornRate_44 : decode cX4_unwornRate 44 = .ok (.getfield 25, 3) := by decide +kernel
theorem dX4_unwornRate_47 : decode cX4_unwornRate 47 = .ok (.iload_n 1, 1) := by decide +kernel
theorem dX4_unwornRate_48 : decode cX4_unwornRate 48 = .ok (.iaload, 1) := by decide +kernel
theorem dX4_unwornRate_49 : decode cX4_unwornRate 49 = .ok (.iload_n 3, 1) := by decide +kernel
theorem dX4_unwornRate_50 : decode cX4_unwornRate 50 = .ok (.iconst 4, 1) := by decide +kernel
theorem dX4_unwornRate_51 : decode cX4_unwornRate 51 = .ok (.isub, 1) := by decide +kernel
theorem dX4_unwornRate_52 : decode cX4_unwornRate 52 = .ok (.if_icmp .ge 6, 3) := by decide +kernel
theorem dX4_unwornRate_55 : decode cX4_unwornRate 55 = .ok (.iinc 4 1, 3) := by decide +kernel
theorem dX4_unwornRate_58 : decode cX4_unwornRate 58 = .ok (.iload 4, 2) := by decide +kernel
theorem dX4_unwornRate_60 : decode cX4_unwornRate 60 = .ok (.ireturn, 1) := by decide +kernel
theorem dX4_furlongs_0 : decode cX4_furlongs 0 = .ok (.iconst 0, 1) := by decide +kernel
theorem dX4_furlongs_1 : decode cX4_furlongs 1 = .ok (.istore_n 3, 1) := by decide +kernel
theorem dX4_furlongs_2 : decode cX4_furlongs 2 = .ok (.iload_n 1, 1) := by decide +kernel
theorem dX4_furlongs_3 : decode cX4_furlongs 3 = .ok (.iconst 0, 1) := by decide +kernel
theorem dX4_furlongs_4 : decode cX4_furlongs 4 = .ok (.invokestatic 68, 3) := by decide +kernel
theorem dX4_furlongs_7 : decode cX4_furlongs 7 = .ok (.istore 4, 2) := by decide +kernel
theorem dX4_furlongs_9 : decode cX4_furlongs 9 = .ok (.iload 4, 2) := by decide +kernel
theorem dX4_furlongs_11 : decode cX4_furlongs 11 = .ok (.iload_n 2, 1) := by decide +kernel
theorem dX4_furlongs_12 : decode cX4_furlongs 12 = .ok (.if_icmp .ge 28, 3) := by decide +kernel
theorem dX4_furlongs_15 : decode cX4_furlongs 15 = .ok (.iload 4, 2) := by decide +kernel
theorem dX4_furlongs_17 : decode cX4_furlongs 17 = .ok (.aload_n 0, 1) := by decide +kernel
theorem dX4_furlongs_18 : decode cX4_furlongs 18 = .ok (.getfield 46, 3) := by decide +kernel
theorem dX4_furlongs_21 : decode cX4_furlongs 21 = .ok (.if_icmp .ge 19, 3) := by decide +kernel
theorem dX4_furlongs_24 : decode cX4_furlongs 24 = .ok (.iload_n 3, 1) := by decide +kernel
theorem dX4_furlongs_25 : decode cX4_furlongs 25 = .ok (.aload_n 0, 1) := by decide +kernel
theorem dX4_furlongs_26 : decode cX4_furlongs 26 = .ok (.getfield 22, 3) := by decide +kernel
theorem dX4_furlongs_29 : decode cX4_furlongs 29 = .ok (.iload 4, 2) := by decide +kernel
theorem dX4_furlongs_31 : decode cX4_furlongs 31 = .ok (.iaload, 1) := by decide +kernel
theorem dX4_furlongs_32 : decode cX4_furlongs 32 = .ok (.iadd, 1) := by decide +kernel
theorem dX4_furlongs_33 : decode cX4_furlongs 33 = .ok (.istore_n 3, 1) := by decide +kernel
theorem dX4_furlongs_34 : decode cX4_furlongs 34 = .ok (.iinc 4 1, 3) := by decide +kernel
theorem dX4_furlongs_37 : decode cX4_furlongs 37 = .ok (.goto (-28), 3) := by decide +kernel
theorem dX4_furlongs_40 : decode cX4_furlongs 40 = .ok (.iload_n 3, 1) := by decide +kernel
theorem dX4_furlongs_41 : decode cX4_furlongs 41 = .ok (.ireturn, 1) := by decide +kernel
theorem dX4_furlongsOf_0 : decode cX4_furlongsOf 0 = .ok (.iconst 0, 1) := by decide +kernel
theorem dX4_furlongsOf_1 : decode cX4_furlongsOf 1 = .ok (.istore_n 2, 1) := by decide +kernel
theorem dX4_furlongsOf_2 : decode cX4_furlongsOf 2 = .ok (.iconst 0, 1) := by decide +kernel
theorem dX4_furlongsOf_3 : decode cX4_furlongsOf 3 = .ok (.istore_n 3, 1) := by decide +kernel
theorem dX4_furlongsOf_4 : decode cX4_furlongsOf 4 = .ok (.iload_n 3, 1) := by decide +kernel
theorem dX4_furlongsOf_5 : decode cX4_furlongsOf 5 = .ok (.aload_n 0, 1) := by decide +kernel
theorem dX4_furlongsOf_6 : decode cX4_furlongsOf 6 = .ok (.getfield 46, 3) := by decide +kernel
theorem dX4_furlongsOf_9 : decode cX4_furlongsOf 9 = .ok (.if_icmp .ge 27, 3) := by decide +kernel
theorem dX4_furlongsOf_12 : decode cX4_furlongsOf 12 = .ok (.iload_n 1, 1) := by decide +kernel
theorem dX4_furlongsOf_13 : decode cX4_furlongsOf 13 = .ok (.iload_n 3, 1) := by decide +kernel
theorem dX4_furlongsOf_14 : decode cX4_furlongsOf 14 = .ok (.ishr, 1) := by decide +kernel
theorem dX4_furlongsOf_15 : decode cX4_furlongsOf 15 = .ok (.iconst 1, 1) := by decide +kernel
theorem dX4_furlongsOf_16 : decode cX4_furlongsOf 16 = .ok (.iand, 1) := by decide +kernel
theorem dX4_furlongsOf_17 : decode cX4_furlongsOf 17 = .ok (.iconst 1, 1) := by decide +kernel
theorem dX4_furlongsOf_18 : decode cX4_furlongsOf 18 = .ok (.if_icmp .ne 12, 3) := by decide +kernel
theorem dX4_furlongsOf_21 : decode cX4_furlongsOf 21 = .ok (.iload_n 2, 1) := by decide +kernel
theorem dX4_furlongsOf_22 : decode cX4_furlongsOf 22 = .ok (.aload_n 0, 1) := by decide +kernel
theorem dX4_furlongsOf_23 : decode cX4_furlongsOf 23 = .ok (.getfield 22, 3) := by decide +kernel
theorem dX4_furlongsOf_26 : decode cX4_furlongsOf 26 = .ok (.iload_n 3, 1) := by decide +kernel
theorem dX4_furlongsOf_27 : decode cX4_furlongsOf 27 = .ok (.iaload, 1) := by decide +kernel
theorem dX4_furlongsOf_28 : decode cX4_furlongsOf 28 = .ok (.iadd, 1) := by decide +kernel
theorem dX4_furlongsOf_29 : decode cX4_furlongsOf 29 = .ok (.istore_n 2, 1) := by decide +kernel
theorem dX4_furlongsOf_30 : decode cX4_furlongsOf 30 = .ok (.iinc 3 1, 3) := by decide +kernel
theorem dX4_furlongsOf_33 : decode cX4_furlongsOf 33 = .ok (.goto (-29), 3) := by decide +kernel
theorem dX4_furlongsOf_36 : decode cX4_furlongsOf 36 = .ok (.iload_n 2, 1) := by decide +kernel
theorem dX4_furlongsOf_37 : decode cX4_furlongsOf 37 = .ok (.ireturn, 1) := by decide +kernel
theorem dX4_slimyFrom_0 : decode cX4_slimyFrom 0 = .ok (.iconst 0, 1) := by decide +kernel
theorem dX4_slimyFrom_1 : decode cX4_slimyFrom 1 = .ok (.istore_n 2, 1) := by decide +kernel
theorem dX4_slimyFrom_2 : decode cX4_slimyFrom 2 = .ok (.iload_n 1, 1) := by decide +kernel
theorem dX4_slimyFrom_3 : decode cX4_slimyFrom 3 = .ok (.iconst 0, 1) := by decide +kernel
theorem dX4_slimyFrom_4 : decode cX4_slimyFrom 4 = .ok (.invokestatic 68, 3) := by decide +kernel
theorem dX4_slimyFrom_7 : decode cX4_slimyFrom 7 = .ok (.istore_n 3, 1) := by decide +kernel
theorem dX4_slimyFrom_8 : decode cX4_slimyFrom 8 = .ok (.iload_n 3, 1) := by decide +kernel
theorem dX4_slimyFrom_9 : decode cX4_slimyFrom 9 = .ok (.aload_n 0, 1) := by decide +kernel
theorem dX4_slimyFrom_10 : decode cX4_slimyFrom 10 = .ok (.getfield 46, 3) := by decide +kernel
theorem dX4_slimyFrom_13 : decode cX4_slimyFrom 13 = .ok (.if_icmp .ge 18, 3) := by decide +kernel
theorem dX4_slimyFrom_16 : decode cX4_slimyFrom 16 = .ok (.iload_n 2, 1) := by decide +kernel
theorem dX4_slimyFrom_17 : decode cX4_slimyFrom 17 = .ok (.aload_n 0, 1) := by decide +kernel
theorem dX4_slimyFrom_18 : decode cX4_slimyFrom 18 = .ok (.getfield 28, 3) := by decide +kernel
theorem dX4_slimyFrom_21 : decode cX4_slimyFrom 21 = .ok (.iload_n 3, 1) := by decide +kernel
theorem dX4_slimyFrom_22 : decode cX4_slimyFrom 22 = .ok (.iaload, 1) := by decide +kernel
theorem dX4_slimyFrom_23 : decode cX4_slimyFrom 23 = .ok (.iadd, 1) := by decide +kernel
theorem dX4_slimyFrom_24 : decode cX4_slimyFrom 24 = .ok (.istore_n 2, 1) := by decide +kernel
theorem dX4_slimyFrom_25 : decode cX4_slimyFrom 25 = .ok (.iinc 3 1, 3) := by decide +kernel
theorem dX4_slimyFrom_28 : decode cX4_slimyFrom 28 = .ok (.goto (-20), 3) := by decide +kernel
theorem dX4_slimyFrom_31 : decode cX4_slimyFrom 31 = .ok (.iload_n 2, 1) := by decide +kernel
theorem dX4_slimyFrom_32 : decode cX4_slimyFrom 32 = .ok (.ireturn, 1) := by decide +kernel
theorem dX4_shafts_0 : decode cX4_shafts 0 = .ok (.iconst 0, 1) := by decide +kernel
theorem dX4_shafts_1 : decode cX4_shafts 1 = .ok (.istore_n 1, 1) := by decide +kernel
theorem dX4_shafts_2 : decode cX4_shafts 2 = .ok (.iconst 0, 1) := by decide +kernel
theorem dX4_shafts_3 : decode cX4_shafts 3 = .ok (.istore_n 2, 1) := by decide +kernel
theorem dX4_shafts_4 : decode cX4_shafts 4 = .ok (.iload_n 2, 1) := by decide +kernel
theorem dX4_shafts_5 : decode cX4_shafts 5 = .ok (.aload_n 0, 1) := by decide +kernel
theorem dX4_shafts_6 : decode cX4_shafts 6 = .ok (.getfield 46, 3) := by decide +kernel
theorem dX4_shafts_9 : decode cX4_shafts 9 = .ok (.if_icmp .ge 18, 3) := by decide +kernel
theorem dX4_shafts_12 : decode cX4_shafts 12 = .ok (.iload_n 1, 1) := by decide +kernel
theorem dX4_shafts_13 : decode cX4_shafts 13 = .ok (.aload_n 0, 1) := by decide +kernel
theorem dX4_shafts_14 : decode cX4_shafts 14 = .ok (.getfield 31, 3) := by decide +kernel
theorem dX4_shafts_17 : decode cX4_shafts 17 = .ok (.iload_n 2, 1) := by decide +kernel
theorem dX4_shafts_18 : decode cX4_shafts 18 = .ok (.iaload, 1) := by decide +kernel
theorem dX4_shafts_19 : decode cX4_shafts 19 = .ok (.iadd, 1) := by decide +kernel
theorem dX4_shafts_20 : decode cX4_shafts 20 = .ok (.istore_n 1, 1) := by decide +kernel
theorem dX4_shafts_21 : decode cX4_shafts 21 = .ok (.iinc 2 1, 3) := by decide +kernel
theorem dX4_shafts_24 : decode cX4_shafts 24 = .ok (.goto (-20), 3) := by decide +kernel
theorem dX4_shafts_27 : decode cX4_shafts 27 = .ok (.iload_n 1, 1) := by decide +kernel
theorem dX4_shafts_28 : decode cX4_shafts 28 = .ok (.ireturn, 1) := by decide +kernel
theorem dX4_isFree_0 : decode cX4_isFree 0 = .ok (.aload_n 0, 1) := by decide +kernel
theorem dX4_isFree_1 : decode cX4_isFree 1 = .ok (.getfield 49, 3) := by decide +kernel
theorem dX4_isFree_4 : decode cX4_isFree 4 = .ok (.ifCond .eq 14, 3) := by decide +kernel
theorem dX4_isFree_7 : decode cX4_isFree 7 = .ok (.iload_n 1, 1) := by decide +kernel
theorem dX4_isFree_8 : decode cX4_isFree 8 = .ok (.aload_n 0, 1) := by decide +kernel
theorem dX4_isFree_9 : decode cX4_isFree 9 = .ok (.getfield 49, 3) := by decide +kernel
theorem dX4_isFree_12 : decode cX4_isFree 12 = .ok (.idiv, 1) := by decide +kernel
theorem dX4_isFree_13 : decode cX4_isFree 13 = .ok (.iconst 2, 1) := by decide +kernel
theorem dX4_isFree_14 : decode cX4_isFree 14 = .ok (.irem, 1) := by decide +kernel
theorem dX4_isFree_15 : decode cX4_isFree 15 = .ok (.ifCond .ne 7, 3) := by decide +kernel
theorem dX4_isFree_18 : decode cX4_isFree 18 = .ok (.iconst 1, 1) := by decide +kernel
theorem dX4_isFree_19 : decode cX4_isFree 19 = .ok (.goto 4, 3) := by decide +kernel
theorem dX4_isFree_22 : decode cX4_isFree 22 = .ok (.iconst 0, 1) := by decide +kernel
theorem dX4_isFree_23 : decode cX4_isFree 23 = .ok (.ireturn, 1) := by decide +kernel
theorem dX4_freeMinutesLeft_0 : decode cX4_freeMinutesLeft 0 = .ok (.aload_n 0, 1) := by decide +kernel
theorem dX4_freeMinutesLeft_1 : decode cX4_freeMinutesLeft 1 = .ok (.getfield 49, 3) := by decide +kernel
theorem dX4_freeMinutesLeft_4 : decode cX4_freeMinutesLeft 4 = .ok (.ifCond .ne 9, 3) := by decide +kernel
theorem dX4_freeMinutesLeft_7 : decode cX4_freeMinutesLeft 7 = .ok (.sipush 9999, 3) := by decide +kernel
theorem dX4_freeMinutesLeft_10 : decode cX4_freeMinutesLeft 10 = .ok (.goto 14, 3) := by decide +kernel
theorem dX4_freeMinutesLeft_13 : decode cX4_freeMinutesLeft 13 = .ok (.aload_n 0, 1) := by decide +kernel
theorem dX4_freeMinutesLeft_14 : decode cX4_freeMinutesLeft 14 = .ok (.getfield 49, 3) := by decide +kernel
theorem dX4_freeMinutesLeft_17 : decode cX4_freeMinutesLeft 17 = .ok (.iload_n 1, 1) := by decide +kernel
theorem dX4_freeMinutesLeft_18 : decode cX4_freeMinutesLeft 18 = .ok (.aload_n 0, 1) := by decide +kernel
theorem dX4_freeMinutesLeft_19 : decode cX4_freeMinutesLeft 19 = .ok (.getfield 49, 3) := by decide +kernel
theorem dX4_freeMinutesLeft_22 : decode cX4_freeMinutesLeft 22 = .ok (.irem, 1) := by decide +kernel
theorem dX4_freeMinutesLeft_23 : decode cX4_freeMinutesLeft 23 = .ok (.isub, 1) := by decide +kernel
theorem dX4_freeMinutesLeft_24 : decode cX4_freeMinutesLeft 24 = .ok (.ireturn, 1) := by decide +kernel
theorem dX5_init_0 : decode cX5_init 0 = .ok (.aload_n 0, 1) := by decide +kernel
theorem dX5_init_1 : decode cX5_init 1 = .ok (.invokespecial 3, 3) := by decide +kernel
theorem dX5_init_4 : decode cX5_init 4 = .ok (.aload_n 0, 1) := by decide +kernel
theorem dX5_init_5 : decode cX5_init 5 = .ok (.new 9, 3) := by decide +kernel
theorem dX5_init_8 : decode cX5_init 8 = .ok (.dup, 1) := by decide +kernel
theorem dX5_init_9 : decode cX5_init 9 = .ok (.invokespecial 11, 3) := by decide +kernel
theorem dX5_init_12 : decode cX5_init 12 = .ok (.putfield 12, 3) := by decide +kernel
theorem dX5_init_15 : decode cX5_init 15 = .ok (.aload_n 0, 1) := by decide +kernel
theorem dX5_init_16 : decode cX5_init 16 = .ok (.bipush 10, 2) := by decide +kernel
theorem dX5_init_18 : decode cX5_init 18 = .ok (.anewarray 9, 3) := by decide +kernel
theorem dX5_init_21 : decode cX5_init 21 = .ok (.putfield 18, 3) := by decide +kernel
theorem dX5_init_24 : decode cX5_init 24 = .ok (.iconst 0, 1) := by decide +kernel
theorem dX5_init_25 : decode cX5_init 25 = .ok (.istore_n 1, 1) := by decide +kernel
theorem dX5_init_26 : decode cX5_init 26 = .ok (.iload_n 1, 1) := by decide +kernel
theorem dX5_init_27 : decode cX5_init 27 = .ok (.bipush 10, 2) := by decide +kernel
theorem dX5_init_29 : decode cX5_init 29 = .ok (.if_icmp .ge 22, 3) := by decide +kernel
theorem dX5_init_32 : decode cX5_init 32 = .ok (.aload_n 0, 1) := by decide +kernel
theorem dX5_init_33 : decode cX5_init 33 = .ok (.getfield 18, 3) := by decide +kernel
theorem dX5_init_36 : decode cX5_init 36 = .ok (.iload_n 1, 1) := by decide +kernel
theorem dX5_init_37 : decode cX5_init 37 = .ok (.new 9, 3) := by decide +kernel
theorem dX5_init_40 : decode cX5_init 40 = .ok (.dup, 1) := by decide +kernel
theorem dX5_init_41 : decode cX5_init 41 = .ok (.invokespecial 11, 3) := by decide +kernel
theorem dX5_init_44 : decode cX5_init 44 = .ok (.aastore, 1) := by decide +kernel
theorem dX5_init_45 : decode cX5_init 45 = .ok (.iinc 1 1, 3) := by decide +kernel
theorem dX5_init_48 : decode cX5_init 48 = .ok (.goto (-22), 3) := by decide +kernel
theorem dX5_init_51 : decode cX5_init 51 = .ok (.return_, 1) := by decide +kernel
theorem dX5_restart_0 : decode cX5_restart 0 = .ok (.aload_n 0, 1) := by decide +kernel
theorem dX5_restart_1 : decode cX5_restart 1 = .ok (.getfield 12, 3) := by decide +kernel
theorem dX5_restart_4 : decode cX5_restart 4 = .ok (.invokevirtual 22, 3) := by decide +kernel
theorem dX5_restart_7 : decode cX5_restart 7 = .ok (.aload_n 0, 1) := by decide +kernel
theorem dX5_restart_8 : decode cX5_restart 8 = .ok (.iconst 0, 1) := by decide +kernel
theorem dX5_restart_9 : decode cX5_restart 9 = .ok (.putfield 25, 3) := by decide +kernel
theorem dX5_restart_12 : decode cX5_restart 12 = .ok (.return_, 1) := by decide +kernel
theorem dX5_copy_0 : decode cX5_copy 0 = .ok (.aload_n 0, 1) := by decide +kernel
theorem dX5_copy_1 : decode cX5_copy 1 = .ok (.getfield 12, 3) := by decide +kernel
theorem dX5_copy_4 : decode cX5_copy 4 = .ok (.aload_n 1, 1) := by decide +kernel
theorem dX5_copy_5 : decode cX5_copy 5 = .ok (.getfield 12, 3) := by decide +kernel
theorem dX5_copy_8 : decode cX5_copy 8 = .ok (.invokevirtual 29, 3) := by decide +kernel
theorem dX5_copy_11 : decode cX5_copy 11 = .ok (.aload_n 0, 1) := by decide +kernel
theorem dX5_copy_12 : decode cX5_copy 12 = .ok (.aload_n 1, 1) := by decide +kernel
theorem dX5_copy_13 : decode cX5_copy 13 = .ok (.getfield 25, 3) := by decide +kernel
theorem dX5_copy_16 : decode cX5_copy 16 = .ok (.putfield 25, 3) := by decide +kernel
theorem dX5_copy_19 : decode cX5_copy 19 = .ok (.iconst 0, 1) := by decide +kernel
theorem dX5_copy_20 : decode cX5_copy 20 = .ok (.istore_n 2, 1) := by decide +kernel
theorem dX5_copy_21 : decode cX5_copy 21 = .ok (.iload_n 2, 1) := by decide +kernel
theorem dX5_copy_22 : decode cX5_copy 22 = .ok (.aload_n 0, 1) := by decide +kernel
theorem dX5_copy_23 : decode cX5_copy 23 = .ok (.getfield 25, 3) := by decide +kernel
theorem dX5_copy_26 : decode cX5_copy 26 = .ok (.if_icmp .ge 30, 3) := by decide +kernel
theorem dX5_copy_29 : decode cX5_copy 29 = .ok (.iload_n 2, 1) := by decide +kernel
theorem dX5_copy_30 : decode cX5_copy 30 = .ok (.bipush 10, 2) := by decide +kernel
theorem dX5_copy_32 : decode cX5_copy 32 = .ok (.if_icmp .ge 24, 3) := by decide +kernel
theorem dX5_copy_35 : decode cX5_copy 35 = .ok (.aload_n 0, 1) := by decide +kernel
theorem dX5_copy_36 : decode cX5_copy 36 = .ok (.getfield 18, 3) := by decide +kernel
theorem dX5_copy_39 : decode cX5_copy 39 = .ok (.iload_n 2, 1) := by decide +kernel
theorem dX5_copy_40 : decode cX5_copy 40 = .ok (.aaload, 1) := by decide +kernel
theorem dX5_copy_41 : decode cX5_copy 41 = .ok (.aload_n 1, 1) := by decide +kernel
theorem dX5_copy_42 : decode cX5_copy 42 = .ok (.getfield 18, 3) := by decide +kernel
theorem dX5_copy_45 : decode cX5_copy 45 = .ok (.iload_n 2, 1) := by decide +kernel
theorem dX5_copy_46 : decode cX5_copy 46 = .ok (.aaload, 1) := by decide +kernel
theorem dX5_copy_47 : decode cX5_copy 47 = .ok (.invokevirtual 29, 3) := by decide +kernel
theorem dX5_copy_50 : decode cX5_copy 50 = .ok (.iinc 2 1, 3) := by decide +kernel
theorem dX5_copy_53 : decode cX5_copy 53 = .ok (.goto (-32), 3) := by decide +kernel
theorem dX5_copy_56 : decode cX5_copy 56 = .ok (.return_, 1) := by decide +kernel
theorem dX5_remember_0 : decode cX5_remember 0 = .ok (.aload_n 0, 1) := by decide +kernel
theorem dX5_remember_1 : decode cX5_remember 1 = .ok (.getfield 25, 3) := by decide +kernel
theorem dX5_remember_4 : decode cX5_remember 4 = .ok (.bipush 10, 2) := by decide +kernel
theorem dX5_remember_6 : decode cX5_remember 6 = .ok (.if_icmp .lt 7, 3) := by decide +kernel
theorem dX5_remember_9 : decode cX5_remember 9 = .ok (.aload_n 0, 1) := by decide +kernel
theorem dX5_remember_10 : decode cX5_remember 10 = .ok (.invokevirtual 33, 3) := by decide +kernel
theorem dX5_remember_13 : decode cX5_remember 13 = .ok (.aload_n 0, 1) := by decide +kernel
theorem dX5_remember_14 : decode cX5_remember 14 = .ok (.getfield 18, 3) := by decide +kernel
theorem dX5_remember_17 : decode cX5_remember 17 = .ok (.aload_n 0, 1) := by decide +kernel
theorem dX5_remember_18 : decode cX5_remember 18 = .ok (.getfield 25, 3) := by decide +kernel
theorem dX5_remember_21 : decode cX5_remember 21 = .ok (.aaload, 1) := by decide +kernel
theorem dX5_remember_22 : decode cX5_remember 22 = .ok (.aload_n 0, 1) := by decide +kernel
theorem dX5_remember_23 : decode cX5_remember 23 = .ok (.getfield 12, 3) := by decide +kernel
theorem dX5_remember_26 : decode cX5_remember 26 = .ok (.invokevirtual 29, 3) := by decide +kernel
theorem dX5_remember_29 : decode cX5_remember 29 = .ok (.aload_n 0, 1) := by decide +kernel
theorem dX5_remember_30 : decode cX5_remember 30 = .ok (.dup, 1) := by decide +kernel
theorem dX5_remember_31 : decode cX5_remember 31 = .ok (.getfield 25, 3) := by decide +kernel
theorem dX5_remember_34 : decode cX5_remember 34 = .ok (.iconst 1, 1) := by decide +kernel
theorem dX5_remember_35 : decode cX5_remember 35 = .ok (.iadd, 1) := by decide +kernel
theorem dX5_remember_36 : decode cX5_remember 36 = .ok (.putfield 25, 3) := by decide +kernel
theorem dX5_remember_39 : decode cX5_remember 39 = .ok (.return_, 1) := by decide +kernel
theorem dX5_loseOldest_0 : decode cX5_loseOldest 0 = .ok (.aload_n 0, 1) := by decide +kernel
theorem dX5_loseOldest_1 : decode cX5_loseOldest 1 = .ok (.getfield 18, 3) := by decide +kernel
theorem dX5_loseOldest_4 : decode cX5_loseOldest 4 = .ok (.iconst 0, 1) := by decide +kernel
theorem dX5_loseOldest_5 : decode cX5_loseOldest 5 = .ok (.aaload, 1) := by decide +kernel
theorem dX5_loseOldest_6 : decode cX5_loseOldest 6 = .ok (.astore_n 1, 1) := by decide +kernel
theorem dX5_loseOldest_7 : decode cX5_loseOldest 7 = .ok (.iconst 1, 1) := by decide +kernel
theorem dX5_loseOldest_8 : decode cX5_loseOldest 8 = .ok (.istore_n 2, 1) := by decide +kernel
theorem dX5_loseOldest_9 : decode cX5_loseOldest 9 = .ok (.iload_n 2, 1) := by decide +kernel
theorem dX5_loseOldest_10 : decode cX5_loseOldest 10 = .ok (.bipush 10, 2) := by decide +kernel
theorem dX5_loseOldest_12 : decode cX5_loseOldest 12 = .ok (.if_icmp .ge 23, 3) := by decide +kernel
theorem dX5_loseOldest_15 : decode cX5_loseOldest 15 = .ok (.aload_n 0, 1) := by decide +kernel
theorem dX5_loseOldest_16 : decode cX5_loseOldest 16 = .ok (.getfield 18, 3) := by decide +kernel
theorem dX5_loseOldest_19 : decode cX5_loseOldest 19 = .ok (.iload_n 2, 1) := by decide +kernel
theorem dX5_loseOldest_20 : decode cX5_loseOldest 20 = .ok (.iconst 1, 1) := by decide +kernel
theorem dX5_loseOldest_21 : decode cX5_loseOldest 21 = .ok (.isub, 1) := by decide +kernel
theorem dX5_loseOldest_22 : decode cX5_loseOldest 22 = .ok (.aload_n 0, 1) := by decide +kernel
theorem dX5_loseOldest_23 : decode cX5_loseOldest 23 = .ok (.getfield 18, 3) := by decide +kernel
theorem dX5_loseOldest_26 : decode cX5_loseOldest 26 = .ok (.iload_n 2, 1) := by decide +kernel
theorem dX5_loseOldest_27 : decode cX5_loseOldest 27 = .ok (.aaload, 1) := by decide +kernel
theorem dX5_loseOldest_28 : decode cX5_loseOldest 28 = .ok (.aastore, 1) := by decide +kernel
theorem dX5_loseOldest_29 : decode cX5_loseOldest 29 = .ok (.iinc 2 1, 3) := by decide +kernel
theorem dX5_loseOldest_32 : decode cX5_loseOldest 32 = .ok (.goto (-23), 3) := by decide +kernel
theorem dX5_loseOldest_35 : decode cX5_loseOldest 35 = .ok (.aload_n 0, 1) := by decide +kernel
theorem dX5_loseOldest_36 : decode cX5_loseOldest 36 = .ok (.getfield 18, 3) := by decide +kernel
theorem dX5_loseOldest_39 : decode cX5_loseOldest 39 = .ok (.bipush 9, 2) := by decide +kernel
theorem dX5_loseOldest_41 : decode cX5_loseOldest 41 = .ok (.aload_n 1, 1) := by decide +kernel
theorem dX5_loseOldest_42 : decode cX5_loseOldest 42 = .ok (.aastore, 1) := by decide +kernel
theorem dX5_loseOldest_43 : decode cX5_loseOldest 43 = .ok (.aload_n 0, 1) := by decide +kernel
theorem dX5_loseOldest_44 : decode cX5_loseOldest 44 = .ok (.bipush 9, 2) := by decide +kernel
theorem dX5_loseOldest_46 : decode cX5_loseOldest 46 = .ok (.putfield 25, 3) := by decide +kernel
theorem dX5_loseOldest_49 : decode cX5_loseOldest 49 = .ok (.return_, 1) := by decide +kernel
theorem dX5_takeBack_0 : decode cX5_takeBack 0 = .ok (.aload_n 0, 1) := by decide +kernel
theorem dX5_takeBack_1 : decode cX5_takeBack 1 = .ok (.getfield 25, 3) := by decide +kernel
theorem dX5_takeBack_4 : decode cX5_takeBack 4 = .ok (.ifCond .le 29, 3) := by decide +kernel
theorem dX5_takeBack_7 : decode cX5_takeBack 7 = .ok (.aload_n 0, 1) := by decide +kernel
theorem dX5_takeBack_8 : decode cX5_takeBack 8 = .ok (.dup, 1) := by decide +kernel
theorem dX5_takeBack_9 : decode cX5_takeBack 9 = .ok (.getfield 25, 3) := by decide +kernel
theorem dX5_takeBack_12 : decode cX5_takeBack 12 = .ok (.iconst 1, 1) := by decide +kernel
theorem dX5_takeBack_13 : decode cX5_takeBack 13 = .ok (.isub, 1) := by decide +kernel
theorem dX5_takeBack_14 : decode cX5_takeBack 14 = .ok (.putfield 25, 3) := by decide +kernel
theorem dX5_takeBack_17 : decode cX5_takeBack 17 = .ok (.aload_n 0, 1) := by decide +kernel
theorem dX5_takeBack_18 : decode cX5_takeBack 18 = .ok (.getfield 12, 3) := by decide +kernel
theorem dX5_takeBack_21 : decode cX5_takeBack 21 = .ok (.aload_n 0, 1) := by decide +kernel
theorem dX5_takeBack_22 : decode cX5_takeBack 22 = .ok (.getfield 18, 3) := by decide +kernel
theorem dX5_takeBack_25 : decode cX5_takeBack 25 = .ok (.aload_n 0, 1) := by decide +kernel
theorem dX5_takeBack_26 : decode cX5_takeBack 26 = .ok (.getfield 25, 3) := by decide +kernel
theorem dX5_takeBack_29 : decode cX5_takeBack 29 = .ok (.aaload, 1) := by decide +kernel
theorem dX5_takeBack_30 : decode cX5_takeBack 30 = .ok (.invokevirtual 29, 3) := by decide +kernel
theorem dX5_takeBack_33 : decode cX5_takeBack 33 = .ok (.return_, 1) := by decide +kernel
