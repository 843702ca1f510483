theorem dX6_init_0 : decode cX6_init 0 = .ok (.aload_n 0, 1) := by decide +kernel
theorem dX6_init_1 : decode cX6_init 1 = .ok (.invokespecial 1, 3) := by decide +kernel
theorem dX6_init_4 : decode cX6_init 4 = .ok (.aload_n 0, 1) := by decide +kernel
theorem dX6_init_5 : decode cX6_init 5 = .ok (.new 7, 3) := by decide +kernel
theorem dX6_init_8 : decode cX6_init 8 = .ok (.dup, 1) := by decide +kernel
theorem dX6_init_9 : decode cX6_init 9 = .ok (.invokespecial 9, 3) := by decide +kernel
theorem dX6_init_12 : decode cX6_init 12 = .ok (.putfield 10, 3) := by decide +kernel
theorem dX6_init_15 : decode cX6_init 15 = .ok (.aload_n 0, 1) := by decide +kernel
theorem dX6_init_16 : decode cX6_init 16 = .ok (.new 16, 3) := by decide +kernel
theorem dX6_init_19 : decode cX6_init 19 = .ok (.dup, 1) := by decide +kernel
theorem dX6_init_20 : decode cX6_init 20 = .ok (.invokespecial 18, 3) := by decide +kernel
theorem dX6_init_23 : decode cX6_init 23 = .ok (.putfield 19, 3) := by decide +kernel
theorem dX6_init_26 : decode cX6_init 26 = .ok (.aload_n 0, 1) := by decide +kernel
theorem dX6_init_27 : decode cX6_init 27 = .ok (.new 16, 3) := by decide +kernel
theorem dX6_init_30 : decode cX6_init 30 = .ok (.dup, 1) := by decide +kernel
theorem dX6_init_31 : decode cX6_init 31 = .ok (.invokespecial 18, 3) := by decide +kernel
theorem dX6_init_34 : decode cX6_init 34 = .ok (.putfield 23, 3) := by decide +kernel
theorem dX6_init_37 : decode cX6_init 37 = .ok (.aload_n 0, 1) := by decide +kernel
theorem dX6_init_38 : decode cX6_init 38 = .ok (.new 26, 3) := by decide +kernel
theorem dX6_init_41 : decode cX6_init 41 = .ok (.dup, 1) := by decide +kernel
theorem dX6_init_42 : decode cX6_init 42 = .ok (.invokespecial 28, 3) := by decide +kernel
theorem dX6_init_45 : decode cX6_init 45 = .ok (.putfield 29, 3) := by decide +kernel
theorem dX6_init_48 : decode cX6_init 48 = .ok (.aload_n 0, 1) := by decide +kernel
theorem dX6_init_49 : decode cX6_init 49 = .ok (.iconst 2, 1) := by decide +kernel
theorem dX6_init_50 : decode cX6_init 50 = .ok (.anewarray 26, 3) := by decide +kernel
theorem dX6_init_53 : decode cX6_init 53 = .ok (.putfield 33, 3) := by decide +kernel
theorem dX6_init_56 : decode cX6_init 56 = .ok (.aload_n 0, 1) := by decide +kernel
theorem dX6_init_57 : decode cX6_init 57 = .ok (.iconst 2, 1) := by decide +kernel
theorem dX6_init_58 : decode cX6_init 58 = .ok (.newarray .boolean, 2) := by decide +kernel
theorem dX6_init_60 : decode cX6_init 60 = .ok (.putfield 37, 3) := by decide +kernel
theorem dX6_init_63 : decode cX6_init 63 = .ok (.aload_n 0, 1) := by decide +kernel
theorem dX6_init_64 : decode cX6_init 64 = .ok (.new 41, 3) := by decide +kernel
theorem dX6_init_67 : decode cX6_init 67 = .ok (.dup, 1) := by decide +kernel
theorem dX6_init_68 : decode cX6_init 68 = .ok (.invokespecial 43, 3) := by decide +kernel
theorem dX6_init_71 : decode cX6_init 71 = .ok (.putfield 44, 3) := by decide +kernel
theorem dX6_init_74 : decode cX6_init 74 = .ok (.aload_n 0, 1) := by decide +kernel
theorem dX6_init_75 : decode cX6_init 75 = .ok (.new 48, 3) := by decide +kernel
theorem dX6_init_78 : decode cX6_init 78 = .ok (.dup, 1) := by decide +kernel
theorem dX6_init_79 : decode cX6_init 79 = .ok (.iconst 0, 1) := by decide +kernel
theorem dX6_init_80 : decode cX6_init 80 = .ok (.invokespecial 50, 3) := by decide +kernel
theorem dX6_init_83 : decode cX6_init 83 = .ok (.putfield 53, 3) := by decide +kernel
theorem dX6_init_86 : decode cX6_init 86 = .ok (.aload_n 0, 1) := by decide +kernel
theorem dX6_init_87 : decode cX6_init 87 = .ok (.new 48, 3) := by decide +kernel
theorem dX6_init_90 : decode cX6_init 90 = .ok (.dup, 1) := by decide +kernel
theorem dX6_init_91 : decode cX6_init 91 = .ok (.iconst 1, 1) := by decide +kernel
theorem dX6_init_92 : decode cX6_init 92 = .ok (.invokespecial 50, 3) := by decide +kernel
theorem dX6_init_95 : decode cX6_init 95 = .ok (.putfield 57, 3) := by decide +kernel
theorem dX6_init_98 : decode cX6_init 98 = .ok (.aload_n 0, 1) := by decide +kernel
theorem dX6_init_99 : decode cX6_init 99 = .ok (.new 60, 3) := by decide +kernel
theorem dX6_init_102 : decode cX6_init 102 = .ok (.dup, 1) := by decide +kernel
theorem dX6_init_103 : decode cX6_init 103 = .ok (.invokespecial 62, 3) := by decide +kernel
theorem dX6_init_106 : decode cX6_init 106 = .ok (.putfield 63, 3) := by decide +kernel
theorem dX6_init_109 : decode cX6_init 109 = .ok (.iconst 0, 1) := by decide +kernel
theorem dX6_init_110 : decode cX6_init 110 = .ok (.istore_n 1, 1) := by decide +kernel
theorem dX6_init_111 : decode cX6_init 111 = .ok (.iload_n 1, 1) := by decide +kernel
theorem dX6_init_112 : decode cX6_init 112 = .ok (.iconst 2, 1) := by decide +kernel
theorem dX6_init_113 : decode cX6_init 113 = .ok (.if_icmp .ge 22, 3) := by decide +kernel
theorem dX6_init_116 : decode cX6_init 116 = .ok (.aload_n 0, 1) := by decide +kernel
theorem dX6_init_117 : decode cX6_init 117 = .ok (.getfield 33, 3) := by decide +kernel
theorem dX6_init_120 : decode cX6_init 120 = .ok (.iload_n 1, 1) := by decide +kernel
theorem dX6_init_121 : decode cX6_init 121 = .ok (.new 26, 3) := by decide +kernel
theorem dX6_init_124 : decode cX6_init 124 = .ok (.dup, 1) := by decide +kernel
theorem dX6_init_125 : decode cX6_init 125 = .ok (.invokespecial 28, 3) := by decide +kernel
theorem dX6_init_128 : decode cX6_init 128 = .ok (.aastore, 1) := by decide +kernel
theorem dX6_init_129 : decode cX6_init 129 = .ok (.iinc 1 1, 3) := by decide +kernel
theorem dX6_init_132 : decode cX6_init 132 = .ok (.goto (-21), 3) := by decide +kernel
theorem dX6_init_135 : decode cX6_init 135 = .ok (.return_, 1) := by decide +kernel
theorem dX6_type_0 : decode cX6_type 0 = .ok (.iload_n 1, 1) := by decide +kernel
theorem dX6_type_1 : decode cX6_type 1 = .ok (.ifCond .lt 10, 3) := by decide +kernel
theorem dX6_type_4 : decode cX6_type 4 = .ok (.iload_n 1, 1) := by decide +kernel
theorem dX6_type_5 : decode cX6_type 5 = .ok (.sipush 255, 3) := by decide +kernel
theorem dX6_type_8 : decode cX6_type 8 = .ok (.if_icmp .le 5, 3) := by decide +kernel
theorem dX6_type_11 : decode cX6_type 11 = .ok (.iconst (-1), 1) := by decide +kernel
theorem dX6_type_12 : decode cX6_type 12 = .ok (.ireturn, 1) := by decide +kernel
theorem dX6_type_13 : decode cX6_type 13 = .ok (.aload_n 0, 1) := by decide +kernel
theorem dX6_type_14 : decode cX6_type 14 = .ok (.getfield 10, 3) := by decide +kernel
theorem dX6_type_17 : decode cX6_type 17 = .ok (.getfield 67, 3) := by decide +kernel
theorem dX6_type_20 : decode cX6_type 20 = .ok (.sipush 200, 3) := by decide +kernel
theorem dX6_type_23 : decode cX6_type 23 = .ok (.if_icmp .lt 6, 3) := by decide +kernel
theorem dX6_type_26 : decode cX6_type 26 = .ok (.bipush (-3), 2) := by decide +kernel
theorem dX6_type_28 : decode cX6_type 28 = .ok (.ireturn, 1) := by decide +kernel
theorem dX6_type_29 : decode cX6_type 29 = .ok (.aload_n 0, 1) := by decide +kernel
theorem dX6_type_30 : decode cX6_type 30 = .ok (.getfield 10, 3) := by decide +kernel
theorem dX6_type_33 : decode cX6_type 33 = .ok (.getfield 71, 3) := by decide +kernel
theorem dX6_type_36 : decode cX6_type 36 = .ok (.aload_n 0, 1) := by decide +kernel
theorem dX6_type_37 : decode cX6_type 37 = .ok (.getfield 10, 3) := by decide +kernel
theorem dX6_type_40 : decode cX6_type 40 = .ok (.getfield 67, 3) := by decide +kernel
theorem dX6_type_43 : decode cX6_type 43 = .ok (.iload_n 1, 1) := by decide +kernel
theorem dX6_type_44 : decode cX6_type 44 = .ok (.iastore, 1) := by decide +kernel
theorem dX6_type_45 : decode cX6_type 45 = .ok (.aload_n 0, 1) := by decide +kernel
theorem dX6_type_46 : decode cX6_type 46 = .ok (.getfield 10, 3) := by decide +kernel
theorem dX6_type_49 : decode cX6_type 49 = .ok (.dup, 1) := by decide +kernel
theorem dX6_type_50 : decode cX6_type 50 = .ok (.getfield 67, 3) := by decide +kernel
theorem dX6_type_53 : decode cX6_type 53 = .ok (.iconst 1, 1) := by decide +kernel
theorem dX6_type_54 : decode cX6_type 54 = .ok (.iadd, 1) := by decide +kernel
theorem dX6_type_55 : decode cX6_type 55 = .ok (.putfield 67, 3) := by decide +kernel
theorem dX6_type_58 : decode cX6_type 58 = .ok (.aload_n 0, 1) := by decide +kernel
theorem dX6_type_59 : decode cX6_type 59 = .ok (.getfield 10, 3) := by decide +kernel
theorem dX6_type_62 : decode cX6_type 62 = .ok (.getfield 67, 3) := by decide +kernel
theorem dX6_type_65 : decode cX6_type 65 = .ok (.ireturn, 1) := by decide +kernel
theorem dX6_clear_0 : decode cX6_clear 0 = .ok (.aload_n 0, 1) := by decide +kernel
theorem dX6_clear_1 : decode cX6_clear 1 = .ok (.getfield 10, 3) := by decide +kernel
theorem dX6_clear_4 : decode cX6_clear 4 = .ok (.getfield 67, 3) := by decide +kernel
theorem dX6_clear_7 : decode cX6_clear 7 = .ok (.istore_n 1, 1) := by decide +kernel
theorem dX6_clear_8 : decode cX6_clear 8 = .ok (.aload_n 0, 1) := by decide +kernel
theorem dX6_clear_9 : decode cX6_clear 9 = .ok (.getfield 10, 3) := by decide +kernel
theorem dX6_clear_12 : decode cX6_clear 12 = .ok (.iconst 0, 1) := by decide +kernel
theorem dX6_clear_13 : decode cX6_clear 13 = .ok (.putfield 67, 3) := by decide +kernel
theorem dX6_clear_16 : decode cX6_clear 16 = .ok (.iload_n 1, 1) := by decide +kernel
theorem dX6_clear_17 : decode cX6_clear 17 = .ok (.ireturn, 1) := by decide +kernel
theorem dX6_tunnel_0 : decode cX6_tunnel 0 = .ok (.aload_n 0, 1) := by decide +kernel
theorem dX6_tunnel_1 : decode cX6_tunnel 1 = .ok (.getfield 10, 3) := by decide +kernel
theorem dX6_tunnel_4 : decode cX6_tunnel 4 = .ok (.aload_n 0, 1) := by decide +kernel
theorem dX6_tunnel_5 : decode cX6_tunnel 5 = .ok (.getfield 23, 3) := by decide +kernel
theorem dX6_tunnel_8 : decode cX6_tunnel 8 = .ok (.invokevirtual 75, 3) := by decide +kernel
theorem dX6_tunnel_11 : decode cX6_tunnel 11 = .ok (.istore_n 1, 1) := by decide +kernel
theorem dX6_tunnel_12 : decode cX6_tunnel 12 = .ok (.iload_n 1, 1) := by decide +kernel
theorem dX6_tunnel_13 : decode cX6_tunnel 13 = .ok (.ifCond .ge 5, 3) := by decide +kernel
theorem dX6_tunnel_16 : decode cX6_tunnel 16 = .ok (.iload_n 1, 1) := by decide +kernel
theorem dX6_tunnel_17 : decode cX6_tunnel 17 = .ok (.ireturn, 1) := by decide +kernel
theorem dX6_tunnel_18 : decode cX6_tunnel 18 = .ok (.aload_n 0, 1) := by decide +kernel
theorem dX6_tunnel_19 : decode cX6_tunnel 19 = .ok (.getfield 19, 3) := by decide +kernel
theorem dX6_tunnel_22 : decode cX6_tunnel 22 = .ok (.astore_n 2, 1) := by decide +kernel
theorem dX6_tunnel_23 : decode cX6_tunnel 23 = .ok (.aload_n 0, 1) := by decide +kernel
theorem dX6_tunnel_24 : decode cX6_tunnel 24 = .ok (.aload_n 0, 1) := by decide +kernel
theorem dX6_tunnel_25 : decode cX6_tunnel 25 = .ok (.getfield 23, 3) := by decide +kernel
theorem dX6_tunnel_28 : decode cX6_tunnel 28 = .ok (.putfield 19, 3) := by decide +kernel
theorem dX6_tunnel_31 : decode cX6_tunnel 31 = .ok (.aload_n 0, 1) := by decide +kernel
theorem dX6_tunnel_32 : decode cX6_tunnel 32 = .ok (.aload_n 2, 1) := by decide +kernel
theorem dX6_tunnel_33 : decode cX6_tunnel 33 = .ok (.putfield 23, 3) := by decide +kernel
theorem dX6_tunnel_36 : decode cX6_tunnel 36 = .ok (.aload_n 0, 1) := by decide +kernel
theorem dX6_tunnel_37 : decode cX6_tunnel 37 = .ok (.getfield 10, 3) := by decide +kernel
theorem dX6_tunnel_40 : decode cX6_tunnel 40 = .ok (.iconst 0, 1) := by decide +kernel
theorem dX6_tunnel_41 : decode cX6_tunnel 41 = .ok (.putfield 67, 3) := by decide +kernel
theorem dX6_tunnel_44 : decode cX6_tunnel 44 = .ok (.aload_n 0, 1) := by decide +kernel
theorem dX6_tunnel_45 : decode cX6_tunnel 45 = .ok (.getfield 29, 3) := by decide +kernel
theorem dX6_tunnel_48 : decode cX6_tunnel 48 = .ok (.invokevirtual 79, 3) := by decide +kernel
theorem dX6_tunnel_51 : decode cX6_tunnel 51 = .ok (.iconst 0, 1) := by decide +kernel
theorem dX6_tunnel_52 : decode cX6_tunnel 52 = .ok (.istore_n 3, 1) := by decide +kernel
theorem dX6_tunnel_53 : decode cX6_tunnel 53 = .ok (.iload_n 3, 1) := by decide +kernel
theorem dX6_tunnel_54 : decode cX6_tunnel 54 = .ok (.iconst 2, 1) := by decide +kernel
theorem dX6_tunnel_55 : decode cX6_tunnel 55 = .ok (.if_icmp .ge 16, 3) := by decide +kernel
theorem dX6_tunnel_58 : decode cX6_tunnel 58 = .ok (.aload_n 0, 1) := by decide +kernel
theorem dX6_tunnel_59 : decode cX6_tunnel 59 = .ok (.getfield 37, 3) := by decide +kernel
theorem dX6_tunnel_62 : decode cX6_tunnel 62 = .ok (.iload_n 3, 1) := by decide +kernel
theorem dX6_tunnel_63 : decode cX6_tunnel 63 = .ok (.iconst 0, 1) := by decide +kernel
theorem dX6_tunnel_64 : decode cX6_tunnel 64 = .ok (.bastore, 1) := by decide +kernel
theorem dX6_tunnel_65 : decode cX6_tunnel 65 = .ok (.iinc 3 1, 3) := by decide +kernel
theorem dX6_tunnel_68 : decode cX6_tunnel 68 = .ok (.goto (-15), 3) := by decide +kernel
theorem dX6_tunnel_71 : decode cX6_tunnel 71 = .ok (.aload_n 0, 1) := by decide +kernel
theorem dX6_tunnel_72 : decode cX6_tunnel 72 = .ok (.getfield 44, 3) := by decide +kernel
theorem dX6_tunnel_75 : decode cX6_tunnel 75 = .ok (.iconst 0, 1) := by decide +kernel
theorem dX6_tunnel_76 : decode cX6_tunnel 76 = .ok (.putfield 82, 3) := by decide +kernel
theorem dX6_tunnel_79 : decode cX6_tunnel 79 = .ok (.aload_n 0, 1) := by decide +kernel
theorem dX6_tunnel_80 : decode cX6_tunnel 80 = .ok (.getfield 44, 3) := by decide +kernel
theorem dX6_tunnel_83 : decode cX6_tunnel 83 = .ok (.iconst 0, 1) := by decide +kernel
theorem dX6_tunnel_84 : decode cX6_tunnel 84 = .ok (.putfield 83, 3) := by decide +kernel
theorem dX6_tunnel_87 : decode cX6_tunnel 87 = .ok (.aload_n 0, 1) := by decide +kernel
theorem dX6_tunnel_88 : decode cX6_tunnel 88 = .ok (.invokevirtual 87, 3) := by decide +kernel
theorem dX6_tunnel_91 : decode cX6_tunnel 91 = .ok (.iload_n 1, 1) := by decide +kernel
theorem dX6_tunnel_92 : decode cX6_tunnel 92 = .ok (.ireturn, 1) := by decide +kernel
theorem dX6_walker_0 : decode cX6_walker 0 = .ok (.iload_n 1, 1) := by decide +kernel
theorem dX6_walker_1 : decode cX6_walker 1 = .ok (.ifCond .lt 14, 3) := by decide +kernel
theorem dX6_walker_4 : decode cX6_walker 4 = .ok (.iload_n 1, 1) := by decide +kernel
theorem dX6_walker_5 : decode cX6_walker 5 = .ok (.aload_n 0, 1) := by decide +kernel
theorem dX6_walker_6 : decode cX6_walker 6 = .ok (.getfield 19, 3) := by decide +kernel
theorem dX6_walker_9 : decode cX6_walker 9 = .ok (.getfield 90, 3) := by decide +kernel
theorem dX6_walker_12 : decode cX6_walker 12 = .ok (.if_icmp .lt 5, 3) := by decide +kernel
theorem dX6_walker_15 : decode cX6_walker 15 = .ok (.iconst (-1), 1) := by decide +kernel
theorem dX6_walker_16 : decode cX6_walker 16 = .ok (.ireturn, 1) := by decide +kernel
theorem dX6_walker_17 : decode cX6_walker 17 = .ok (.iload_n 2, 1) := by decide +kernel
theorem dX6_walker_18 : decode cX6_walker 18 = .ok (.tableswitch 87 0 3 #[30, 40, 50, 63], 30) := by decide +kernel
theorem dX6_walker_48 : decode cX6_walker 48 = .ok (.aload_n 0, 1) := by decide +kernel
theorem dX6_walker_49 : decode cX6_walker 49 = .ok (.getfield 19, 3) := by decide +kernel
theorem dX6_walker_52 : decode cX6_walker 52 = .ok (.getfield 93, 3) := by decide +kernel
theorem dX6_walker_55 : decode cX6_walker 55 = .ok (.iload_n 1, 1) := by decide +kernel
theorem dX6_walker_56 : decode cX6_walker 56 = .ok (.iaload, 1) := by decide +kernel
theorem dX6_walker_57 : decode cX6_walker 57 = .ok (.ireturn, 1) := by decide +kernel
theorem dX6_walker_58 : decode cX6_walker 58 = .ok (.aload_n 0, 1) := by decide +kernel
theorem dX6_walker_59 : decode cX6_walker 59 = .ok (.getfield 19, 3) := by decide +kernel
theorem dX6_walker_62 : decode cX6_walker 62 = .ok (.getfield 96, 3) := by decide +kernel
theorem dX6_walker_65 : decode cX6_walker 65 = .ok (.iload_n 1, 1) := by decide +kernel
theorem dX6_walker_66 : decode cX6_walker 66 = .ok (.iaload, 1) := by decide +kernel
theorem dX6_walker_67 : decode cX6_walker 67 = .ok (.ireturn, 1) := by decide +kernel
theorem dX6_walker_68 : decode cX6_walker 68 = .ok (.aload_n 0, 1) := by decide +kernel
theorem dX6_walker_69 : decode cX6_walker 69 = .ok (.getfield 29, 3) := by decide +kernel
theorem dX6_walker_72 : decode cX6_walker 72 = .ok (.getfield 99, 3) := by decide +kernel
theorem dX6_walker_75 : decode cX6_walker 75 = .ok (.getfield 102, 3) := by decide +kernel
theorem dX6_walker_78 : decode cX6_walker 78 = .ok (.iload_n 1, 1) := by decide +kernel
theorem dX6_walker_79 : decode cX6_walker 79 = .ok (.iaload, 1) := by decide +kernel
theorem dX6_walker_80 : decode cX6_walker 80 = .ok (.ireturn, 1) := by decide +kernel
theorem dX6_walker_81 : decode cX6_walker 81 = .ok (.aload_n 0, 1) := by decide +kernel
theorem dX6_walker_82 : decode cX6_walker 82 = .ok (.getfield 29, 3) := by decide +kernel
theorem dX6_walker_85 : decode cX6_walker 85 = .ok (.getfield 99, 3) := by decide +kernel
theorem dX6_walker_88 : decode cX6_walker 88 = .ok (.aload_n 0, 1) := by decide +kernel
theorem dX6_walker_89 : decode cX6_walker 89 = .ok (.getfield 19, 3) := by decide +kernel
theorem dX6_walker_92 : decode cX6_walker 92 = .ok (.iload_n 1, 1) := by decide +kernel
theorem dX6_walker_93 : decode cX6_walker 93 = .ok (.invokevirtual 105, 3) := by decide +kernel
theorem dX6_walker_96 : decode cX6_walker 96 = .ok (.ifCond .eq 7, 3) := by decide +kernel
theorem dX6_walker_99 : decode cX6_walker 99 = .ok (.iconst 1, 1) := by decide +kernel
theorem dX6_walker_100 : decode cX6_walker 100 = .ok (.goto 4, 3) := by decide +kernel
theorem dX6_walker_103 : decode cX6_walker 103 = .ok (.iconst 0, 1) := by decide +kernel
theorem dX6_walker_104 : decode cX6_walker 104 = .ok (.ireturn, 1) := by decide +kernel
theorem dX6_walker_105 : decode cX6_walker 105 = .ok (.iconst (-1), 1) := by decide +kernel
theorem dX6_walker_106 : decode cX6_walker 106 = .ok (.ireturn, 1) := by decide +kernel
theorem dX6_stretch_0 : decode cX6_stretch 0 = .ok (.aload_n 0, 1) := by decide +kernel
theorem dX6_stretch_1 : decode cX6_stretch 1 = .ok (.getfield 19, 3) := by decide +kernel
theorem dX6_stretch_4 : decode cX6_stretch 4 = .ok (.iload_n 1, 1) := by decide +kernel
theorem dX6_stretch_5 : decode cX6_stretch 5 = .ok (.invokevirtual 109, 3) := by decide +kernel
theorem dX6_stretch_8 : decode cX6_stretch 8 = .ok (.ifCond .ne 5, 3) := by decide +kernel
theorem dX6_stretch_11 : decode cX6_stretch 11 = .ok (.iconst (-1), 1) := by decide +kernel
theorem dX6_stretch_12 : decode cX6_stretch 12 = .ok (.ireturn, 1) := by decide +kernel
theorem dX6_stretch_13 : decode cX6_stretch 13 = .ok (.iload_n 2, 1) := by decide +kernel
theorem dX6_stretch_14 : decode cX6_stretch 14 = .ok (.tableswitch 70 0 3 #[30, 40, 50, 60], 30) := by decide +kernel
theorem dX6_stretch_44 : decode cX6_stretch 44 = .ok (.aload_n 0, 1) := by decide +kernel
theorem dX6_stretch_45 : decode cX6_stretch 45 = .ok (.getfield 19, 3) := by decide +kernel
theorem dX6_stretch_48 : decode cX6_stretch 48 = .ok (.getfield 113, 3) := by decide +kernel
theorem dX6_stretch_51 : decode cX6_stretch 51 = .ok (.iload_n 1, 1) := by decide +kernel
theorem dX6_stretch_52 : decode cX6_stretch 52 = .ok (.iaload, 1) := by decide +kernel
theorem dX6_stretch_53 : decode cX6_stretch 53 = .ok (.ireturn, 1) := by decide +kernel
theorem dX6_stretch_54 : decode cX6_stretch 54 = .ok (.aload_n 0, 1) := by decide +kernel
theorem dX6_stretch_55 : decode cX6_stretch 55 = .ok (.getfield 19, 3) := by decide +kernel
theorem dX6_stretch_58 : decode cX6_stretch 58 = .ok (.getfield 116, 3) := by decide +kernel
theorem dX6_stretch_61 : decode cX6_stretch 61 = .ok (.iload_n 1, 1) := by decide +kernel
theorem dX6_stretch_62 : decode cX6_stretch 62 = .ok (.iaload, 1) := by decide +kernel
theorem dX6_stretch_63 : decode cX6_stretch 63 = .ok (.ireturn, 1) := by decide +kernel
theorem dX6_stretch_64 : decode cX6_stretch 64 = .ok (.aload_n 0, 1) := by decide +kernel
theorem dX6_stretch_65 : decode cX6_stretch 65 = .ok (.getfield 19, 3) := by decide +kernel
theorem dX6_stretch_68 : decode cX6_stretch 68 = .ok (.getfield 119, 3) := by decide +kernel
theorem dX6_stretch_71 : decode cX6_stretch 71 = .ok (.iload_n 1, 1) := by decide +kernel
theorem dX6_stretch_72 : decode cX6_stretch 72 = .ok (.iaload, 1) := by decide +kernel
theorem dX6_stretch_73 : decode cX6_stretch 73 = .ok (.ireturn, 1) := by decide +kernel
theorem dX6_stretch_74 : decode cX6_stretch 74 = .ok (.aload_n 0, 1) := by decide +kernel
theorem dX6_stretch_75 : decode cX6_stretch 75 = .ok (.getfield 19, 3) := by decide +kernel
theorem dX6_stretch_78 : decode cX6_stretch 78 = .ok (.getfield 122, 3) := by decide +kernel
theorem dX6_stretch_81 : decode cX6_stretch 81 = .ok (.iload_n 1, 1) := by decide +kernel
theorem dX6_stretch_82 : decode cX6_stretch 82 = .ok (.iaload, 1) := by decide +kernel
theorem dX6_stretch_83 : decode cX6_stretch 83 = .ok (.ireturn, 1) := by decide +kernel
theorem dX6_stretch_84 : decode cX6_stretch 84 = .ok (.iconst (-1), 1) := by decide +kernel
theorem dX6_stretch_85 : decode cX6_stretch 85 = .ok (.ireturn, 1) := by decide +kernel
theorem dX6_takes_0 : decode cX6_takes 0 = .ok (.aload_n 0, 1) := by decide +kernel
theorem dX6_takes_1 : decode cX6_takes 1 = .ok (.getfield 19, 3) := by decide +kernel
theorem dX6_takes_4 : decode cX6_takes 4 = .ok (.iload_n 1, 1) := by decide +kernel
theorem dX6_takes_5 : decode cX6_takes 5 = .ok (.invokevirtual 109, 3) := by decide +kernel
theorem dX6_takes_8 : decode cX6_takes 8 = .ok (.ifCond .eq 14, 3) := by decide +kernel
theorem dX6_takes_11 : decode cX6_takes 11 = .ok (.aload_n 0, 1) := by decide +kernel
theorem dX6_takes_12 : decode cX6_takes 12 = .ok (.getfield 19, 3) := by decide +kernel
theorem dX6_takes_15 : decode cX6_takes 15 = .ok (.iload_n 2, 1) := by decide +kernel
theorem dX6_takes_16 : decode cX6_takes 16 = .ok (.invokevirtual 125, 3) := by decide +kernel
theorem dX6_takes_19 : decode cX6_takes 19 = .ok (.ifCond .ne 5, 3) := by decide +kernel
theorem dX6_takes_22 : decode cX6_takes 22 = .ok (.iconst (-1), 1) := by decide +kernel
theorem dX6_takes_23 : decode cX6_takes 23 = .ok (.ireturn, 1) := by decide +kernel
theorem dX6_takes_24 : decode cX6_takes 24 = .ok (.aload_n 0, 1) := by decide +kernel
theorem dX6_takes_25 : decode cX6_takes 25 = .ok (.getfield 29, 3) := by decide +kernel
theorem dX6_takes_28 : decode cX6_takes 28 = .ok (.getfield 99, 3) := by decide +kernel
theorem dX6_takes_31 : decode cX6_takes 31 = .ok (.aload_n 0, 1) := by decide +kernel
theorem dX6_takes_32 : decode cX6_takes 32 = .ok (.getfield 19, 3) := by decide +kernel
theorem dX6_takes_35 : decode cX6_takes 35 = .ok (.iload_n 1, 1) := by decide +kernel
theorem dX6_takes_36 : decode cX6_takes 36 = .ok (.iload_n 2, 1) := by decide +kernel
theorem dX6_takes_37 : decode cX6_takes 37 = .ok (.invokevirtual 128, 3) := by decide +kernel
theorem dX6_takes_40 : decode cX6_takes 40 = .ok (.ireturn, 1) := by decide +kernel
theorem dX6_walks_0 : decode cX6_walks 0 = .ok (.aload_n 0, 1) := by decide +kernel
theorem dX6_walks_1 : decode cX6_walks 1 = .ok (.getfield 19, 3) := by decide +kernel
theorem dX6_walks_4 : decode cX6_walks 4 = .ok (.iload_n 1, 1) := by decide +kernel
theorem dX6_walks_5 : decode cX6_walks 5 = .ok (.invokevirtual 125, 3) := by decide +kernel
theorem dX6_walks_8 : decode cX6_walks 8 = .ok (.ifCond .ne 5, 3) := by decide +kernel
theorem dX6_walks_11 : decode cX6_walks 11 = .ok (.iconst (-1), 1) := by decide +kernel
theorem dX6_walks_12 : decode cX6_walks 12 = .ok (.ireturn, 1) := by decide +kernel
theorem dX6_walks_13 : decode cX6_walks 13 = .ok (.aload_n 0, 1) := by decide +kernel
theorem dX6_walks_14 : decode cX6_walks 14 = .ok (.getfield 29, 3) := by decide +kernel
theorem dX6_walks_17 : decode cX6_walks 17 = .ok (.getfield 99, 3) := by decide +kernel
theorem dX6_walks_20 : decode cX6_walks 20 = .ok (.getfield 132, 3) := by decide +kernel
theorem dX6_walks_23 : decode cX6_walks 23 = .ok (.aload_n 0, 1) := by decide +kernel
theorem dX6_walks_24 : decode cX6_walks 24 = .ok (.getfield 19, 3) := by decide +kernel
theorem dX6_walks_27 : decode cX6_walks 27 = .ok (.getfield 135, 3) := by decide +kernel
theorem dX6_walks_30 : decode cX6_walks 30 = .ok (.if_icmp .lt 6, 3) := by decide +kernel
theorem dX6_walks_33 : decode cX6_walks 33 = .ok (.bipush (-2), 2) := by decide +kernel
theorem dX6_walks_35 : decode cX6_walks 35 = .ok (.ireturn, 1) := by decide +kernel
theorem dX6_walks_36 : decode cX6_walks 36 = .ok (.aload_n 0, 1) := by decide +kernel
theorem dX6_walks_37 : decode cX6_walks 37 = .ok (.getfield 29, 3) := by decide +kernel
theorem dX6_walks_40 : decode cX6_walks 40 = .ok (.getfield 99, 3) := by decide +kernel
theorem dX6_walks_43 : decode cX6_walks 43 = .ok (.aload_n 0, 1) := by decide +kernel
theorem dX6_walks_44 : decode cX6_walks 44 = .ok (.getfield 19, 3) := by decide +kernel
theorem dX6_walks_47 : decode cX6_walks 47 = .ok (.iload_n 1, 1) := by decide +kernel
theorem dX6_walks_48 : decode cX6_walks 48 = .ok (.invokevirtual 138, 3) := by decide +kernel
theorem dX6_walks_51 : decode cX6_walks 51 = .ok (.istore_n 2, 1) := by decide +kernel
theorem dX6_walks_52 : decode cX6_walks 52 = .ok (.aload_n 0, 1) := by decide +kernel
theorem dX6_walks_53 : decode cX6_walks 53 = .ok (.getfield 29, 3) := by decide +kernel
theorem dX6_walks_56 : decode cX6_walks 56 = .ok (.getfield 99, 3) := by decide +kernel
theorem dX6_walks_59 : decode cX6_walks 59 = .ok (.getfield 142, 3) := by decide +kernel
theorem dX6_walks_62 : decode cX6_walks 62 = .ok (.iload_n 2, 1) := by decide +kernel
theorem dX6_walks_63 : decode cX6_walks 63 = .ok (.iadd, 1) := by decide +kernel
theorem dX6_walks_64 : decode cX6_walks 64 = .ok (.istore_n 3, 1) := by decide +kernel
theorem dX6_walks_65 : decode cX6_walks 65 = .ok (.iload_n 3, 1) := by decide +kernel
theorem dX6_walks_66 : decode cX6_walks 66 = .ok (.sipush 9999, 3) := by decide +kernel
theorem dX6_walks_69 : decode cX6_walks 69 = .ok (.if_icmp .le 6, 3) := by decide +kernel
theorem dX6_walks_72 : decode cX6_walks 72 = .ok (.bipush (-2), 2) := by decide +kernel
theorem dX6_walks_74 : decode cX6_walks 74 = .ok (.ireturn, 1) := by decide +kernel
theorem dX6_walks_75 : decode cX6_walks 75 = .ok (.aload_n 0, 1) := by decide +kernel
theorem dX6_walks_76 : decode cX6_walks 76 = .ok (.getfield 29, 3) := by decide +kernel
theorem dX6_walks_79 : decode cX6_walks 79 = .ok (.invokevirtual 145, 3) := by decide +kernel
theorem dX6_walks_82 : decode cX6_walks 82 = .ok (.aload_n 0, 1) := by decide +kernel
theorem dX6_walks_83 : decode cX6_walks 83 = .ok (.getfield 29, 3) := by decide +kernel
theorem dX6_walks_86 : decode cX6_walks 86 = .ok (.getfield 99, 3) := by decide +kernel
theorem dX6_walks_89 : decode cX6_walks 89 = .ok (.aload_n 0, 1) := by decide +kernel
theorem dX6_walks_90 : decode cX6_walks 90 = .ok (.getfield 19, 3) := by decide +kernel
theorem dX6_walks_93 : decode cX6_walks 93 = .ok (.iload_n 1, 1) := by decide +kernel
theorem dX6_walks_94 : decode cX6_walks 94 = .ok (.iload_n 3, 1) := by decide +kernel
theorem dX6_walks_95 : decode cX6_walks 95 = .ok (.invokevirtual 148, 3) := by decide +kernel
theorem dX6_walks_98 : decode cX6_walks 98 = .ok (.aload_n 0, 1) := by decide +kernel
theorem dX6_walks_99 : decode cX6_walks 99 = .ok (.invokevirtual 87, 3) := by decide +kernel
theorem dX6_walks_102 : decode cX6_walks 102 = .ok (.iload_n 2, 1) := by decide +kernel
theorem dX6_walks_103 : decode cX6_walks 103 = .ok (.ireturn, 1) := by decide +kernel
theorem dX6_backs_0 : decode cX6_backs 0 = .ok (.aload_n 0, 1) := by decide +kernel
theorem dX6_backs_1 : decode cX6_backs 1 = .ok (.getfield 29, 3) := by decide +kernel
theorem dX6_backs_4 : decode cX6_backs 4 = .ok (.getfield 99, 3) := by decide +kernel
theorem dX6_backs_7 : decode cX6_backs 7 = .ok (.astore_n 1, 1) := by decide +kernel
theorem dX6_backs_8 : decode cX6_backs 8 = .ok (.aload_n 1, 1) := by decide +kernel
theorem dX6_backs_9 : decode cX6_backs 9 = .ok (.getfield 132, 3) := by decide +kernel
theorem dX6_backs_12 : decode cX6_backs 12 = .ok (.iconst 1, 1) := by decide +kernel
theorem dX6_backs_13 : decode cX6_backs 13 = .ok (.if_icmp .lt 33, 3) := by decide +kernel
theorem dX6_backs_16 : decode cX6_backs 16 = .ok (.aload_n 0, 1) := by decide +kernel
theorem dX6_backs_17 : decode cX6_backs 17 = .ok (.getfield 19, 3) := by decide +kernel
theorem dX6_backs_20 : decode cX6_backs 20 = .ok (.aload_n 1, 1) := by decide +kernel
theorem dX6_backs_21 : decode cX6_backs 21 = .ok (.getfield 132, 3) := by decide +kernel
theorem dX6_backs_24 : decode cX6_backs 24 = .ok (.iconst 1, 1) := by decide +kernel
theorem dX6_backs_25 : decode cX6_backs 25 = .ok (.isub, 1) := by decide +kernel
theorem dX6_backs_26 : decode cX6_backs 26 = .ok (.invokevirtual 109, 3) := by decide +kernel
theorem dX6_backs_29 : decode cX6_backs 29 = .ok (.ifCond .eq 17, 3) := by decide +kernel
theorem dX6_backs_32 : decode cX6_backs 32 = .ok (.aload_n 0, 1) := by decide +kernel
theorem dX6_backs_33 : decode cX6_backs 33 = .ok (.getfield 19, 3) := by decide +kernel
theorem dX6_backs_36 : decode cX6_backs 36 = .ok (.aload_n 1, 1) := by decide +kernel
theorem dX6_backs_37 : decode cX6_backs 37 = .ok (.getfield 152, 3) := by decide +kernel
theorem dX6_backs_40 : decode cX6_backs 40 = .ok (.invokevirtual 125, 3) := by decide +kernel
theorem dX6_backs_43 : decode cX6_backs 43 = .ok (.ifCond .ne 6, 3) := by decide +kernel
theorem dX6_backs_46 : decode cX6_backs 46 = .ok (.bipush (-2), 2) := by decide +kernel
theorem dX6_backs_48 : decode cX6_backs 48 = .ok (.ireturn, 1) := by decide +kernel
theorem dX6_backs_49 : decode cX6_backs 49 = .ok (.aload_n 1, 1) := by decide +kernel
theorem dX6_backs_50 : decode cX6_backs 50 = .ok (.getfield 132, 3) := by decide +kernel
theorem dX6_backs_53 : decode cX6_backs 53 = .ok (.iconst 1, 1) := by decide +kernel
theorem dX6_backs_54 : decode cX6_backs 54 = .ok (.isub, 1) := by decide +kernel
theorem dX6_backs_55 : decode cX6_backs 55 = .ok (.istore_n 2, 1) := by decide +kernel
theorem dX6_backs_56 : decode cX6_backs 56 = .ok (.iconst 2, 1) := by decide +kernel
theorem dX6_backs_57 : decode cX6_backs 57 = .ok (.aload_n 1, 1) := by decide +kernel
theorem dX6_backs_58 : decode cX6_backs 58 = .ok (.aload_n 0, 1) := by decide +kernel
theorem dX6_backs_59 : decode cX6_backs 59 = .ok (.getfield 19, 3) := by decide +kernel
theorem dX6_backs_62 : decode cX6_backs 62 = .ok (.iload_n 2, 1) := by decide +kernel
theorem dX6_backs_63 : decode cX6_backs 63 = .ok (.aload_n 1, 1) := by decide +kernel
theorem dX6_backs_64 : decode cX6_backs 64 = .ok (.getfield 152, 3) := by decide +kernel
theorem dX6_backs_67 : decode cX6_backs 67 = .ok (.invokevirtual 128, 3) := by decide +kernel
theorem dX6_backs_70 : decode cX6_backs 70 = .ok (.imul, 1) := by decide +kernel
theorem dX6_backs_71 : decode cX6_backs 71 = .ok (.istore_n 3, 1) := by decide +kernel
theorem dX6_backs_72 : decode cX6_backs 72 = .ok (.aload_n 1, 1) := by decide +kernel
theorem dX6_backs_73 : decode cX6_backs 73 = .ok (.getfield 142, 3) := by decide +kernel
theorem dX6_backs_76 : decode cX6_backs 76 = .ok (.iload_n 3, 1) := by decide +kernel
theorem dX6_backs_77 : decode cX6_backs 77 = .ok (.iadd, 1) := by decide +kernel
theorem dX6_backs_78 : decode cX6_backs 78 = .ok (.sipush 9999, 3) := by decide +kernel
theorem dX6_backs_81 : decode cX6_backs 81 = .ok (.if_icmp .le 6, 3) := by decide +kernel
theorem dX6_backs_84 : decode cX6_backs 84 = .ok (.bipush (-2), 2) := by decide +kernel
theorem dX6_backs_86 : decode cX6_backs 86 = .ok (.ireturn, 1) := by decide +kernel
theorem dX6_backs_87 : decode cX6_backs 87 = .ok (.aload_n 0, 1) := by decide +kernel
theorem dX6_backs_88 : decode cX6_backs 88 = .ok (.getfield 29, 3) := by decide +kernel
theorem dX6_backs_91 : decode cX6_backs 91 = .ok (.invokevirtual 145, 3) := by decide +kernel
theorem dX6_backs_94 : decode cX6_backs 94 = .ok (.aload_n 1, 1) := by decide +kernel
theorem dX6_backs_95 : decode cX6_backs 95 = .ok (.iload_n 2, 1) := by decide +kernel
theorem dX6_backs_96 : decode cX6_backs 96 = .ok (.putfield 132, 3) := by decide +kernel
theorem dX6_backs_99 : decode cX6_backs 99 = .ok (.aload_n 1, 1) := by decide +kernel
theorem dX6_backs_100 : decode cX6_backs 100 = .ok (.dup, 1) := by decide +kernel
theorem dX6_backs_101 : decode cX6_backs 101 = .ok (.getfield 142, 3) := by decide +kernel
theorem dX6_backs_104 : decode cX6_backs 104 = .ok (.iload_n 3, 1) := by decide +kernel
theorem dX6_backs_105 : decode cX6_backs 105 = .ok (.iadd, 1) := by decide +kernel
theorem dX6_backs_106 : decode cX6_backs 106 = .ok (.putfield 142, 3) := by decide +kernel
theorem dX6_backs_109 : decode cX6_backs 109 = .ok (.aload_n 1, 1) := by decide +kernel
theorem dX6_backs_110 : decode cX6_backs 110 = .ok (.aload_n 1, 1) := by decide +kernel
theorem dX6_backs_111 : decode cX6_backs 111 = .ok (.getfield 152, 3) := by decide +kernel
theorem dX6_backs_114 : decode cX6_backs 114 = .ok (.aload_n 0, 1) := by decide +kernel
theorem dX6_backs_115 : decode cX6_backs 115 = .ok (.getfield 19, 3) := by decide +kernel
theorem dX6_backs_118 : decode cX6_backs 118 = .ok (.getfield 113, 3) := by decide +kernel
theorem dX6_backs_121 : decode cX6_backs 121 = .ok (.iload_n 2, 1) := by decide +kernel
theorem dX6_backs_122 : decode cX6_backs 122 = .ok (.iaload, 1) := by decide +kernel
theorem dX6_backs_123 : decode cX6_backs 123 = .ok (.invokevirtual 155, 3) := by decide +kernel
theorem dX6_backs_126 : decode cX6_backs 126 = .ok (.aload_n 0, 1) := by decide +kernel
theorem dX6_backs_127 : decode cX6_backs 127 = .ok (.invokevirtual 87, 3) := by decide +kernel
theorem dX6_backs_130 : decode cX6_backs 130 = .ok (.iload_n 3, 1) := by decide +kernel
theorem dX6_backs_131 : decode cX6_backs 131 = .ok (.ireturn, 1) := by decide +kernel
theorem dX6_rests_0 : decode cX6_rests 0 = .ok (.iload_n 1, 1) := by decide +kernel
theorem dX6_rests_1 : decode cX6_rests 1 = .ok (.iconst 1, 1) := by decide +kernel
theorem dX6_rests_2 : decode cX6_rests 2 = .ok (.if_icmp .lt 9, 3) := by decide +kernel
theorem dX6_rests_5 : decode cX6_rests 5 = .ok (.iload_n 1, 1) := by decide +kernel
theorem dX6_rests_6 : decode cX6_rests 6 = .ok (.bipush 99, 2) := by decide +kernel
theorem dX6_rests_8 : decode cX6_rests 8 = .ok (.if_icmp .le 5, 3) := by decide +kernel
theorem dX6_rests_11 : decode cX6_rests 11 = .ok (.iconst (-1), 1) := by decide +kernel
theorem dX6_rests_12 : decode cX6_rests 12 = .ok (.ireturn, 1) := by decide +kernel
theorem dX6_rests_13 : decode cX6_rests 13 = .ok (.aload_n 0, 1) := by decide +kernel
theorem dX6_rests_14 : decode cX6_rests 14 = .ok (.getfield 29, 3) := by decide +kernel
theorem dX6_rests_17 : decode cX6_rests 17 = .ok (.getfield 99, 3) := by decide +kernel
theorem dX6_rests_20 : decode cX6_rests 20 = .ok (.getfield 142, 3) := by decide +kernel
theorem dX6_rests_23 : decode cX6_rests 23 = .ok (.iload_n 1, 1) := by decide +kernel
theorem dX6_rests_24 : decode cX6_rests 24 = .ok (.iadd, 1) := by decide +kernel
theorem dX6_rests_25 : decode cX6_rests 25 = .ok (.sipush 9999, 3) := by decide +kernel
theorem dX6_rests_28 : decode cX6_rests 28 = .ok (.if_icmp .le 6, 3) := by decide +kernel
theorem dX6_rests_31 : decode cX6_rests 31 = .ok (.bipush (-2), 2) := by decide +kernel
theorem dX6_rests_33 : decode cX6_rests 33 = .ok (.ireturn, 1) := by decide +kernel
theorem dX6_rests_34 : decode cX6_rests 34 = .ok (.aload_n 0, 1) := by decide +kernel
theorem dX6_rests_35 : decode cX6_rests 35 = .ok (.getfield 29, 3) := by decide +kernel
theorem dX6_rests_38 : decode cX6_rests 38 = .ok (.invokevirtual 145, 3) := by decide +kernel
theorem dX6_rests_41 : decode cX6_rests 41 = .ok (.aload_n 0, 1) := by decide +kernel
theorem dX6_rests_42 : decode cX6_rests 42 = .ok (.getfield 29, 3) := by decide +kernel
theorem dX6_rests_45 : decode cX6_rests 45 = .ok (.getfield 99, 3) := by decide +kernel
theorem dX6_rests_48 : decode cX6_rests 48 = .ok (.dup, 1) := by decide +kernel
theorem dX6_rests_49 : decode cX6_rests 49 = .ok (.getfield 142, 3) := by decide +kernel
theorem dX6_rests_52 : decode cX6_rests 52 = .ok (.iload_n 1, 1) := by decide +kernel
theorem dX6_rests_53 : decode cX6_rests 53 = .ok (.iadd, 1) := by decide +kernel
theorem dX6_rests_54 : decode cX6_rests 54 = .ok (.putfield 142, 3) := by decide +kernel
theorem dX6_rests_57 : decode cX6_rests 57 = .ok (.aload_n 0, 1) := by decide +kernel
theorem dX6_rests_58 : decode cX6_rests 58 = .ok (.getfield 29, 3) := by decide +kernel
theorem dX6_rests_61 : decode cX6_rests 61 = .ok (.getfield 99, 3) := by decide +kernel
theorem dX6_rests_64 : decode cX6_rests 64 = .ok (.iload_n 1, 1) := by decide +kernel
theorem dX6_rests_65 : decode cX6_rests 65 = .ok (.invokevirtual 159, 3) := by decide +kernel
theorem dX6_rests_68 : decode cX6_rests 68 = .ok (.aload_n 0, 1) := by decide +kernel
theorem dX6_rests_69 : decode cX6_rests 69 = .ok (.invokevirtual 87, 3) := by decide +kernel
theorem dX6_rests_72 : decode cX6_rests 72 = .ok (.aload_n 0, 1) := by decide +kernel
theorem dX6_rests_73 : decode cX6_rests 73 = .ok (.getfield 29, 3) := by decide +kernel
theorem dX6_rests_76 : decode cX6_rests 76 = .ok (.getfield 99, 3) := by decide +kernel
theorem dX6_rests_79 : decode cX6_rests 79 = .ok (.getfield 142, 3) := by decide +kernel
theorem dX6_rests_82 : decode cX6_rests 82 = .ok (.ireturn, 1) := by decide +kernel
theorem dX6_undo_0 : decode cX6_undo 0 = .ok (.aload_n 0, 1) := by decide +kernel
theorem dX6_undo_1 : decode cX6_undo 1 = .ok (.getfield 29, 3) := by decide +kernel
theorem dX6_undo_4 : decode cX6_undo 4 = .ok (.getfield 163, 3) := by decide +kernel
theorem dX6_undo_7 : decode cX6_undo 7 = .ok (.iconst 1, 1) := by decide +kernel
theorem dX6_undo_8 : decode cX6_undo 8 = .ok (.if_icmp .ge 6, 3) := by decide +kernel
theorem dX6_undo_11 : decode cX6_undo 11 = .ok (.bipush (-2), 2) := by decide +kernel
theorem dX6_undo_13 : decode cX6_undo 13 = .ok (.ireturn, 1) := by decide +kernel
theorem dX6_undo_14 : decode cX6_undo 14 = .ok (.aload_n 0, 1) := by decide +kernel
theorem dX6_undo_15 : decode cX6_undo 15 = .ok (.getfield 29, 3) := by decide +kernel
theorem dX6_undo_18 : decode cX6_undo 18 = .ok (.invokevirtual 166, 3) := by decide +kernel
theorem dX6_undo_21 : decode cX6_undo 21 = .ok (.aload_n 0, 1) := by decide +kernel
theorem dX6_undo_22 : decode cX6_undo 22 = .ok (.invokevirtual 87, 3) := by decide +kernel
theorem dX6_undo_25 : decode cX6_undo 25 = .ok (.aload_n 0, 1) := by decide +kernel
theorem dX6_undo_26 : decode cX6_undo 26 = .ok (.getfield 29, 3) := by decide +kernel
theorem dX6_undo_29 : decode cX6_undo 29 = .ok (.getfield 163, 3) := by decide +kernel
theorem dX6_undo_32 : decode cX6_undo 32 = .ok (.ireturn, 1) := by decide +kernel
theorem dX6_now_0 : decode cX6_now 0 = .ok (.aload_n 0, 1) := by decide +kernel
theorem dX6_now_1 : decode cX6_now 1 = .ok (.getfield 29, 3) := by decide +kernel
theorem dX6_now_4 : decode cX6_now 4 = .ok (.getfield 99, 3) := by decide +kernel
theorem dX6_now_7 : decode cX6_now 7 = .ok (.astore_n 2, 1) := by decide +kernel
theorem dX6_now_8 : decode cX6_now 8 = .ok (.iload_n 1, 1) := by decide +kernel
theorem dX6_now_9 : decode cX6_now 9 = .ok (.tableswitch 126 0 6 #[43, 48, 53, 58, 67, 87, 106], 43) := by decide +kernel
theorem dX6_now_52 : decode cX6_now 52 = .ok (.aload_n 2, 1) := by decide +kernel
theorem dX6_now_53 : decode cX6_now 53 = .ok (.getfield 132, 3) := by decide +kernel
theorem dX6_now_56 : decode cX6_now 56 = .ok (.ireturn, 1) := by decide +kernel
theorem dX6_now_57 : decode cX6_now 57 = .ok (.aload_n 2, 1) := by decide +kernel
theorem dX6_now_58 : decode cX6_now 58 = .ok (.getfield 142, 3) := by decide +kernel
theorem dX6_now_61 : decode cX6_now 61 = .ok (.ireturn, 1) := by decide +kernel
theorem dX6_now_62 : decode cX6_now 62 = .ok (.aload_n 2, 1) := by decide +kernel
theorem dX6_now_63 : decode cX6_now 63 = .ok (.getfield 152, 3) := by decide +kernel
theorem dX6_now_66 : decode cX6_now 66 = .ok (.ireturn, 1) := by decide +kernel
theorem dX6_now_67 : decode cX6_now 67 = .ok (.aload_n 2, 1) := by decide +kernel
theorem dX6_now_68 : decode cX6_now 68 = .ok (.aload_n 0, 1) := by decide +kernel
theorem dX6_now_69 : decode cX6_now 69 = .ok (.getfield 19, 3) := by decide +kernel
theorem dX6_now_72 : decode cX6_now 72 = .ok (.invokevirtual 169, 3) := by decide +kernel
theorem dX6_now_75 : decode cX6_now 75 = .ok (.ireturn, 1) := by decide +kernel
theorem dX6_now_76 : decode cX6_now 76 = .ok (.aload_n 0, 1) := by decide +kernel
theorem dX6_now_77 : decode cX6_now 77 = .ok (.getfield 19, 3) := by decide +kernel
theorem dX6_now_80 : decode cX6_now 80 = .ok (.aload_n 2, 1) := by decide +kernel
theorem dX6_now_81 : decode cX6_now 81 = .ok (.getfield 142, 3) := by decide +kernel
theorem dX6_now_84 : decode cX6_now 84 = .ok (.invokevirtual 172, 3) := by decide +kernel
theorem dX6_now_87 : decode cX6_now 87 = .ok (.ifCond .eq 7, 3) := by decide +kernel
theorem dX6_now_90 : decode cX6_now 90 = .ok (.iconst 1, 1) := by decide +kernel
theorem dX6_now_91 : decode cX6_now 91 = .ok (.goto 4, 3) := by decide +kernel
theorem dX6_now_94 : decode cX6_now 94 = .ok (.iconst 0, 1) := by decide +kernel
theorem dX6_now_95 : decode cX6_now 95 = .ok (.ireturn, 1) := by decide +kernel
theorem dX6_now_96 : decode cX6_now 96 = .ok (.aload_n 0, 1) := by decide +kernel
theorem dX6_now_97 : decode cX6_now 97 = .ok (.getfield 19, 3) := by decide +kernel
theorem dX6_now_100 : decode cX6_now 100 = .ok (.aload_n 2, 1) := by decide +kernel
theorem dX6_now_101 : decode cX6_now 101 = .ok (.getfield 132, 3) := by decide +kernel
theorem dX6_now_104 : decode cX6_now 104 = .ok (.aload_n 0, 1) := by decide +kernel
theorem dX6_now_105 : decode cX6_now 105 = .ok (.getfield 19, 3) := by decide +kernel
theorem dX6_now_108 : decode cX6_now 108 = .ok (.getfield 135, 3) := by decide +kernel
theorem dX6_now_111 : decode cX6_now 111 = .ok (.invokevirtual 175, 3) := by decide +kernel
theorem dX6_now_114 : decode cX6_now 114 = .ok (.ireturn, 1) := by decide +kernel
theorem dX6_now_115 : decode cX6_now 115 = .ok (.aload_n 2, 1) := by decide +kernel
theorem dX6_now_116 : decode cX6_now 116 = .ok (.getfield 132, 3) := by decide +kernel
theorem dX6_now_119 : decode cX6_now 119 = .ok (.aload_n 0, 1) := by decide +kernel
theorem dX6_now_120 : decode cX6_now 120 = .ok (.getfield 19, 3) := by decide +kernel
theorem dX6_now_123 : decode cX6_now 123 = .ok (.getfield 135, 3) := by decide +kernel
theorem dX6_now_126 : decode cX6_now 126 = .ok (.if_icmp .lt 7, 3) := by decide +kernel
theorem dX6_now_129 : decode cX6_now 129 = .ok (.iconst 1, 1) := by decide +kernel
theorem dX6_now_130 : decode cX6_now 130 = .ok (.goto 4, 3) := by decide +kernel
theorem dX6_now_133 : decode cX6_now 133 = .ok (.iconst 0, 1) := by decide +kernel
theorem dX6_now_134 : decode cX6_now 134 = .ok (.ireturn, 1) := by decide +kernel
theorem dX6_now_135 : decode cX6_now 135 = .ok (.iconst (-1), 1) := by decide +kernel
theorem dX6_now_136 : decode cX6_now 136 = .ok (.ireturn, 1) := by decide +kernel
theorem dX6_moved_0 : decode cX6_moved 0 = .ok (.aload_n 0, 1) := by decide +kernel
theorem dX6_moved_1 : decode cX6_moved 1 = .ok (.getfield 53, 3) := by decide +kernel
theorem dX6_moved_4 : decode cX6_moved 4 = .ok (.iconst 0, 1) := by decide +kernel
theorem dX6_moved_5 : decode cX6_moved 5 = .ok (.putfield 179, 3) := by decide +kernel
theorem dX6_moved_8 : decode cX6_moved 8 = .ok (.aload_n 0, 1) := by decide +kernel
theorem dX6_moved_9 : decode cX6_moved 9 = .ok (.getfield 57, 3) := by decide +kernel
theorem dX6_moved_12 : decode cX6_moved 12 = .ok (.iconst 0, 1) := by decide +kernel
theorem dX6_moved_13 : decode cX6_moved 13 = .ok (.putfield 179, 3) := by decide +kernel
theorem dX6_moved_16 : decode cX6_moved 16 = .ok (.return_, 1) := by decide +kernel
theorem dX6_best_0 : decode cX6_best 0 = .ok (.aload_n 0, 1) := by decide +kernel
theorem dX6_best_1 : decode cX6_best 1 = .ok (.aload_n 0, 1) := by decide +kernel
theorem dX6_best_2 : decode cX6_best 2 = .ok (.getfield 53, 3) := by decide +kernel
theorem dX6_best_5 : decode cX6_best 5 = .ok (.iload_n 1, 1) := by decide +kernel
theorem dX6_best_6 : decode cX6_best 6 = .ok (.invokevirtual 182, 3) := by decide +kernel
theorem dX6_best_9 : decode cX6_best 9 = .ok (.ireturn, 1) := by decide +kernel
theorem dX6_fresh_0 : decode cX6_fresh 0 = .ok (.aload_n 0, 1) := by decide +kernel
theorem dX6_fresh_1 : decode cX6_fresh 1 = .ok (.aload_n 0, 1) := by decide +kernel
theorem dX6_fresh_2 : decode cX6_fresh 2 = .ok (.getfield 57, 3) := by decide +kernel
theorem dX6_fresh_5 : decode cX6_fresh 5 = .ok (.iload_n 1, 1) := by decide +kernel
theorem dX6_fresh_6 : decode cX6_fresh 6 = .ok (.invokevirtual 182, 3) := by decide +kernel
theorem dX6_fresh_9 : decode cX6_fresh 9 = .ok (.ireturn, 1) := by decide +kernel
theorem dX6_planned_0 : decode cX6_planned 0 = .ok (.iload_n 2, 1) := by decide +kernel
theorem dX6_planned_1 : decode cX6_planned 1 = .ok (.iconst (-1), 1) := by decide +kernel
theorem dX6_planned_2 : decode cX6_planned 2 = .ok (.if_icmp .lt 9, 3) := by decide +kernel
theorem dX6_planned_5 : decode cX6_planned 5 = .ok (.iload_n 2, 1) := by decide +kernel
theorem dX6_planned_6 : decode cX6_planned 6 = .ok (.bipush 6, 2) := by decide +kernel
theorem dX6_planned_8 : decode cX6_planned 8 = .ok (.if_icmp .lt 5, 3) := by decide +kernel
theorem dX6_planned_11 : decode cX6_planned 11 = .ok (.iconst (-1), 1) := by decide +kernel
theorem dX6_planned_12 : decode cX6_planned 12 = .ok (.ireturn, 1) := by decide +kernel
theorem dX6_planned_13 : decode cX6_planned 13 = .ok (.aload_n 1, 1) := by decide +kernel
theorem dX6_planned_14 : decode cX6_planned 14 = .ok (.getfield 179, 3) := by decide +kernel
theorem dX6_planned_17 : decode cX6_planned 17 = .ok (.ifCond .ne 18, 3) := by decide +kernel
theorem dX6_planned_20 : decode cX6_planned 20 = .ok (.aload_n 1, 1) := by decide +kernel
theorem dX6_planned_21 : decode cX6_planned 21 = .ok (.aload_n 0, 1) := by decide +kernel
theorem dX6_planned_22 : decode cX6_planned 22 = .ok (.getfield 19, 3) := by decide +kernel
theorem dX6_planned_25 : decode cX6_planned 25 = .ok (.aload_n 0, 1) := by decide +kernel
theorem dX6_planned_26 : decode cX6_planned 26 = .ok (.getfield 29, 3) := by decide +kernel
theorem dX6_planned_29 : decode cX6_planned 29 = .ok (.getfield 99, 3) := by decide +kernel
theorem dX6_planned_32 : decode cX6_planned 32 = .ok (.invokevirtual 185, 3) := by decide +kernel
theorem dX6_planned_35 : decode cX6_planned 35 = .ok (.iload_n 2, 1) := by decide +kernel
theorem dX6_planned_36 : decode cX6_planned 36 = .ok (.ifCond .ge 10, 3) := by decide +kernel
theorem dX6_planned_39 : decode cX6_planned 39 = .ok (.aload_n 1, 1) := by decide +kernel
theorem dX6_planned_40 : decode cX6_planned 40 = .ok (.getfield 189, 3) := by decide +kernel
theorem dX6_planned_43 : decode cX6_planned 43 = .ok (.goto 9, 3) := by decide +kernel
theorem dX6_planned_46 : decode cX6_planned 46 = .ok (.aload_n 1, 1) := by decide +kernel
theorem dX6_planned_47 : decode cX6_planned 47 = .ok (.getfield 192, 3) := by decide +kernel
theorem dX6_planned_50 : decode cX6_planned 50 = .ok (.iload_n 2, 1) := by decide +kernel
theorem dX6_planned_51 : decode cX6_planned 51 = .ok (.iaload, 1) := by decide +kernel
theorem dX6_planned_52 : decode cX6_planned 52 = .ok (.ireturn, 1) := by decide +kernel
theorem dX6_hired_0 : decode cX6_hired 0 = .ok (.aload_n 0, 1) := by decide +kernel
theorem dX6_hired_1 : decode cX6_hired 1 = .ok (.getfield 19, 3) := by decide +kernel
theorem dX6_hired_4 : decode cX6_hired 4 = .ok (.iload_n 1, 1) := by decide +kernel
theorem dX6_hired_5 : decode cX6_hired 5 = .ok (.invokevirtual 125, 3) := by decide +kernel
theorem dX6_hired_8 : decode cX6_hired 8 = .ok (.ifCond .eq 22, 3) := by decide +kernel
theorem dX6_hired_11 : decode cX6_hired 11 = .ok (.iload_n 2, 1) := by decide +kernel
theorem dX6_hired_12 : decode cX6_hired 12 = .ok (.ifCond .lt 18, 3) := by decide +kernel
theorem dX6_hired_15 : decode cX6_hired 15 = .ok (.iload_n 2, 1) := by decide +kernel
theorem dX6_hired_16 : decode cX6_hired 16 = .ok (.bipush 99, 2) := by decide +kernel
theorem dX6_hired_18 : decode cX6_hired 18 = .ok (.if_icmp .gt 12, 3) := by decide +kernel
theorem dX6_hired_21 : decode cX6_hired 21 = .ok (.iload_n 3, 1) := by decide +kernel
theorem dX6_hired_22 : decode cX6_hired 22 = .ok (.ifCond .lt 8, 3) := by decide +kernel
theorem dX6_hired_25 : decode cX6_hired 25 = .ok (.iload_n 3, 1) := by decide +kernel
theorem dX6_hired_26 : decode cX6_hired 26 = .ok (.iconst 1, 1) := by decide +kernel
theorem dX6_hired_27 : decode cX6_hired 27 = .ok (.if_icmp .le 5, 3) := by decide +kernel
theorem dX6_hired_30 : decode cX6_hired 30 = .ok (.iconst (-1), 1) := by decide +kernel
theorem dX6_hired_31 : decode cX6_hired 31 = .ok (.ireturn, 1) := by decide +kernel
theorem dX6_hired_32 : decode cX6_hired 32 = .ok (.iconst 1, 1) := by decide +kernel
theorem dX6_hired_33 : decode cX6_hired 33 = .ok (.aload_n 0, 1) := by decide +kernel
theorem dX6_hired_34 : decode cX6_hired 34 = .ok (.getfield 19, 3) := by decide +kernel
theorem dX6_hired_37 : decode cX6_hired 37 = .ok (.getfield 135, 3) := by decide +kernel
theorem dX6_hired_40 : decode cX6_hired 40 = .ok (.ishl, 1) := by decide +kernel
theorem dX6_hired_41 : decode cX6_hired 41 = .ok (.iconst 1, 1) := by decide +kernel
theorem dX6_hired_42 : decode cX6_hired 42 = .ok (.isub, 1) := by decide +kernel
theorem dX6_hired_43 : decode cX6_hired 43 = .ok (.istore 4, 2) := by decide +kernel
theorem dX6_hired_45 : decode cX6_hired 45 = .ok (.iconst 1, 1) := by decide +kernel
theorem dX6_hired_46 : decode cX6_hired 46 = .ok (.aload_n 0, 1) := by decide +kernel
theorem dX6_hired_47 : decode cX6_hired 47 = .ok (.getfield 29, 3) := by decide +kernel
theorem dX6_hired_50 : decode cX6_hired 50 = .ok (.getfield 99, 3) := by decide +kernel
theorem dX6_hired_53 : decode cX6_hired 53 = .ok (.getfield 132, 3) := by decide +kernel
theorem dX6_hired_56 : decode cX6_hired 56 = .ok (.ishl, 1) := by decide +kernel
theorem dX6_hired_57 : decode cX6_hired 57 = .ok (.iconst 1, 1) := by decide +kernel
theorem dX6_hired_58 : decode cX6_hired 58 = .ok (.isub, 1) := by decide +kernel
theorem dX6_hired_59 : decode cX6_hired 59 = .ok (.istore 5, 2) := by decide +kernel
theorem dX6_hired_61 : decode cX6_hired 61 = .ok (.iconst 0, 1) := by decide +kernel
theorem dX6_hired_62 : decode cX6_hired 62 = .ok (.istore 6, 2) := by decide +kernel
theorem dX6_hired_64 : decode cX6_hired 64 = .ok (.iconst 0, 1) := by decide +kernel
theorem dX6_hired_65 : decode cX6_hired 65 = .ok (.istore 7, 2) := by decide +kernel
theorem dX6_hired_67 : decode cX6_hired 67 = .ok (.aload_n 0, 1) := by decide +kernel
theorem dX6_hired_68 : decode cX6_hired 68 = .ok (.iload_n 1, 1) := by decide +kernel
theorem dX6_hired_69 : decode cX6_hired 69 = .ok (.iconst 0, 1) := by decide +kernel
theorem dX6_hired_70 : decode cX6_hired 70 = .ok (.invokevirtual 195, 3) := by decide +kernel
theorem dX6_hired_73 : decode cX6_hired 73 = .ok (.istore 8, 2) := by decide +kernel
theorem dX6_hired_75 : decode cX6_hired 75 = .ok (.iconst 1, 1) := by decide +kernel
theorem dX6_hired_76 : decode cX6_hired 76 = .ok (.istore 9, 2) := by decide +kernel
theorem dX6_hired_78 : decode cX6_hired 78 = .ok (.iload 9, 2) := by decide +kernel
theorem dX6_hired_80 : decode cX6_hired 80 = .ok (.iload 4, 2) := by decide +kernel
theorem dX6_hired_82 : decode cX6_hired 82 = .ok (.if_icmp .gt 79, 3) := by decide +kernel
theorem dX6_hired_85 : decode cX6_hired 85 = .ok (.aload_n 0, 1) := by decide +kernel
theorem dX6_hired_86 : decode cX6_hired 86 = .ok (.getfield 19, 3) := by decide +kernel
theorem dX6_hired_89 : decode cX6_hired 89 = .ok (.iload 9, 2) := by decide +kernel
theorem dX6_hired_91 : decode cX6_hired 91 = .ok (.invokevirtual 198, 3) := by decide +kernel
theorem dX6_hired_94 : decode cX6_hired 94 = .ok (.istore 10, 2) := by decide +kernel
theorem dX6_hired_96 : decode cX6_hired 96 = .ok (.iload 9, 2) := by decide +kernel
theorem dX6_hired_98 : decode cX6_hired 98 = .ok (.iload 5, 2) := by decide +kernel
theorem dX6_hired_100 : decode cX6_hired 100 = .ok (.iand, 1) := by decide +kernel
theorem dX6_hired_101 : decode cX6_hired 101 = .ok (.ifCond .ne 54, 3) := by decide +kernel
theorem dX6_hired_104 : decode cX6_hired 104 = .ok (.iload 10, 2) := by decide +kernel
theorem dX6_hired_106 : decode cX6_hired 106 = .ok (.iload_n 2, 1) := by decide +kernel
theorem dX6_hired_107 : decode cX6_hired 107 = .ok (.if_icmp .le 6, 3) := by decide +kernel
theorem dX6_hired_110 : decode cX6_hired 110 = .ok (.goto 45, 3) := by decide +kernel
theorem dX6_hired_113 : decode cX6_hired 113 = .ok (.aload_n 0, 1) := by decide +kernel
theorem dX6_hired_114 : decode cX6_hired 114 = .ok (.iload_n 1, 1) := by decide +kernel
theorem dX6_hired_115 : decode cX6_hired 115 = .ok (.iload 9, 2) := by decide +kernel
theorem dX6_hired_117 : decode cX6_hired 117 = .ok (.invokevirtual 195, 3) := by decide +kernel
theorem dX6_hired_120 : decode cX6_hired 120 = .ok (.istore 11, 2) := by decide +kernel
theorem dX6_hired_122 : decode cX6_hired 122 = .ok (.iload 11, 2) := by decide +kernel
theorem dX6_hired_124 : decode cX6_hired 124 = .ok (.iload 8, 2) := by decide +kernel
theorem dX6_hired_126 : decode cX6_hired 126 = .ok (.if_icmp .lt 17, 3) := by decide +kernel
theorem dX6_hired_129 : decode cX6_hired 129 = .ok (.iload 11, 2) := by decide +kernel
theorem dX6_hired_131 : decode cX6_hired 131 = .ok (.iload 8, 2) := by decide +kernel
theorem dX6_hired_133 : decode cX6_hired 133 = .ok (.if_icmp .ne 22, 3) := by decide +kernel
theorem dX6_hired_136 : decode cX6_hired 136 = .ok (.iload 10, 2) := by decide +kernel
theorem dX6_hired_138 : decode cX6_hired 138 = .ok (.iload 7, 2) := by decide +kernel
theorem dX6_hired_140 : decode cX6_hired 140 = .ok (.if_icmp .ge 15, 3) := by decide +kernel
theorem dX6_hired_143 : decode cX6_hired 143 = .ok (.iload 9, 2) := by decide +kernel
theorem dX6_hired_145 : decode cX6_hired 145 = .ok (.istore 6, 2) := by decide +kernel
theorem dX6_hired_147 : decode cX6_hired 147 = .ok (.iload 10, 2) := by decide +kernel
theorem dX6_hired_149 : decode cX6_hired 149 = .ok (.istore 7, 2) := by decide +kernel
theorem dX6_hired_151 : decode cX6_hired 151 = .ok (.iload 11, 2) := by decide +kernel
theorem dX6_hired_153 : decode cX6_hired 153 = .ok (.istore 8, 2) := by decide +kernel
theorem dX6_hired_155 : decode cX6_hired 155 = .ok (.iinc 9 1, 3) := by decide +kernel
theorem dX6_hired_158 : decode cX6_hired 158 = .ok (.goto (-80), 3) := by decide +kernel
theorem dX6_hired_161 : decode cX6_hired 161 = .ok (.iload_n 3, 1) := by decide +kernel
theorem dX6_hired_162 : decode cX6_hired 162 = .ok (.ifCond .ne 8, 3) := by decide +kernel
theorem dX6_hired_165 : decode cX6_hired 165 = .ok (.iload 6, 2) := by decide +kernel
theorem dX6_hired_167 : decode cX6_hired 167 = .ok (.goto 5, 3) := by decide +kernel
theorem dX6_hired_170 : decode cX6_hired 170 = .ok (.iload 8, 2) := by decide +kernel
theorem dX6_hired_172 : decode cX6_hired 172 = .ok (.ireturn, 1) := by decide +kernel
theorem dX6_minutesWithHired_0 : decode cX6_minutesWithHired 0 = .ok (.aload_n 0, 1) := by decide +kernel
theorem dX6_minutesWithHired_1 : decode cX6_minutesWithHired 1 = .ok (.getfield 63, 3) := by decide +kernel
theorem dX6_minutesWithHired_4 : decode cX6_minutesWithHired 4 = .ok (.aload_n 0, 1) := by decide +kernel
theorem dX6_minutesWithHired_5 : decode cX6_minutesWithHired 5 = .ok (.getfield 29, 3) := by decide +kernel
theorem dX6_minutesWithHired_8 : decode cX6_minutesWithHired 8 = .ok (.getfield 99, 3) := by decide +kernel
theorem dX6_minutesWithHired_11 : decode cX6_minutesWithHired 11 = .ok (.invokevirtual 202, 3) := by decide +kernel
theorem dX6_minutesWithHired_14 : decode cX6_minutesWithHired 14 = .ok (.iconst 0, 1) := by decide +kernel
theorem dX6_minutesWithHired_15 : decode cX6_minutesWithHired 15 = .ok (.istore_n 3, 1) := by decide +kernel
theorem dX6_minutesWithHired_16 : decode cX6_minutesWithHired 16 = .ok (.aload_n 0, 1) := by decide +kernel
theorem dX6_minutesWithHired_17 : decode cX6_minutesWithHired 17 = .ok (.getfield 29, 3) := by decide +kernel
theorem dX6_minutesWithHired_20 : decode cX6_minutesWithHired 20 = .ok (.getfield 99, 3) := by decide +kernel
theorem dX6_minutesWithHired_23 : decode cX6_minutesWithHired 23 = .ok (.getfield 132, 3) := by decide +kernel
theorem dX6_minutesWithHired_26 : decode cX6_minutesWithHired 26 = .ok (.istore 4, 2) := by decide +kernel
theorem dX6_minutesWithHired_28 : decode cX6_minutesWithHired 28 = .ok (.iload 4, 2) := by decide +kernel
theorem dX6_minutesWithHired_30 : decode cX6_minutesWithHired 30 = .ok (.aload_n 0, 1) := by decide +kernel
theorem dX6_minutesWithHired_31 : decode cX6_minutesWithHired 31 = .ok (.getfield 19, 3) := by decide +kernel
theorem dX6_minutesWithHired_34 : decode cX6_minutesWithHired 34 = .ok (.getfield 135, 3) := by decide +kernel
theorem dX6_minutesWithHired_37 : decode cX6_minutesWithHired 37 = .ok (.if_icmp .ge 89, 3) := by decide +kernel
theorem dX6_minutesWithHired_40 : decode cX6_minutesWithHired 40 = .ok (.iload_n 2, 1) := by decide +kernel
theorem dX6_minutesWithHired_41 : decode cX6_minutesWithHired 41 = .ok (.iload 4, 2) := by decide +kernel
theorem dX6_minutesWithHired_43 : decode cX6_minutesWithHired 43 = .ok (.ishr, 1) := by decide +kernel
theorem dX6_minutesWithHired_44 : decode cX6_minutesWithHired 44 = .ok (.iconst 1, 1) := by decide +kernel
theorem dX6_minutesWithHired_45 : decode cX6_minutesWithHired 45 = .ok (.iand, 1) := by decide +kernel
theorem dX6_minutesWithHired_46 : decode cX6_minutesWithHired 46 = .ok (.iconst 1, 1) := by decide +kernel
theorem dX6_minutesWithHired_47 : decode cX6_minutesWithHired 47 = .ok (.if_icmp .ne 38, 3) := by decide +kernel
theorem dX6_minutesWithHired_50 : decode cX6_minutesWithHired 50 = .ok (.iload_n 3, 1) := by decide +kernel
theorem dX6_minutesWithHired_51 : decode cX6_minutesWithHired 51 = .ok (.iconst 3, 1) := by decide +kernel
theorem dX6_minutesWithHired_52 : decode cX6_minutesWithHired 52 = .ok (.aload_n 0, 1) := by decide +kernel
theorem dX6_minutesWithHired_53 : decode cX6_minutesWithHired 53 = .ok (.getfield 19, 3) := by decide +kernel
theorem dX6_minutesWithHired_56 : decode cX6_minutesWithHired 56 = .ok (.getfield 113, 3) := by decide +kernel
theorem dX6_minutesWithHired_59 : decode cX6_minutesWithHired 59 = .ok (.iload 4, 2) := by decide +kernel
theorem dX6_minutesWithHired_61 : decode cX6_minutesWithHired 61 = .ok (.iaload, 1) := by decide +kernel
theorem dX6_minutesWithHired_62 : decode cX6_minutesWithHired 62 = .ok (.imul, 1) := by decide +kernel
theorem dX6_minutesWithHired_63 : decode cX6_minutesWithHired 63 = .ok (.iadd, 1) := by decide +kernel
theorem dX6_minutesWithHired_64 : decode cX6_minutesWithHired 64 = .ok (.istore_n 3, 1) := by decide +kernel
theorem dX6_minutesWithHired_65 : decode cX6_minutesWithHired 65 = .ok (.aload_n 0, 1) := by decide +kernel
theorem dX6_minutesWithHired_66 : decode cX6_minutesWithHired 66 = .ok (.getfield 63, 3) := by decide +kernel
theorem dX6_minutesWithHired_69 : decode cX6_minutesWithHired 69 = .ok (.aload_n 0, 1) := by decide +kernel
theorem dX6_minutesWithHired_70 : decode cX6_minutesWithHired 70 = .ok (.getfield 19, 3) := by decide +kernel
theorem dX6_minutesWithHired_73 : decode cX6_minutesWithHired 73 = .ok (.getfield 113, 3) := by decide +kernel
theorem dX6_minutesWithHired_76 : decode cX6_minutesWithHired 76 = .ok (.iload 4, 2) := by decide +kernel
theorem dX6_minutesWithHired_78 : decode cX6_minutesWithHired 78 = .ok (.iaload, 1) := by decide +kernel
theorem dX6_minutesWithHired_79 : decode cX6_minutesWithHired 79 = .ok (.invokevirtual 159, 3) := by decide +kernel
theorem dX6_minutesWithHired_82 : decode cX6_minutesWithHired 82 = .ok (.goto 38, 3) := by decide +kernel
theorem dX6_minutesWithHired_85 : decode cX6_minutesWithHired 85 = .ok (.iload_n 3, 1) := by decide +kernel
theorem dX6_minutesWithHired_86 : decode cX6_minutesWithHired 86 = .ok (.aload_n 0, 1) := by decide +kernel
theorem dX6_minutesWithHired_87 : decode cX6_minutesWithHired 87 = .ok (.getfield 63, 3) := by decide +kernel
theorem dX6_minutesWithHired_90 : decode cX6_minutesWithHired 90 = .ok (.aload_n 0, 1) := by decide +kernel
theorem dX6_minutesWithHired_91 : decode cX6_minutesWithHired 91 = .ok (.getfield 19, 3) := by decide +kernel
theorem dX6_minutesWithHired_94 : decode cX6_minutesWithHired 94 = .ok (.iload 4, 2) := by decide +kernel
theorem dX6_minutesWithHired_96 : decode cX6_minutesWithHired 96 = .ok (.iload_n 1, 1) := by decide +kernel
theorem dX6_minutesWithHired_97 : decode cX6_minutesWithHired 97 = .ok (.invokevirtual 128, 3) := by decide +kernel
theorem dX6_minutesWithHired_100 : decode cX6_minutesWithHired 100 = .ok (.iadd, 1) := by decide +kernel
theorem dX6_minutesWithHired_101 : decode cX6_minutesWithHired 101 = .ok (.istore_n 3, 1) := by decide +kernel
theorem dX6_minutesWithHired_102 : decode cX6_minutesWithHired 102 = .ok (.aload_n 0, 1) := by decide +kernel
theorem dX6_minutesWithHired_103 : decode cX6_minutesWithHired 103 = .ok (.getfield 63, 3) := by decide +kernel
theorem dX6_minutesWithHired_106 : decode cX6_minutesWithHired 106 = .ok (.iload_n 1, 1) := by decide +kernel
theorem dX6_minutesWithHired_107 : decode cX6_minutesWithHired 107 = .ok (.aload_n 0, 1) := by decide +kernel
theorem dX6_minutesWithHired_108 : decode cX6_minutesWithHired 108 = .ok (.getfield 19, 3) := by decide +kernel
theorem dX6_minutesWithHired_111 : decode cX6_minutesWithHired 111 = .ok (.getfield 113, 3) := by decide +kernel
theorem dX6_minutesWithHired_114 : decode cX6_minutesWithHired 114 = .ok (.iload 4, 2) := by decide +kernel
theorem dX6_minutesWithHired_116 : decode cX6_minutesWithHired 116 = .ok (.iaload, 1) := by decide +kernel
theorem dX6_minutesWithHired_117 : decode cX6_minutesWithHired 117 = .ok (.invokevirtual 155, 3) := by decide +kernel
theorem dX6_minutesWithHired_120 : decode cX6_minutesWithHired 120 = .ok (.iinc 4 1, 3) := by decide +kernel
theorem dX6_minutesWithHired_123 : decode cX6_minutesWithHired 123 = .ok (.goto (-95), 3) := by decide +kernel
theorem dX6_minutesWithHired_126 : decode cX6_minutesWithHired 126 = .ok (.iload_n 3, 1) := by decide +kernel
theorem dX6_minutesWithHired_127 : decode cX6_minutesWithHired 127 = .ok (.ireturn, 1) := by decide +kernel
theorem dX6_goIn_0 : decode cX6_goIn 0 = .ok (.aload_n 0, 1) := by decide +kernel
theorem dX6_goIn_1 : decode cX6_goIn 1 = .ok (.getfield 19, 3) := by decide +kernel
theorem dX6_goIn_4 : decode cX6_goIn 4 = .ok (.iload_n 1, 1) := by decide +kernel
theorem dX6_goIn_5 : decode cX6_goIn 5 = .ok (.invokevirtual 125, 3) := by decide +kernel
theorem dX6_goIn_8 : decode cX6_goIn 8 = .ok (.ifCond .ne 5, 3) := by decide +kernel
theorem dX6_goIn_11 : decode cX6_goIn 11 = .ok (.iconst (-1), 1) := by decide +kernel
theorem dX6_goIn_12 : decode cX6_goIn 12 = .ok (.ireturn, 1) := by decide +kernel
theorem dX6_goIn_13 : decode cX6_goIn 13 = .ok (.aload_n 0, 1) := by decide +kernel
theorem dX6_goIn_14 : decode cX6_goIn 14 = .ok (.getfield 19, 3) := by decide +kernel
theorem dX6_goIn_17 : decode cX6_goIn 17 = .ok (.getfield 206, 3) := by decide +kernel
theorem dX6_goIn_20 : decode cX6_goIn 20 = .ok (.ifCond .ne 5, 3) := by decide +kernel
theorem dX6_goIn_23 : decode cX6_goIn 23 = .ok (.iconst 0, 1) := by decide +kernel
theorem dX6_goIn_24 : decode cX6_goIn 24 = .ok (.ireturn, 1) := by decide +kernel
theorem dX6_goIn_25 : decode cX6_goIn 25 = .ok (.aload_n 0, 1) := by decide +kernel
theorem dX6_goIn_26 : decode cX6_goIn 26 = .ok (.iload_n 1, 1) := by decide +kernel
theorem dX6_goIn_27 : decode cX6_goIn 27 = .ok (.invokevirtual 209, 3) := by decide +kernel
theorem dX6_goIn_30 : decode cX6_goIn 30 = .ok (.istore_n 2, 1) := by decide +kernel
theorem dX6_goIn_31 : decode cX6_goIn 31 = .ok (.iconst 0, 1) := by decide +kernel
theorem dX6_goIn_32 : decode cX6_goIn 32 = .ok (.istore_n 3, 1) := by decide +kernel
theorem dX6_goIn_33 : decode cX6_goIn 33 = .ok (.iload_n 3, 1) := by decide +kernel
theorem dX6_goIn_34 : decode cX6_goIn 34 = .ok (.sipush 200, 3) := by decide +kernel
theorem dX6_goIn_37 : decode cX6_goIn 37 = .ok (.if_icmp .gt 50, 3) := by decide +kernel
theorem dX6_goIn_40 : decode cX6_goIn 40 = .ok (.aload_n 0, 1) := by decide +kernel
theorem dX6_goIn_41 : decode cX6_goIn 41 = .ok (.getfield 29, 3) := by decide +kernel
theorem dX6_goIn_44 : decode cX6_goIn 44 = .ok (.getfield 99, 3) := by decide +kernel
theorem dX6_goIn_47 : decode cX6_goIn 47 = .ok (.getfield 142, 3) := by decide +kernel
theorem dX6_goIn_50 : decode cX6_goIn 50 = .ok (.iload_n 3, 1) := by decide +kernel
theorem dX6_goIn_51 : decode cX6_goIn 51 = .ok (.iadd, 1) := by decide +kernel
theorem dX6_goIn_52 : decode cX6_goIn 52 = .ok (.istore 4, 2) := by decide +kernel
theorem dX6_goIn_54 : decode cX6_goIn 54 = .ok (.aload_n 0, 1) := by decide +kernel
theorem dX6_goIn_55 : decode cX6_goIn 55 = .ok (.getfield 19, 3) := by decide +kernel
theorem dX6_goIn_58 : decode cX6_goIn 58 = .ok (.iload 4, 2) := by decide +kernel
theorem dX6_goIn_60 : decode cX6_goIn 60 = .ok (.invokevirtual 172, 3) := by decide +kernel
theorem dX6_goIn_63 : decode cX6_goIn 63 = .ok (.ifCond .eq 18, 3) := by decide +kernel
theorem dX6_goIn_66 : decode cX6_goIn 66 = .ok (.iload_n 2, 1) := by decide +kernel
theorem dX6_goIn_67 : decode cX6_goIn 67 = .ok (.aload_n 0, 1) := by decide +kernel
theorem dX6_goIn_68 : decode cX6_goIn 68 = .ok (.getfield 19, 3) := by decide +kernel
theorem dX6_goIn_71 : decode cX6_goIn 71 = .ok (.iload 4, 2) := by decide +kernel
theorem dX6_goIn_73 : decode cX6_goIn 73 = .ok (.invokevirtual 212, 3) := by decide +kernel
theorem dX6_goIn_76 : decode cX6_goIn 76 = .ok (.if_icmp .gt 5, 3) := by decide +kernel
theorem dX6_goIn_79 : decode cX6_goIn 79 = .ok (.iload_n 3, 1) := by decide +kernel
theorem dX6_goIn_80 : decode cX6_goIn 80 = .ok (.ireturn, 1) := by decide +kernel
theorem dX6_goIn_81 : decode cX6_goIn 81 = .ok (.iinc 3 1, 3) := by decide +kernel
theorem dX6_goIn_84 : decode cX6_goIn 84 = .ok (.goto (-51), 3) := by decide +kernel
theorem dX6_goIn_87 : decode cX6_goIn 87 = .ok (.bipush (-9), 2) := by decide +kernel
theorem dX6_goIn_89 : decode cX6_goIn 89 = .ok (.ireturn, 1) := by decide +kernel
theorem dX6_minutesThrough_0 : decode cX6_minutesThrough 0 = .ok (.aload_n 0, 1) := by decide +kernel
theorem dX6_minutesThrough_1 : decode cX6_minutesThrough 1 = .ok (.getfield 63, 3) := by decide +kernel
theorem dX6_minutesThrough_4 : decode cX6_minutesThrough 4 = .ok (.aload_n 0, 1) := by decide +kernel
theorem dX6_minutesThrough_5 : decode cX6_minutesThrough 5 = .ok (.getfield 29, 3) := by decide +kernel
theorem dX6_minutesThrough_8 : decode cX6_minutesThrough 8 = .ok (.getfield 99, 3) := by decide +kernel
theorem dX6_minutesThrough_11 : decode cX6_minutesThrough 11 = .ok (.invokevirtual 202, 3) := by decide +kernel
theorem dX6_minutesThrough_14 : decode cX6_minutesThrough 14 = .ok (.aload_n 0, 1) := by decide +kernel
theorem dX6_minutesThrough_15 : decode cX6_minutesThrough 15 = .ok (.getfield 63, 3) := by decide +kernel
theorem dX6_minutesThrough_18 : decode cX6_minutesThrough 18 = .ok (.iconst 0, 1) := by decide +kernel
theorem dX6_minutesThrough_19 : decode cX6_minutesThrough 19 = .ok (.putfield 142, 3) := by decide +kernel
theorem dX6_minutesThrough_22 : decode cX6_minutesThrough 22 = .ok (.aload_n 0, 1) := by decide +kernel
theorem dX6_minutesThrough_23 : decode cX6_minutesThrough 23 = .ok (.getfield 29, 3) := by decide +kernel
theorem dX6_minutesThrough_26 : decode cX6_minutesThrough 26 = .ok (.getfield 99, 3) := by decide +kernel
theorem dX6_minutesThrough_29 : decode cX6_minutesThrough 29 = .ok (.getfield 132, 3) := by decide +kernel
theorem dX6_minutesThrough_32 : decode cX6_minutesThrough 32 = .ok (.istore_n 2, 1) := by decide +kernel
theorem dX6_minutesThrough_33 : decode cX6_minutesThrough 33 = .ok (.iload_n 2, 1) := by decide +kernel
theorem dX6_minutesThrough_34 : decode cX6_minutesThrough 34 = .ok (.aload_n 0, 1) := by decide +kernel
theorem dX6_minutesThrough_35 : decode cX6_minutesThrough 35 = .ok (.getfield 19, 3) := by decide +kernel
theorem dX6_minutesThrough_38 : decode cX6_minutesThrough 38 = .ok (.getfield 135, 3) := by decide +kernel
theorem dX6_minutesThrough_41 : decode cX6_minutesThrough 41 = .ok (.if_icmp .ge 41, 3) := by decide +kernel
theorem dX6_minutesThrough_44 : decode cX6_minutesThrough 44 = .ok (.aload_n 0, 1) := by decide +kernel
theorem dX6_minutesThrough_45 : decode cX6_minutesThrough 45 = .ok (.getfield 63, 3) := by decide +kernel
theorem dX6_minutesThrough_48 : decode cX6_minutesThrough 48 = .ok (.aload_n 0, 1) := by decide +kernel
theorem dX6_minutesThrough_49 : decode cX6_minutesThrough 49 = .ok (.getfield 19, 3) := by decide +kernel
theorem dX6_minutesThrough_52 : decode cX6_minutesThrough 52 = .ok (.iload_n 1, 1) := by decide +kernel
theorem dX6_minutesThrough_53 : decode cX6_minutesThrough 53 = .ok (.aload_n 0, 1) := by decide +kernel
theorem dX6_minutesThrough_54 : decode cX6_minutesThrough 54 = .ok (.getfield 63, 3) := by decide +kernel
theorem dX6_minutesThrough_57 : decode cX6_minutesThrough 57 = .ok (.getfield 142, 3) := by decide +kernel
theorem dX6_minutesThrough_60 : decode cX6_minutesThrough 60 = .ok (.aload_n 0, 1) := by decide +kernel
theorem dX6_minutesThrough_61 : decode cX6_minutesThrough 61 = .ok (.getfield 63, 3) := by decide +kernel
theorem dX6_minutesThrough_64 : decode cX6_minutesThrough 64 = .ok (.aload_n 0, 1) := by decide +kernel
theorem dX6_minutesThrough_65 : decode cX6_minutesThrough 65 = .ok (.getfield 19, 3) := by decide +kernel
theorem dX6_minutesThrough_68 : decode cX6_minutesThrough 68 = .ok (.iload_n 1, 1) := by decide +kernel
theorem dX6_minutesThrough_69 : decode cX6_minutesThrough 69 = .ok (.invokevirtual 138, 3) := by decide +kernel
theorem dX6_minutesThrough_72 : decode cX6_minutesThrough 72 = .ok (.iadd, 1) := by decide +kernel
theorem dX6_minutesThrough_73 : decode cX6_minutesThrough 73 = .ok (.invokevirtual 148, 3) := by decide +kernel
theorem dX6_minutesThrough_76 : decode cX6_minutesThrough 76 = .ok (.iinc 2 1, 3) := by decide +kernel
theorem dX6_minutesThrough_79 : decode cX6_minutesThrough 79 = .ok (.goto (-46), 3) := by decide +kernel
theorem dX6_minutesThrough_82 : decode cX6_minutesThrough 82 = .ok (.aload_n 0, 1) := by decide +kernel
theorem dX6_minutesThrough_83 : decode cX6_minutesThrough 83 = .ok (.getfield 63, 3) := by decide +kernel
theorem dX6_minutesThrough_86 : decode cX6_minutesThrough 86 = .ok (.getfield 142, 3) := by decide +kernel
theorem dX6_minutesThrough_89 : decode cX6_minutesThrough 89 = .ok (.ireturn, 1) := by decide +kernel
theorem dX6_meets_0 : decode cX6_meets 0 = .ok (.aload_n 0, 1) := by decide +kernel
theorem dX6_meets_1 : decode cX6_meets 1 = .ok (.getfield 19, 3) := by decide +kernel
theorem dX6_meets_4 : decode cX6_meets 4 = .ok (.iload_n 1, 1) := by decide +kernel
theorem dX6_meets_5 : decode cX6_meets 5 = .ok (.invokevirtual 125, 3) := by decide +kernel
theorem dX6_meets_8 : decode cX6_meets 8 = .ok (.ifCond .eq 36, 3) := by decide +kernel
theorem dX6_meets_11 : decode cX6_meets 11 = .ok (.iload_n 2, 1) := by decide +kernel
theorem dX6_meets_12 : decode cX6_meets 12 = .ok (.ifCond .lt 32, 3) := by decide +kernel
theorem dX6_meets_15 : decode cX6_meets 15 = .ok (.iload_n 2, 1) := by decide +kernel
theorem dX6_meets_16 : decode cX6_meets 16 = .ok (.sipush 200, 3) := by decide +kernel
theorem dX6_meets_19 : decode cX6_meets 19 = .ok (.if_icmp .gt 25, 3) := by decide +kernel
theorem dX6_meets_22 : decode cX6_meets 22 = .ok (.iload_n 3, 1) := by decide +kernel
theorem dX6_meets_23 : decode cX6_meets 23 = .ok (.iconst 1, 1) := by decide +kernel
theorem dX6_meets_24 : decode cX6_meets 24 = .ok (.if_icmp .lt 20, 3) := by decide +kernel
theorem dX6_meets_27 : decode cX6_meets 27 = .ok (.iload_n 3, 1) := by decide +kernel
theorem dX6_meets_28 : decode cX6_meets 28 = .ok (.bipush 9, 2) := by decide +kernel
theorem dX6_meets_30 : decode cX6_meets 30 = .ok (.if_icmp .gt 14, 3) := by decide +kernel
theorem dX6_meets_33 : decode cX6_meets 33 = .ok (.iload 4, 2) := by decide +kernel
theorem dX6_meets_35 : decode cX6_meets 35 = .ok (.ifCond .lt 9, 3) := by decide +kernel
theorem dX6_meets_38 : decode cX6_meets 38 = .ok (.iload 4, 2) := by decide +kernel
theorem dX6_meets_40 : decode cX6_meets 40 = .ok (.iconst 1, 1) := by decide +kernel
theorem dX6_meets_41 : decode cX6_meets 41 = .ok (.if_icmp .le 5, 3) := by decide +kernel
theorem dX6_meets_44 : decode cX6_meets 44 = .ok (.iconst (-1), 1) := by decide +kernel
theorem dX6_meets_45 : decode cX6_meets 45 = .ok (.ireturn, 1) := by decide +kernel
theorem dX6_meets_46 : decode cX6_meets 46 = .ok (.aload_n 0, 1) := by decide +kernel
theorem dX6_meets_47 : decode cX6_meets 47 = .ok (.iload_n 1, 1) := by decide +kernel
theorem dX6_meets_48 : decode cX6_meets 48 = .ok (.iload_n 2, 1) := by decide +kernel
theorem dX6_meets_49 : decode cX6_meets 49 = .ok (.iload_n 3, 1) := by decide +kernel
theorem dX6_meets_50 : decode cX6_meets 50 = .ok (.invokevirtual 215, 3) := by decide +kernel
theorem dX6_meets_53 : decode cX6_meets 53 = .ok (.istore 5, 2) := by decide +kernel
theorem dX6_meets_55 : decode cX6_meets 55 = .ok (.iload 5, 2) := by decide +kernel
theorem dX6_meets_57 : decode cX6_meets 57 = .ok (.bipush (-9), 2) := by decide +kernel
theorem dX6_meets_59 : decode cX6_meets 59 = .ok (.if_icmp .eq 8, 3) := by decide +kernel
theorem dX6_meets_62 : decode cX6_meets 62 = .ok (.iload 4, 2) := by decide +kernel
theorem dX6_meets_64 : decode cX6_meets 64 = .ok (.ifCond .ne 6, 3) := by decide +kernel
theorem dX6_meets_67 : decode cX6_meets 67 = .ok (.iload 5, 2) := by decide +kernel
theorem dX6_meets_69 : decode cX6_meets 69 = .ok (.ireturn, 1) := by decide +kernel
theorem dX6_meets_70 : decode cX6_meets 70 = .ok (.aload_n 0, 1) := by decide +kernel
theorem dX6_meets_71 : decode cX6_meets 71 = .ok (.getfield 19, 3) := by decide +kernel
theorem dX6_meets_74 : decode cX6_meets 74 = .ok (.aload_n 0, 1) := by decide +kernel
theorem dX6_meets_75 : decode cX6_meets 75 = .ok (.getfield 29, 3) := by decide +kernel
theorem dX6_meets_78 : decode cX6_meets 78 = .ok (.getfield 99, 3) := by decide +kernel
theorem dX6_meets_81 : decode cX6_meets 81 = .ok (.getfield 132, 3) := by decide +kernel
theorem dX6_meets_84 : decode cX6_meets 84 = .ok (.iload 5, 2) := by decide +kernel
theorem dX6_meets_86 : decode cX6_meets 86 = .ok (.invokevirtual 175, 3) := by decide +kernel
theorem dX6_meets_89 : decode cX6_meets 89 = .ok (.istore 6, 2) := by decide +kernel
theorem dX6_meets_91 : decode cX6_meets 91 = .ok (.aload_n 0, 1) := by decide +kernel
theorem dX6_meets_92 : decode cX6_meets 92 = .ok (.getfield 19, 3) := by decide +kernel
theorem dX6_meets_95 : decode cX6_meets 95 = .ok (.iload 5, 2) := by decide +kernel
theorem dX6_meets_97 : decode cX6_meets 97 = .ok (.iconst 1, 1) := by decide +kernel
theorem dX6_meets_98 : decode cX6_meets 98 = .ok (.iadd, 1) := by decide +kernel
theorem dX6_meets_99 : decode cX6_meets 99 = .ok (.aload_n 0, 1) := by decide +kernel
theorem dX6_meets_100 : decode cX6_meets 100 = .ok (.getfield 19, 3) := by decide +kernel
theorem dX6_meets_103 : decode cX6_meets 103 = .ok (.getfield 135, 3) := by decide +kernel
theorem dX6_meets_106 : decode cX6_meets 106 = .ok (.invokevirtual 175, 3) := by decide +kernel
theorem dX6_meets_109 : decode cX6_meets 109 = .ok (.istore 7, 2) := by decide +kernel
theorem dX6_meets_111 : decode cX6_meets 111 = .ok (.iload 6, 2) := by decide +kernel
theorem dX6_meets_113 : decode cX6_meets 113 = .ok (.iload 7, 2) := by decide +kernel
theorem dX6_meets_115 : decode cX6_meets 115 = .ok (.if_icmp .ge 7, 3) := by decide +kernel
theorem dX6_meets_118 : decode cX6_meets 118 = .ok (.iconst 0, 1) := by decide +kernel
theorem dX6_meets_119 : decode cX6_meets 119 = .ok (.goto 4, 3) := by decide +kernel
theorem dX6_meets_122 : decode cX6_meets 122 = .ok (.iconst 1, 1) := by decide +kernel
theorem dX6_meets_123 : decode cX6_meets 123 = .ok (.ireturn, 1) := by decide +kernel
theorem dX6_meetingStretch_0 : decode cX6_meetingStretch 0 = .ok (.aload_n 0, 1) := by decide +kernel
theorem dX6_meetingStretch_1 : decode cX6_meetingStretch 1 = .ok (.getfield 63, 3) := by decide +kernel
theorem dX6_meetingStretch_4 : decode cX6_meetingStretch 4 = .ok (.aload_n 0, 1) := by decide +kernel
theorem dX6_meetingStretch_5 : decode cX6_meetingStretch 5 = .ok (.getfield 29, 3) := by decide +kernel
theorem dX6_meetingStretch_8 : decode cX6_meetingStretch 8 = .ok (.getfield 99, 3) := by decide +kernel
theorem dX6_meetingStretch_11 : decode cX6_meetingStretch 11 = .ok (.invokevirtual 202, 3) := by decide +kernel
theorem dX6_meetingStretch_14 : decode cX6_meetingStretch 14 = .ok (.aload_n 0, 1) := by decide +kernel
theorem dX6_meetingStretch_15 : decode cX6_meetingStretch 15 = .ok (.getfield 63, 3) := by decide +kernel
theorem dX6_meetingStretch_18 : decode cX6_meetingStretch 18 = .ok (.iconst 0, 1) := by decide +kernel
theorem dX6_meetingStretch_19 : decode cX6_meetingStretch 19 = .ok (.putfield 142, 3) := by decide +kernel
theorem dX6_meetingStretch_22 : decode cX6_meetingStretch 22 = .ok (.aload_n 0, 1) := by decide +kernel
theorem dX6_meetingStretch_23 : decode cX6_meetingStretch 23 = .ok (.getfield 29, 3) := by decide +kernel
theorem dX6_meetingStretch_26 : decode cX6_meetingStretch 26 = .ok (.getfield 99, 3) := by decide +kernel
theorem dX6_meetingStretch_29 : decode cX6_meetingStretch 29 = .ok (.getfield 132, 3) := by decide +kernel
theorem dX6_meetingStretch_32 : decode cX6_meetingStretch 32 = .ok (.istore 4, 2) := by decide +kernel
theorem dX6_meetingStretch_34 : decode cX6_meetingStretch 34 = .ok (.iload 4, 2) := by decide +kernel
theorem dX6_meetingStretch_36 : decode cX6_meetingStretch 36 = .ok (.aload_n 0, 1) := by decide +kernel
theorem dX6_meetingStretch_37 : decode cX6_meetingStretch 37 = .ok (.getfield 19, 3) := by decide +kernel
theorem dX6_meetingStretch_40 : decode cX6_meetingStretch 40 = .ok (.getfield 135, 3) := by decide +kernel
theorem dX6_meetingStretch_43 : decode cX6_meetingStretch 43 = .ok (.if_icmp .ge 107, 3) := by decide +kernel
theorem dX6_meetingStretch_46 : decode cX6_meetingStretch 46 = .ok (.aload_n 0, 1) := by decide +kernel
theorem dX6_meetingStretch_47 : decode cX6_meetingStretch 47 = .ok (.getfield 63, 3) := by decide +kernel
theorem dX6_meetingStretch_50 : decode cX6_meetingStretch 50 = .ok (.getfield 142, 3) := by decide +kernel
theorem dX6_meetingStretch_53 : decode cX6_meetingStretch 53 = .ok (.istore 5, 2) := by decide +kernel
theorem dX6_meetingStretch_55 : decode cX6_meetingStretch 55 = .ok (.iload 5, 2) := by decide +kernel
theorem dX6_meetingStretch_57 : decode cX6_meetingStretch 57 = .ok (.aload_n 0, 1) := by decide +kernel
theorem dX6_meetingStretch_58 : decode cX6_meetingStretch 58 = .ok (.getfield 63, 3) := by decide +kernel
theorem dX6_meetingStretch_61 : decode cX6_meetingStretch 61 = .ok (.aload_n 0, 1) := by decide +kernel
theorem dX6_meetingStretch_62 : decode cX6_meetingStretch 62 = .ok (.getfield 19, 3) := by decide +kernel
theorem dX6_meetingStretch_65 : decode cX6_meetingStretch 65 = .ok (.iload_n 1, 1) := by decide +kernel
theorem dX6_meetingStretch_66 : decode cX6_meetingStretch 66 = .ok (.invokevirtual 138, 3) := by decide +kernel
theorem dX6_meetingStretch_69 : decode cX6_meetingStretch 69 = .ok (.iadd, 1) := by decide +kernel
theorem dX6_meetingStretch_70 : decode cX6_meetingStretch 70 = .ok (.istore 6, 2) := by decide +kernel
theorem dX6_meetingStretch_72 : decode cX6_meetingStretch 72 = .ok (.aload_n 0, 1) := by decide +kernel
theorem dX6_meetingStretch_73 : decode cX6_meetingStretch 73 = .ok (.getfield 63, 3) := by decide +kernel
theorem dX6_meetingStretch_76 : decode cX6_meetingStretch 76 = .ok (.aload_n 0, 1) := by decide +kernel
theorem dX6_meetingStretch_77 : decode cX6_meetingStretch 77 = .ok (.getfield 19, 3) := by decide +kernel
theorem dX6_meetingStretch_80 : decode cX6_meetingStretch 80 = .ok (.iload_n 1, 1) := by decide +kernel
theorem dX6_meetingStretch_81 : decode cX6_meetingStretch 81 = .ok (.iload 6, 2) := by decide +kernel
theorem dX6_meetingStretch_83 : decode cX6_meetingStretch 83 = .ok (.invokevirtual 148, 3) := by decide +kernel
theorem dX6_meetingStretch_86 : decode cX6_meetingStretch 86 = .ok (.iload_n 2, 1) := by decide +kernel
theorem dX6_meetingStretch_87 : decode cX6_meetingStretch 87 = .ok (.iload_n 3, 1) := by decide +kernel
theorem dX6_meetingStretch_88 : decode cX6_meetingStretch 88 = .ok (.aload_n 0, 1) := by decide +kernel
theorem dX6_meetingStretch_89 : decode cX6_meetingStretch 89 = .ok (.getfield 19, 3) := by decide +kernel
theorem dX6_meetingStretch_92 : decode cX6_meetingStretch 92 = .ok (.iload 4, 2) := by decide +kernel
theorem dX6_meetingStretch_94 : decode cX6_meetingStretch 94 = .ok (.iconst 1, 1) := by decide +kernel
theorem dX6_meetingStretch_95 : decode cX6_meetingStretch 95 = .ok (.iadd, 1) := by decide +kernel
theorem dX6_meetingStretch_96 : decode cX6_meetingStretch 96 = .ok (.aload_n 0, 1) := by decide +kernel
theorem dX6_meetingStretch_97 : decode cX6_meetingStretch 97 = .ok (.getfield 19, 3) := by decide +kernel
theorem dX6_meetingStretch_100 : decode cX6_meetingStretch 100 = .ok (.getfield 135, 3) := by decide +kernel
theorem dX6_meetingStretch_103 : decode cX6_meetingStretch 103 = .ok (.invokevirtual 175, 3) := by decide +kernel
theorem dX6_meetingStretch_106 : decode cX6_meetingStretch 106 = .ok (.imul, 1) := by decide +kernel
theorem dX6_meetingStretch_107 : decode cX6_meetingStretch 107 = .ok (.iadd, 1) := by decide +kernel
theorem dX6_meetingStretch_108 : decode cX6_meetingStretch 108 = .ok (.istore 7, 2) := by decide +kernel
theorem dX6_meetingStretch_110 : decode cX6_meetingStretch 110 = .ok (.iload 7, 2) := by decide +kernel
theorem dX6_meetingStretch_112 : decode cX6_meetingStretch 112 = .ok (.iload_n 3, 1) := by decide +kernel
theorem dX6_meetingStretch_113 : decode cX6_meetingStretch 113 = .ok (.aload_n 0, 1) := by decide +kernel
theorem dX6_meetingStretch_114 : decode cX6_meetingStretch 114 = .ok (.getfield 19, 3) := by decide +kernel
theorem dX6_meetingStretch_117 : decode cX6_meetingStretch 117 = .ok (.getfield 113, 3) := by decide +kernel
theorem dX6_meetingStretch_120 : decode cX6_meetingStretch 120 = .ok (.iload 4, 2) := by decide +kernel
theorem dX6_meetingStretch_122 : decode cX6_meetingStretch 122 = .ok (.iaload, 1) := by decide +kernel
theorem dX6_meetingStretch_123 : decode cX6_meetingStretch 123 = .ok (.imul, 1) := by decide +kernel
theorem dX6_meetingStretch_124 : decode cX6_meetingStretch 124 = .ok (.iadd, 1) := by decide +kernel
theorem dX6_meetingStretch_125 : decode cX6_meetingStretch 125 = .ok (.istore 8, 2) := by decide +kernel
theorem dX6_meetingStretch_127 : decode cX6_meetingStretch 127 = .ok (.iload 5, 2) := by decide +kernel
theorem dX6_meetingStretch_129 : decode cX6_meetingStretch 129 = .ok (.iload 8, 2) := by decide +kernel
theorem dX6_meetingStretch_131 : decode cX6_meetingStretch 131 = .ok (.if_icmp .gt 13, 3) := by decide +kernel
theorem dX6_meetingStretch_134 : decode cX6_meetingStretch 134 = .ok (.iload 7, 2) := by decide +kernel
theorem dX6_meetingStretch_136 : decode cX6_meetingStretch 136 = .ok (.iload 6, 2) := by decide +kernel
theorem dX6_meetingStretch_138 : decode cX6_meetingStretch 138 = .ok (.if_icmp .gt 6, 3) := by decide +kernel
theorem dX6_meetingStretch_141 : decode cX6_meetingStretch 141 = .ok (.iload 4, 2) := by decide +kernel
theorem dX6_meetingStretch_143 : decode cX6_meetingStretch 143 = .ok (.ireturn, 1) := by decide +kernel
theorem dX6_meetingStretch_144 : decode cX6_meetingStretch 144 = .ok (.iinc 4 1, 3) := by decide +kernel
theorem dX6_meetingStretch_147 : decode cX6_meetingStretch 147 = .ok (.goto (-113), 3) := by decide +kernel
theorem dX6_meetingStretch_150 : decode cX6_meetingStretch 150 = .ok (.bipush (-9), 2) := by decide +kernel
theorem dX6_meetingStretch_152 : decode cX6_meetingStretch 152 = .ok (.ireturn, 1) := by decide +kernel
theorem dX6_odds_0 : decode cX6_odds 0 = .ok (.aload_n 0, 1) := by decide +kernel
theorem dX6_odds_1 : decode cX6_odds 1 = .ok (.getfield 19, 3) := by decide +kernel
theorem dX6_odds_4 : decode cX6_odds 4 = .ok (.iload_n 1, 1) := by decide +kernel
theorem dX6_odds_5 : decode cX6_odds 5 = .ok (.invokevirtual 125, 3) := by decide +kernel
theorem dX6_odds_8 : decode cX6_odds 8 = .ok (.ifCond .eq 35, 3) := by decide +kernel
theorem dX6_odds_11 : decode cX6_odds 11 = .ok (.iload_n 2, 1) := by decide +kernel
theorem dX6_odds_12 : decode cX6_odds 12 = .ok (.ifCond .lt 31, 3) := by decide +kernel
theorem dX6_odds_15 : decode cX6_odds 15 = .ok (.iload_n 2, 1) := by decide +kernel
theorem dX6_odds_16 : decode cX6_odds 16 = .ok (.bipush 10, 2) := by decide +kernel
theorem dX6_odds_18 : decode cX6_odds 18 = .ok (.if_icmp .gt 25, 3) := by decide +kernel
theorem dX6_odds_21 : decode cX6_odds 21 = .ok (.iload_n 3, 1) := by decide +kernel
theorem dX6_odds_22 : decode cX6_odds 22 = .ok (.ifCond .lt 21, 3) := by decide +kernel
theorem dX6_odds_25 : decode cX6_odds 25 = .ok (.iload_n 3, 1) := by decide +kernel
theorem dX6_odds_26 : decode cX6_odds 26 = .ok (.sipush 9999, 3) := by decide +kernel
theorem dX6_odds_29 : decode cX6_odds 29 = .ok (.if_icmp .gt 14, 3) := by decide +kernel
theorem dX6_odds_32 : decode cX6_odds 32 = .ok (.iload 4, 2) := by decide +kernel
theorem dX6_odds_34 : decode cX6_odds 34 = .ok (.ifCond .lt 9, 3) := by decide +kernel
theorem dX6_odds_37 : decode cX6_odds 37 = .ok (.iload 4, 2) := by decide +kernel
theorem dX6_odds_39 : decode cX6_odds 39 = .ok (.iconst 1, 1) := by decide +kernel
theorem dX6_odds_40 : decode cX6_odds 40 = .ok (.if_icmp .le 5, 3) := by decide +kernel
theorem dX6_odds_43 : decode cX6_odds 43 = .ok (.iconst (-1), 1) := by decide +kernel
theorem dX6_odds_44 : decode cX6_odds 44 = .ok (.ireturn, 1) := by decide +kernel
theorem dX6_odds_45 : decode cX6_odds 45 = .ok (.aload_n 0, 1) := by decide +kernel
theorem dX6_odds_46 : decode cX6_odds 46 = .ok (.iload_n 1, 1) := by decide +kernel
theorem dX6_odds_47 : decode cX6_odds 47 = .ok (.invokevirtual 209, 3) := by decide +kernel
theorem dX6_odds_50 : decode cX6_odds 50 = .ok (.istore 5, 2) := by decide +kernel
theorem dX6_odds_52 : decode cX6_odds 52 = .ok (.aload_n 0, 1) := by decide +kernel
theorem dX6_odds_53 : decode cX6_odds 53 = .ok (.getfield 19, 3) := by decide +kernel
theorem dX6_odds_56 : decode cX6_odds 56 = .ok (.aload_n 0, 1) := by decide +kernel
theorem dX6_odds_57 : decode cX6_odds 57 = .ok (.getfield 29, 3) := by decide +kernel
theorem dX6_odds_60 : decode cX6_odds 60 = .ok (.getfield 99, 3) := by decide +kernel
theorem dX6_odds_63 : decode cX6_odds 63 = .ok (.getfield 132, 3) := by decide +kernel
theorem dX6_odds_66 : decode cX6_odds 66 = .ok (.invokevirtual 219, 3) := by decide +kernel
theorem dX6_odds_69 : decode cX6_odds 69 = .ok (.istore 6, 2) := by decide +kernel
theorem dX6_odds_71 : decode cX6_odds 71 = .ok (.iconst 0, 1) := by decide +kernel
theorem dX6_odds_72 : decode cX6_odds 72 = .ok (.istore 7, 2) := by decide +kernel
theorem dX6_odds_74 : decode cX6_odds 74 = .ok (.iconst 1, 1) := by decide +kernel
theorem dX6_odds_75 : decode cX6_odds 75 = .ok (.istore 8, 2) := by decide +kernel
theorem dX6_odds_77 : decode cX6_odds 77 = .ok (.iconst 0, 1) := by decide +kernel
theorem dX6_odds_78 : decode cX6_odds 78 = .ok (.istore 9, 2) := by decide +kernel
theorem dX6_odds_80 : decode cX6_odds 80 = .ok (.iload 9, 2) := by decide +kernel
theorem dX6_odds_82 : decode cX6_odds 82 = .ok (.iload 6, 2) := by decide +kernel
theorem dX6_odds_84 : decode cX6_odds 84 = .ok (.if_icmp .gt 62, 3) := by decide +kernel
theorem dX6_odds_87 : decode cX6_odds 87 = .ok (.iload 5, 2) := by decide +kernel
theorem dX6_odds_89 : decode cX6_odds 89 = .ok (.iconst 5, 1) := by decide +kernel
theorem dX6_odds_90 : decode cX6_odds 90 = .ok (.iload 9, 2) := by decide +kernel
theorem dX6_odds_92 : decode cX6_odds 92 = .ok (.imul, 1) := by decide +kernel
theorem dX6_odds_93 : decode cX6_odds 93 = .ok (.iadd, 1) := by decide +kernel
theorem dX6_odds_94 : decode cX6_odds 94 = .ok (.iload_n 3, 1) := by decide +kernel
theorem dX6_odds_95 : decode cX6_odds 95 = .ok (.if_icmp .gt 30, 3) := by decide +kernel
theorem dX6_odds_98 : decode cX6_odds 98 = .ok (.iload 7, 2) := by decide +kernel
theorem dX6_odds_100 : decode cX6_odds 100 = .ok (.iload 8, 2) := by decide +kernel
theorem dX6_odds_102 : decode cX6_odds 102 = .ok (.iload_n 2, 1) := by decide +kernel
theorem dX6_odds_103 : decode cX6_odds 103 = .ok (.iload 9, 2) := by decide +kernel
theorem dX6_odds_105 : decode cX6_odds 105 = .ok (.invokestatic 222, 3) := by decide +kernel
theorem dX6_odds_108 : decode cX6_odds 108 = .ok (.imul, 1) := by decide +kernel
theorem dX6_odds_109 : decode cX6_odds 109 = .ok (.bipush 10, 2) := by decide +kernel
theorem dX6_odds_111 : decode cX6_odds 111 = .ok (.iload_n 2, 1) := by decide +kernel
theorem dX6_odds_112 : decode cX6_odds 112 = .ok (.isub, 1) := by decide +kernel
theorem dX6_odds_113 : decode cX6_odds 113 = .ok (.iload 6, 2) := by decide +kernel
theorem dX6_odds_115 : decode cX6_odds 115 = .ok (.iload 9, 2) := by decide +kernel
theorem dX6_odds_117 : decode cX6_odds 117 = .ok (.isub, 1) := by decide +kernel
theorem dX6_odds_118 : decode cX6_odds 118 = .ok (.invokestatic 222, 3) := by decide +kernel
theorem dX6_odds_121 : decode cX6_odds 121 = .ok (.imul, 1) := by decide +kernel
theorem dX6_odds_122 : decode cX6_odds 122 = .ok (.iadd, 1) := by decide +kernel
theorem dX6_odds_123 : decode cX6_odds 123 = .ok (.istore 7, 2) := by decide +kernel
theorem dX6_odds_125 : decode cX6_odds 125 = .ok (.iload 8, 2) := by decide +kernel
theorem dX6_odds_127 : decode cX6_odds 127 = .ok (.iload 6, 2) := by decide +kernel
theorem dX6_odds_129 : decode cX6_odds 129 = .ok (.iload 9, 2) := by decide +kernel
theorem dX6_odds_131 : decode cX6_odds 131 = .ok (.isub, 1) := by decide +kernel
theorem dX6_odds_132 : decode cX6_odds 132 = .ok (.imul, 1) := by decide +kernel
theorem dX6_odds_133 : decode cX6_odds 133 = .ok (.iload 9, 2) := by decide +kernel
theorem dX6_odds_135 : decode cX6_odds 135 = .ok (.iconst 1, 1) := by decide +kernel
theorem dX6_odds_136 : decode cX6_odds 136 = .ok (.iadd, 1) := by decide +kernel
theorem dX6_odds_137 : decode cX6_odds 137 = .ok (.idiv, 1) := by decide +kernel
theorem dX6_odds_138 : decode cX6_odds 138 = .ok (.istore 8, 2) := by decide +kernel
theorem dX6_odds_140 : decode cX6_odds 140 = .ok (.iinc 9 1, 3) := by decide +kernel
theorem dX6_odds_143 : decode cX6_odds 143 = .ok (.goto (-63), 3) := by decide +kernel
theorem dX6_odds_146 : decode cX6_odds 146 = .ok (.bipush 10, 2) := by decide +kernel
theorem dX6_odds_148 : decode cX6_odds 148 = .ok (.iload 6, 2) := by decide +kernel
theorem dX6_odds_150 : decode cX6_odds 150 = .ok (.invokestatic 222, 3) := by decide +kernel
theorem dX6_odds_153 : decode cX6_odds 153 = .ok (.istore 9, 2) := by decide +kernel
theorem dX6_odds_155 : decode cX6_odds 155 = .ok (.iload 7, 2) := by decide +kernel
theorem dX6_odds_157 : decode cX6_odds 157 = .ok (.iload 9, 2) := by decide +kernel
theorem dX6_odds_159 : decode cX6_odds 159 = .ok (.invokestatic 225, 3) := by decide +kernel
theorem dX6_odds_162 : decode cX6_odds 162 = .ok (.istore 10, 2) := by decide +kernel
theorem dX6_odds_164 : decode cX6_odds 164 = .ok (.iload 4, 2) := by decide +kernel
theorem dX6_odds_166 : decode cX6_odds 166 = .ok (.ifCond .ne 8, 3) := by decide +kernel
theorem dX6_odds_169 : decode cX6_odds 169 = .ok (.iload 7, 2) := by decide +kernel
theorem dX6_odds_171 : decode cX6_odds 171 = .ok (.goto 5, 3) := by decide +kernel
theorem dX6_odds_174 : decode cX6_odds 174 = .ok (.iload 9, 2) := by decide +kernel
theorem dX6_odds_176 : decode cX6_odds 176 = .ok (.iload 10, 2) := by decide +kernel
theorem dX6_odds_178 : decode cX6_odds 178 = .ok (.idiv, 1) := by decide +kernel
theorem dX6_odds_179 : decode cX6_odds 179 = .ok (.ireturn, 1) := by decide +kernel
theorem dX6_power_0 : decode cX6_power 0 = .ok (.iconst 1, 1) := by decide +kernel
theorem dX6_power_1 : decode cX6_power 1 = .ok (.istore_n 2, 1) := by decide +kernel
theorem dX6_power_2 : decode cX6_power 2 = .ok (.iconst 0, 1) := by decide +kernel
theorem dX6_power_3 : decode cX6_power 3 = .ok (.istore_n 3, 1) := by decide +kernel
theorem dX6_power_4 : decode cX6_power 4 = .ok (.iload_n 3, 1) := by decide +kernel
theorem dX6_power_5 : decode cX6_power 5 = .ok (.iload_n 1, 1) := by decide +kernel
theorem dX6_power_6 : decode cX6_power 6 = .ok (.if_icmp .ge 13, 3) := by decide +kernel
theorem dX6_power_9 : decode cX6_power 9 = .ok (.iload_n 2, 1) := by decide +kernel
theorem dX6_power_10 : decode cX6_power 10 = .ok (.iload_n 0, 1) := by decide +kernel
theorem dX6_power_11 : decode cX6_power 11 = .ok (.imul, 1) := by decide +kernel
theorem dX6_power_12 : decode cX6_power 12 = .ok (.istore_n 2, 1) := by decide +kernel
theorem dX6_power_13 : decode cX6_power 13 = .ok (.iinc 3 1, 3) := by decide +kernel
theorem dX6_power_16 : decode cX6_power 16 = .ok (.goto (-12), 3) := by decide +kernel
theorem dX6_power_19 : decode cX6_power 19 = .ok (.iload_n 2, 1) := by decide +kernel
theorem dX6_power_20 : decode cX6_power 20 = .ok (.ireturn, 1) := by decide +kernel
theorem dX6_commonDivisor_0 : decode cX6_commonDivisor 0 = .ok (.iload_n 0, 1) := by decide +kernel
theorem dX6_commonDivisor_1 : decode cX6_commonDivisor 1 = .ok (.istore_n 2, 1) := by decide +kernel
theorem dX6_commonDivisor_2 : decode cX6_commonDivisor 2 = .ok (.iload_n 1, 1) := by decide +kernel
theorem dX6_commonDivisor_3 : decode cX6_commonDivisor 3 = .ok (.istore_n 3, 1) := by decide +kernel
theorem dX6_commonDivisor_4 : decode cX6_commonDivisor 4 = .ok (.iconst 0, 1) := by decide +kernel
theorem dX6_commonDivisor_5 : decode cX6_commonDivisor 5 = .ok (.istore 4, 2) := by decide +kernel
theorem dX6_commonDivisor_7 : decode cX6_commonDivisor 7 = .ok (.iload 4, 2) := by decide +kernel
theorem dX6_commonDivisor_9 : decode cX6_commonDivisor 9 = .ok (.bipush 64, 2) := by decide +kernel
theorem dX6_commonDivisor_11 : decode cX6_commonDivisor 11 = .ok (.if_icmp .ge 23, 3) := by decide +kernel
theorem dX6_commonDivisor_14 : decode cX6_commonDivisor 14 = .ok (.iload_n 3, 1) := by decide +kernel
theorem dX6_commonDivisor_15 : decode cX6_commonDivisor 15 = .ok (.ifCond .eq 19, 3) := by decide +kernel
theorem dX6_commonDivisor_18 : decode cX6_commonDivisor 18 = .ok (.iload_n 2, 1) := by decide +kernel
theorem dX6_commonDivisor_19 : decode cX6_commonDivisor 19 = .ok (.iload_n 3, 1) := by decide +kernel
theorem dX6_commonDivisor_20 : decode cX6_commonDivisor 20 = .ok (.irem, 1) := by decide +kernel
theorem dX6_commonDivisor_21 : decode cX6_commonDivisor 21 = .ok (.istore 5, 2) := by decide +kernel
theorem dX6_commonDivisor_23 : decode cX6_commonDivisor 23 = .ok (.iload_n 3, 1) := by decide +kernel
theorem dX6_commonDivisor_24 : decode cX6_commonDivisor 24 = .ok (.istore_n 2, 1) := by decide +kernel
theorem dX6_commonDivisor_25 : decode cX6_commonDivisor 25 = .ok (.iload 5, 2) := by decide +kernel
theorem dX6_commonDivisor_27 : decode cX6_commonDivisor 27 = .ok (.istore_n 3, 1) := by decide +kernel
theorem dX6_commonDivisor_28 : decode cX6_commonDivisor 28 = .ok (.iinc 4 1, 3) := by decide +kernel
theorem dX6_commonDivisor_31 : decode cX6_commonDivisor 31 = .ok (.goto (-24), 3) := by decide +kernel
theorem dX6_commonDivisor_34 : decode cX6_commonDivisor 34 = .ok (.iload_n 2, 1) := by decide +kernel
theorem dX6_commonDivisor_35 : decode cX6_commonDivisor 35 = .ok (.iconst 1, 1) := by decide +kernel
theorem dX6_commonDivisor_36 : decode cX6_commonDivisor 36 = .ok (.invokestatic 228, 3) := by decide +kernel
theorem dX6_commonDivisor_39 : decode cX6_commonDivisor 39 = .ok (.ireturn, 1) := by decide +kernel
theorem dX6_saw_0 : decode cX6_saw 0 = .ok (.aload_n 0, 1) := by decide +kernel
theorem dX6_saw_1 : decode cX6_saw 1 = .ok (.getfield 19, 3) := by decide +kernel
theorem dX6_saw_4 : decode cX6_saw 4 = .ok (.iload_n 1, 1) := by decide +kernel
theorem dX6_saw_5 : decode cX6_saw 5 = .ok (.invokevirtual 109, 3) := by decide +kernel
theorem dX6_saw_8 : decode cX6_saw 8 = .ok (.ifCond .eq 26, 3) := by decide +kernel
theorem dX6_saw_11 : decode cX6_saw 11 = .ok (.aload_n 0, 1) := by decide +kernel
theorem dX6_saw_12 : decode cX6_saw 12 = .ok (.getfield 19, 3) := by decide +kernel
theorem dX6_saw_15 : decode cX6_saw 15 = .ok (.getfield 122, 3) := by decide +kernel
theorem dX6_saw_18 : decode cX6_saw 18 = .ok (.iload_n 1, 1) := by decide +kernel
theorem dX6_saw_19 : decode cX6_saw 19 = .ok (.iaload, 1) := by decide +kernel
theorem dX6_saw_20 : decode cX6_saw 20 = .ok (.ifCond .eq 14, 3) := by decide +kernel
theorem dX6_saw_23 : decode cX6_saw 23 = .ok (.iload_n 2, 1) := by decide +kernel
theorem dX6_saw_24 : decode cX6_saw 24 = .ok (.ifCond .lt 10, 3) := by decide +kernel
theorem dX6_saw_27 : decode cX6_saw 27 = .ok (.iload_n 2, 1) := by decide +kernel
theorem dX6_saw_28 : decode cX6_saw 28 = .ok (.sipush 9999, 3) := by decide +kernel
theorem dX6_saw_31 : decode cX6_saw 31 = .ok (.if_icmp .le 5, 3) := by decide +kernel
theorem dX6_saw_34 : decode cX6_saw 34 = .ok (.iconst (-1), 1) := by decide +kernel
theorem dX6_saw_35 : decode cX6_saw 35 = .ok (.ireturn, 1) := by decide +kernel
theorem dX6_saw_36 : decode cX6_saw 36 = .ok (.aload_n 0, 1) := by decide +kernel
theorem dX6_saw_37 : decode cX6_saw 37 = .ok (.getfield 44, 3) := by decide +kernel
theorem dX6_saw_40 : decode cX6_saw 40 = .ok (.getfield 82, 3) := by decide +kernel
theorem dX6_saw_43 : decode cX6_saw 43 = .ok (.bipush 6, 2) := by decide +kernel
theorem dX6_saw_45 : decode cX6_saw 45 = .ok (.if_icmp .lt 6, 3) := by decide +kernel
theorem dX6_saw_48 : decode cX6_saw 48 = .ok (.bipush (-3), 2) := by decide +kernel
theorem dX6_saw_50 : decode cX6_saw 50 = .ok (.ireturn, 1) := by decide +kernel
theorem dX6_saw_51 : decode cX6_saw 51 = .ok (.aload_n 0, 1) := by decide +kernel
theorem dX6_saw_52 : decode cX6_saw 52 = .ok (.getfield 44, 3) := by decide +kernel
theorem dX6_saw_55 : decode cX6_saw 55 = .ok (.iload_n 1, 1) := by decide +kernel
theorem dX6_saw_56 : decode cX6_saw 56 = .ok (.iload_n 2, 1) := by decide +kernel
theorem dX6_saw_57 : decode cX6_saw 57 = .ok (.invokevirtual 233, 3) := by decide +kernel
theorem dX6_saw_60 : decode cX6_saw 60 = .ok (.aload_n 0, 1) := by decide +kernel
theorem dX6_saw_61 : decode cX6_saw 61 = .ok (.getfield 44, 3) := by decide +kernel
theorem dX6_saw_64 : decode cX6_saw 64 = .ok (.getfield 82, 3) := by decide +kernel
theorem dX6_saw_67 : decode cX6_saw 67 = .ok (.ireturn, 1) := by decide +kernel
theorem dX6_forget_0 : decode cX6_forget 0 = .ok (.aload_n 0, 1) := by decide +kernel
theorem dX6_forget_1 : decode cX6_forget 1 = .ok (.getfield 44, 3) := by decide +kernel
theorem dX6_forget_4 : decode cX6_forget 4 = .ok (.getfield 82, 3) := by decide +kernel
theorem dX6_forget_7 : decode cX6_forget 7 = .ok (.istore_n 1, 1) := by decide +kernel
theorem dX6_forget_8 : decode cX6_forget 8 = .ok (.aload_n 0, 1) := by decide +kernel
theorem dX6_forget_9 : decode cX6_forget 9 = .ok (.getfield 44, 3) := by decide +kernel
theorem dX6_forget_12 : decode cX6_forget 12 = .ok (.iconst 0, 1) := by decide +kernel
theorem dX6_forget_13 : decode cX6_forget 13 = .ok (.putfield 82, 3) := by decide +kernel
theorem dX6_forget_16 : decode cX6_forget 16 = .ok (.aload_n 0, 1) := by decide +kernel
theorem dX6_forget_17 : decode cX6_forget 17 = .ok (.getfield 44, 3) := by decide +kernel
theorem dX6_forget_20 : decode cX6_forget 20 = .ok (.iconst 0, 1) := by decide +kernel
theorem dX6_forget_21 : decode cX6_forget 21 = .ok (.putfield 83, 3) := by decide +kernel
theorem dX6_forget_24 : decode cX6_forget 24 = .ok (.iload_n 1, 1) := by decide +kernel
theorem dX6_forget_25 : decode cX6_forget 25 = .ok (.ireturn, 1) := by decide +kernel
theorem dX6_fits_0 : decode cX6_fits 0 = .ok (.iload_n 1, 1) := by decide +kernel
theorem dX6_fits_1 : decode cX6_fits 1 = .ok (.iconst (-1), 1) := by decide +kernel
theorem dX6_fits_2 : decode cX6_fits 2 = .ok (.if_icmp .eq 16, 3) := by decide +kernel
theorem dX6_fits_5 : decode cX6_fits 5 = .ok (.aload_n 0, 1) := by decide +kernel
theorem dX6_fits_6 : decode cX6_fits 6 = .ok (.getfield 19, 3) := by decide +kernel
theorem dX6_fits_9 : decode cX6_fits 9 = .ok (.iload_n 1, 1) := by decide +kernel
theorem dX6_fits_10 : decode cX6_fits 10 = .ok (.invokevirtual 109, 3) := by decide +kernel
theorem dX6_fits_13 : decode cX6_fits 13 = .ok (.ifCond .ne 5, 3) := by decide +kernel
theorem dX6_fits_16 : decode cX6_fits 16 = .ok (.iconst (-1), 1) := by decide +kernel
theorem dX6_fits_17 : decode cX6_fits 17 = .ok (.ireturn, 1) := by decide +kernel
theorem dX6_fits_18 : decode cX6_fits 18 = .ok (.aload_n 0, 1) := by decide +kernel
theorem dX6_fits_19 : decode cX6_fits 19 = .ok (.getfield 44, 3) := by decide +kernel
theorem dX6_fits_22 : decode cX6_fits 22 = .ok (.aload_n 0, 1) := by decide +kernel
theorem dX6_fits_23 : decode cX6_fits 23 = .ok (.getfield 19, 3) := by decide +kernel
theorem dX6_fits_26 : decode cX6_fits 26 = .ok (.invokevirtual 236, 3) := by decide +kernel
theorem dX6_fits_29 : decode cX6_fits 29 = .ok (.iload_n 1, 1) := by decide +kernel
theorem dX6_fits_30 : decode cX6_fits 30 = .ok (.iconst (-1), 1) := by decide +kernel
theorem dX6_fits_31 : decode cX6_fits 31 = .ok (.if_icmp .ne 11, 3) := by decide +kernel
theorem dX6_fits_34 : decode cX6_fits 34 = .ok (.aload_n 0, 1) := by decide +kernel
theorem dX6_fits_35 : decode cX6_fits 35 = .ok (.getfield 44, 3) := by decide +kernel
theorem dX6_fits_38 : decode cX6_fits 38 = .ok (.getfield 240, 3) := by decide +kernel
theorem dX6_fits_41 : decode cX6_fits 41 = .ok (.ireturn, 1) := by decide +kernel
theorem dX6_fits_42 : decode cX6_fits 42 = .ok (.aload_n 0, 1) := by decide +kernel
theorem dX6_fits_43 : decode cX6_fits 43 = .ok (.getfield 44, 3) := by decide +kernel
theorem dX6_fits_46 : decode cX6_fits 46 = .ok (.getfield 240, 3) := by decide +kernel
theorem dX6_fits_49 : decode cX6_fits 49 = .ok (.ifCond .ne 8, 3) := by decide +kernel
theorem dX6_fits_52 : decode cX6_fits 52 = .ok (.bipush (-9), 2) := by decide +kernel
theorem dX6_fits_54 : decode cX6_fits 54 = .ok (.goto 12, 3) := by decide +kernel
theorem dX6_fits_57 : decode cX6_fits 57 = .ok (.aload_n 0, 1) := by decide +kernel
theorem dX6_fits_58 : decode cX6_fits 58 = .ok (.getfield 44, 3) := by decide +kernel
theorem dX6_fits_61 : decode cX6_fits 61 = .ok (.getfield 243, 3) := by decide +kernel
theorem dX6_fits_64 : decode cX6_fits 64 = .ok (.iload_n 1, 1) := by decide +kernel
theorem dX6_fits_65 : decode cX6_fits 65 = .ok (.iaload, 1) := by decide +kernel
theorem dX6_fits_66 : decode cX6_fits 66 = .ok (.ireturn, 1) := by decide +kernel
theorem dX6_surely_0 : decode cX6_surely 0 = .ok (.aload_n 0, 1) := by decide +kernel
theorem dX6_surely_1 : decode cX6_surely 1 = .ok (.getfield 19, 3) := by decide +kernel
theorem dX6_surely_4 : decode cX6_surely 4 = .ok (.iload_n 1, 1) := by decide +kernel
theorem dX6_surely_5 : decode cX6_surely 5 = .ok (.invokevirtual 109, 3) := by decide +kernel
theorem dX6_surely_8 : decode cX6_surely 8 = .ok (.ifCond .ne 5, 3) := by decide +kernel
theorem dX6_surely_11 : decode cX6_surely 11 = .ok (.iconst (-1), 1) := by decide +kernel
theorem dX6_surely_12 : decode cX6_surely 12 = .ok (.ireturn, 1) := by decide +kernel
theorem dX6_surely_13 : decode cX6_surely 13 = .ok (.aload_n 0, 1) := by decide +kernel
theorem dX6_surely_14 : decode cX6_surely 14 = .ok (.getfield 44, 3) := by decide +kernel
theorem dX6_surely_17 : decode cX6_surely 17 = .ok (.aload_n 0, 1) := by decide +kernel
theorem dX6_surely_18 : decode cX6_surely 18 = .ok (.getfield 19, 3) := by decide +kernel
theorem dX6_surely_21 : decode cX6_surely 21 = .ok (.invokevirtual 236, 3) := by decide +kernel
theorem dX6_surely_24 : decode cX6_surely 24 = .ok (.aload_n 0, 1) := by decide +kernel
theorem dX6_surely_25 : decode cX6_surely 25 = .ok (.getfield 44, 3) := by decide +kernel
theorem dX6_surely_28 : decode cX6_surely 28 = .ok (.getfield 240, 3) := by decide +kernel
theorem dX6_surely_31 : decode cX6_surely 31 = .ok (.ifCond .ne 7, 3) := by decide +kernel
theorem dX6_surely_34 : decode cX6_surely 34 = .ok (.iconst 0, 1) := by decide +kernel
theorem dX6_surely_35 : decode cX6_surely 35 = .ok (.goto 12, 3) := by decide +kernel
theorem dX6_surely_38 : decode cX6_surely 38 = .ok (.aload_n 0, 1) := by decide +kernel
theorem dX6_surely_39 : decode cX6_surely 39 = .ok (.getfield 44, 3) := by decide +kernel
theorem dX6_surely_42 : decode cX6_surely 42 = .ok (.getfield 246, 3) := by decide +kernel
theorem dX6_surely_45 : decode cX6_surely 45 = .ok (.iload_n 1, 1) := by decide +kernel
theorem dX6_surely_46 : decode cX6_surely 46 = .ok (.iaload, 1) := by decide +kernel
theorem dX6_surely_47 : decode cX6_surely 47 = .ok (.ireturn, 1) := by decide +kernel
theorem dX6_mark_0 : decode cX6_mark 0 = .ok (.aload_n 0, 1) := by decide +kernel
theorem dX6_mark_1 : decode cX6_mark 1 = .ok (.getfield 19, 3) := by decide +kernel
theorem dX6_mark_4 : decode cX6_mark 4 = .ok (.iload_n 2, 1) := by decide +kernel
theorem dX6_mark_5 : decode cX6_mark 5 = .ok (.invokevirtual 109, 3) := by decide +kernel
theorem dX6_mark_8 : decode cX6_mark 8 = .ok (.ifCond .ne 6, 3) := by decide +kernel
theorem dX6_mark_11 : decode cX6_mark 11 = .ok (.ldc 249, 2) := by decide +kernel
theorem dX6_mark_13 : decode cX6_mark 13 = .ok (.ireturn, 1) := by decide +kernel
theorem dX6_mark_14 : decode cX6_mark 14 = .ok (.iload_n 1, 1) := by decide +kernel
theorem dX6_mark_15 : decode cX6_mark 15 = .ok (.tableswitch 73 0 5 #[37, 43, 49, 55, 61, 67], 37) := by decide +kernel
theorem dX6_mark_52 : decode cX6_mark 52 = .ok (.aload_n 0, 1) := by decide +kernel
theorem dX6_mark_53 : decode cX6_mark 53 = .ok (.iload_n 2, 1) := by decide +kernel
theorem dX6_mark_54 : decode cX6_mark 54 = .ok (.invokevirtual 250, 3) := by decide +kernel
theorem dX6_mark_57 : decode cX6_mark 57 = .ok (.ireturn, 1) := by decide +kernel
theorem dX6_mark_58 : decode cX6_mark 58 = .ok (.aload_n 0, 1) := by decide +kernel
theorem dX6_mark_59 : decode cX6_mark 59 = .ok (.iload_n 2, 1) := by decide +kernel
theorem dX6_mark_60 : decode cX6_mark 60 = .ok (.invokevirtual 253, 3) := by decide +kernel
theorem dX6_mark_63 : decode cX6_mark 63 = .ok (.ireturn, 1) := by decide +kernel
theorem dX6_mark_64 : decode cX6_mark 64 = .ok (.aload_n 0, 1) := by decide +kernel
theorem dX6_mark_65 : decode cX6_mark 65 = .ok (.iload_n 2, 1) := by decide +kernel
theorem dX6_mark_66 : decode cX6_mark 66 = .ok (.invokevirtual 256, 3) := by decide +kernel
theorem dX6_mark_69 : decode cX6_mark 69 = .ok (.ireturn, 1) := by decide +kernel
theorem dX6_mark_70 : decode cX6_mark 70 = .ok (.aload_n 0, 1) := by decide +kernel
theorem dX6_mark_71 : decode cX6_mark 71 = .ok (.iload_n 2, 1) := by decide +kernel
theorem dX6_mark_72 : decode cX6_mark 72 = .ok (.invokevirtual 259, 3) := by decide +kernel
theorem dX6_mark_75 : decode cX6_mark 75 = .ok (.ireturn, 1) := by decide +kernel
theorem dX6_mark_76 : decode cX6_mark 76 = .ok (.aload_n 0, 1) := by decide +kernel
theorem dX6_mark_77 : decode cX6_mark 77 = .ok (.iload_n 2, 1) := by decide +kernel
theorem dX6_mark_78 : decode cX6_mark 78 = .ok (.invokevirtual 262, 3) := by decide +kernel
theorem dX6_mark_81 : decode cX6_mark 81 = .ok (.ireturn, 1) := by decide +kernel
theorem dX6_mark_82 : decode cX6_mark 82 = .ok (.aload_n 0, 1) := by decide +kernel
theorem dX6_mark_83 : decode cX6_mark 83 = .ok (.iload_n 2, 1) := by decide +kernel
theorem dX6_mark_84 : decode cX6_mark 84 = .ok (.invokevirtual 265, 3) := by decide +kernel
theorem dX6_mark_87 : decode cX6_mark 87 = .ok (.ireturn, 1) := by decide +kernel
theorem dX6_mark_88 : decode cX6_mark 88 = .ok (.ldc 249, 2) := by decide +kernel
theorem dX6_mark_90 : decode cX6_mark 90 = .ok (.ireturn, 1) := by decide +kernel
theorem dX6_asStep_0 : decode cX6_asStep 0 = .ok (.aload_n 0, 1) := by decide +kernel
theorem dX6_asStep_1 : decode cX6_asStep 1 = .ok (.dup, 1) := by decide +kernel
theorem dX6_asStep_2 : decode cX6_asStep 2 = .ok (.getfield 268, 3) := by decide +kernel
theorem dX6_asStep_5 : decode cX6_asStep 5 = .ok (.lconst 1, 1) := by decide +kernel
theorem dX6_asStep_6 : decode cX6_asStep 6 = .ok (.ladd, 1) := by decide +kernel
theorem dX6_asStep_7 : decode cX6_asStep 7 = .ok (.putfield 268, 3) := by decide +kernel
theorem dX6_asStep_10 : decode cX6_asStep 10 = .ok (.aload_n 0, 1) := by decide +kernel
theorem dX6_asStep_11 : decode cX6_asStep 11 = .ok (.getfield 19, 3) := by decide +kernel
theorem dX6_asStep_14 : decode cX6_asStep 14 = .ok (.getfield 113, 3) := by decide +kernel
theorem dX6_asStep_17 : decode cX6_asStep 17 = .ok (.iload_n 1, 1) := by decide +kernel
theorem dX6_asStep_18 : decode cX6_asStep 18 = .ok (.iaload, 1) := by decide +kernel
theorem dX6_asStep_19 : decode cX6_asStep 19 = .ok (.ireturn, 1) := by decide +kernel
theorem dX6_asFirm_0 : decode cX6_asFirm 0 = .ok (.aload_n 0, 1) := by decide +kernel
theorem dX6_asFirm_1 : decode cX6_asFirm 1 = .ok (.dup, 1) := by decide +kernel
theorem dX6_asFirm_2 : decode cX6_asFirm 2 = .ok (.getfield 268, 3) := by decide +kernel
theorem dX6_asFirm_5 : decode cX6_asFirm 5 = .ok (.ldc2_w 272, 3) := by decide +kernel
theorem dX6_asFirm_8 : decode cX6_asFirm 8 = .ok (.ladd, 1) := by decide +kernel
theorem dX6_asFirm_9 : decode cX6_asFirm 9 = .ok (.putfield 268, 3) := by decide +kernel
theorem dX6_asFirm_12 : decode cX6_asFirm 12 = .ok (.aload_n 0, 1) := by decide +kernel
theorem dX6_asFirm_13 : decode cX6_asFirm 13 = .ok (.iload_n 1, 1) := by decide +kernel
theorem dX6_asFirm_14 : decode cX6_asFirm 14 = .ok (.invokevirtual 250, 3) := by decide +kernel
theorem dX6_asFirm_17 : decode cX6_asFirm 17 = .ok (.aload_n 0, 1) := by decide +kernel
theorem dX6_asFirm_18 : decode cX6_asFirm 18 = .ok (.getfield 19, 3) := by decide +kernel
theorem dX6_asFirm_21 : decode cX6_asFirm 21 = .ok (.getfield 116, 3) := by decide +kernel
theorem dX6_asFirm_24 : decode cX6_asFirm 24 = .ok (.iload_n 1, 1) := by decide +kernel
theorem dX6_asFirm_25 : decode cX6_asFirm 25 = .ok (.iaload, 1) := by decide +kernel
theorem dX6_asFirm_26 : decode cX6_asFirm 26 = .ok (.iadd, 1) := by decide +kernel
theorem dX6_asFirm_27 : decode cX6_asFirm 27 = .ok (.ireturn, 1) := by decide +kernel
theorem dX6_asSlimy_0 : decode cX6_asSlimy 0 = .ok (.aload_n 0, 1) := by decide +kernel
theorem dX6_asSlimy_1 : decode cX6_asSlimy 1 = .ok (.dup, 1) := by decide +kernel
theorem dX6_asSlimy_2 : decode cX6_asSlimy 2 = .ok (.getfield 268, 3) := by decide +kernel
theorem dX6_asSlimy_5 : decode cX6_asSlimy 5 = .ok (.ldc2_w 274, 3) := by decide +kernel
theorem dX6_asSlimy_8 : decode cX6_asSlimy 8 = .ok (.ladd, 1) := by decide +kernel
theorem dX6_asSlimy_9 : decode cX6_asSlimy 9 = .ok (.putfield 268, 3) := by decide +kernel
theorem dX6_asSlimy_12 : decode cX6_asSlimy 12 = .ok (.aload_n 0, 1) := by decide +kernel
theorem dX6_asSlimy_13 : decode cX6_asSlimy 13 = .ok (.iload_n 1, 1) := by decide +kernel
theorem dX6_asSlimy_14 : decode cX6_asSlimy 14 = .ok (.invokevirtual 250, 3) := by decide +kernel
theorem dX6_asSlimy_17 : decode cX6_asSlimy 17 = .ok (.aload_n 0, 1) := by decide +kernel
theorem dX6_asSlimy_18 : decode cX6_asSlimy 18 = .ok (.getfield 29, 3) := by decide +kernel
theorem dX6_asSlimy_21 : decode cX6_asSlimy 21 = .ok (.getfield 99, 3) := by decide +kernel
theorem dX6_asSlimy_24 : decode cX6_asSlimy 24 = .ok (.invokevirtual 276, 3) := by decide +kernel
theorem dX6_asSlimy_27 : decode cX6_asSlimy 27 = .ok (.isub, 1) := by decide +kernel
theorem dX6_asSlimy_28 : decode cX6_asSlimy 28 = .ok (.ireturn, 1) := by decide +kernel
theorem dX6_asStretched_0 : decode cX6_asStretched 0 = .ok (.aload_n 0, 1) := by decide +kernel
theorem dX6_asStretched_1 : decode cX6_asStretched 1 = .ok (.dup, 1) := by decide +kernel
theorem dX6_asStretched_2 : decode cX6_asStretched 2 = .ok (.getfield 268, 3) := by decide +kernel
theorem dX6_asStretched_5 : decode cX6_asStretched 5 = .ok (.ldc2_w 280, 3) := by decide +kernel
theorem dX6_asStretched_8 : decode cX6_asStretched 8 = .ok (.ladd, 1) := by decide +kernel
theorem dX6_asStretched_9 : decode cX6_asStretched 9 = .ok (.putfield 268, 3) := by decide +kernel
theorem dX6_asStretched_12 : decode cX6_asStretched 12 = .ok (.aload_n 0, 1) := by decide +kernel
theorem dX6_asStretched_13 : decode cX6_asStretched 13 = .ok (.iload_n 1, 1) := by decide +kernel
theorem dX6_asStretched_14 : decode cX6_asStretched 14 = .ok (.invokevirtual 253, 3) := by decide +kernel
theorem dX6_asStretched_17 : decode cX6_asStretched 17 = .ok (.iconst 2, 1) := by decide +kernel
theorem dX6_asStretched_18 : decode cX6_asStretched 18 = .ok (.imul, 1) := by decide +kernel
theorem dX6_asStretched_19 : decode cX6_asStretched 19 = .ok (.ireturn, 1) := by decide +kernel
theorem dX6_asCramped_0 : decode cX6_asCramped 0 = .ok (.aload_n 0, 1) := by decide +kernel
theorem dX6_asCramped_1 : decode cX6_asCramped 1 = .ok (.dup, 1) := by decide +kernel
theorem dX6_asCramped_2 : decode cX6_asCramped 2 = .ok (.getfield 268, 3) := by decide +kernel
theorem dX6_asCramped_5 : decode cX6_asCramped 5 = .ok (.ldc2_w 282, 3) := by decide +kernel
theorem dX6_asCramped_8 : decode cX6_asCramped 8 = .ok (.ladd, 1) := by decide +kernel
theorem dX6_asCramped_9 : decode cX6_asCramped 9 = .ok (.putfield 268, 3) := by decide +kernel
theorem dX6_asCramped_12 : decode cX6_asCramped 12 = .ok (.aload_n 0, 1) := by decide +kernel
theorem dX6_asCramped_13 : decode cX6_asCramped 13 = .ok (.iload_n 1, 1) := by decide +kernel
theorem dX6_asCramped_14 : decode cX6_asCramped 14 = .ok (.invokevirtual 256, 3) := by decide +kernel
theorem dX6_asCramped_17 : decode cX6_asCramped 17 = .ok (.aload_n 0, 1) := by decide +kernel
theorem dX6_asCramped_18 : decode cX6_asCramped 18 = .ok (.getfield 19, 3) := by decide +kernel
theorem dX6_asCramped_21 : decode cX6_asCramped 21 = .ok (.invokevirtual 284, 3) := by decide +kernel
theorem dX6_asCramped_24 : decode cX6_asCramped 24 = .ok (.iadd, 1) := by decide +kernel
theorem dX6_asCramped_25 : decode cX6_asCramped 25 = .ok (.ireturn, 1) := by decide +kernel
theorem dX6_asBlind_0 : decode cX6_asBlind 0 = .ok (.aload_n 0, 1) := by decide +kernel
theorem dX6_asBlind_1 : decode cX6_asBlind 1 = .ok (.dup, 1) := by decide +kernel
theorem dX6_asBlind_2 : decode cX6_asBlind 2 = .ok (.getfield 268, 3) := by decide +kernel
theorem dX6_asBlind_5 : decode cX6_asBlind 5 = .ok (.ldc2_w 287, 3) := by decide +kernel
theorem dX6_asBlind_8 : decode cX6_asBlind 8 = .ok (.ladd, 1) := by decide +kernel
theorem dX6_asBlind_9 : decode cX6_asBlind 9 = .ok (.putfield 268, 3) := by decide +kernel
theorem dX6_asBlind_12 : decode cX6_asBlind 12 = .ok (.aload_n 0, 1) := by decide +kernel
theorem dX6_asBlind_13 : decode cX6_asBlind 13 = .ok (.iload_n 1, 1) := by decide +kernel
theorem dX6_asBlind_14 : decode cX6_asBlind 14 = .ok (.invokevirtual 250, 3) := by decide +kernel
theorem dX6_asBlind_17 : decode cX6_asBlind 17 = .ok (.aload_n 0, 1) := by decide +kernel
theorem dX6_asBlind_18 : decode cX6_asBlind 18 = .ok (.getfield 29, 3) := by decide +kernel
theorem dX6_asBlind_21 : decode cX6_asBlind 21 = .ok (.getfield 99, 3) := by decide +kernel
theorem dX6_asBlind_24 : decode cX6_asBlind 24 = .ok (.getfield 142, 3) := by decide +kernel
theorem dX6_asBlind_27 : decode cX6_asBlind 27 = .ok (.iadd, 1) := by decide +kernel
theorem dX6_asBlind_28 : decode cX6_asBlind 28 = .ok (.ireturn, 1) := by decide +kernel
theorem dX6_keep_0 : decode cX6_keep 0 = .ok (.iload_n 1, 1) := by decide +kernel
theorem dX6_keep_1 : decode cX6_keep 1 = .ok (.ifCond .lt 8, 3) := by decide +kernel
theorem dX6_keep_4 : decode cX6_keep 4 = .ok (.iload_n 1, 1) := by decide +kernel
theorem dX6_keep_5 : decode cX6_keep 5 = .ok (.iconst 2, 1) := by decide +kernel
theorem dX6_keep_6 : decode cX6_keep 6 = .ok (.if_icmp .lt 5, 3) := by decide +kernel
theorem dX6_keep_9 : decode cX6_keep 9 = .ok (.iconst (-1), 1) := by decide +kernel
theorem dX6_keep_10 : decode cX6_keep 10 = .ok (.ireturn, 1) := by decide +kernel
theorem dX6_keep_11 : decode cX6_keep 11 = .ok (.aload_n 0, 1) := by decide +kernel
theorem dX6_keep_12 : decode cX6_keep 12 = .ok (.getfield 33, 3) := by decide +kernel
theorem dX6_keep_15 : decode cX6_keep 15 = .ok (.iload_n 1, 1) := by decide +kernel
theorem dX6_keep_16 : decode cX6_keep 16 = .ok (.aaload, 1) := by decide +kernel
theorem dX6_keep_17 : decode cX6_keep 17 = .ok (.aload_n 0, 1) := by decide +kernel
theorem dX6_keep_18 : decode cX6_keep 18 = .ok (.getfield 29, 3) := by decide +kernel
theorem dX6_keep_21 : decode cX6_keep 21 = .ok (.invokevirtual 289, 3) := by decide +kernel
theorem dX6_keep_24 : decode cX6_keep 24 = .ok (.aload_n 0, 1) := by decide +kernel
theorem dX6_keep_25 : decode cX6_keep 25 = .ok (.getfield 37, 3) := by decide +kernel
theorem dX6_keep_28 : decode cX6_keep 28 = .ok (.iload_n 1, 1) := by decide +kernel
theorem dX6_keep_29 : decode cX6_keep 29 = .ok (.iconst 1, 1) := by decide +kernel
theorem dX6_keep_30 : decode cX6_keep 30 = .ok (.bastore, 1) := by decide +kernel
theorem dX6_keep_31 : decode cX6_keep 31 = .ok (.aload_n 0, 1) := by decide +kernel
theorem dX6_keep_32 : decode cX6_keep 32 = .ok (.getfield 29, 3) := by decide +kernel
theorem dX6_keep_35 : decode cX6_keep 35 = .ok (.getfield 99, 3) := by decide +kernel
theorem dX6_keep_38 : decode cX6_keep 38 = .ok (.getfield 142, 3) := by decide +kernel
theorem dX6_keep_41 : decode cX6_keep 41 = .ok (.ireturn, 1) := by decide +kernel
theorem dX6_back_0 : decode cX6_back 0 = .ok (.iload_n 1, 1) := by decide +kernel
theorem dX6_back_1 : decode cX6_back 1 = .ok (.ifCond .lt 8, 3) := by decide +kernel
theorem dX6_back_4 : decode cX6_back 4 = .ok (.iload_n 1, 1) := by decide +kernel
theorem dX6_back_5 : decode cX6_back 5 = .ok (.iconst 2, 1) := by decide +kernel
theorem dX6_back_6 : decode cX6_back 6 = .ok (.if_icmp .lt 5, 3) := by decide +kernel
theorem dX6_back_9 : decode cX6_back 9 = .ok (.iconst (-1), 1) := by decide +kernel
theorem dX6_back_10 : decode cX6_back 10 = .ok (.ireturn, 1) := by decide +kernel
theorem dX6_back_11 : decode cX6_back 11 = .ok (.aload_n 0, 1) := by decide +kernel
theorem dX6_back_12 : decode cX6_back 12 = .ok (.getfield 37, 3) := by decide +kernel
theorem dX6_back_15 : decode cX6_back 15 = .ok (.iload_n 1, 1) := by decide +kernel
theorem dX6_back_16 : decode cX6_back 16 = .ok (.baload, 1) := by decide +kernel
theorem dX6_back_17 : decode cX6_back 17 = .ok (.ifCond .ne 6, 3) := by decide +kernel
theorem dX6_back_20 : decode cX6_back 20 = .ok (.bipush (-2), 2) := by decide +kernel
theorem dX6_back_22 : decode cX6_back 22 = .ok (.ireturn, 1) := by decide +kernel
theorem dX6_back_23 : decode cX6_back 23 = .ok (.aload_n 0, 1) := by decide +kernel
theorem dX6_back_24 : decode cX6_back 24 = .ok (.getfield 29, 3) := by decide +kernel
theorem dX6_back_27 : decode cX6_back 27 = .ok (.aload_n 0, 1) := by decide +kernel
theorem dX6_back_28 : decode cX6_back 28 = .ok (.getfield 33, 3) := by decide +kernel
theorem dX6_back_31 : decode cX6_back 31 = .ok (.iload_n 1, 1) := by decide +kernel
theorem dX6_back_32 : decode cX6_back 32 = .ok (.aaload, 1) := by decide +kernel
theorem dX6_back_33 : decode cX6_back 33 = .ok (.invokevirtual 289, 3) := by decide +kernel
theorem dX6_back_36 : decode cX6_back 36 = .ok (.aload_n 0, 1) := by decide +kernel
theorem dX6_back_37 : decode cX6_back 37 = .ok (.invokevirtual 87, 3) := by decide +kernel
theorem dX6_back_40 : decode cX6_back 40 = .ok (.aload_n 0, 1) := by decide +kernel
theorem dX6_back_41 : decode cX6_back 41 = .ok (.getfield 29, 3) := by decide +kernel
theorem dX6_back_44 : decode cX6_back 44 = .ok (.getfield 99, 3) := by decide +kernel
theorem dX6_back_47 : decode cX6_back 47 = .ok (.getfield 142, 3) := by decide +kernel
theorem dX6_back_50 : decode cX6_back 50 = .ok (.ireturn, 1) := by decide +kernel
theorem dX6_count_0 : decode cX6_count 0 = .ok (.iload_n 1, 1) := by decide +kernel
theorem dX6_count_1 : decode cX6_count 1 = .ok (.tableswitch 99 0 6 #[43, 51, 59, 67, 75, 83, 91], 43) := by decide +kernel
theorem dX6_count_44 : decode cX6_count 44 = .ok (.aload_n 0, 1) := by decide +kernel
theorem dX6_count_45 : decode cX6_count 45 = .ok (.getfield 19, 3) := by decide +kernel
theorem dX6_count_48 : decode cX6_count 48 = .ok (.getfield 90, 3) := by decide +kernel
theorem dX6_count_51 : decode cX6_count 51 = .ok (.ireturn, 1) := by decide +kernel
theorem dX6_count_52 : decode cX6_count 52 = .ok (.aload_n 0, 1) := by decide +kernel
theorem dX6_count_53 : decode cX6_count 53 = .ok (.getfield 19, 3) := by decide +kernel
theorem dX6_count_56 : decode cX6_count 56 = .ok (.getfield 135, 3) := by decide +kernel
theorem dX6_count_59 : decode cX6_count 59 = .ok (.ireturn, 1) := by decide +kernel
theorem dX6_count_60 : decode cX6_count 60 = .ok (.aload_n 0, 1) := by decide +kernel
theorem dX6_count_61 : decode cX6_count 61 = .ok (.getfield 19, 3) := by decide +kernel
theorem dX6_count_64 : decode cX6_count 64 = .ok (.getfield 292, 3) := by decide +kernel
theorem dX6_count_67 : decode cX6_count 67 = .ok (.ireturn, 1) := by decide +kernel
theorem dX6_count_68 : decode cX6_count 68 = .ok (.aload_n 0, 1) := by decide +kernel
theorem dX6_count_69 : decode cX6_count 69 = .ok (.getfield 19, 3) := by decide +kernel
theorem dX6_count_72 : decode cX6_count 72 = .ok (.getfield 206, 3) := by decide +kernel
theorem dX6_count_75 : decode cX6_count 75 = .ok (.ireturn, 1) := by decide +kernel
theorem dX6_count_76 : decode cX6_count 76 = .ok (.aload_n 0, 1) := by decide +kernel
theorem dX6_count_77 : decode cX6_count 77 = .ok (.getfield 44, 3) := by decide +kernel
theorem dX6_count_80 : decode cX6_count 80 = .ok (.getfield 82, 3) := by decide +kernel
theorem dX6_count_83 : decode cX6_count 83 = .ok (.ireturn, 1) := by decide +kernel
theorem dX6_count_84 : decode cX6_count 84 = .ok (.aload_n 0, 1) := by decide +kernel
theorem dX6_count_85 : decode cX6_count 85 = .ok (.getfield 29, 3) := by decide +kernel
theorem dX6_count_88 : decode cX6_count 88 = .ok (.getfield 163, 3) := by decide +kernel
theorem dX6_count_91 : decode cX6_count 91 = .ok (.ireturn, 1) := by decide +kernel
theorem dX6_count_92 : decode cX6_count 92 = .ok (.aload_n 0, 1) := by decide +kernel
theorem dX6_count_93 : decode cX6_count 93 = .ok (.getfield 10, 3) := by decide +kernel
theorem dX6_count_96 : decode cX6_count 96 = .ok (.getfield 67, 3) := by decide +kernel
theorem dX6_count_99 : decode cX6_count 99 = .ok (.ireturn, 1) := by decide +kernel
theorem dX6_count_100 : decode cX6_count 100 = .ok (.iconst (-1), 1) := by decide +kernel
theorem dX6_count_101 : decode cX6_count 101 = .ok (.ireturn, 1) := by decide +kernel
theorem dX6_trace_0 : decode cX6_trace 0 = .ok (.aload_n 0, 1) := by decide +kernel
theorem dX6_trace_1 : decode cX6_trace 1 = .ok (.getfield 268, 3) := by decide +kernel
theorem dX6_trace_4 : decode cX6_trace 4 = .ok (.lreturn, 1) := by decide +kernel
