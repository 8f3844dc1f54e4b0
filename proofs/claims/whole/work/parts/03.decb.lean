theorem dX2_init_0 : decode cX2_init 0 = .ok (.aload_n 0, 1) := by decide +kernel
theorem dX2_init_1 : decode cX2_init 1 = .ok (.invokespecial 3, 3) := by decide +kernel
theorem dX2_init_4 : decode cX2_init 4 = .ok (.aload_n 0, 1) := by decide +kernel
theorem dX2_init_5 : decode cX2_init 5 = .ok (.iconst 0, 1) := by decide +kernel
theorem dX2_init_6 : decode cX2_init 6 = .ok (.putfield 11, 3) := by decide +kernel
theorem dX2_init_9 : decode cX2_init 9 = .ok (.aload_n 0, 1) := by decide +kernel
theorem dX2_init_10 : decode cX2_init 10 = .ok (.new 15, 3) := by decide +kernel
theorem dX2_init_13 : decode cX2_init 13 = .ok (.dup, 1) := by decide +kernel
theorem dX2_init_14 : decode cX2_init 14 = .ok (.bipush 14, 2) := by decide +kernel
theorem dX2_init_16 : decode cX2_init 16 = .ok (.sipush 850, 3) := by decide +kernel
theorem dX2_init_19 : decode cX2_init 19 = .ok (.invokespecial 17, 3) := by decide +kernel
theorem dX2_init_22 : decode cX2_init 22 = .ok (.putfield 20, 3) := by decide +kernel
theorem dX2_init_25 : decode cX2_init 25 = .ok (.aload_n 0, 1) := by decide +kernel
theorem dX2_init_26 : decode cX2_init 26 = .ok (.new 15, 3) := by decide +kernel
theorem dX2_init_29 : decode cX2_init 29 = .ok (.dup, 1) := by decide +kernel
theorem dX2_init_30 : decode cX2_init 30 = .ok (.bipush 14, 2) := by decide +kernel
theorem dX2_init_32 : decode cX2_init 32 = .ok (.sipush 850, 3) := by decide +kernel
theorem dX2_init_35 : decode cX2_init 35 = .ok (.invokespecial 17, 3) := by decide +kernel
theorem dX2_init_38 : decode cX2_init 38 = .ok (.putfield 24, 3) := by decide +kernel
theorem dX2_init_41 : decode cX2_init 41 = .ok (.aload_n 0, 1) := by decide +kernel
theorem dX2_init_42 : decode cX2_init 42 = .ok (.bipush 9, 2) := by decide +kernel
theorem dX2_init_44 : decode cX2_init 44 = .ok (.newarray .int, 2) := by decide +kernel
theorem dX2_init_46 : decode cX2_init 46 = .ok (.putfield 27, 3) := by decide +kernel
theorem dX2_init_49 : decode cX2_init 49 = .ok (.aload_n 0, 1) := by decide +kernel
theorem dX2_init_50 : decode cX2_init 50 = .ok (.iconst 0, 1) := by decide +kernel
theorem dX2_init_51 : decode cX2_init 51 = .ok (.putfield 31, 3) := by decide +kernel
theorem dX2_init_54 : decode cX2_init 54 = .ok (.aload_n 0, 1) := by decide +kernel
theorem dX2_init_55 : decode cX2_init 55 = .ok (.iconst 0, 1) := by decide +kernel
theorem dX2_init_56 : decode cX2_init 56 = .ok (.putfield 35, 3) := by decide +kernel
theorem dX2_init_59 : decode cX2_init 59 = .ok (.aload_n 0, 1) := by decide +kernel
theorem dX2_init_60 : decode cX2_init 60 = .ok (.iconst (-1), 1) := by decide +kernel
theorem dX2_init_61 : decode cX2_init 61 = .ok (.putfield 38, 3) := by decide +kernel
theorem dX2_init_64 : decode cX2_init 64 = .ok (.aload_n 0, 1) := by decide +kernel
theorem dX2_init_65 : decode cX2_init 65 = .ok (.iconst 0, 1) := by decide +kernel
theorem dX2_init_66 : decode cX2_init 66 = .ok (.putfield 41, 3) := by decide +kernel
theorem dX2_init_69 : decode cX2_init 69 = .ok (.aload_n 0, 1) := by decide +kernel
theorem dX2_init_70 : decode cX2_init 70 = .ok (.lconst 1, 1) := by decide +kernel
theorem dX2_init_71 : decode cX2_init 71 = .ok (.putfield 44, 3) := by decide +kernel
theorem dX2_init_74 : decode cX2_init 74 = .ok (.aload_n 0, 1) := by decide +kernel
theorem dX2_init_75 : decode cX2_init 75 = .ok (.sipush 1498, 3) := by decide +kernel
theorem dX2_init_78 : decode cX2_init 78 = .ok (.newarray .long, 2) := by decide +kernel
theorem dX2_init_80 : decode cX2_init 80 = .ok (.putfield 48, 3) := by decide +kernel
theorem dX2_init_83 : decode cX2_init 83 = .ok (.aload_n 0, 1) := by decide +kernel
theorem dX2_init_84 : decode cX2_init 84 = .ok (.sipush 1498, 3) := by decide +kernel
theorem dX2_init_87 : decode cX2_init 87 = .ok (.newarray .int, 2) := by decide +kernel
theorem dX2_init_89 : decode cX2_init 89 = .ok (.putfield 52, 3) := by decide +kernel
theorem dX2_init_92 : decode cX2_init 92 = .ok (.aload_n 0, 1) := by decide +kernel
theorem dX2_init_93 : decode cX2_init 93 = .ok (.iconst 0, 1) := by decide +kernel
theorem dX2_init_94 : decode cX2_init 94 = .ok (.putfield 55, 3) := by decide +kernel
theorem dX2_init_97 : decode cX2_init 97 = .ok (.aload_n 0, 1) := by decide +kernel
theorem dX2_init_98 : decode cX2_init 98 = .ok (.aload_n 1, 1) := by decide +kernel
theorem dX2_init_99 : decode cX2_init 99 = .ok (.putfield 58, 3) := by decide +kernel
theorem dX2_init_102 : decode cX2_init 102 = .ok (.aload_n 0, 1) := by decide +kernel
theorem dX2_init_103 : decode cX2_init 103 = .ok (.aload_n 1, 1) := by decide +kernel
theorem dX2_init_104 : decode cX2_init 104 = .ok (.getfield 62, 3) := by decide +kernel
theorem dX2_init_107 : decode cX2_init 107 = .ok (.putfield 68, 3) := by decide +kernel
theorem dX2_init_110 : decode cX2_init 110 = .ok (.return_, 1) := by decide +kernel
theorem dX2_forget_0 : decode cX2_forget 0 = .ok (.aload_n 0, 1) := by decide +kernel
theorem dX2_forget_1 : decode cX2_forget 1 = .ok (.iconst 0, 1) := by decide +kernel
theorem dX2_forget_2 : decode cX2_forget 2 = .ok (.putfield 11, 3) := by decide +kernel
theorem dX2_forget_5 : decode cX2_forget 5 = .ok (.return_, 1) := by decide +kernel
theorem dX2_lookAhead_0 : decode cX2_lookAhead 0 = .ok (.iload_n 2, 1) := by decide +kernel
theorem dX2_lookAhead_1 : decode cX2_lookAhead 1 = .ok (.ifCond .eq 7, 3) := by decide +kernel
theorem dX2_lookAhead_4 : decode cX2_lookAhead 4 = .ok (.iconst 1, 1) := by decide +kernel
theorem dX2_lookAhead_5 : decode cX2_lookAhead 5 = .ok (.goto 4, 3) := by decide +kernel
theorem dX2_lookAhead_8 : decode cX2_lookAhead 8 = .ok (.iconst 2, 1) := by decide +kernel
theorem dX2_lookAhead_9 : decode cX2_lookAhead 9 = .ok (.istore_n 3, 1) := by decide +kernel
theorem dX2_lookAhead_10 : decode cX2_lookAhead 10 = .ok (.aload_n 0, 1) := by decide +kernel
theorem dX2_lookAhead_11 : decode cX2_lookAhead 11 = .ok (.getfield 11, 3) := by decide +kernel
theorem dX2_lookAhead_14 : decode cX2_lookAhead 14 = .ok (.iload_n 3, 1) := by decide +kernel
theorem dX2_lookAhead_15 : decode cX2_lookAhead 15 = .ok (.if_icmp .ne 4, 3) := by decide +kernel
theorem dX2_lookAhead_18 : decode cX2_lookAhead 18 = .ok (.return_, 1) := by decide +kernel
theorem dX2_lookAhead_19 : decode cX2_lookAhead 19 = .ok (.aload_n 0, 1) := by decide +kernel
theorem dX2_lookAhead_20 : decode cX2_lookAhead 20 = .ok (.iload_n 3, 1) := by decide +kernel
theorem dX2_lookAhead_21 : decode cX2_lookAhead 21 = .ok (.putfield 11, 3) := by decide +kernel
theorem dX2_lookAhead_24 : decode cX2_lookAhead 24 = .ok (.aload_n 0, 1) := by decide +kernel
theorem dX2_lookAhead_25 : decode cX2_lookAhead 25 = .ok (.iload_n 2, 1) := by decide +kernel
theorem dX2_lookAhead_26 : decode cX2_lookAhead 26 = .ok (.putfield 35, 3) := by decide +kernel
theorem dX2_lookAhead_29 : decode cX2_lookAhead 29 = .ok (.aload_n 0, 1) := by decide +kernel
theorem dX2_lookAhead_30 : decode cX2_lookAhead 30 = .ok (.iconst 0, 1) := by decide +kernel
theorem dX2_lookAhead_31 : decode cX2_lookAhead 31 = .ok (.putfield 31, 3) := by decide +kernel
theorem dX2_lookAhead_34 : decode cX2_lookAhead 34 = .ok (.aload_n 0, 1) := by decide +kernel
theorem dX2_lookAhead_35 : decode cX2_lookAhead 35 = .ok (.aload_n 1, 1) := by decide +kernel
theorem dX2_lookAhead_36 : decode cX2_lookAhead 36 = .ok (.getfield 69, 3) := by decide +kernel
theorem dX2_lookAhead_39 : decode cX2_lookAhead 39 = .ok (.putfield 38, 3) := by decide +kernel
theorem dX2_lookAhead_42 : decode cX2_lookAhead 42 = .ok (.aload_n 0, 1) := by decide +kernel
theorem dX2_lookAhead_43 : decode cX2_lookAhead 43 = .ok (.aload_n 1, 1) := by decide +kernel
theorem dX2_lookAhead_44 : decode cX2_lookAhead 44 = .ok (.getfield 72, 3) := by decide +kernel
theorem dX2_lookAhead_47 : decode cX2_lookAhead 47 = .ok (.putfield 41, 3) := by decide +kernel
theorem dX2_lookAhead_50 : decode cX2_lookAhead 50 = .ok (.iconst 0, 1) := by decide +kernel
theorem dX2_lookAhead_51 : decode cX2_lookAhead 51 = .ok (.istore 4, 2) := by decide +kernel
theorem dX2_lookAhead_53 : decode cX2_lookAhead 53 = .ok (.iload 4, 2) := by decide +kernel
theorem dX2_lookAhead_55 : decode cX2_lookAhead 55 = .ok (.aload_n 0, 1) := by decide +kernel
theorem dX2_lookAhead_56 : decode cX2_lookAhead 56 = .ok (.getfield 27, 3) := by decide +kernel
theorem dX2_lookAhead_59 : decode cX2_lookAhead 59 = .ok (.arraylength, 1) := by decide +kernel
theorem dX2_lookAhead_60 : decode cX2_lookAhead 60 = .ok (.if_icmp .ge 22, 3) := by decide +kernel
theorem dX2_lookAhead_63 : decode cX2_lookAhead 63 = .ok (.aload_n 0, 1) := by decide +kernel
theorem dX2_lookAhead_64 : decode cX2_lookAhead 64 = .ok (.getfield 27, 3) := by decide +kernel
theorem dX2_lookAhead_67 : decode cX2_lookAhead 67 = .ok (.iload 4, 2) := by decide +kernel
theorem dX2_lookAhead_69 : decode cX2_lookAhead 69 = .ok (.aload_n 1, 1) := by decide +kernel
theorem dX2_lookAhead_70 : decode cX2_lookAhead 70 = .ok (.iload 4, 2) := by decide +kernel
theorem dX2_lookAhead_72 : decode cX2_lookAhead 72 = .ok (.invokevirtual 75, 3) := by decide +kernel
theorem dX2_lookAhead_75 : decode cX2_lookAhead 75 = .ok (.iastore, 1) := by decide +kernel
theorem dX2_lookAhead_76 : decode cX2_lookAhead 76 = .ok (.iinc 4 1, 3) := by decide +kernel
theorem dX2_lookAhead_79 : decode cX2_lookAhead 79 = .ok (.goto (-26), 3) := by decide +kernel
theorem dX2_lookAhead_82 : decode cX2_lookAhead 82 = .ok (.aload_n 0, 1) := by decide +kernel
theorem dX2_lookAhead_83 : decode cX2_lookAhead 83 = .ok (.aload_n 1, 1) := by decide +kernel
theorem dX2_lookAhead_84 : decode cX2_lookAhead 84 = .ok (.invokevirtual 79, 3) := by decide +kernel
theorem dX2_lookAhead_87 : decode cX2_lookAhead 87 = .ok (.return_, 1) := by decide +kernel
theorem dX2_lookAtTorn_0 : decode cX2_lookAtTorn 0 = .ok (.iload_n 3, 1) := by decide +kernel
theorem dX2_lookAtTorn_1 : decode cX2_lookAtTorn 1 = .ok (.iconst (-1), 1) := by decide +kernel
theorem dX2_lookAtTorn_2 : decode cX2_lookAtTorn 2 = .ok (.if_icmp .ne 7, 3) := by decide +kernel
theorem dX2_lookAtTorn_5 : decode cX2_lookAtTorn 5 = .ok (.iconst 3, 1) := by decide +kernel
theorem dX2_lookAtTorn_6 : decode cX2_lookAtTorn 6 = .ok (.goto 6, 3) := by decide +kernel
theorem dX2_lookAtTorn_9 : decode cX2_lookAtTorn 9 = .ok (.iconst 4, 1) := by decide +kernel
theorem dX2_lookAtTorn_10 : decode cX2_lookAtTorn 10 = .ok (.iload_n 3, 1) := by decide +kernel
theorem dX2_lookAtTorn_11 : decode cX2_lookAtTorn 11 = .ok (.iadd, 1) := by decide +kernel
theorem dX2_lookAtTorn_12 : decode cX2_lookAtTorn 12 = .ok (.istore 4, 2) := by decide +kernel
theorem dX2_lookAtTorn_14 : decode cX2_lookAtTorn 14 = .ok (.aload_n 0, 1) := by decide +kernel
theorem dX2_lookAtTorn_15 : decode cX2_lookAtTorn 15 = .ok (.getfield 11, 3) := by decide +kernel
theorem dX2_lookAtTorn_18 : decode cX2_lookAtTorn 18 = .ok (.iload 4, 2) := by decide +kernel
theorem dX2_lookAtTorn_20 : decode cX2_lookAtTorn 20 = .ok (.if_icmp .ne 4, 3) := by decide +kernel
theorem dX2_lookAtTorn_23 : decode cX2_lookAtTorn 23 = .ok (.return_, 1) := by decide +kernel
theorem dX2_lookAtTorn_24 : decode cX2_lookAtTorn 24 = .ok (.aload_n 0, 1) := by decide +kernel
theorem dX2_lookAtTorn_25 : decode cX2_lookAtTorn 25 = .ok (.iload 4, 2) := by decide +kernel
theorem dX2_lookAtTorn_27 : decode cX2_lookAtTorn 27 = .ok (.putfield 11, 3) := by decide +kernel
theorem dX2_lookAtTorn_30 : decode cX2_lookAtTorn 30 = .ok (.aload_n 0, 1) := by decide +kernel
theorem dX2_lookAtTorn_31 : decode cX2_lookAtTorn 31 = .ok (.iload_n 3, 1) := by decide +kernel
theorem dX2_lookAtTorn_32 : decode cX2_lookAtTorn 32 = .ok (.iconst (-1), 1) := by decide +kernel
theorem dX2_lookAtTorn_33 : decode cX2_lookAtTorn 33 = .ok (.if_icmp .ne 7, 3) := by decide +kernel
theorem dX2_lookAtTorn_36 : decode cX2_lookAtTorn 36 = .ok (.iconst 1, 1) := by decide +kernel
theorem dX2_lookAtTorn_37 : decode cX2_lookAtTorn 37 = .ok (.goto 4, 3) := by decide +kernel
theorem dX2_lookAtTorn_40 : decode cX2_lookAtTorn 40 = .ok (.iconst 0, 1) := by decide +kernel
theorem dX2_lookAtTorn_41 : decode cX2_lookAtTorn 41 = .ok (.putfield 35, 3) := by decide +kernel
theorem dX2_lookAtTorn_44 : decode cX2_lookAtTorn 44 = .ok (.aload_n 0, 1) := by decide +kernel
theorem dX2_lookAtTorn_45 : decode cX2_lookAtTorn 45 = .ok (.iload_n 3, 1) := by decide +kernel
theorem dX2_lookAtTorn_46 : decode cX2_lookAtTorn 46 = .ok (.putfield 38, 3) := by decide +kernel
theorem dX2_lookAtTorn_49 : decode cX2_lookAtTorn 49 = .ok (.aload_n 0, 1) := by decide +kernel
theorem dX2_lookAtTorn_50 : decode cX2_lookAtTorn 50 = .ok (.iconst 0, 1) := by decide +kernel
theorem dX2_lookAtTorn_51 : decode cX2_lookAtTorn 51 = .ok (.putfield 41, 3) := by decide +kernel
theorem dX2_lookAtTorn_54 : decode cX2_lookAtTorn 54 = .ok (.iconst 0, 1) := by decide +kernel
theorem dX2_lookAtTorn_55 : decode cX2_lookAtTorn 55 = .ok (.istore 5, 2) := by decide +kernel
theorem dX2_lookAtTorn_57 : decode cX2_lookAtTorn 57 = .ok (.iload 5, 2) := by decide +kernel
theorem dX2_lookAtTorn_59 : decode cX2_lookAtTorn 59 = .ok (.aload_n 0, 1) := by decide +kernel
theorem dX2_lookAtTorn_60 : decode cX2_lookAtTorn 60 = .ok (.getfield 27, 3) := by decide +kernel
theorem dX2_lookAtTorn_63 : decode cX2_lookAtTorn 63 = .ok (.arraylength, 1) := by decide +kernel
theorem dX2_lookAtTorn_64 : decode cX2_lookAtTorn 64 = .ok (.if_icmp .ge 35, 3) := by decide +kernel
theorem dX2_lookAtTorn_67 : decode cX2_lookAtTorn 67 = .ok (.aload_n 0, 1) := by decide +kernel
theorem dX2_lookAtTorn_68 : decode cX2_lookAtTorn 68 = .ok (.getfield 27, 3) := by decide +kernel
theorem dX2_lookAtTorn_71 : decode cX2_lookAtTorn 71 = .ok (.iload 5, 2) := by decide +kernel
theorem dX2_lookAtTorn_73 : decode cX2_lookAtTorn 73 = .ok (.aload_n 2, 1) := by decide +kernel
theorem dX2_lookAtTorn_74 : decode cX2_lookAtTorn 74 = .ok (.iload 5, 2) := by decide +kernel
theorem dX2_lookAtTorn_76 : decode cX2_lookAtTorn 76 = .ok (.invokestatic 83, 3) := by decide +kernel
theorem dX2_lookAtTorn_79 : decode cX2_lookAtTorn 79 = .ok (.ifCond .eq 7, 3) := by decide +kernel
theorem dX2_lookAtTorn_82 : decode cX2_lookAtTorn 82 = .ok (.iconst 0, 1) := by decide +kernel
theorem dX2_lookAtTorn_83 : decode cX2_lookAtTorn 83 = .ok (.goto 9, 3) := by decide +kernel
theorem dX2_lookAtTorn_86 : decode cX2_lookAtTorn 86 = .ok (.aload_n 1, 1) := by decide +kernel
theorem dX2_lookAtTorn_87 : decode cX2_lookAtTorn 87 = .ok (.iload 5, 2) := by decide +kernel
theorem dX2_lookAtTorn_89 : decode cX2_lookAtTorn 89 = .ok (.invokevirtual 75, 3) := by decide +kernel
theorem dX2_lookAtTorn_92 : decode cX2_lookAtTorn 92 = .ok (.iastore, 1) := by decide +kernel
theorem dX2_lookAtTorn_93 : decode cX2_lookAtTorn 93 = .ok (.iinc 5 1, 3) := by decide +kernel
theorem dX2_lookAtTorn_96 : decode cX2_lookAtTorn 96 = .ok (.goto (-39), 3) := by decide +kernel
theorem dX2_lookAtTorn_99 : decode cX2_lookAtTorn 99 = .ok (.aload_n 0, 1) := by decide +kernel
theorem dX2_lookAtTorn_100 : decode cX2_lookAtTorn 100 = .ok (.aload_n 2, 1) := by decide +kernel
theorem dX2_lookAtTorn_101 : decode cX2_lookAtTorn 101 = .ok (.aload_n 1, 1) := by decide +kernel
theorem dX2_lookAtTorn_102 : decode cX2_lookAtTorn 102 = .ok (.getfield 62, 3) := by decide +kernel
theorem dX2_lookAtTorn_105 : decode cX2_lookAtTorn 105 = .ok (.getfield 87, 3) := by decide +kernel
theorem dX2_lookAtTorn_108 : decode cX2_lookAtTorn 108 = .ok (.invokestatic 83, 3) := by decide +kernel
theorem dX2_lookAtTorn_111 : decode cX2_lookAtTorn 111 = .ok (.ifCond .ne 7, 3) := by decide +kernel
theorem dX2_lookAtTorn_114 : decode cX2_lookAtTorn 114 = .ok (.iconst 1, 1) := by decide +kernel
theorem dX2_lookAtTorn_115 : decode cX2_lookAtTorn 115 = .ok (.goto 4, 3) := by decide +kernel
theorem dX2_lookAtTorn_118 : decode cX2_lookAtTorn 118 = .ok (.iconst 0, 1) := by decide +kernel
theorem dX2_lookAtTorn_119 : decode cX2_lookAtTorn 119 = .ok (.putfield 31, 3) := by decide +kernel
theorem dX2_lookAtTorn_122 : decode cX2_lookAtTorn 122 = .ok (.aload_n 0, 1) := by decide +kernel
theorem dX2_lookAtTorn_123 : decode cX2_lookAtTorn 123 = .ok (.aload_n 1, 1) := by decide +kernel
theorem dX2_lookAtTorn_124 : decode cX2_lookAtTorn 124 = .ok (.invokevirtual 79, 3) := by decide +kernel
theorem dX2_lookAtTorn_127 : decode cX2_lookAtTorn 127 = .ok (.return_, 1) := by decide +kernel
theorem dX2_isTorn_0 : decode cX2_isTorn 0 = .ok (.iload_n 1, 1) := by decide +kernel
theorem dX2_isTorn_1 : decode cX2_isTorn 1 = .ok (.ifCond .lt 19, 3) := by decide +kernel
theorem dX2_isTorn_4 : decode cX2_isTorn 4 = .ok (.iload_n 1, 1) := by decide +kernel
theorem dX2_isTorn_5 : decode cX2_isTorn 5 = .ok (.aload_n 0, 1) := by decide +kernel
theorem dX2_isTorn_6 : decode cX2_isTorn 6 = .ok (.arraylength, 1) := by decide +kernel
theorem dX2_isTorn_7 : decode cX2_isTorn 7 = .ok (.if_icmp .ge 13, 3) := by decide +kernel
theorem dX2_isTorn_10 : decode cX2_isTorn 10 = .ok (.aload_n 0, 1) := by decide +kernel
theorem dX2_isTorn_11 : decode cX2_isTorn 11 = .ok (.iload_n 1, 1) := by decide +kernel
theorem dX2_isTorn_12 : decode cX2_isTorn 12 = .ok (.baload, 1) := by decide +kernel
theorem dX2_isTorn_13 : decode cX2_isTorn 13 = .ok (.ifCond .eq 7, 3) := by decide +kernel
theorem dX2_isTorn_16 : decode cX2_isTorn 16 = .ok (.iconst 1, 1) := by decide +kernel
theorem dX2_isTorn_17 : decode cX2_isTorn 17 = .ok (.goto 4, 3) := by decide +kernel
theorem dX2_isTorn_20 : decode cX2_isTorn 20 = .ok (.iconst 0, 1) := by decide +kernel
theorem dX2_isTorn_21 : decode cX2_isTorn 21 = .ok (.ireturn, 1) := by decide +kernel
theorem dX2_at_0 : decode cX2_at 0 = .ok (.iload_n 1, 1) := by decide +kernel
theorem dX2_at_1 : decode cX2_at 1 = .ok (.sipush (-400), 3) := by decide +kernel
theorem dX2_at_4 : decode cX2_at 4 = .ok (.if_icmp .lt 10, 3) := by decide +kernel
theorem dX2_at_7 : decode cX2_at 7 = .ok (.iload_n 1, 1) := by decide +kernel
theorem dX2_at_8 : decode cX2_at 8 = .ok (.sipush 450, 3) := by decide +kernel
theorem dX2_at_11 : decode cX2_at 11 = .ok (.if_icmp .lt 7, 3) := by decide +kernel
theorem dX2_at_14 : decode cX2_at 14 = .ok (.lconst 0, 1) := by decide +kernel
theorem dX2_at_15 : decode cX2_at 15 = .ok (.goto 16, 3) := by decide +kernel
theorem dX2_at_18 : decode cX2_at 18 = .ok (.aload_n 0, 1) := by decide +kernel
theorem dX2_at_19 : decode cX2_at 19 = .ok (.getfield 20, 3) := by decide +kernel
theorem dX2_at_22 : decode cX2_at 22 = .ok (.iconst 0, 1) := by decide +kernel
theorem dX2_at_23 : decode cX2_at 23 = .ok (.iload_n 1, 1) := by decide +kernel
theorem dX2_at_24 : decode cX2_at 24 = .ok (.sipush (-400), 3) := by decide +kernel
theorem dX2_at_27 : decode cX2_at 27 = .ok (.isub, 1) := by decide +kernel
theorem dX2_at_28 : decode cX2_at 28 = .ok (.invokevirtual 92, 3) := by decide +kernel
theorem dX2_at_31 : decode cX2_at 31 = .ok (.lreturn, 1) := by decide +kernel
theorem dX2_least_0 : decode cX2_least 0 = .ok (.sipush (-400), 3) := by decide +kernel
theorem dX2_least_3 : decode cX2_least 3 = .ok (.aload_n 0, 1) := by decide +kernel
theorem dX2_least_4 : decode cX2_least 4 = .ok (.getfield 20, 3) := by decide +kernel
theorem dX2_least_7 : decode cX2_least 7 = .ok (.iconst 0, 1) := by decide +kernel
theorem dX2_least_8 : decode cX2_least 8 = .ok (.invokevirtual 96, 3) := by decide +kernel
theorem dX2_least_11 : decode cX2_least 11 = .ok (.iadd, 1) := by decide +kernel
theorem dX2_least_12 : decode cX2_least 12 = .ok (.ireturn, 1) := by decide +kernel
theorem dX2_greatest_0 : decode cX2_greatest 0 = .ok (.sipush (-400), 3) := by decide +kernel
theorem dX2_greatest_3 : decode cX2_greatest 3 = .ok (.aload_n 0, 1) := by decide +kernel
theorem dX2_greatest_4 : decode cX2_greatest 4 = .ok (.getfield 20, 3) := by decide +kernel
theorem dX2_greatest_7 : decode cX2_greatest 7 = .ok (.iconst 0, 1) := by decide +kernel
theorem dX2_greatest_8 : decode cX2_greatest 8 = .ok (.invokevirtual 99, 3) := by decide +kernel
theorem dX2_greatest_11 : decode cX2_greatest 11 = .ok (.iadd, 1) := by decide +kernel
theorem dX2_greatest_12 : decode cX2_greatest 12 = .ok (.ireturn, 1) := by decide +kernel
theorem dX2_countFrom_0 : decode cX2_countFrom 0 = .ok (.lconst 0, 1) := by decide +kernel
theorem dX2_countFrom_1 : decode cX2_countFrom 1 = .ok (.lstore_n 2, 1) := by decide +kernel
theorem dX2_countFrom_2 : decode cX2_countFrom 2 = .ok (.iload_n 1, 1) := by decide +kernel
theorem dX2_countFrom_3 : decode cX2_countFrom 3 = .ok (.aload_n 0, 1) := by decide +kernel
theorem dX2_countFrom_4 : decode cX2_countFrom 4 = .ok (.invokevirtual 102, 3) := by decide +kernel
theorem dX2_countFrom_7 : decode cX2_countFrom 7 = .ok (.invokestatic 106, 3) := by decide +kernel
theorem dX2_countFrom_10 : decode cX2_countFrom 10 = .ok (.istore 4, 2) := by decide +kernel
theorem dX2_countFrom_12 : decode cX2_countFrom 12 = .ok (.iload 4, 2) := by decide +kernel
theorem dX2_countFrom_14 : decode cX2_countFrom 14 = .ok (.aload_n 0, 1) := by decide +kernel
theorem dX2_countFrom_15 : decode cX2_countFrom 15 = .ok (.invokevirtual 112, 3) := by decide +kernel
theorem dX2_countFrom_18 : decode cX2_countFrom 18 = .ok (.if_icmp .gt 24, 3) := by decide +kernel
theorem dX2_countFrom_21 : decode cX2_countFrom 21 = .ok (.ldc2_w 115, 3) := by decide +kernel
theorem dX2_countFrom_24 : decode cX2_countFrom 24 = .ok (.lload_n 2, 1) := by decide +kernel
theorem dX2_countFrom_25 : decode cX2_countFrom 25 = .ok (.aload_n 0, 1) := by decide +kernel
theorem dX2_countFrom_26 : decode cX2_countFrom 26 = .ok (.iload 4, 2) := by decide +kernel
theorem dX2_countFrom_28 : decode cX2_countFrom 28 = .ok (.invokevirtual 117, 3) := by decide +kernel
theorem dX2_countFrom_31 : decode cX2_countFrom 31 = .ok (.ladd, 1) := by decide +kernel
theorem dX2_countFrom_32 : decode cX2_countFrom 32 = .ok (.invokestatic 120, 3) := by decide +kernel
theorem dX2_countFrom_35 : decode cX2_countFrom 35 = .ok (.lstore_n 2, 1) := by decide +kernel
theorem dX2_countFrom_36 : decode cX2_countFrom 36 = .ok (.iinc 4 1, 3) := by decide +kernel
theorem dX2_countFrom_39 : decode cX2_countFrom 39 = .ok (.goto (-27), 3) := by decide +kernel
theorem dX2_countFrom_42 : decode cX2_countFrom 42 = .ok (.lload_n 2, 1) := by decide +kernel
theorem dX2_countFrom_43 : decode cX2_countFrom 43 = .ok (.lreturn, 1) := by decide +kernel
theorem dX2_marksFrom_0 : decode cX2_marksFrom 0 = .ok (.lconst 0, 1) := by decide +kernel
theorem dX2_marksFrom_1 : decode cX2_marksFrom 1 = .ok (.lstore_n 2, 1) := by decide +kernel
theorem dX2_marksFrom_2 : decode cX2_marksFrom 2 = .ok (.iload_n 1, 1) := by decide +kernel
theorem dX2_marksFrom_3 : decode cX2_marksFrom 3 = .ok (.aload_n 0, 1) := by decide +kernel
theorem dX2_marksFrom_4 : decode cX2_marksFrom 4 = .ok (.invokevirtual 102, 3) := by decide +kernel
theorem dX2_marksFrom_7 : decode cX2_marksFrom 7 = .ok (.invokestatic 106, 3) := by decide +kernel
theorem dX2_marksFrom_10 : decode cX2_marksFrom 10 = .ok (.istore 4, 2) := by decide +kernel
theorem dX2_marksFrom_12 : decode cX2_marksFrom 12 = .ok (.iload 4, 2) := by decide +kernel
theorem dX2_marksFrom_14 : decode cX2_marksFrom 14 = .ok (.aload_n 0, 1) := by decide +kernel
theorem dX2_marksFrom_15 : decode cX2_marksFrom 15 = .ok (.invokevirtual 112, 3) := by decide +kernel
theorem dX2_marksFrom_18 : decode cX2_marksFrom 18 = .ok (.if_icmp .gt 18, 3) := by decide +kernel
theorem dX2_marksFrom_21 : decode cX2_marksFrom 21 = .ok (.lload_n 2, 1) := by decide +kernel
theorem dX2_marksFrom_22 : decode cX2_marksFrom 22 = .ok (.aload_n 0, 1) := by decide +kernel
theorem dX2_marksFrom_23 : decode cX2_marksFrom 23 = .ok (.iload 4, 2) := by decide +kernel
theorem dX2_marksFrom_25 : decode cX2_marksFrom 25 = .ok (.invokevirtual 117, 3) := by decide +kernel
theorem dX2_marksFrom_28 : decode cX2_marksFrom 28 = .ok (.lor, 1) := by decide +kernel
theorem dX2_marksFrom_29 : decode cX2_marksFrom 29 = .ok (.lstore_n 2, 1) := by decide +kernel
theorem dX2_marksFrom_30 : decode cX2_marksFrom 30 = .ok (.iinc 4 1, 3) := by decide +kernel
theorem dX2_marksFrom_33 : decode cX2_marksFrom 33 = .ok (.goto (-21), 3) := by decide +kernel
theorem dX2_marksFrom_36 : decode cX2_marksFrom 36 = .ok (.lload_n 2, 1) := by decide +kernel
theorem dX2_marksFrom_37 : decode cX2_marksFrom 37 = .ok (.lreturn, 1) := by decide +kernel
theorem dX2_marksBelow_0 : decode cX2_marksBelow 0 = .ok (.lconst 0, 1) := by decide +kernel
theorem dX2_marksBelow_1 : decode cX2_marksBelow 1 = .ok (.lstore_n 2, 1) := by decide +kernel
theorem dX2_marksBelow_2 : decode cX2_marksBelow 2 = .ok (.aload_n 0, 1) := by decide +kernel
theorem dX2_marksBelow_3 : decode cX2_marksBelow 3 = .ok (.invokevirtual 102, 3) := by decide +kernel
theorem dX2_marksBelow_6 : decode cX2_marksBelow 6 = .ok (.istore 4, 2) := by decide +kernel
theorem dX2_marksBelow_8 : decode cX2_marksBelow 8 = .ok (.iload 4, 2) := by decide +kernel
theorem dX2_marksBelow_10 : decode cX2_marksBelow 10 = .ok (.iload_n 1, 1) := by decide +kernel
theorem dX2_marksBelow_11 : decode cX2_marksBelow 11 = .ok (.if_icmp .ge 27, 3) := by decide +kernel
theorem dX2_marksBelow_14 : decode cX2_marksBelow 14 = .ok (.iload 4, 2) := by decide +kernel
theorem dX2_marksBelow_16 : decode cX2_marksBelow 16 = .ok (.aload_n 0, 1) := by decide +kernel
theorem dX2_marksBelow_17 : decode cX2_marksBelow 17 = .ok (.invokevirtual 112, 3) := by decide +kernel
theorem dX2_marksBelow_20 : decode cX2_marksBelow 20 = .ok (.if_icmp .gt 18, 3) := by decide +kernel
theorem dX2_marksBelow_23 : decode cX2_marksBelow 23 = .ok (.lload_n 2, 1) := by decide +kernel
theorem dX2_marksBelow_24 : decode cX2_marksBelow 24 = .ok (.aload_n 0, 1) := by decide +kernel
theorem dX2_marksBelow_25 : decode cX2_marksBelow 25 = .ok (.iload 4, 2) := by decide +kernel
theorem dX2_marksBelow_27 : decode cX2_marksBelow 27 = .ok (.invokevirtual 117, 3) := by decide +kernel
theorem dX2_marksBelow_30 : decode cX2_marksBelow 30 = .ok (.lor, 1) := by decide +kernel
theorem dX2_marksBelow_31 : decode cX2_marksBelow 31 = .ok (.lstore_n 2, 1) := by decide +kernel
theorem dX2_marksBelow_32 : decode cX2_marksBelow 32 = .ok (.iinc 4 1, 3) := by decide +kernel
theorem dX2_marksBelow_35 : decode cX2_marksBelow 35 = .ok (.goto (-27), 3) := by decide +kernel
theorem dX2_marksBelow_38 : decode cX2_marksBelow 38 = .ok (.lload_n 2, 1) := by decide +kernel
theorem dX2_marksBelow_39 : decode cX2_marksBelow 39 = .ok (.lreturn, 1) := by decide +kernel
theorem dX2_goThrough_0 : decode cX2_goThrough 0 = .ok (.aload_n 0, 1) := by decide +kernel
theorem dX2_goThrough_1 : decode cX2_goThrough 1 = .ok (.aload_n 1, 1) := by decide +kernel
theorem dX2_goThrough_2 : decode cX2_goThrough 2 = .ok (.putfield 58, 3) := by decide +kernel
theorem dX2_goThrough_5 : decode cX2_goThrough 5 = .ok (.aload_n 0, 1) := by decide +kernel
theorem dX2_goThrough_6 : decode cX2_goThrough 6 = .ok (.aload_n 1, 1) := by decide +kernel
theorem dX2_goThrough_7 : decode cX2_goThrough 7 = .ok (.getfield 62, 3) := by decide +kernel
theorem dX2_goThrough_10 : decode cX2_goThrough 10 = .ok (.putfield 68, 3) := by decide +kernel
theorem dX2_goThrough_13 : decode cX2_goThrough 13 = .ok (.aload_n 0, 1) := by decide +kernel
theorem dX2_goThrough_14 : decode cX2_goThrough 14 = .ok (.getfield 20, 3) := by decide +kernel
theorem dX2_goThrough_17 : decode cX2_goThrough 17 = .ok (.invokevirtual 124, 3) := by decide +kernel
theorem dX2_goThrough_20 : decode cX2_goThrough 20 = .ok (.aload_n 0, 1) := by decide +kernel
theorem dX2_goThrough_21 : decode cX2_goThrough 21 = .ok (.getfield 24, 3) := by decide +kernel
theorem dX2_goThrough_24 : decode cX2_goThrough 24 = .ok (.invokevirtual 124, 3) := by decide +kernel
theorem dX2_goThrough_27 : decode cX2_goThrough 27 = .ok (.aload_n 0, 1) := by decide +kernel
theorem dX2_goThrough_28 : decode cX2_goThrough 28 = .ok (.getfield 20, 3) := by decide +kernel
theorem dX2_goThrough_31 : decode cX2_goThrough 31 = .ok (.invokevirtual 127, 3) := by decide +kernel
theorem dX2_goThrough_34 : decode cX2_goThrough 34 = .ok (.aload_n 0, 1) := by decide +kernel
theorem dX2_goThrough_35 : decode cX2_goThrough 35 = .ok (.getfield 20, 3) := by decide +kernel
theorem dX2_goThrough_38 : decode cX2_goThrough 38 = .ok (.iconst 0, 1) := by decide +kernel
theorem dX2_goThrough_39 : decode cX2_goThrough 39 = .ok (.sipush 400, 3) := by decide +kernel
theorem dX2_goThrough_42 : decode cX2_goThrough 42 = .ok (.lconst 1, 1) := by decide +kernel
theorem dX2_goThrough_43 : decode cX2_goThrough 43 = .ok (.invokevirtual 130, 3) := by decide +kernel
theorem dX2_goThrough_46 : decode cX2_goThrough 46 = .ok (.iconst 0, 1) := by decide +kernel
theorem dX2_goThrough_47 : decode cX2_goThrough 47 = .ok (.istore_n 2, 1) := by decide +kernel
theorem dX2_goThrough_48 : decode cX2_goThrough 48 = .ok (.iload_n 2, 1) := by decide +kernel
theorem dX2_goThrough_49 : decode cX2_goThrough 49 = .ok (.aload_n 0, 1) := by decide +kernel
theorem dX2_goThrough_50 : decode cX2_goThrough 50 = .ok (.getfield 68, 3) := by decide +kernel
theorem dX2_goThrough_53 : decode cX2_goThrough 53 = .ok (.getfield 87, 3) := by decide +kernel
theorem dX2_goThrough_56 : decode cX2_goThrough 56 = .ok (.if_icmp .gt 14, 3) := by decide +kernel
theorem dX2_goThrough_59 : decode cX2_goThrough 59 = .ok (.aload_n 0, 1) := by decide +kernel
theorem dX2_goThrough_60 : decode cX2_goThrough 60 = .ok (.iload_n 2, 1) := by decide +kernel
theorem dX2_goThrough_61 : decode cX2_goThrough 61 = .ok (.invokevirtual 134, 3) := by decide +kernel
theorem dX2_goThrough_64 : decode cX2_goThrough 64 = .ok (.iinc 2 1, 3) := by decide +kernel
theorem dX2_goThrough_67 : decode cX2_goThrough 67 = .ok (.goto (-19), 3) := by decide +kernel
theorem dX2_goThrough_70 : decode cX2_goThrough 70 = .ok (.return_, 1) := by decide +kernel
theorem dX2_goThroughFrame_0 : decode cX2_goThroughFrame 0 = .ok (.iconst 0, 1) := by decide +kernel
theorem dX2_goThroughFrame_1 : decode cX2_goThroughFrame 1 = .ok (.istore_n 2, 1) := by decide +kernel
theorem dX2_goThroughFrame_2 : decode cX2_goThroughFrame 2 = .ok (.iload_n 2, 1) := by decide +kernel
theorem dX2_goThroughFrame_3 : decode cX2_goThroughFrame 3 = .ok (.bipush 14, 2) := by decide +kernel
theorem dX2_goThroughFrame_5 : decode cX2_goThroughFrame 5 = .ok (.if_icmp .ge 145, 3) := by decide +kernel
theorem dX2_goThroughFrame_8 : decode cX2_goThroughFrame 8 = .ok (.aload_n 0, 1) := by decide +kernel
theorem dX2_goThroughFrame_9 : decode cX2_goThroughFrame 9 = .ok (.getfield 20, 3) := by decide +kernel
theorem dX2_goThroughFrame_12 : decode cX2_goThroughFrame 12 = .ok (.iload_n 2, 1) := by decide +kernel
theorem dX2_goThroughFrame_13 : decode cX2_goThroughFrame 13 = .ok (.invokevirtual 138, 3) := by decide +kernel
theorem dX2_goThroughFrame_16 : decode cX2_goThroughFrame 16 = .ok (.ifCond .eq 6, 3) := by decide +kernel
theorem dX2_goThroughFrame_19 : decode cX2_goThroughFrame 19 = .ok (.goto 125, 3) := by decide +kernel
theorem dX2_goThroughFrame_22 : decode cX2_goThroughFrame 22 = .ok (.aload_n 0, 1) := by decide +kernel
theorem dX2_goThroughFrame_23 : decode cX2_goThroughFrame 23 = .ok (.lconst 1, 1) := by decide +kernel
theorem dX2_goThroughFrame_24 : decode cX2_goThroughFrame 24 = .ok (.putfield 44, 3) := by decide +kernel
theorem dX2_goThroughFrame_27 : decode cX2_goThroughFrame 27 = .ok (.iload_n 1, 1) := by decide +kernel
theorem dX2_goThroughFrame_28 : decode cX2_goThroughFrame 28 = .ok (.aload_n 0, 1) := by decide +kernel
theorem dX2_goThroughFrame_29 : decode cX2_goThroughFrame 29 = .ok (.getfield 68, 3) := by decide +kernel
theorem dX2_goThroughFrame_32 : decode cX2_goThroughFrame 32 = .ok (.getfield 87, 3) := by decide +kernel
theorem dX2_goThroughFrame_35 : decode cX2_goThroughFrame 35 = .ok (.if_icmp .ge 22, 3) := by decide +kernel
theorem dX2_goThroughFrame_38 : decode cX2_goThroughFrame 38 = .ok (.aload_n 0, 1) := by decide +kernel
theorem dX2_goThroughFrame_39 : decode cX2_goThroughFrame 39 = .ok (.iload_n 1, 1) := by decide +kernel
theorem dX2_goThroughFrame_40 : decode cX2_goThroughFrame 40 = .ok (.iconst 0, 1) := by decide +kernel
theorem dX2_goThroughFrame_41 : decode cX2_goThroughFrame 41 = .ok (.aload_n 0, 1) := by decide +kernel
theorem dX2_goThroughFrame_42 : decode cX2_goThroughFrame 42 = .ok (.getfield 68, 3) := by decide +kernel
theorem dX2_goThroughFrame_45 : decode cX2_goThroughFrame 45 = .ok (.getfield 142, 3) := by decide +kernel
theorem dX2_goThroughFrame_48 : decode cX2_goThroughFrame 48 = .ok (.iload_n 2, 1) := by decide +kernel
theorem dX2_goThroughFrame_49 : decode cX2_goThroughFrame 49 = .ok (.iconst 0, 1) := by decide +kernel
theorem dX2_goThroughFrame_50 : decode cX2_goThroughFrame 50 = .ok (.iconst 0, 1) := by decide +kernel
theorem dX2_goThroughFrame_51 : decode cX2_goThroughFrame 51 = .ok (.invokevirtual 145, 3) := by decide +kernel
theorem dX2_goThroughFrame_54 : decode cX2_goThroughFrame 54 = .ok (.goto 36, 3) := by decide +kernel
theorem dX2_goThroughFrame_57 : decode cX2_goThroughFrame 57 = .ok (.aload_n 0, 1) := by decide +kernel
theorem dX2_goThroughFrame_58 : decode cX2_goThroughFrame 58 = .ok (.getfield 31, 3) := by decide +kernel
theorem dX2_goThroughFrame_61 : decode cX2_goThroughFrame 61 = .ok (.ifCond .eq 15, 3) := by decide +kernel
theorem dX2_goThroughFrame_64 : decode cX2_goThroughFrame 64 = .ok (.iload_n 2, 1) := by decide +kernel
theorem dX2_goThroughFrame_65 : decode cX2_goThroughFrame 65 = .ok (.invokestatic 149, 3) := by decide +kernel
theorem dX2_goThroughFrame_68 : decode cX2_goThroughFrame 68 = .ok (.aload_n 0, 1) := by decide +kernel
theorem dX2_goThroughFrame_69 : decode cX2_goThroughFrame 69 = .ok (.iload_n 1, 1) := by decide +kernel
theorem dX2_goThroughFrame_70 : decode cX2_goThroughFrame 70 = .ok (.invokevirtual 152, 3) := by decide +kernel
theorem dX2_goThroughFrame_73 : decode cX2_goThroughFrame 73 = .ok (.if_icmp .ne 17, 3) := by decide +kernel
theorem dX2_goThroughFrame_76 : decode cX2_goThroughFrame 76 = .ok (.aload_n 0, 1) := by decide +kernel
theorem dX2_goThroughFrame_77 : decode cX2_goThroughFrame 77 = .ok (.iconst 0, 1) := by decide +kernel
theorem dX2_goThroughFrame_78 : decode cX2_goThroughFrame 78 = .ok (.aload_n 0, 1) := by decide +kernel
theorem dX2_goThroughFrame_79 : decode cX2_goThroughFrame 79 = .ok (.getfield 68, 3) := by decide +kernel
theorem dX2_goThroughFrame_82 : decode cX2_goThroughFrame 82 = .ok (.getfield 142, 3) := by decide +kernel
theorem dX2_goThroughFrame_85 : decode cX2_goThroughFrame 85 = .ok (.iload_n 2, 1) := by decide +kernel
theorem dX2_goThroughFrame_86 : decode cX2_goThroughFrame 86 = .ok (.iconst 0, 1) := by decide +kernel
theorem dX2_goThroughFrame_87 : decode cX2_goThroughFrame 87 = .ok (.invokevirtual 155, 3) := by decide +kernel
theorem dX2_goThroughFrame_90 : decode cX2_goThroughFrame 90 = .ok (.iconst 0, 1) := by decide +kernel
theorem dX2_goThroughFrame_91 : decode cX2_goThroughFrame 91 = .ok (.istore_n 3, 1) := by decide +kernel
theorem dX2_goThroughFrame_92 : decode cX2_goThroughFrame 92 = .ok (.iload_n 3, 1) := by decide +kernel
theorem dX2_goThroughFrame_93 : decode cX2_goThroughFrame 93 = .ok (.aload_n 0, 1) := by decide +kernel
theorem dX2_goThroughFrame_94 : decode cX2_goThroughFrame 94 = .ok (.getfield 55, 3) := by decide +kernel
theorem dX2_goThroughFrame_97 : decode cX2_goThroughFrame 97 = .ok (.if_icmp .ge 42, 3) := by decide +kernel
theorem dX2_goThroughFrame_100 : decode cX2_goThroughFrame 100 = .ok (.iload_n 3, 1) := by decide +kernel
theorem dX2_goThroughFrame_101 : decode cX2_goThroughFrame 101 = .ok (.aload_n 0, 1) := by decide +kernel
theorem dX2_goThroughFrame_102 : decode cX2_goThroughFrame 102 = .ok (.getfield 52, 3) := by decide +kernel
theorem dX2_goThroughFrame_105 : decode cX2_goThroughFrame 105 = .ok (.arraylength, 1) := by decide +kernel
theorem dX2_goThroughFrame_106 : decode cX2_goThroughFrame 106 = .ok (.if_icmp .ge 33, 3) := by decide +kernel
theorem dX2_goThroughFrame_109 : decode cX2_goThroughFrame 109 = .ok (.aload_n 0, 1) := by decide +kernel
theorem dX2_goThroughFrame_110 : decode cX2_goThroughFrame 110 = .ok (.iload_n 2, 1) := by decide +kernel
theorem dX2_goThroughFrame_111 : decode cX2_goThroughFrame 111 = .ok (.aload_n 0, 1) := by decide +kernel
theorem dX2_goThroughFrame_112 : decode cX2_goThroughFrame 112 = .ok (.getfield 52, 3) := by decide +kernel
theorem dX2_goThroughFrame_115 : decode cX2_goThroughFrame 115 = .ok (.iload_n 3, 1) := by decide +kernel
theorem dX2_goThroughFrame_116 : decode cX2_goThroughFrame 116 = .ok (.iaload, 1) := by decide +kernel
theorem dX2_goThroughFrame_117 : decode cX2_goThroughFrame 117 = .ok (.iload_n 1, 1) := by decide +kernel
theorem dX2_goThroughFrame_118 : decode cX2_goThroughFrame 118 = .ok (.aload_n 0, 1) := by decide +kernel
theorem dX2_goThroughFrame_119 : decode cX2_goThroughFrame 119 = .ok (.getfield 38, 3) := by decide +kernel
theorem dX2_goThroughFrame_122 : decode cX2_goThroughFrame 122 = .ok (.if_icmp .ne 7, 3) := by decide +kernel
theorem dX2_goThroughFrame_125 : decode cX2_goThroughFrame 125 = .ok (.iconst 1, 1) := by decide +kernel
theorem dX2_goThroughFrame_126 : decode cX2_goThroughFrame 126 = .ok (.goto 4, 3) := by decide +kernel
theorem dX2_goThroughFrame_129 : decode cX2_goThroughFrame 129 = .ok (.iconst 0, 1) := by decide +kernel
theorem dX2_goThroughFrame_130 : decode cX2_goThroughFrame 130 = .ok (.invokevirtual 159, 3) := by decide +kernel
theorem dX2_goThroughFrame_133 : decode cX2_goThroughFrame 133 = .ok (.iinc 3 1, 3) := by decide +kernel
theorem dX2_goThroughFrame_136 : decode cX2_goThroughFrame 136 = .ok (.goto (-44), 3) := by decide +kernel
theorem dX2_goThroughFrame_139 : decode cX2_goThroughFrame 139 = .ok (.aload_n 0, 1) := by decide +kernel
theorem dX2_goThroughFrame_140 : decode cX2_goThroughFrame 140 = .ok (.iconst 0, 1) := by decide +kernel
theorem dX2_goThroughFrame_141 : decode cX2_goThroughFrame 141 = .ok (.putfield 55, 3) := by decide +kernel
theorem dX2_goThroughFrame_144 : decode cX2_goThroughFrame 144 = .ok (.iinc 2 1, 3) := by decide +kernel
theorem dX2_goThroughFrame_147 : decode cX2_goThroughFrame 147 = .ok (.goto (-145), 3) := by decide +kernel
theorem dX2_goThroughFrame_150 : decode cX2_goThroughFrame 150 = .ok (.aload_n 0, 1) := by decide +kernel
theorem dX2_goThroughFrame_151 : decode cX2_goThroughFrame 151 = .ok (.getfield 20, 3) := by decide +kernel
theorem dX2_goThroughFrame_154 : decode cX2_goThroughFrame 154 = .ok (.invokevirtual 127, 3) := by decide +kernel
theorem dX2_goThroughFrame_157 : decode cX2_goThroughFrame 157 = .ok (.aload_n 0, 1) := by decide +kernel
theorem dX2_goThroughFrame_158 : decode cX2_goThroughFrame 158 = .ok (.getfield 20, 3) := by decide +kernel
theorem dX2_goThroughFrame_161 : decode cX2_goThroughFrame 161 = .ok (.astore_n 2, 1) := by decide +kernel
theorem dX2_goThroughFrame_162 : decode cX2_goThroughFrame 162 = .ok (.aload_n 0, 1) := by decide +kernel
theorem dX2_goThroughFrame_163 : decode cX2_goThroughFrame 163 = .ok (.aload_n 0, 1) := by decide +kernel
theorem dX2_goThroughFrame_164 : decode cX2_goThroughFrame 164 = .ok (.getfield 24, 3) := by decide +kernel
theorem dX2_goThroughFrame_167 : decode cX2_goThroughFrame 167 = .ok (.putfield 20, 3) := by decide +kernel
theorem dX2_goThroughFrame_170 : decode cX2_goThroughFrame 170 = .ok (.aload_n 0, 1) := by decide +kernel
theorem dX2_goThroughFrame_171 : decode cX2_goThroughFrame 171 = .ok (.aload_n 2, 1) := by decide +kernel
theorem dX2_goThroughFrame_172 : decode cX2_goThroughFrame 172 = .ok (.putfield 24, 3) := by decide +kernel
theorem dX2_goThroughFrame_175 : decode cX2_goThroughFrame 175 = .ok (.return_, 1) := by decide +kernel
theorem dX2_playFrame_0 : decode cX2_playFrame 0 = .ok (.iload_n 3, 1) := by decide +kernel
theorem dX2_playFrame_1 : decode cX2_playFrame 1 = .ok (.ifCond .le 14, 3) := by decide +kernel
theorem dX2_playFrame_4 : decode cX2_playFrame 4 = .ok (.iload_n 2, 1) := by decide +kernel
theorem dX2_playFrame_5 : decode cX2_playFrame 5 = .ok (.aload_n 0, 1) := by decide +kernel
theorem dX2_playFrame_6 : decode cX2_playFrame 6 = .ok (.getfield 68, 3) := by decide +kernel
theorem dX2_playFrame_9 : decode cX2_playFrame 9 = .ok (.getfield 163, 3) := by decide +kernel
theorem dX2_playFrame_12 : decode cX2_playFrame 12 = .ok (.if_icmp .lt 71, 3) := by decide +kernel
theorem dX2_playFrame_15 : decode cX2_playFrame 15 = .ok (.aload_n 0, 1) := by decide +kernel
theorem dX2_playFrame_16 : decode cX2_playFrame 16 = .ok (.getfield 68, 3) := by decide +kernel
theorem dX2_playFrame_19 : decode cX2_playFrame 19 = .ok (.iload_n 1, 1) := by decide +kernel
theorem dX2_playFrame_20 : decode cX2_playFrame 20 = .ok (.aload_n 0, 1) := by decide +kernel
theorem dX2_playFrame_21 : decode cX2_playFrame 21 = .ok (.getfield 68, 3) := by decide +kernel
theorem dX2_playFrame_24 : decode cX2_playFrame 24 = .ok (.getfield 142, 3) := by decide +kernel
theorem dX2_playFrame_27 : decode cX2_playFrame 27 = .ok (.iload_n 3, 1) := by decide +kernel
theorem dX2_playFrame_28 : decode cX2_playFrame 28 = .ok (.isub, 1) := by decide +kernel
theorem dX2_playFrame_29 : decode cX2_playFrame 29 = .ok (.iload_n 2, 1) := by decide +kernel
theorem dX2_playFrame_30 : decode cX2_playFrame 30 = .ok (.iload 6, 2) := by decide +kernel
theorem dX2_playFrame_32 : decode cX2_playFrame 32 = .ok (.invokevirtual 166, 3) := by decide +kernel
theorem dX2_playFrame_35 : decode cX2_playFrame 35 = .ok (.istore 7, 2) := by decide +kernel
theorem dX2_playFrame_37 : decode cX2_playFrame 37 = .ok (.iload_n 3, 1) := by decide +kernel
theorem dX2_playFrame_38 : decode cX2_playFrame 38 = .ok (.ifCond .gt 14, 3) := by decide +kernel
theorem dX2_playFrame_41 : decode cX2_playFrame 41 = .ok (.aload_n 0, 1) := by decide +kernel
theorem dX2_playFrame_42 : decode cX2_playFrame 42 = .ok (.getfield 68, 3) := by decide +kernel
theorem dX2_playFrame_45 : decode cX2_playFrame 45 = .ok (.iload_n 2, 1) := by decide +kernel
theorem dX2_playFrame_46 : decode cX2_playFrame 46 = .ok (.invokevirtual 170, 3) := by decide +kernel
theorem dX2_playFrame_49 : decode cX2_playFrame 49 = .ok (.goto 4, 3) := by decide +kernel
theorem dX2_playFrame_52 : decode cX2_playFrame 52 = .ok (.iconst 0, 1) := by decide +kernel
theorem dX2_playFrame_53 : decode cX2_playFrame 53 = .ok (.istore 8, 2) := by decide +kernel
theorem dX2_playFrame_55 : decode cX2_playFrame 55 = .ok (.aload_n 0, 1) := by decide +kernel
theorem dX2_playFrame_56 : decode cX2_playFrame 56 = .ok (.iload 4, 2) := by decide +kernel
theorem dX2_playFrame_58 : decode cX2_playFrame 58 = .ok (.iload 8, 2) := by decide +kernel
theorem dX2_playFrame_60 : decode cX2_playFrame 60 = .ok (.invokestatic 173, 3) := by decide +kernel
theorem dX2_playFrame_63 : decode cX2_playFrame 63 = .ok (.iload 5, 2) := by decide +kernel
theorem dX2_playFrame_65 : decode cX2_playFrame 65 = .ok (.iload 7, 2) := by decide +kernel
theorem dX2_playFrame_67 : decode cX2_playFrame 67 = .ok (.iadd, 1) := by decide +kernel
theorem dX2_playFrame_68 : decode cX2_playFrame 68 = .ok (.iload 6, 2) := by decide +kernel
theorem dX2_playFrame_70 : decode cX2_playFrame 70 = .ok (.aload_n 0, 1) := by decide +kernel
theorem dX2_playFrame_71 : decode cX2_playFrame 71 = .ok (.getfield 68, 3) := by decide +kernel
theorem dX2_playFrame_74 : decode cX2_playFrame 74 = .ok (.getfield 176, 3) := by decide +kernel
theorem dX2_playFrame_77 : decode cX2_playFrame 77 = .ok (.imul, 1) := by decide +kernel
theorem dX2_playFrame_78 : decode cX2_playFrame 78 = .ok (.isub, 1) := by decide +kernel
theorem dX2_playFrame_79 : decode cX2_playFrame 79 = .ok (.invokevirtual 179, 3) := by decide +kernel
theorem dX2_playFrame_82 : decode cX2_playFrame 82 = .ok (.return_, 1) := by decide +kernel
theorem dX2_playFrame_83 : decode cX2_playFrame 83 = .ok (.iconst 1, 1) := by decide +kernel
theorem dX2_playFrame_84 : decode cX2_playFrame 84 = .ok (.iload 4, 2) := by decide +kernel
theorem dX2_playFrame_86 : decode cX2_playFrame 86 = .ok (.invokestatic 182, 3) := by decide +kernel
theorem dX2_playFrame_89 : decode cX2_playFrame 89 = .ok (.iadd, 1) := by decide +kernel
theorem dX2_playFrame_90 : decode cX2_playFrame 90 = .ok (.istore 7, 2) := by decide +kernel
theorem dX2_playFrame_92 : decode cX2_playFrame 92 = .ok (.iload 4, 2) := by decide +kernel
theorem dX2_playFrame_94 : decode cX2_playFrame 94 = .ok (.invokestatic 185, 3) := by decide +kernel
theorem dX2_playFrame_97 : decode cX2_playFrame 97 = .ok (.istore 8, 2) := by decide +kernel
theorem dX2_playFrame_99 : decode cX2_playFrame 99 = .ok (.iload_n 2, 1) := by decide +kernel
theorem dX2_playFrame_100 : decode cX2_playFrame 100 = .ok (.aload_n 0, 1) := by decide +kernel
theorem dX2_playFrame_101 : decode cX2_playFrame 101 = .ok (.iload_n 1, 1) := by decide +kernel
theorem dX2_playFrame_102 : decode cX2_playFrame 102 = .ok (.invokevirtual 152, 3) := by decide +kernel
theorem dX2_playFrame_105 : decode cX2_playFrame 105 = .ok (.if_icmp .ge 77, 3) := by decide +kernel
theorem dX2_playFrame_108 : decode cX2_playFrame 108 = .ok (.aload_n 0, 1) := by decide +kernel
theorem dX2_playFrame_109 : decode cX2_playFrame 109 = .ok (.getfield 58, 3) := by decide +kernel
theorem dX2_playFrame_112 : decode cX2_playFrame 112 = .ok (.aload_n 0, 1) := by decide +kernel
theorem dX2_playFrame_113 : decode cX2_playFrame 113 = .ok (.getfield 58, 3) := by decide +kernel
theorem dX2_playFrame_116 : decode cX2_playFrame 116 = .ok (.iload_n 1, 1) := by decide +kernel
theorem dX2_playFrame_117 : decode cX2_playFrame 117 = .ok (.invokevirtual 188, 3) := by decide +kernel
theorem dX2_playFrame_120 : decode cX2_playFrame 120 = .ok (.iload_n 2, 1) := by decide +kernel
theorem dX2_playFrame_121 : decode cX2_playFrame 121 = .ok (.iadd, 1) := by decide +kernel
theorem dX2_playFrame_122 : decode cX2_playFrame 122 = .ok (.invokevirtual 191, 3) := by decide +kernel
theorem dX2_playFrame_125 : decode cX2_playFrame 125 = .ok (.istore 9, 2) := by decide +kernel
theorem dX2_playFrame_127 : decode cX2_playFrame 127 = .ok (.iconst 0, 1) := by decide +kernel
theorem dX2_playFrame_128 : decode cX2_playFrame 128 = .ok (.iload 9, 2) := by decide +kernel
theorem dX2_playFrame_130 : decode cX2_playFrame 130 = .ok (.iload_n 3, 1) := by decide +kernel
theorem dX2_playFrame_131 : decode cX2_playFrame 131 = .ok (.invokestatic 194, 3) := by decide +kernel
theorem dX2_playFrame_134 : decode cX2_playFrame 134 = .ok (.istore 10, 2) := by decide +kernel
theorem dX2_playFrame_136 : decode cX2_playFrame 136 = .ok (.aload_n 0, 1) := by decide +kernel
theorem dX2_playFrame_137 : decode cX2_playFrame 137 = .ok (.iload_n 1, 1) := by decide +kernel
theorem dX2_playFrame_138 : decode cX2_playFrame 138 = .ok (.iload_n 2, 1) := by decide +kernel
theorem dX2_playFrame_139 : decode cX2_playFrame 139 = .ok (.iload 10, 2) := by decide +kernel
theorem dX2_playFrame_141 : decode cX2_playFrame 141 = .ok (.invokevirtual 198, 3) := by decide +kernel
theorem dX2_playFrame_144 : decode cX2_playFrame 144 = .ok (.aload_n 0, 1) := by decide +kernel
theorem dX2_playFrame_145 : decode cX2_playFrame 145 = .ok (.iload_n 1, 1) := by decide +kernel
theorem dX2_playFrame_146 : decode cX2_playFrame 146 = .ok (.iload_n 2, 1) := by decide +kernel
theorem dX2_playFrame_147 : decode cX2_playFrame 147 = .ok (.iconst 1, 1) := by decide +kernel
theorem dX2_playFrame_148 : decode cX2_playFrame 148 = .ok (.iadd, 1) := by decide +kernel
theorem dX2_playFrame_149 : decode cX2_playFrame 149 = .ok (.iload_n 3, 1) := by decide +kernel
theorem dX2_playFrame_150 : decode cX2_playFrame 150 = .ok (.iload 10, 2) := by decide +kernel
theorem dX2_playFrame_152 : decode cX2_playFrame 152 = .ok (.isub, 1) := by decide +kernel
theorem dX2_playFrame_153 : decode cX2_playFrame 153 = .ok (.iload 8, 2) := by decide +kernel
theorem dX2_playFrame_155 : decode cX2_playFrame 155 = .ok (.iload 5, 2) := by decide +kernel
theorem dX2_playFrame_157 : decode cX2_playFrame 157 = .ok (.iload 7, 2) := by decide +kernel
theorem dX2_playFrame_159 : decode cX2_playFrame 159 = .ok (.iload 10, 2) := by decide +kernel
theorem dX2_playFrame_161 : decode cX2_playFrame 161 = .ok (.imul, 1) := by decide +kernel
theorem dX2_playFrame_162 : decode cX2_playFrame 162 = .ok (.iadd, 1) := by decide +kernel
theorem dX2_playFrame_163 : decode cX2_playFrame 163 = .ok (.iload 6, 2) := by decide +kernel
theorem dX2_playFrame_165 : decode cX2_playFrame 165 = .ok (.iload 9, 2) := by decide +kernel
theorem dX2_playFrame_167 : decode cX2_playFrame 167 = .ok (.bipush (-2), 2) := by decide +kernel
theorem dX2_playFrame_169 : decode cX2_playFrame 169 = .ok (.if_icmp .ne 7, 3) := by decide +kernel
theorem dX2_playFrame_172 : decode cX2_playFrame 172 = .ok (.iconst 1, 1) := by decide +kernel
theorem dX2_playFrame_173 : decode cX2_playFrame 173 = .ok (.goto 4, 3) := by decide +kernel
theorem dX2_playFrame_176 : decode cX2_playFrame 176 = .ok (.iconst 0, 1) := by decide +kernel
theorem dX2_playFrame_177 : decode cX2_playFrame 177 = .ok (.iadd, 1) := by decide +kernel
theorem dX2_playFrame_178 : decode cX2_playFrame 178 = .ok (.invokevirtual 145, 3) := by decide +kernel
theorem dX2_playFrame_181 : decode cX2_playFrame 181 = .ok (.return_, 1) := by decide +kernel
theorem dX2_playFrame_182 : decode cX2_playFrame 182 = .ok (.iconst 0, 1) := by decide +kernel
theorem dX2_playFrame_183 : decode cX2_playFrame 183 = .ok (.istore 9, 2) := by decide +kernel
theorem dX2_playFrame_185 : decode cX2_playFrame 185 = .ok (.iload 9, 2) := by decide +kernel
theorem dX2_playFrame_187 : decode cX2_playFrame 187 = .ok (.iload_n 3, 1) := by decide +kernel
theorem dX2_playFrame_188 : decode cX2_playFrame 188 = .ok (.if_icmp .gt 41, 3) := by decide +kernel
theorem dX2_playFrame_191 : decode cX2_playFrame 191 = .ok (.aload_n 0, 1) := by decide +kernel
theorem dX2_playFrame_192 : decode cX2_playFrame 192 = .ok (.iload_n 1, 1) := by decide +kernel
theorem dX2_playFrame_193 : decode cX2_playFrame 193 = .ok (.iload_n 2, 1) := by decide +kernel
theorem dX2_playFrame_194 : decode cX2_playFrame 194 = .ok (.iload 9, 2) := by decide +kernel
theorem dX2_playFrame_196 : decode cX2_playFrame 196 = .ok (.invokevirtual 198, 3) := by decide +kernel
theorem dX2_playFrame_199 : decode cX2_playFrame 199 = .ok (.aload_n 0, 1) := by decide +kernel
theorem dX2_playFrame_200 : decode cX2_playFrame 200 = .ok (.iload_n 1, 1) := by decide +kernel
theorem dX2_playFrame_201 : decode cX2_playFrame 201 = .ok (.iload_n 2, 1) := by decide +kernel
theorem dX2_playFrame_202 : decode cX2_playFrame 202 = .ok (.iconst 1, 1) := by decide +kernel
theorem dX2_playFrame_203 : decode cX2_playFrame 203 = .ok (.iadd, 1) := by decide +kernel
theorem dX2_playFrame_204 : decode cX2_playFrame 204 = .ok (.iload_n 3, 1) := by decide +kernel
theorem dX2_playFrame_205 : decode cX2_playFrame 205 = .ok (.iload 9, 2) := by decide +kernel
theorem dX2_playFrame_207 : decode cX2_playFrame 207 = .ok (.isub, 1) := by decide +kernel
theorem dX2_playFrame_208 : decode cX2_playFrame 208 = .ok (.iload 8, 2) := by decide +kernel
theorem dX2_playFrame_210 : decode cX2_playFrame 210 = .ok (.iload 5, 2) := by decide +kernel
theorem dX2_playFrame_212 : decode cX2_playFrame 212 = .ok (.iload 7, 2) := by decide +kernel
theorem dX2_playFrame_214 : decode cX2_playFrame 214 = .ok (.iload 9, 2) := by decide +kernel
theorem dX2_playFrame_216 : decode cX2_playFrame 216 = .ok (.imul, 1) := by decide +kernel
theorem dX2_playFrame_217 : decode cX2_playFrame 217 = .ok (.iadd, 1) := by decide +kernel
theorem dX2_playFrame_218 : decode cX2_playFrame 218 = .ok (.iload 6, 2) := by decide +kernel
theorem dX2_playFrame_220 : decode cX2_playFrame 220 = .ok (.invokevirtual 145, 3) := by decide +kernel
theorem dX2_playFrame_223 : decode cX2_playFrame 223 = .ok (.iinc 9 1, 3) := by decide +kernel
theorem dX2_playFrame_226 : decode cX2_playFrame 226 = .ok (.goto (-41), 3) := by decide +kernel
theorem dX2_playFrame_229 : decode cX2_playFrame 229 = .ok (.return_, 1) := by decide +kernel
theorem dX2_playFills_0 : decode cX2_playFills 0 = .ok (.iload_n 3, 1) := by decide +kernel
theorem dX2_playFills_1 : decode cX2_playFills 1 = .ok (.invokestatic 182, 3) := by decide +kernel
theorem dX2_playFills_4 : decode cX2_playFills 4 = .ok (.istore 5, 2) := by decide +kernel
theorem dX2_playFills_6 : decode cX2_playFills 6 = .ok (.iload 5, 2) := by decide +kernel
theorem dX2_playFills_8 : decode cX2_playFills 8 = .ok (.ifCond .eq 8, 3) := by decide +kernel
theorem dX2_playFills_11 : decode cX2_playFills 11 = .ok (.iload_n 1, 1) := by decide +kernel
theorem dX2_playFills_12 : decode cX2_playFills 12 = .ok (.iconst 3, 1) := by decide +kernel
theorem dX2_playFills_13 : decode cX2_playFills 13 = .ok (.if_icmp .lt 11, 3) := by decide +kernel
theorem dX2_playFills_16 : decode cX2_playFills 16 = .ok (.aload_n 0, 1) := by decide +kernel
theorem dX2_playFills_17 : decode cX2_playFills 17 = .ok (.iconst 0, 1) := by decide +kernel
theorem dX2_playFills_18 : decode cX2_playFills 18 = .ok (.iload 4, 2) := by decide +kernel
theorem dX2_playFills_20 : decode cX2_playFills 20 = .ok (.invokevirtual 179, 3) := by decide +kernel
theorem dX2_playFills_23 : decode cX2_playFills 23 = .ok (.return_, 1) := by decide +kernel
theorem dX2_playFills_24 : decode cX2_playFills 24 = .ok (.iconst 0, 1) := by decide +kernel
theorem dX2_playFills_25 : decode cX2_playFills 25 = .ok (.istore 6, 2) := by decide +kernel
theorem dX2_playFills_27 : decode cX2_playFills 27 = .ok (.iload_n 2, 1) := by decide +kernel
theorem dX2_playFills_28 : decode cX2_playFills 28 = .ok (.istore 7, 2) := by decide +kernel
theorem dX2_playFills_30 : decode cX2_playFills 30 = .ok (.iload_n 1, 1) := by decide +kernel
theorem dX2_playFills_31 : decode cX2_playFills 31 = .ok (.aload_n 0, 1) := by decide +kernel
theorem dX2_playFills_32 : decode cX2_playFills 32 = .ok (.aload_n 0, 1) := by decide +kernel
theorem dX2_playFills_33 : decode cX2_playFills 33 = .ok (.getfield 68, 3) := by decide +kernel
theorem dX2_playFills_36 : decode cX2_playFills 36 = .ok (.getfield 87, 3) := by decide +kernel
theorem dX2_playFills_39 : decode cX2_playFills 39 = .ok (.invokevirtual 152, 3) := by decide +kernel
theorem dX2_playFills_42 : decode cX2_playFills 42 = .ok (.if_icmp .ge 37, 3) := by decide +kernel
theorem dX2_playFills_45 : decode cX2_playFills 45 = .ok (.iconst 0, 1) := by decide +kernel
theorem dX2_playFills_46 : decode cX2_playFills 46 = .ok (.aload_n 0, 1) := by decide +kernel
theorem dX2_playFills_47 : decode cX2_playFills 47 = .ok (.getfield 58, 3) := by decide +kernel
theorem dX2_playFills_50 : decode cX2_playFills 50 = .ok (.aload_n 0, 1) := by decide +kernel
theorem dX2_playFills_51 : decode cX2_playFills 51 = .ok (.getfield 58, 3) := by decide +kernel
theorem dX2_playFills_54 : decode cX2_playFills 54 = .ok (.aload_n 0, 1) := by decide +kernel
theorem dX2_playFills_55 : decode cX2_playFills 55 = .ok (.getfield 68, 3) := by decide +kernel
theorem dX2_playFills_58 : decode cX2_playFills 58 = .ok (.getfield 87, 3) := by decide +kernel
theorem dX2_playFills_61 : decode cX2_playFills 61 = .ok (.invokevirtual 188, 3) := by decide +kernel
theorem dX2_playFills_64 : decode cX2_playFills 64 = .ok (.iload_n 1, 1) := by decide +kernel
theorem dX2_playFills_65 : decode cX2_playFills 65 = .ok (.iadd, 1) := by decide +kernel
theorem dX2_playFills_66 : decode cX2_playFills 66 = .ok (.invokevirtual 191, 3) := by decide +kernel
theorem dX2_playFills_69 : decode cX2_playFills 69 = .ok (.iload_n 2, 1) := by decide +kernel
theorem dX2_playFills_70 : decode cX2_playFills 70 = .ok (.invokestatic 194, 3) := by decide +kernel
theorem dX2_playFills_73 : decode cX2_playFills 73 = .ok (.istore 6, 2) := by decide +kernel
theorem dX2_playFills_75 : decode cX2_playFills 75 = .ok (.iload 6, 2) := by decide +kernel
theorem dX2_playFills_77 : decode cX2_playFills 77 = .ok (.istore 7, 2) := by decide +kernel
theorem dX2_playFills_79 : decode cX2_playFills 79 = .ok (.iload 6, 2) := by decide +kernel
theorem dX2_playFills_81 : decode cX2_playFills 81 = .ok (.istore 8, 2) := by decide +kernel
theorem dX2_playFills_83 : decode cX2_playFills 83 = .ok (.iload 8, 2) := by decide +kernel
theorem dX2_playFills_85 : decode cX2_playFills 85 = .ok (.iload 7, 2) := by decide +kernel
theorem dX2_playFills_87 : decode cX2_playFills 87 = .ok (.if_icmp .gt 66, 3) := by decide +kernel
theorem dX2_playFills_90 : decode cX2_playFills 90 = .ok (.aload_n 0, 1) := by decide +kernel
theorem dX2_playFills_91 : decode cX2_playFills 91 = .ok (.aload_n 0, 1) := by decide +kernel
theorem dX2_playFills_92 : decode cX2_playFills 92 = .ok (.getfield 68, 3) := by decide +kernel
theorem dX2_playFills_95 : decode cX2_playFills 95 = .ok (.getfield 87, 3) := by decide +kernel
theorem dX2_playFills_98 : decode cX2_playFills 98 = .ok (.iload_n 1, 1) := by decide +kernel
theorem dX2_playFills_99 : decode cX2_playFills 99 = .ok (.iload 8, 2) := by decide +kernel
theorem dX2_playFills_101 : decode cX2_playFills 101 = .ok (.invokevirtual 198, 3) := by decide +kernel
theorem dX2_playFills_104 : decode cX2_playFills 104 = .ok (.iload 8, 2) := by decide +kernel
theorem dX2_playFills_106 : decode cX2_playFills 106 = .ok (.iload_n 2, 1) := by decide +kernel
theorem dX2_playFills_107 : decode cX2_playFills 107 = .ok (.if_icmp .ne 13, 3) := by decide +kernel
theorem dX2_playFills_110 : decode cX2_playFills 110 = .ok (.aload_n 0, 1) := by decide +kernel
theorem dX2_playFills_111 : decode cX2_playFills 111 = .ok (.getfield 68, 3) := by decide +kernel
theorem dX2_playFills_114 : decode cX2_playFills 114 = .ok (.getfield 142, 3) := by decide +kernel
theorem dX2_playFills_117 : decode cX2_playFills 117 = .ok (.goto 7, 3) := by decide +kernel
theorem dX2_playFills_120 : decode cX2_playFills 120 = .ok (.iload_n 2, 1) := by decide +kernel
theorem dX2_playFills_121 : decode cX2_playFills 121 = .ok (.iload 8, 2) := by decide +kernel
theorem dX2_playFills_123 : decode cX2_playFills 123 = .ok (.isub, 1) := by decide +kernel
theorem dX2_playFills_124 : decode cX2_playFills 124 = .ok (.istore 9, 2) := by decide +kernel
theorem dX2_playFills_126 : decode cX2_playFills 126 = .ok (.aload_n 0, 1) := by decide +kernel
theorem dX2_playFills_127 : decode cX2_playFills 127 = .ok (.iload_n 1, 1) := by decide +kernel
theorem dX2_playFills_128 : decode cX2_playFills 128 = .ok (.iconst 1, 1) := by decide +kernel
theorem dX2_playFills_129 : decode cX2_playFills 129 = .ok (.iadd, 1) := by decide +kernel
theorem dX2_playFills_130 : decode cX2_playFills 130 = .ok (.iload 9, 2) := by decide +kernel
theorem dX2_playFills_132 : decode cX2_playFills 132 = .ok (.iload_n 3, 1) := by decide +kernel
theorem dX2_playFills_133 : decode cX2_playFills 133 = .ok (.invokestatic 185, 3) := by decide +kernel
theorem dX2_playFills_136 : decode cX2_playFills 136 = .ok (.iload 4, 2) := by decide +kernel
theorem dX2_playFills_138 : decode cX2_playFills 138 = .ok (.iload 5, 2) := by decide +kernel
theorem dX2_playFills_140 : decode cX2_playFills 140 = .ok (.iload 8, 2) := by decide +kernel
theorem dX2_playFills_142 : decode cX2_playFills 142 = .ok (.imul, 1) := by decide +kernel
theorem dX2_playFills_143 : decode cX2_playFills 143 = .ok (.iadd, 1) := by decide +kernel
theorem dX2_playFills_144 : decode cX2_playFills 144 = .ok (.invokevirtual 155, 3) := by decide +kernel
theorem dX2_playFills_147 : decode cX2_playFills 147 = .ok (.iinc 8 1, 3) := by decide +kernel
theorem dX2_playFills_150 : decode cX2_playFills 150 = .ok (.goto (-67), 3) := by decide +kernel
theorem dX2_playFills_153 : decode cX2_playFills 153 = .ok (.return_, 1) := by decide +kernel
theorem dX2_givenIn_0 : decode cX2_givenIn 0 = .ok (.iload_n 1, 1) := by decide +kernel
theorem dX2_givenIn_1 : decode cX2_givenIn 1 = .ok (.ifCond .lt 12, 3) := by decide +kernel
theorem dX2_givenIn_4 : decode cX2_givenIn 4 = .ok (.iload_n 1, 1) := by decide +kernel
theorem dX2_givenIn_5 : decode cX2_givenIn 5 = .ok (.aload_n 0, 1) := by decide +kernel
theorem dX2_givenIn_6 : decode cX2_givenIn 6 = .ok (.getfield 27, 3) := by decide +kernel
theorem dX2_givenIn_9 : decode cX2_givenIn 9 = .ok (.arraylength, 1) := by decide +kernel
theorem dX2_givenIn_10 : decode cX2_givenIn 10 = .ok (.if_icmp .lt 7, 3) := by decide +kernel
theorem dX2_givenIn_13 : decode cX2_givenIn 13 = .ok (.iconst 0, 1) := by decide +kernel
theorem dX2_givenIn_14 : decode cX2_givenIn 14 = .ok (.goto 9, 3) := by decide +kernel
theorem dX2_givenIn_17 : decode cX2_givenIn 17 = .ok (.aload_n 0, 1) := by decide +kernel
theorem dX2_givenIn_18 : decode cX2_givenIn 18 = .ok (.getfield 27, 3) := by decide +kernel
theorem dX2_givenIn_21 : decode cX2_givenIn 21 = .ok (.iload_n 1, 1) := by decide +kernel
theorem dX2_givenIn_22 : decode cX2_givenIn 22 = .ok (.iaload, 1) := by decide +kernel
theorem dX2_givenIn_23 : decode cX2_givenIn 23 = .ok (.ireturn, 1) := by decide +kernel
theorem dX2_markTake_0 : decode cX2_markTake 0 = .ok (.iload_n 1, 1) := by decide +kernel
theorem dX2_markTake_1 : decode cX2_markTake 1 = .ok (.aload_n 0, 1) := by decide +kernel
theorem dX2_markTake_2 : decode cX2_markTake 2 = .ok (.getfield 38, 3) := by decide +kernel
theorem dX2_markTake_5 : decode cX2_markTake 5 = .ok (.if_icmp .ne 18, 3) := by decide +kernel
theorem dX2_markTake_8 : decode cX2_markTake 8 = .ok (.iload_n 2, 1) := by decide +kernel
theorem dX2_markTake_9 : decode cX2_markTake 9 = .ok (.aload_n 0, 1) := by decide +kernel
theorem dX2_markTake_10 : decode cX2_markTake 10 = .ok (.getfield 41, 3) := by decide +kernel
theorem dX2_markTake_13 : decode cX2_markTake 13 = .ok (.if_icmp .ne 10, 3) := by decide +kernel
theorem dX2_markTake_16 : decode cX2_markTake 16 = .ok (.aload_n 0, 1) := by decide +kernel
theorem dX2_markTake_17 : decode cX2_markTake 17 = .ok (.lconst 1, 1) := by decide +kernel
theorem dX2_markTake_18 : decode cX2_markTake 18 = .ok (.iload_n 3, 1) := by decide +kernel
theorem dX2_markTake_19 : decode cX2_markTake 19 = .ok (.lshl, 1) := by decide +kernel
theorem dX2_markTake_20 : decode cX2_markTake 20 = .ok (.putfield 44, 3) := by decide +kernel
theorem dX2_markTake_23 : decode cX2_markTake 23 = .ok (.return_, 1) := by decide +kernel
theorem dX2_addToGroup_0 : decode cX2_addToGroup 0 = .ok (.iload_n 1, 1) := by decide +kernel
theorem dX2_addToGroup_1 : decode cX2_addToGroup 1 = .ok (.bipush 107, 2) := by decide +kernel
theorem dX2_addToGroup_3 : decode cX2_addToGroup 3 = .ok (.imul, 1) := by decide +kernel
theorem dX2_addToGroup_4 : decode cX2_addToGroup 4 = .ok (.iload_n 2, 1) := by decide +kernel
theorem dX2_addToGroup_5 : decode cX2_addToGroup 5 = .ok (.iadd, 1) := by decide +kernel
theorem dX2_addToGroup_6 : decode cX2_addToGroup 6 = .ok (.bipush (-50), 2) := by decide +kernel
theorem dX2_addToGroup_8 : decode cX2_addToGroup 8 = .ok (.isub, 1) := by decide +kernel
theorem dX2_addToGroup_9 : decode cX2_addToGroup 9 = .ok (.istore_n 3, 1) := by decide +kernel
theorem dX2_addToGroup_10 : decode cX2_addToGroup 10 = .ok (.iload_n 3, 1) := by decide +kernel
theorem dX2_addToGroup_11 : decode cX2_addToGroup 11 = .ok (.ifCond .lt 12, 3) := by decide +kernel
theorem dX2_addToGroup_14 : decode cX2_addToGroup 14 = .ok (.iload_n 3, 1) := by decide +kernel
theorem dX2_addToGroup_15 : decode cX2_addToGroup 15 = .ok (.aload_n 0, 1) := by decide +kernel
theorem dX2_addToGroup_16 : decode cX2_addToGroup 16 = .ok (.getfield 48, 3) := by decide +kernel
theorem dX2_addToGroup_19 : decode cX2_addToGroup 19 = .ok (.arraylength, 1) := by decide +kernel
theorem dX2_addToGroup_20 : decode cX2_addToGroup 20 = .ok (.if_icmp .lt 4, 3) := by decide +kernel
theorem dX2_addToGroup_23 : decode cX2_addToGroup 23 = .ok (.return_, 1) := by decide +kernel
theorem dX2_addToGroup_24 : decode cX2_addToGroup 24 = .ok (.aload_n 0, 1) := by decide +kernel
theorem dX2_addToGroup_25 : decode cX2_addToGroup 25 = .ok (.getfield 48, 3) := by decide +kernel
theorem dX2_addToGroup_28 : decode cX2_addToGroup 28 = .ok (.iload_n 3, 1) := by decide +kernel
theorem dX2_addToGroup_29 : decode cX2_addToGroup 29 = .ok (.laload, 1) := by decide +kernel
theorem dX2_addToGroup_30 : decode cX2_addToGroup 30 = .ok (.lconst 0, 1) := by decide +kernel
theorem dX2_addToGroup_31 : decode cX2_addToGroup 31 = .ok (.lcmp, 1) := by decide +kernel
theorem dX2_addToGroup_32 : decode cX2_addToGroup 32 = .ok (.ifCond .ne 35, 3) := by decide +kernel
theorem dX2_addToGroup_35 : decode cX2_addToGroup 35 = .ok (.aload_n 0, 1) := by decide +kernel
theorem dX2_addToGroup_36 : decode cX2_addToGroup 36 = .ok (.getfield 55, 3) := by decide +kernel
theorem dX2_addToGroup_39 : decode cX2_addToGroup 39 = .ok (.aload_n 0, 1) := by decide +kernel
theorem dX2_addToGroup_40 : decode cX2_addToGroup 40 = .ok (.getfield 52, 3) := by decide +kernel
theorem dX2_addToGroup_43 : decode cX2_addToGroup 43 = .ok (.arraylength, 1) := by decide +kernel
theorem dX2_addToGroup_44 : decode cX2_addToGroup 44 = .ok (.if_icmp .ge 23, 3) := by decide +kernel
theorem dX2_addToGroup_47 : decode cX2_addToGroup 47 = .ok (.aload_n 0, 1) := by decide +kernel
theorem dX2_addToGroup_48 : decode cX2_addToGroup 48 = .ok (.getfield 52, 3) := by decide +kernel
theorem dX2_addToGroup_51 : decode cX2_addToGroup 51 = .ok (.aload_n 0, 1) := by decide +kernel
theorem dX2_addToGroup_52 : decode cX2_addToGroup 52 = .ok (.getfield 55, 3) := by decide +kernel
theorem dX2_addToGroup_55 : decode cX2_addToGroup 55 = .ok (.iload_n 3, 1) := by decide +kernel
theorem dX2_addToGroup_56 : decode cX2_addToGroup 56 = .ok (.iastore, 1) := by decide +kernel
theorem dX2_addToGroup_57 : decode cX2_addToGroup 57 = .ok (.aload_n 0, 1) := by decide +kernel
theorem dX2_addToGroup_58 : decode cX2_addToGroup 58 = .ok (.dup, 1) := by decide +kernel
theorem dX2_addToGroup_59 : decode cX2_addToGroup 59 = .ok (.getfield 55, 3) := by decide +kernel
theorem dX2_addToGroup_62 : decode cX2_addToGroup 62 = .ok (.iconst 1, 1) := by decide +kernel
theorem dX2_addToGroup_63 : decode cX2_addToGroup 63 = .ok (.iadd, 1) := by decide +kernel
theorem dX2_addToGroup_64 : decode cX2_addToGroup 64 = .ok (.putfield 55, 3) := by decide +kernel
theorem dX2_addToGroup_67 : decode cX2_addToGroup 67 = .ok (.aload_n 0, 1) := by decide +kernel
theorem dX2_addToGroup_68 : decode cX2_addToGroup 68 = .ok (.getfield 48, 3) := by decide +kernel
theorem dX2_addToGroup_71 : decode cX2_addToGroup 71 = .ok (.iload_n 3, 1) := by decide +kernel
theorem dX2_addToGroup_72 : decode cX2_addToGroup 72 = .ok (.aload_n 0, 1) := by decide +kernel
theorem dX2_addToGroup_73 : decode cX2_addToGroup 73 = .ok (.getfield 35, 3) := by decide +kernel
theorem dX2_addToGroup_76 : decode cX2_addToGroup 76 = .ok (.ifCond .eq 14, 3) := by decide +kernel
theorem dX2_addToGroup_79 : decode cX2_addToGroup 79 = .ok (.aload_n 0, 1) := by decide +kernel
theorem dX2_addToGroup_80 : decode cX2_addToGroup 80 = .ok (.getfield 48, 3) := by decide +kernel
theorem dX2_addToGroup_83 : decode cX2_addToGroup 83 = .ok (.iload_n 3, 1) := by decide +kernel
theorem dX2_addToGroup_84 : decode cX2_addToGroup 84 = .ok (.laload, 1) := by decide +kernel
theorem dX2_addToGroup_85 : decode cX2_addToGroup 85 = .ok (.lconst 1, 1) := by decide +kernel
theorem dX2_addToGroup_86 : decode cX2_addToGroup 86 = .ok (.ladd, 1) := by decide +kernel
theorem dX2_addToGroup_87 : decode cX2_addToGroup 87 = .ok (.goto 14, 3) := by decide +kernel
theorem dX2_addToGroup_90 : decode cX2_addToGroup 90 = .ok (.aload_n 0, 1) := by decide +kernel
theorem dX2_addToGroup_91 : decode cX2_addToGroup 91 = .ok (.getfield 48, 3) := by decide +kernel
theorem dX2_addToGroup_94 : decode cX2_addToGroup 94 = .ok (.iload_n 3, 1) := by decide +kernel
theorem dX2_addToGroup_95 : decode cX2_addToGroup 95 = .ok (.laload, 1) := by decide +kernel
theorem dX2_addToGroup_96 : decode cX2_addToGroup 96 = .ok (.aload_n 0, 1) := by decide +kernel
theorem dX2_addToGroup_97 : decode cX2_addToGroup 97 = .ok (.getfield 44, 3) := by decide +kernel
theorem dX2_addToGroup_100 : decode cX2_addToGroup 100 = .ok (.lor, 1) := by decide +kernel
theorem dX2_addToGroup_101 : decode cX2_addToGroup 101 = .ok (.lastore, 1) := by decide +kernel
theorem dX2_addToGroup_102 : decode cX2_addToGroup 102 = .ok (.return_, 1) := by decide +kernel
theorem dX2_moveGroup_0 : decode cX2_moveGroup 0 = .ok (.iload_n 2, 1) := by decide +kernel
theorem dX2_moveGroup_1 : decode cX2_moveGroup 1 = .ok (.ifCond .lt 12, 3) := by decide +kernel
theorem dX2_moveGroup_4 : decode cX2_moveGroup 4 = .ok (.iload_n 2, 1) := by decide +kernel
theorem dX2_moveGroup_5 : decode cX2_moveGroup 5 = .ok (.aload_n 0, 1) := by decide +kernel
theorem dX2_moveGroup_6 : decode cX2_moveGroup 6 = .ok (.getfield 48, 3) := by decide +kernel
theorem dX2_moveGroup_9 : decode cX2_moveGroup 9 = .ok (.arraylength, 1) := by decide +kernel
theorem dX2_moveGroup_10 : decode cX2_moveGroup 10 = .ok (.if_icmp .lt 4, 3) := by decide +kernel
theorem dX2_moveGroup_13 : decode cX2_moveGroup 13 = .ok (.return_, 1) := by decide +kernel
theorem dX2_moveGroup_14 : decode cX2_moveGroup 14 = .ok (.iload_n 2, 1) := by decide +kernel
theorem dX2_moveGroup_15 : decode cX2_moveGroup 15 = .ok (.bipush 107, 2) := by decide +kernel
theorem dX2_moveGroup_17 : decode cX2_moveGroup 17 = .ok (.idiv, 1) := by decide +kernel
theorem dX2_moveGroup_18 : decode cX2_moveGroup 18 = .ok (.istore 4, 2) := by decide +kernel
theorem dX2_moveGroup_20 : decode cX2_moveGroup 20 = .ok (.iload_n 2, 1) := by decide +kernel
theorem dX2_moveGroup_21 : decode cX2_moveGroup 21 = .ok (.bipush 107, 2) := by decide +kernel
theorem dX2_moveGroup_23 : decode cX2_moveGroup 23 = .ok (.irem, 1) := by decide +kernel
theorem dX2_moveGroup_24 : decode cX2_moveGroup 24 = .ok (.bipush (-50), 2) := by decide +kernel
theorem dX2_moveGroup_26 : decode cX2_moveGroup 26 = .ok (.iadd, 1) := by decide +kernel
theorem dX2_moveGroup_27 : decode cX2_moveGroup 27 = .ok (.istore 5, 2) := by decide +kernel
theorem dX2_moveGroup_29 : decode cX2_moveGroup 29 = .ok (.aload_n 0, 1) := by decide +kernel
theorem dX2_moveGroup_30 : decode cX2_moveGroup 30 = .ok (.getfield 35, 3) := by decide +kernel
theorem dX2_moveGroup_33 : decode cX2_moveGroup 33 = .ok (.ifCond .eq 28, 3) := by decide +kernel
theorem dX2_moveGroup_36 : decode cX2_moveGroup 36 = .ok (.aload_n 0, 1) := by decide +kernel
theorem dX2_moveGroup_37 : decode cX2_moveGroup 37 = .ok (.getfield 24, 3) := by decide +kernel
theorem dX2_moveGroup_40 : decode cX2_moveGroup 40 = .ok (.aload_n 0, 1) := by decide +kernel
theorem dX2_moveGroup_41 : decode cX2_moveGroup 41 = .ok (.getfield 20, 3) := by decide +kernel
theorem dX2_moveGroup_44 : decode cX2_moveGroup 44 = .ok (.iload_n 1, 1) := by decide +kernel
theorem dX2_moveGroup_45 : decode cX2_moveGroup 45 = .ok (.iload 4, 2) := by decide +kernel
theorem dX2_moveGroup_47 : decode cX2_moveGroup 47 = .ok (.iload 5, 2) := by decide +kernel
theorem dX2_moveGroup_49 : decode cX2_moveGroup 49 = .ok (.aload_n 0, 1) := by decide +kernel
theorem dX2_moveGroup_50 : decode cX2_moveGroup 50 = .ok (.getfield 48, 3) := by decide +kernel
theorem dX2_moveGroup_53 : decode cX2_moveGroup 53 = .ok (.iload_n 2, 1) := by decide +kernel
theorem dX2_moveGroup_54 : decode cX2_moveGroup 54 = .ok (.laload, 1) := by decide +kernel
theorem dX2_moveGroup_55 : decode cX2_moveGroup 55 = .ok (.invokevirtual 202, 3) := by decide +kernel
theorem dX2_moveGroup_58 : decode cX2_moveGroup 58 = .ok (.goto 33, 3) := by decide +kernel
theorem dX2_moveGroup_61 : decode cX2_moveGroup 61 = .ok (.aload_n 0, 1) := by decide +kernel
theorem dX2_moveGroup_62 : decode cX2_moveGroup 62 = .ok (.getfield 24, 3) := by decide +kernel
theorem dX2_moveGroup_65 : decode cX2_moveGroup 65 = .ok (.aload_n 0, 1) := by decide +kernel
theorem dX2_moveGroup_66 : decode cX2_moveGroup 66 = .ok (.getfield 20, 3) := by decide +kernel
theorem dX2_moveGroup_69 : decode cX2_moveGroup 69 = .ok (.iload_n 1, 1) := by decide +kernel
theorem dX2_moveGroup_70 : decode cX2_moveGroup 70 = .ok (.iload 4, 2) := by decide +kernel
theorem dX2_moveGroup_72 : decode cX2_moveGroup 72 = .ok (.iload 5, 2) := by decide +kernel
theorem dX2_moveGroup_74 : decode cX2_moveGroup 74 = .ok (.iload_n 3, 1) := by decide +kernel
theorem dX2_moveGroup_75 : decode cX2_moveGroup 75 = .ok (.ifCond .eq 12, 3) := by decide +kernel
theorem dX2_moveGroup_78 : decode cX2_moveGroup 78 = .ok (.aload_n 0, 1) := by decide +kernel
theorem dX2_moveGroup_79 : decode cX2_moveGroup 79 = .ok (.getfield 48, 3) := by decide +kernel
theorem dX2_moveGroup_82 : decode cX2_moveGroup 82 = .ok (.iload_n 2, 1) := by decide +kernel
theorem dX2_moveGroup_83 : decode cX2_moveGroup 83 = .ok (.laload, 1) := by decide +kernel
theorem dX2_moveGroup_84 : decode cX2_moveGroup 84 = .ok (.goto 4, 3) := by decide +kernel
theorem dX2_moveGroup_87 : decode cX2_moveGroup 87 = .ok (.lconst 0, 1) := by decide +kernel
theorem dX2_moveGroup_88 : decode cX2_moveGroup 88 = .ok (.invokevirtual 206, 3) := by decide +kernel
theorem dX2_moveGroup_91 : decode cX2_moveGroup 91 = .ok (.aload_n 0, 1) := by decide +kernel
theorem dX2_moveGroup_92 : decode cX2_moveGroup 92 = .ok (.getfield 48, 3) := by decide +kernel
theorem dX2_moveGroup_95 : decode cX2_moveGroup 95 = .ok (.iload_n 2, 1) := by decide +kernel
theorem dX2_moveGroup_96 : decode cX2_moveGroup 96 = .ok (.lconst 0, 1) := by decide +kernel
theorem dX2_moveGroup_97 : decode cX2_moveGroup 97 = .ok (.lastore, 1) := by decide +kernel
theorem dX2_moveGroup_98 : decode cX2_moveGroup 98 = .ok (.return_, 1) := by decide +kernel
theorem dX2_nextOf_0 : decode cX2_nextOf 0 = .ok (.iload_n 0, 1) := by decide +kernel
theorem dX2_nextOf_1 : decode cX2_nextOf 1 = .ok (.ifCond .lt 9, 3) := by decide +kernel
theorem dX2_nextOf_4 : decode cX2_nextOf 4 = .ok (.iload_n 0, 1) := by decide +kernel
theorem dX2_nextOf_5 : decode cX2_nextOf 5 = .ok (.bipush 14, 2) := by decide +kernel
theorem dX2_nextOf_7 : decode cX2_nextOf 7 = .ok (.if_icmp .lt 7, 3) := by decide +kernel
theorem dX2_nextOf_10 : decode cX2_nextOf 10 = .ok (.iconst 0, 1) := by decide +kernel
theorem dX2_nextOf_11 : decode cX2_nextOf 11 = .ok (.goto 8, 3) := by decide +kernel
theorem dX2_nextOf_14 : decode cX2_nextOf 14 = .ok (.getstatic 209, 3) := by decide +kernel
theorem dX2_nextOf_17 : decode cX2_nextOf 17 = .ok (.iload_n 0, 1) := by decide +kernel
theorem dX2_nextOf_18 : decode cX2_nextOf 18 = .ok (.iaload, 1) := by decide +kernel
theorem dX2_nextOf_19 : decode cX2_nextOf 19 = .ok (.ireturn, 1) := by decide +kernel
theorem dX2_fillsOf_0 : decode cX2_fillsOf 0 = .ok (.iload_n 0, 1) := by decide +kernel
theorem dX2_fillsOf_1 : decode cX2_fillsOf 1 = .ok (.ifCond .lt 9, 3) := by decide +kernel
theorem dX2_fillsOf_4 : decode cX2_fillsOf 4 = .ok (.iload_n 0, 1) := by decide +kernel
theorem dX2_fillsOf_5 : decode cX2_fillsOf 5 = .ok (.bipush 14, 2) := by decide +kernel
theorem dX2_fillsOf_7 : decode cX2_fillsOf 7 = .ok (.if_icmp .lt 5, 3) := by decide +kernel
theorem dX2_fillsOf_10 : decode cX2_fillsOf 10 = .ok (.iconst 0, 1) := by decide +kernel
theorem dX2_fillsOf_11 : decode cX2_fillsOf 11 = .ok (.ireturn, 1) := by decide +kernel
theorem dX2_fillsOf_12 : decode cX2_fillsOf 12 = .ok (.getstatic 209, 3) := by decide +kernel
theorem dX2_fillsOf_15 : decode cX2_fillsOf 15 = .ok (.iload_n 0, 1) := by decide +kernel
theorem dX2_fillsOf_16 : decode cX2_fillsOf 16 = .ok (.iaload, 1) := by decide +kernel
theorem dX2_fillsOf_17 : decode cX2_fillsOf 17 = .ok (.iconst 1, 1) := by decide +kernel
theorem dX2_fillsOf_18 : decode cX2_fillsOf 18 = .ok (.invokestatic 212, 3) := by decide +kernel
theorem dX2_fillsOf_21 : decode cX2_fillsOf 21 = .ok (.getstatic 214, 3) := by decide +kernel
theorem dX2_fillsOf_24 : decode cX2_fillsOf 24 = .ok (.iload_n 0, 1) := by decide +kernel
theorem dX2_fillsOf_25 : decode cX2_fillsOf 25 = .ok (.iaload, 1) := by decide +kernel
theorem dX2_fillsOf_26 : decode cX2_fillsOf 26 = .ok (.iconst 1, 1) := by decide +kernel
theorem dX2_fillsOf_27 : decode cX2_fillsOf 27 = .ok (.invokestatic 212, 3) := by decide +kernel
theorem dX2_fillsOf_30 : decode cX2_fillsOf 30 = .ok (.iadd, 1) := by decide +kernel
theorem dX2_fillsOf_31 : decode cX2_fillsOf 31 = .ok (.getstatic 217, 3) := by decide +kernel
theorem dX2_fillsOf_34 : decode cX2_fillsOf 34 = .ok (.iload_n 0, 1) := by decide +kernel
theorem dX2_fillsOf_35 : decode cX2_fillsOf 35 = .ok (.iaload, 1) := by decide +kernel
theorem dX2_fillsOf_36 : decode cX2_fillsOf 36 = .ok (.iadd, 1) := by decide +kernel
theorem dX2_fillsOf_37 : decode cX2_fillsOf 37 = .ok (.ireturn, 1) := by decide +kernel
theorem dX2_stateBehind_0 : decode cX2_stateBehind 0 = .ok (.iload_n 0, 1) := by decide +kernel
theorem dX2_stateBehind_1 : decode cX2_stateBehind 1 = .ok (.ifCond .lt 9, 3) := by decide +kernel
theorem dX2_stateBehind_4 : decode cX2_stateBehind 4 = .ok (.iload_n 0, 1) := by decide +kernel
theorem dX2_stateBehind_5 : decode cX2_stateBehind 5 = .ok (.bipush 14, 2) := by decide +kernel
theorem dX2_stateBehind_7 : decode cX2_stateBehind 7 = .ok (.if_icmp .lt 7, 3) := by decide +kernel
theorem dX2_stateBehind_10 : decode cX2_stateBehind 10 = .ok (.iconst 0, 1) := by decide +kernel
theorem dX2_stateBehind_11 : decode cX2_stateBehind 11 = .ok (.goto 17, 3) := by decide +kernel
theorem dX2_stateBehind_14 : decode cX2_stateBehind 14 = .ok (.getstatic 214, 3) := by decide +kernel
theorem dX2_stateBehind_17 : decode cX2_stateBehind 17 = .ok (.iload_n 0, 1) := by decide +kernel
theorem dX2_stateBehind_18 : decode cX2_stateBehind 18 = .ok (.iaload, 1) := by decide +kernel
theorem dX2_stateBehind_19 : decode cX2_stateBehind 19 = .ok (.getstatic 217, 3) := by decide +kernel
theorem dX2_stateBehind_22 : decode cX2_stateBehind 22 = .ok (.iload_n 0, 1) := by decide +kernel
theorem dX2_stateBehind_23 : decode cX2_stateBehind 23 = .ok (.iaload, 1) := by decide +kernel
theorem dX2_stateBehind_24 : decode cX2_stateBehind 24 = .ok (.iconst 0, 1) := by decide +kernel
theorem dX2_stateBehind_25 : decode cX2_stateBehind 25 = .ok (.invokestatic 220, 3) := by decide +kernel
theorem dX2_stateBehind_28 : decode cX2_stateBehind 28 = .ok (.ireturn, 1) := by decide +kernel
theorem dX2_stateWith_0 : decode cX2_stateWith 0 = .ok (.iload_n 0, 1) := by decide +kernel
theorem dX2_stateWith_1 : decode cX2_stateWith 1 = .ok (.ifCond .lt 9, 3) := by decide +kernel
theorem dX2_stateWith_4 : decode cX2_stateWith 4 = .ok (.iload_n 0, 1) := by decide +kernel
theorem dX2_stateWith_5 : decode cX2_stateWith 5 = .ok (.bipush 14, 2) := by decide +kernel
theorem dX2_stateWith_7 : decode cX2_stateWith 7 = .ok (.if_icmp .lt 5, 3) := by decide +kernel
theorem dX2_stateWith_10 : decode cX2_stateWith 10 = .ok (.iconst 0, 1) := by decide +kernel
theorem dX2_stateWith_11 : decode cX2_stateWith 11 = .ok (.ireturn, 1) := by decide +kernel
theorem dX2_stateWith_12 : decode cX2_stateWith 12 = .ok (.getstatic 209, 3) := by decide +kernel
theorem dX2_stateWith_15 : decode cX2_stateWith 15 = .ok (.iload_n 0, 1) := by decide +kernel
theorem dX2_stateWith_16 : decode cX2_stateWith 16 = .ok (.iaload, 1) := by decide +kernel
theorem dX2_stateWith_17 : decode cX2_stateWith 17 = .ok (.iload_n 1, 1) := by decide +kernel
theorem dX2_stateWith_18 : decode cX2_stateWith 18 = .ok (.ifCond .le 7, 3) := by decide +kernel
theorem dX2_stateWith_21 : decode cX2_stateWith 21 = .ok (.iconst 1, 1) := by decide +kernel
theorem dX2_stateWith_22 : decode cX2_stateWith 22 = .ok (.goto 4, 3) := by decide +kernel
theorem dX2_stateWith_25 : decode cX2_stateWith 25 = .ok (.iconst 0, 1) := by decide +kernel
theorem dX2_stateWith_26 : decode cX2_stateWith 26 = .ok (.iadd, 1) := by decide +kernel
theorem dX2_stateWith_27 : decode cX2_stateWith 27 = .ok (.getstatic 214, 3) := by decide +kernel
theorem dX2_stateWith_30 : decode cX2_stateWith 30 = .ok (.iload_n 0, 1) := by decide +kernel
theorem dX2_stateWith_31 : decode cX2_stateWith 31 = .ok (.iaload, 1) := by decide +kernel
theorem dX2_stateWith_32 : decode cX2_stateWith 32 = .ok (.iload_n 1, 1) := by decide +kernel
theorem dX2_stateWith_33 : decode cX2_stateWith 33 = .ok (.iconst 1, 1) := by decide +kernel
theorem dX2_stateWith_34 : decode cX2_stateWith 34 = .ok (.if_icmp .le 7, 3) := by decide +kernel
theorem dX2_stateWith_37 : decode cX2_stateWith 37 = .ok (.iconst 1, 1) := by decide +kernel
theorem dX2_stateWith_38 : decode cX2_stateWith 38 = .ok (.goto 4, 3) := by decide +kernel
theorem dX2_stateWith_41 : decode cX2_stateWith 41 = .ok (.iconst 0, 1) := by decide +kernel
theorem dX2_stateWith_42 : decode cX2_stateWith 42 = .ok (.iadd, 1) := by decide +kernel
theorem dX2_stateWith_43 : decode cX2_stateWith 43 = .ok (.getstatic 217, 3) := by decide +kernel
theorem dX2_stateWith_46 : decode cX2_stateWith 46 = .ok (.iload_n 0, 1) := by decide +kernel
theorem dX2_stateWith_47 : decode cX2_stateWith 47 = .ok (.iaload, 1) := by decide +kernel
theorem dX2_stateWith_48 : decode cX2_stateWith 48 = .ok (.iload_n 1, 1) := by decide +kernel
theorem dX2_stateWith_49 : decode cX2_stateWith 49 = .ok (.iconst 2, 1) := by decide +kernel
theorem dX2_stateWith_50 : decode cX2_stateWith 50 = .ok (.if_icmp .le 7, 3) := by decide +kernel
theorem dX2_stateWith_53 : decode cX2_stateWith 53 = .ok (.iconst 1, 1) := by decide +kernel
theorem dX2_stateWith_54 : decode cX2_stateWith 54 = .ok (.goto 4, 3) := by decide +kernel
theorem dX2_stateWith_57 : decode cX2_stateWith 57 = .ok (.iconst 0, 1) := by decide +kernel
theorem dX2_stateWith_58 : decode cX2_stateWith 58 = .ok (.iadd, 1) := by decide +kernel
theorem dX2_stateWith_59 : decode cX2_stateWith 59 = .ok (.invokestatic 220, 3) := by decide +kernel
theorem dX2_stateWith_62 : decode cX2_stateWith 62 = .ok (.ireturn, 1) := by decide +kernel
theorem dX2_stateOf_0 : decode cX2_stateOf 0 = .ok (.iload_n 0, 1) := by decide +kernel
theorem dX2_stateOf_1 : decode cX2_stateOf 1 = .ok (.ifCond .lt 11, 3) := by decide +kernel
theorem dX2_stateOf_4 : decode cX2_stateOf 4 = .ok (.iload_n 0, 1) := by decide +kernel
theorem dX2_stateOf_5 : decode cX2_stateOf 5 = .ok (.getstatic 223, 3) := by decide +kernel
theorem dX2_stateOf_8 : decode cX2_stateOf 8 = .ok (.arraylength, 1) := by decide +kernel
theorem dX2_stateOf_9 : decode cX2_stateOf 9 = .ok (.if_icmp .lt 5, 3) := by decide +kernel
theorem dX2_stateOf_12 : decode cX2_stateOf 12 = .ok (.iconst 0, 1) := by decide +kernel
theorem dX2_stateOf_13 : decode cX2_stateOf 13 = .ok (.ireturn, 1) := by decide +kernel
theorem dX2_stateOf_14 : decode cX2_stateOf 14 = .ok (.getstatic 223, 3) := by decide +kernel
theorem dX2_stateOf_17 : decode cX2_stateOf 17 = .ok (.iload_n 0, 1) := by decide +kernel
theorem dX2_stateOf_18 : decode cX2_stateOf 18 = .ok (.iaload, 1) := by decide +kernel
theorem dX2_stateOf_19 : decode cX2_stateOf 19 = .ok (.iload_n 1, 1) := by decide +kernel
theorem dX2_stateOf_20 : decode cX2_stateOf 20 = .ok (.ifCond .ne 7, 3) := by decide +kernel
theorem dX2_stateOf_23 : decode cX2_stateOf 23 = .ok (.iconst 0, 1) := by decide +kernel
theorem dX2_stateOf_24 : decode cX2_stateOf 24 = .ok (.goto 10, 3) := by decide +kernel
theorem dX2_stateOf_27 : decode cX2_stateOf 27 = .ok (.iconst 2, 1) := by decide +kernel
theorem dX2_stateOf_28 : decode cX2_stateOf 28 = .ok (.iload_n 1, 1) := by decide +kernel
theorem dX2_stateOf_29 : decode cX2_stateOf 29 = .ok (.imul, 1) := by decide +kernel
theorem dX2_stateOf_30 : decode cX2_stateOf 30 = .ok (.iconst 1, 1) := by decide +kernel
theorem dX2_stateOf_31 : decode cX2_stateOf 31 = .ok (.isub, 1) := by decide +kernel
theorem dX2_stateOf_32 : decode cX2_stateOf 32 = .ok (.iload_n 2, 1) := by decide +kernel
theorem dX2_stateOf_33 : decode cX2_stateOf 33 = .ok (.iadd, 1) := by decide +kernel
theorem dX2_stateOf_34 : decode cX2_stateOf 34 = .ok (.iadd, 1) := by decide +kernel
theorem dX2_stateOf_35 : decode cX2_stateOf 35 = .ok (.ireturn, 1) := by decide +kernel
theorem dX3_init_0 : decode cX3_init 0 = .ok (.aload_n 0, 1) := by decide +kernel
theorem dX3_init_1 : decode cX3_init 1 = .ok (.invokespecial 3, 3) := by decide +kernel
theorem dX3_init_4 : decode cX3_init 4 = .ok (.aload_n 0, 1) := by decide +kernel
theorem dX3_init_5 : decode cX3_init 5 = .ok (.iconst 0, 1) := by decide +kernel
theorem dX3_init_6 : decode cX3_init 6 = .ok (.putfield 9, 3) := by decide +kernel
theorem dX3_init_9 : decode cX3_init 9 = .ok (.aload_n 0, 1) := by decide +kernel
theorem dX3_init_10 : decode cX3_init 10 = .ok (.iconst (-1), 1) := by decide +kernel
theorem dX3_init_11 : decode cX3_init 11 = .ok (.putfield 15, 3) := by decide +kernel
theorem dX3_init_14 : decode cX3_init 14 = .ok (.aload_n 0, 1) := by decide +kernel
theorem dX3_init_15 : decode cX3_init 15 = .ok (.iconst 0, 1) := by decide +kernel
theorem dX3_init_16 : decode cX3_init 16 = .ok (.newarray .int, 2) := by decide +kernel
theorem dX3_init_18 : decode cX3_init 18 = .ok (.putfield 18, 3) := by decide +kernel
theorem dX3_init_21 : decode cX3_init 21 = .ok (.aload_n 0, 1) := by decide +kernel
theorem dX3_init_22 : decode cX3_init 22 = .ok (.iconst 0, 1) := by decide +kernel
theorem dX3_init_23 : decode cX3_init 23 = .ok (.putfield 22, 3) := by decide +kernel
theorem dX3_init_26 : decode cX3_init 26 = .ok (.aload_n 0, 1) := by decide +kernel
theorem dX3_init_27 : decode cX3_init 27 = .ok (.iconst 0, 1) := by decide +kernel
theorem dX3_init_28 : decode cX3_init 28 = .ok (.putfield 25, 3) := by decide +kernel
theorem dX3_init_31 : decode cX3_init 31 = .ok (.aload_n 0, 1) := by decide +kernel
theorem dX3_init_32 : decode cX3_init 32 = .ok (.aload_n 1, 1) := by decide +kernel
theorem dX3_init_33 : decode cX3_init 33 = .ok (.putfield 28, 3) := by decide +kernel
theorem dX3_init_36 : decode cX3_init 36 = .ok (.return_, 1) := by decide +kernel
theorem dX3_read_0 : decode cX3_read 0 = .ok (.aload_n 0, 1) := by decide +kernel
theorem dX3_read_1 : decode cX3_read 1 = .ok (.aload_n 1, 1) := by decide +kernel
theorem dX3_read_2 : decode cX3_read 2 = .ok (.putfield 18, 3) := by decide +kernel
theorem dX3_read_5 : decode cX3_read 5 = .ok (.aload_n 0, 1) := by decide +kernel
theorem dX3_read_6 : decode cX3_read 6 = .ok (.iload_n 2, 1) := by decide +kernel
theorem dX3_read_7 : decode cX3_read 7 = .ok (.aload_n 1, 1) := by decide +kernel
theorem dX3_read_8 : decode cX3_read 8 = .ok (.arraylength, 1) := by decide +kernel
theorem dX3_read_9 : decode cX3_read 9 = .ok (.invokestatic 32, 3) := by decide +kernel
theorem dX3_read_12 : decode cX3_read 12 = .ok (.putfield 22, 3) := by decide +kernel
theorem dX3_read_15 : decode cX3_read 15 = .ok (.aload_n 0, 1) := by decide +kernel
theorem dX3_read_16 : decode cX3_read 16 = .ok (.iconst 0, 1) := by decide +kernel
theorem dX3_read_17 : decode cX3_read 17 = .ok (.putfield 25, 3) := by decide +kernel
theorem dX3_read_20 : decode cX3_read 20 = .ok (.aload_n 0, 1) := by decide +kernel
theorem dX3_read_21 : decode cX3_read 21 = .ok (.iconst 0, 1) := by decide +kernel
theorem dX3_read_22 : decode cX3_read 22 = .ok (.putfield 9, 3) := by decide +kernel
theorem dX3_read_25 : decode cX3_read 25 = .ok (.aload_n 0, 1) := by decide +kernel
theorem dX3_read_26 : decode cX3_read 26 = .ok (.iconst (-1), 1) := by decide +kernel
theorem dX3_read_27 : decode cX3_read 27 = .ok (.putfield 15, 3) := by decide +kernel
theorem dX3_read_30 : decode cX3_read 30 = .ok (.aload_n 0, 1) := by decide +kernel
theorem dX3_read_31 : decode cX3_read 31 = .ok (.aload_n 3, 1) := by decide +kernel
theorem dX3_read_32 : decode cX3_read 32 = .ok (.putfield 28, 3) := by decide +kernel
theorem dX3_read_35 : decode cX3_read 35 = .ok (.aload_n 0, 1) := by decide +kernel
theorem dX3_read_36 : decode cX3_read 36 = .ok (.getfield 28, 3) := by decide +kernel
theorem dX3_read_39 : decode cX3_read 39 = .ok (.invokevirtual 38, 3) := by decide +kernel
theorem dX3_read_42 : decode cX3_read 42 = .ok (.aload_n 0, 1) := by decide +kernel
theorem dX3_read_43 : decode cX3_read 43 = .ok (.invokevirtual 43, 3) := by decide +kernel
theorem dX3_read_46 : decode cX3_read 46 = .ok (.iconst 0, 1) := by decide +kernel
theorem dX3_read_47 : decode cX3_read 47 = .ok (.istore 4, 2) := by decide +kernel
theorem dX3_read_49 : decode cX3_read 49 = .ok (.iload 4, 2) := by decide +kernel
theorem dX3_read_51 : decode cX3_read 51 = .ok (.bipush 30, 2) := by decide +kernel
theorem dX3_read_53 : decode cX3_read 53 = .ok (.if_icmp .gt 74, 3) := by decide +kernel
theorem dX3_read_56 : decode cX3_read 56 = .ok (.aload_n 0, 1) := by decide +kernel
theorem dX3_read_57 : decode cX3_read 57 = .ok (.getfield 28, 3) := by decide +kernel
theorem dX3_read_60 : decode cX3_read 60 = .ok (.iload 4, 2) := by decide +kernel
theorem dX3_read_62 : decode cX3_read 62 = .ok (.putfield 46, 3) := by decide +kernel
theorem dX3_read_65 : decode cX3_read 65 = .ok (.aload_n 0, 1) := by decide +kernel
theorem dX3_read_66 : decode cX3_read 66 = .ok (.getfield 25, 3) := by decide +kernel
theorem dX3_read_69 : decode cX3_read 69 = .ok (.aload_n 0, 1) := by decide +kernel
theorem dX3_read_70 : decode cX3_read 70 = .ok (.getfield 22, 3) := by decide +kernel
theorem dX3_read_73 : decode cX3_read 73 = .ok (.if_icmp .lt 5, 3) := by decide +kernel
theorem dX3_read_76 : decode cX3_read 76 = .ok (.iconst 1, 1) := by decide +kernel
theorem dX3_read_77 : decode cX3_read 77 = .ok (.ireturn, 1) := by decide +kernel
theorem dX3_read_78 : decode cX3_read 78 = .ok (.iload 4, 2) := by decide +kernel
theorem dX3_read_80 : decode cX3_read 80 = .ok (.bipush 30, 2) := by decide +kernel
theorem dX3_read_82 : decode cX3_read 82 = .ok (.if_icmp .ne 13, 3) := by decide +kernel
theorem dX3_read_85 : decode cX3_read 85 = .ok (.aload_n 0, 1) := by decide +kernel
theorem dX3_read_86 : decode cX3_read 86 = .ok (.iconst 5, 1) := by decide +kernel
theorem dX3_read_87 : decode cX3_read 87 = .ok (.aload_n 0, 1) := by decide +kernel
theorem dX3_read_88 : decode cX3_read 88 = .ok (.getfield 25, 3) := by decide +kernel
theorem dX3_read_91 : decode cX3_read 91 = .ok (.invokevirtual 49, 3) := by decide +kernel
theorem dX3_read_94 : decode cX3_read 94 = .ok (.ireturn, 1) := by decide +kernel
theorem dX3_read_95 : decode cX3_read 95 = .ok (.aload_n 0, 1) := by decide +kernel
theorem dX3_read_96 : decode cX3_read 96 = .ok (.invokevirtual 53, 3) := by decide +kernel
theorem dX3_read_99 : decode cX3_read 99 = .ok (.ifCond .eq 12, 3) := by decide +kernel
theorem dX3_read_102 : decode cX3_read 102 = .ok (.aload_n 0, 1) := by decide +kernel
theorem dX3_read_103 : decode cX3_read 103 = .ok (.bipush 59, 2) := by decide +kernel
theorem dX3_read_105 : decode cX3_read 105 = .ok (.invokevirtual 57, 3) := by decide +kernel
theorem dX3_read_108 : decode cX3_read 108 = .ok (.ifCond .ne 13, 3) := by decide +kernel
theorem dX3_read_111 : decode cX3_read 111 = .ok (.aload_n 0, 1) := by decide +kernel
theorem dX3_read_112 : decode cX3_read 112 = .ok (.iconst 1, 1) := by decide +kernel
theorem dX3_read_113 : decode cX3_read 113 = .ok (.aload_n 0, 1) := by decide +kernel
theorem dX3_read_114 : decode cX3_read 114 = .ok (.getfield 25, 3) := by decide +kernel
theorem dX3_read_117 : decode cX3_read 117 = .ok (.invokevirtual 49, 3) := by decide +kernel
theorem dX3_read_120 : decode cX3_read 120 = .ok (.ireturn, 1) := by decide +kernel
theorem dX3_read_121 : decode cX3_read 121 = .ok (.iinc 4 1, 3) := by decide +kernel
theorem dX3_read_124 : decode cX3_read 124 = .ok (.goto (-75), 3) := by decide +kernel
theorem dX3_read_127 : decode cX3_read 127 = .ok (.iconst 0, 1) := by decide +kernel
theorem dX3_read_128 : decode cX3_read 128 = .ok (.ireturn, 1) := by decide +kernel
theorem dX3_statement_0 : decode cX3_statement 0 = .ok (.aload_n 0, 1) := by decide +kernel
theorem dX3_statement_1 : decode cX3_statement 1 = .ok (.ldc 61, 2) := by decide +kernel
theorem dX3_statement_3 : decode cX3_statement 3 = .ok (.invokevirtual 63, 3) := by decide +kernel
theorem dX3_statement_6 : decode cX3_statement 6 = .ok (.ifCond .eq 20, 3) := by decide +kernel
theorem dX3_statement_9 : decode cX3_statement 9 = .ok (.aload_n 0, 1) := by decide +kernel
theorem dX3_statement_10 : decode cX3_statement 10 = .ok (.getfield 28, 3) := by decide +kernel
theorem dX3_statement_13 : decode cX3_statement 13 = .ok (.aload_n 0, 1) := by decide +kernel
theorem dX3_statement_14 : decode cX3_statement 14 = .ok (.iconst 1, 1) := by decide +kernel
theorem dX3_statement_15 : decode cX3_statement 15 = .ok (.bipush 9, 2) := by decide +kernel
theorem dX3_statement_17 : decode cX3_statement 17 = .ok (.invokevirtual 67, 3) := by decide +kernel
theorem dX3_statement_20 : decode cX3_statement 20 = .ok (.putfield 70, 3) := by decide +kernel
theorem dX3_statement_23 : decode cX3_statement 23 = .ok (.goto 146, 3) := by decide +kernel
theorem dX3_statement_26 : decode cX3_statement 26 = .ok (.aload_n 0, 1) := by decide +kernel
theorem dX3_statement_27 : decode cX3_statement 27 = .ok (.ldc 72, 2) := by decide +kernel
theorem dX3_statement_29 : decode cX3_statement 29 = .ok (.invokevirtual 63, 3) := by decide +kernel
theorem dX3_statement_32 : decode cX3_statement 32 = .ok (.ifCond .eq 20, 3) := by decide +kernel
theorem dX3_statement_35 : decode cX3_statement 35 = .ok (.aload_n 0, 1) := by decide +kernel
theorem dX3_statement_36 : decode cX3_statement 36 = .ok (.getfield 28, 3) := by decide +kernel
theorem dX3_statement_39 : decode cX3_statement 39 = .ok (.aload_n 0, 1) := by decide +kernel
theorem dX3_statement_40 : decode cX3_statement 40 = .ok (.iconst 1, 1) := by decide +kernel
theorem dX3_statement_41 : decode cX3_statement 41 = .ok (.bipush 8, 2) := by decide +kernel
theorem dX3_statement_43 : decode cX3_statement 43 = .ok (.invokevirtual 67, 3) := by decide +kernel
theorem dX3_statement_46 : decode cX3_statement 46 = .ok (.putfield 74, 3) := by decide +kernel
theorem dX3_statement_49 : decode cX3_statement 49 = .ok (.goto 120, 3) := by decide +kernel
theorem dX3_statement_52 : decode cX3_statement 52 = .ok (.aload_n 0, 1) := by decide +kernel
theorem dX3_statement_53 : decode cX3_statement 53 = .ok (.ldc 76, 2) := by decide +kernel
theorem dX3_statement_55 : decode cX3_statement 55 = .ok (.invokevirtual 63, 3) := by decide +kernel
theorem dX3_statement_58 : decode cX3_statement 58 = .ok (.ifCond .eq 19, 3) := by decide +kernel
theorem dX3_statement_61 : decode cX3_statement 61 = .ok (.aload_n 0, 1) := by decide +kernel
theorem dX3_statement_62 : decode cX3_statement 62 = .ok (.getfield 28, 3) := by decide +kernel
theorem dX3_statement_65 : decode cX3_statement 65 = .ok (.aload_n 0, 1) := by decide +kernel
theorem dX3_statement_66 : decode cX3_statement 66 = .ok (.iconst 1, 1) := by decide +kernel
theorem dX3_statement_67 : decode cX3_statement 67 = .ok (.iconst 3, 1) := by decide +kernel
theorem dX3_statement_68 : decode cX3_statement 68 = .ok (.invokevirtual 67, 3) := by decide +kernel
theorem dX3_statement_71 : decode cX3_statement 71 = .ok (.putfield 78, 3) := by decide +kernel
theorem dX3_statement_74 : decode cX3_statement 74 = .ok (.goto 95, 3) := by decide +kernel
theorem dX3_statement_77 : decode cX3_statement 77 = .ok (.aload_n 0, 1) := by decide +kernel
theorem dX3_statement_78 : decode cX3_statement 78 = .ok (.ldc 80, 2) := by decide +kernel
theorem dX3_statement_80 : decode cX3_statement 80 = .ok (.invokevirtual 63, 3) := by decide +kernel
theorem dX3_statement_83 : decode cX3_statement 83 = .ok (.ifCond .eq 20, 3) := by decide +kernel
theorem dX3_statement_86 : decode cX3_statement 86 = .ok (.aload_n 0, 1) := by decide +kernel
theorem dX3_statement_87 : decode cX3_statement 87 = .ok (.getfield 28, 3) := by decide +kernel
theorem dX3_statement_90 : decode cX3_statement 90 = .ok (.aload_n 0, 1) := by decide +kernel
theorem dX3_statement_91 : decode cX3_statement 91 = .ok (.iconst 0, 1) := by decide +kernel
theorem dX3_statement_92 : decode cX3_statement 92 = .ok (.bipush 10, 2) := by decide +kernel
theorem dX3_statement_94 : decode cX3_statement 94 = .ok (.invokevirtual 67, 3) := by decide +kernel
theorem dX3_statement_97 : decode cX3_statement 97 = .ok (.putfield 82, 3) := by decide +kernel
theorem dX3_statement_100 : decode cX3_statement 100 = .ok (.goto 69, 3) := by decide +kernel
theorem dX3_statement_103 : decode cX3_statement 103 = .ok (.aload_n 0, 1) := by decide +kernel
theorem dX3_statement_104 : decode cX3_statement 104 = .ok (.ldc 85, 2) := by decide +kernel
theorem dX3_statement_106 : decode cX3_statement 106 = .ok (.invokevirtual 63, 3) := by decide +kernel
theorem dX3_statement_109 : decode cX3_statement 109 = .ok (.ifCond .eq 8, 3) := by decide +kernel
theorem dX3_statement_112 : decode cX3_statement 112 = .ok (.aload_n 0, 1) := by decide +kernel
theorem dX3_statement_113 : decode cX3_statement 113 = .ok (.invokevirtual 87, 3) := by decide +kernel
theorem dX3_statement_116 : decode cX3_statement 116 = .ok (.ireturn, 1) := by decide +kernel
theorem dX3_statement_117 : decode cX3_statement 117 = .ok (.aload_n 0, 1) := by decide +kernel
theorem dX3_statement_118 : decode cX3_statement 118 = .ok (.ldc 89, 2) := by decide +kernel
theorem dX3_statement_120 : decode cX3_statement 120 = .ok (.invokevirtual 63, 3) := by decide +kernel
theorem dX3_statement_123 : decode cX3_statement 123 = .ok (.ifCond .eq 8, 3) := by decide +kernel
theorem dX3_statement_126 : decode cX3_statement 126 = .ok (.aload_n 0, 1) := by decide +kernel
theorem dX3_statement_127 : decode cX3_statement 127 = .ok (.invokevirtual 91, 3) := by decide +kernel
theorem dX3_statement_130 : decode cX3_statement 130 = .ok (.ireturn, 1) := by decide +kernel
theorem dX3_statement_131 : decode cX3_statement 131 = .ok (.aload_n 0, 1) := by decide +kernel
theorem dX3_statement_132 : decode cX3_statement 132 = .ok (.ldc 93, 2) := by decide +kernel
theorem dX3_statement_134 : decode cX3_statement 134 = .ok (.invokevirtual 63, 3) := by decide +kernel
theorem dX3_statement_137 : decode cX3_statement 137 = .ok (.ifCond .eq 8, 3) := by decide +kernel
theorem dX3_statement_140 : decode cX3_statement 140 = .ok (.aload_n 0, 1) := by decide +kernel
theorem dX3_statement_141 : decode cX3_statement 141 = .ok (.invokevirtual 95, 3) := by decide +kernel
theorem dX3_statement_144 : decode cX3_statement 144 = .ok (.ireturn, 1) := by decide +kernel
theorem dX3_statement_145 : decode cX3_statement 145 = .ok (.aload_n 0, 1) := by decide +kernel
theorem dX3_statement_146 : decode cX3_statement 146 = .ok (.ldc 97, 2) := by decide +kernel
theorem dX3_statement_148 : decode cX3_statement 148 = .ok (.invokevirtual 63, 3) := by decide +kernel
theorem dX3_statement_151 : decode cX3_statement 151 = .ok (.ifCond .eq 8, 3) := by decide +kernel
theorem dX3_statement_154 : decode cX3_statement 154 = .ok (.aload_n 0, 1) := by decide +kernel
theorem dX3_statement_155 : decode cX3_statement 155 = .ok (.invokevirtual 99, 3) := by decide +kernel
theorem dX3_statement_158 : decode cX3_statement 158 = .ok (.ireturn, 1) := by decide +kernel
theorem dX3_statement_159 : decode cX3_statement 159 = .ok (.aload_n 0, 1) := by decide +kernel
theorem dX3_statement_160 : decode cX3_statement 160 = .ok (.iconst 1, 1) := by decide +kernel
theorem dX3_statement_161 : decode cX3_statement 161 = .ok (.aload_n 0, 1) := by decide +kernel
theorem dX3_statement_162 : decode cX3_statement 162 = .ok (.getfield 25, 3) := by decide +kernel
theorem dX3_statement_165 : decode cX3_statement 165 = .ok (.invokevirtual 49, 3) := by decide +kernel
theorem dX3_statement_168 : decode cX3_statement 168 = .ok (.ireturn, 1) := by decide +kernel
theorem dX3_statement_169 : decode cX3_statement 169 = .ok (.aload_n 0, 1) := by decide +kernel
theorem dX3_statement_170 : decode cX3_statement 170 = .ok (.getfield 9, 3) := by decide +kernel
theorem dX3_statement_173 : decode cX3_statement 173 = .ok (.ifCond .ne 7, 3) := by decide +kernel
theorem dX3_statement_176 : decode cX3_statement 176 = .ok (.iconst 1, 1) := by decide +kernel
theorem dX3_statement_177 : decode cX3_statement 177 = .ok (.goto 4, 3) := by decide +kernel
theorem dX3_statement_180 : decode cX3_statement 180 = .ok (.iconst 0, 1) := by decide +kernel
theorem dX3_statement_181 : decode cX3_statement 181 = .ok (.ireturn, 1) := by decide +kernel
theorem dX3_clean_0 : decode cX3_clean 0 = .ok (.aload_n 0, 1) := by decide +kernel
theorem dX3_clean_1 : decode cX3_clean 1 = .ok (.iconst 1, 1) := by decide +kernel
theorem dX3_clean_2 : decode cX3_clean 2 = .ok (.iconst 3, 1) := by decide +kernel
theorem dX3_clean_3 : decode cX3_clean 3 = .ok (.invokevirtual 67, 3) := by decide +kernel
theorem dX3_clean_6 : decode cX3_clean 6 = .ok (.istore_n 1, 1) := by decide +kernel
theorem dX3_clean_7 : decode cX3_clean 7 = .ok (.iload_n 1, 1) := by decide +kernel
theorem dX3_clean_8 : decode cX3_clean 8 = .ok (.iconst (-1), 1) := by decide +kernel
theorem dX3_clean_9 : decode cX3_clean 9 = .ok (.if_icmp .eq 12, 3) := by decide +kernel
theorem dX3_clean_12 : decode cX3_clean 12 = .ok (.aload_n 0, 1) := by decide +kernel
theorem dX3_clean_13 : decode cX3_clean 13 = .ok (.ldc 101, 2) := by decide +kernel
theorem dX3_clean_15 : decode cX3_clean 15 = .ok (.invokevirtual 103, 3) := by decide +kernel
theorem dX3_clean_18 : decode cX3_clean 18 = .ok (.ifCond .ne 5, 3) := by decide +kernel
theorem dX3_clean_21 : decode cX3_clean 21 = .ok (.iconst 0, 1) := by decide +kernel
theorem dX3_clean_22 : decode cX3_clean 22 = .ok (.ireturn, 1) := by decide +kernel
theorem dX3_clean_23 : decode cX3_clean 23 = .ok (.aload_n 0, 1) := by decide +kernel
theorem dX3_clean_24 : decode cX3_clean 24 = .ok (.iconst 0, 1) := by decide +kernel
theorem dX3_clean_25 : decode cX3_clean 25 = .ok (.iconst 3, 1) := by decide +kernel
theorem dX3_clean_26 : decode cX3_clean 26 = .ok (.invokevirtual 67, 3) := by decide +kernel
theorem dX3_clean_29 : decode cX3_clean 29 = .ok (.istore_n 2, 1) := by decide +kernel
theorem dX3_clean_30 : decode cX3_clean 30 = .ok (.aload_n 0, 1) := by decide +kernel
theorem dX3_clean_31 : decode cX3_clean 31 = .ok (.getfield 28, 3) := by decide +kernel
theorem dX3_clean_34 : decode cX3_clean 34 = .ok (.iload_n 1, 1) := by decide +kernel
theorem dX3_clean_35 : decode cX3_clean 35 = .ok (.iload_n 2, 1) := by decide +kernel
theorem dX3_clean_36 : decode cX3_clean 36 = .ok (.invokevirtual 106, 3) := by decide +kernel
theorem dX3_clean_39 : decode cX3_clean 39 = .ok (.iload_n 2, 1) := by decide +kernel
theorem dX3_clean_40 : decode cX3_clean 40 = .ok (.iconst (-1), 1) := by decide +kernel
theorem dX3_clean_41 : decode cX3_clean 41 = .ok (.if_icmp .eq 7, 3) := by decide +kernel
theorem dX3_clean_44 : decode cX3_clean 44 = .ok (.iconst 1, 1) := by decide +kernel
theorem dX3_clean_45 : decode cX3_clean 45 = .ok (.goto 4, 3) := by decide +kernel
theorem dX3_clean_48 : decode cX3_clean 48 = .ok (.iconst 0, 1) := by decide +kernel
theorem dX3_clean_49 : decode cX3_clean 49 = .ok (.ireturn, 1) := by decide +kernel
theorem dX3_worth_0 : decode cX3_worth 0 = .ok (.aload_n 0, 1) := by decide +kernel
theorem dX3_worth_1 : decode cX3_worth 1 = .ok (.getfield 28, 3) := by decide +kernel
theorem dX3_worth_4 : decode cX3_worth 4 = .ok (.getfield 110, 3) := by decide +kernel
theorem dX3_worth_7 : decode cX3_worth 7 = .ok (.invokevirtual 114, 3) := by decide +kernel
theorem dX3_worth_10 : decode cX3_worth 10 = .ok (.istore_n 1, 1) := by decide +kernel
theorem dX3_worth_11 : decode cX3_worth 11 = .ok (.aload_n 0, 1) := by decide +kernel
theorem dX3_worth_12 : decode cX3_worth 12 = .ok (.iconst 0, 1) := by decide +kernel
theorem dX3_worth_13 : decode cX3_worth 13 = .ok (.invokevirtual 120, 3) := by decide +kernel
theorem dX3_worth_16 : decode cX3_worth 16 = .ok (.ifCond .eq 12, 3) := by decide +kernel
theorem dX3_worth_19 : decode cX3_worth 19 = .ok (.aload_n 0, 1) := by decide +kernel
theorem dX3_worth_20 : decode cX3_worth 20 = .ok (.ldc 124, 2) := by decide +kernel
theorem dX3_worth_22 : decode cX3_worth 22 = .ok (.invokevirtual 103, 3) := by decide +kernel
theorem dX3_worth_25 : decode cX3_worth 25 = .ok (.ifCond .ne 5, 3) := by decide +kernel
theorem dX3_worth_28 : decode cX3_worth 28 = .ok (.iconst 0, 1) := by decide +kernel
theorem dX3_worth_29 : decode cX3_worth 29 = .ok (.ireturn, 1) := by decide +kernel
theorem dX3_worth_30 : decode cX3_worth 30 = .ok (.aload_n 0, 1) := by decide +kernel
theorem dX3_worth_31 : decode cX3_worth 31 = .ok (.getfield 28, 3) := by decide +kernel
theorem dX3_worth_34 : decode cX3_worth 34 = .ok (.getfield 110, 3) := by decide +kernel
theorem dX3_worth_37 : decode cX3_worth 37 = .ok (.invokevirtual 114, 3) := by decide +kernel
theorem dX3_worth_40 : decode cX3_worth 40 = .ok (.istore_n 2, 1) := by decide +kernel
theorem dX3_worth_41 : decode cX3_worth 41 = .ok (.aload_n 0, 1) := by decide +kernel
theorem dX3_worth_42 : decode cX3_worth 42 = .ok (.iconst 0, 1) := by decide +kernel
theorem dX3_worth_43 : decode cX3_worth 43 = .ok (.invokevirtual 126, 3) := by decide +kernel
theorem dX3_worth_46 : decode cX3_worth 46 = .ok (.ifCond .ne 5, 3) := by decide +kernel
theorem dX3_worth_49 : decode cX3_worth 49 = .ok (.iconst 0, 1) := by decide +kernel
theorem dX3_worth_50 : decode cX3_worth 50 = .ok (.ireturn, 1) := by decide +kernel
theorem dX3_worth_51 : decode cX3_worth 51 = .ok (.aload_n 0, 1) := by decide +kernel
theorem dX3_worth_52 : decode cX3_worth 52 = .ok (.getfield 28, 3) := by decide +kernel
theorem dX3_worth_55 : decode cX3_worth 55 = .ok (.iload_n 1, 1) := by decide +kernel
theorem dX3_worth_56 : decode cX3_worth 56 = .ok (.iload_n 2, 1) := by decide +kernel
theorem dX3_worth_57 : decode cX3_worth 57 = .ok (.invokevirtual 129, 3) := by decide +kernel
theorem dX3_worth_60 : decode cX3_worth 60 = .ok (.iconst 1, 1) := by decide +kernel
theorem dX3_worth_61 : decode cX3_worth 61 = .ok (.ireturn, 1) := by decide +kernel
theorem dX3_handicap_0 : decode cX3_handicap 0 = .ok (.aload_n 0, 1) := by decide +kernel
theorem dX3_handicap_1 : decode cX3_handicap 1 = .ok (.getfield 28, 3) := by decide +kernel
theorem dX3_handicap_4 : decode cX3_handicap 4 = .ok (.getfield 110, 3) := by decide +kernel
theorem dX3_handicap_7 : decode cX3_handicap 7 = .ok (.invokevirtual 114, 3) := by decide +kernel
theorem dX3_handicap_10 : decode cX3_handicap 10 = .ok (.istore_n 1, 1) := by decide +kernel
theorem dX3_handicap_11 : decode cX3_handicap 11 = .ok (.aload_n 0, 1) := by decide +kernel
theorem dX3_handicap_12 : decode cX3_handicap 12 = .ok (.iconst 0, 1) := by decide +kernel
theorem dX3_handicap_13 : decode cX3_handicap 13 = .ok (.invokevirtual 120, 3) := by decide +kernel
theorem dX3_handicap_16 : decode cX3_handicap 16 = .ok (.ifCond .ne 5, 3) := by decide +kernel
theorem dX3_handicap_19 : decode cX3_handicap 19 = .ok (.iconst 0, 1) := by decide +kernel
theorem dX3_handicap_20 : decode cX3_handicap 20 = .ok (.ireturn, 1) := by decide +kernel
theorem dX3_handicap_21 : decode cX3_handicap 21 = .ok (.aload_n 0, 1) := by decide +kernel
theorem dX3_handicap_22 : decode cX3_handicap 22 = .ok (.getfield 28, 3) := by decide +kernel
theorem dX3_handicap_25 : decode cX3_handicap 25 = .ok (.iload_n 1, 1) := by decide +kernel
theorem dX3_handicap_26 : decode cX3_handicap 26 = .ok (.invokevirtual 132, 3) := by decide +kernel
theorem dX3_handicap_29 : decode cX3_handicap 29 = .ok (.iconst 1, 1) := by decide +kernel
theorem dX3_handicap_30 : decode cX3_handicap 30 = .ok (.ireturn, 1) := by decide +kernel
theorem dX3_joins_0 : decode cX3_joins 0 = .ok (.aload_n 0, 1) := by decide +kernel
theorem dX3_joins_1 : decode cX3_joins 1 = .ok (.iconst 0, 1) := by decide +kernel
theorem dX3_joins_2 : decode cX3_joins 2 = .ok (.bipush 8, 2) := by decide +kernel
theorem dX3_joins_4 : decode cX3_joins 4 = .ok (.invokevirtual 67, 3) := by decide +kernel
theorem dX3_joins_7 : decode cX3_joins 7 = .ok (.istore_n 1, 1) := by decide +kernel
theorem dX3_joins_8 : decode cX3_joins 8 = .ok (.iload_n 1, 1) := by decide +kernel
theorem dX3_joins_9 : decode cX3_joins 9 = .ok (.iconst (-1), 1) := by decide +kernel
theorem dX3_joins_10 : decode cX3_joins 10 = .ok (.if_icmp .ne 5, 3) := by decide +kernel
theorem dX3_joins_13 : decode cX3_joins 13 = .ok (.iconst 0, 1) := by decide +kernel
theorem dX3_joins_14 : decode cX3_joins 14 = .ok (.ireturn, 1) := by decide +kernel
theorem dX3_joins_15 : decode cX3_joins 15 = .ok (.aload_n 0, 1) := by decide +kernel
theorem dX3_joins_16 : decode cX3_joins 16 = .ok (.getfield 25, 3) := by decide +kernel
theorem dX3_joins_19 : decode cX3_joins 19 = .ok (.istore_n 2, 1) := by decide +kernel
theorem dX3_joins_20 : decode cX3_joins 20 = .ok (.aload_n 0, 1) := by decide +kernel
theorem dX3_joins_21 : decode cX3_joins 21 = .ok (.iconst 0, 1) := by decide +kernel
theorem dX3_joins_22 : decode cX3_joins 22 = .ok (.bipush 8, 2) := by decide +kernel
theorem dX3_joins_24 : decode cX3_joins 24 = .ok (.invokevirtual 67, 3) := by decide +kernel
theorem dX3_joins_27 : decode cX3_joins 27 = .ok (.istore_n 3, 1) := by decide +kernel
theorem dX3_joins_28 : decode cX3_joins 28 = .ok (.iload_n 3, 1) := by decide +kernel
theorem dX3_joins_29 : decode cX3_joins 29 = .ok (.iconst (-1), 1) := by decide +kernel
theorem dX3_joins_30 : decode cX3_joins 30 = .ok (.if_icmp .ne 5, 3) := by decide +kernel
theorem dX3_joins_33 : decode cX3_joins 33 = .ok (.iconst 0, 1) := by decide +kernel
theorem dX3_joins_34 : decode cX3_joins 34 = .ok (.ireturn, 1) := by decide +kernel
theorem dX3_joins_35 : decode cX3_joins 35 = .ok (.iload_n 3, 1) := by decide +kernel
theorem dX3_joins_36 : decode cX3_joins 36 = .ok (.iload_n 1, 1) := by decide +kernel
theorem dX3_joins_37 : decode cX3_joins 37 = .ok (.if_icmp .ne 10, 3) := by decide +kernel
theorem dX3_joins_40 : decode cX3_joins 40 = .ok (.aload_n 0, 1) := by decide +kernel
theorem dX3_joins_41 : decode cX3_joins 41 = .ok (.iconst 2, 1) := by decide +kernel
theorem dX3_joins_42 : decode cX3_joins 42 = .ok (.iload_n 2, 1) := by decide +kernel
theorem dX3_joins_43 : decode cX3_joins 43 = .ok (.invokevirtual 49, 3) := by decide +kernel
theorem dX3_joins_46 : decode cX3_joins 46 = .ok (.ireturn, 1) := by decide +kernel
theorem dX3_joins_47 : decode cX3_joins 47 = .ok (.aload_n 0, 1) := by decide +kernel
theorem dX3_joins_48 : decode cX3_joins 48 = .ok (.getfield 28, 3) := by decide +kernel
theorem dX3_joins_51 : decode cX3_joins 51 = .ok (.iload_n 1, 1) := by decide +kernel
theorem dX3_joins_52 : decode cX3_joins 52 = .ok (.iload_n 3, 1) := by decide +kernel
theorem dX3_joins_53 : decode cX3_joins 53 = .ok (.invokevirtual 136, 3) := by decide +kernel
theorem dX3_joins_56 : decode cX3_joins 56 = .ok (.iconst 1, 1) := by decide +kernel
theorem dX3_joins_57 : decode cX3_joins 57 = .ok (.ireturn, 1) := by decide +kernel
theorem dX3_test_0 : decode cX3_test 0 = .ok (.aload_n 0, 1) := by decide +kernel
theorem dX3_test_1 : decode cX3_test 1 = .ok (.iload_n 1, 1) := by decide +kernel
theorem dX3_test_2 : decode cX3_test 2 = .ok (.invokevirtual 139, 3) := by decide +kernel
theorem dX3_test_5 : decode cX3_test 5 = .ok (.ifCond .ne 5, 3) := by decide +kernel
theorem dX3_test_8 : decode cX3_test 8 = .ok (.iconst 0, 1) := by decide +kernel
theorem dX3_test_9 : decode cX3_test 9 = .ok (.ireturn, 1) := by decide +kernel
theorem dX3_test_10 : decode cX3_test 10 = .ok (.iconst 0, 1) := by decide +kernel
theorem dX3_test_11 : decode cX3_test 11 = .ok (.istore_n 2, 1) := by decide +kernel
theorem dX3_test_12 : decode cX3_test 12 = .ok (.iload_n 2, 1) := by decide +kernel
theorem dX3_test_13 : decode cX3_test 13 = .ok (.aload_n 0, 1) := by decide +kernel
theorem dX3_test_14 : decode cX3_test 14 = .ok (.getfield 22, 3) := by decide +kernel
theorem dX3_test_17 : decode cX3_test 17 = .ok (.if_icmp .ge 43, 3) := by decide +kernel
theorem dX3_test_20 : decode cX3_test 20 = .ok (.aload_n 0, 1) := by decide +kernel
theorem dX3_test_21 : decode cX3_test 21 = .ok (.ldc 142, 2) := by decide +kernel
theorem dX3_test_23 : decode cX3_test 23 = .ok (.invokevirtual 63, 3) := by decide +kernel
theorem dX3_test_26 : decode cX3_test 26 = .ok (.ifCond .eq 34, 3) := by decide +kernel
theorem dX3_test_29 : decode cX3_test 29 = .ok (.aload_n 0, 1) := by decide +kernel
theorem dX3_test_30 : decode cX3_test 30 = .ok (.iload_n 1, 1) := by decide +kernel
theorem dX3_test_31 : decode cX3_test 31 = .ok (.invokevirtual 139, 3) := by decide +kernel
theorem dX3_test_34 : decode cX3_test 34 = .ok (.ifCond .eq 18, 3) := by decide +kernel
theorem dX3_test_37 : decode cX3_test 37 = .ok (.aload_n 0, 1) := by decide +kernel
theorem dX3_test_38 : decode cX3_test 38 = .ok (.getfield 28, 3) := by decide +kernel
theorem dX3_test_41 : decode cX3_test 41 = .ok (.getfield 110, 3) := by decide +kernel
theorem dX3_test_44 : decode cX3_test 44 = .ok (.bipush (-21), 2) := by decide +kernel
theorem dX3_test_46 : decode cX3_test 46 = .ok (.invokevirtual 144, 3) := by decide +kernel
theorem dX3_test_49 : decode cX3_test 49 = .ok (.ifCond .ne 5, 3) := by decide +kernel
theorem dX3_test_52 : decode cX3_test 52 = .ok (.iconst 0, 1) := by decide +kernel
theorem dX3_test_53 : decode cX3_test 53 = .ok (.ireturn, 1) := by decide +kernel
theorem dX3_test_54 : decode cX3_test 54 = .ok (.iinc 2 1, 3) := by decide +kernel
theorem dX3_test_57 : decode cX3_test 57 = .ok (.goto (-45), 3) := by decide +kernel
theorem dX3_test_60 : decode cX3_test 60 = .ok (.iconst 1, 1) := by decide +kernel
theorem dX3_test_61 : decode cX3_test 61 = .ok (.ireturn, 1) := by decide +kernel
theorem dX3_both_0 : decode cX3_both 0 = .ok (.aload_n 0, 1) := by decide +kernel
theorem dX3_both_1 : decode cX3_both 1 = .ok (.iload_n 1, 1) := by decide +kernel
theorem dX3_both_2 : decode cX3_both 2 = .ok (.invokevirtual 147, 3) := by decide +kernel
theorem dX3_both_5 : decode cX3_both 5 = .ok (.ifCond .ne 5, 3) := by decide +kernel
theorem dX3_both_8 : decode cX3_both 8 = .ok (.iconst 0, 1) := by decide +kernel
theorem dX3_both_9 : decode cX3_both 9 = .ok (.ireturn, 1) := by decide +kernel
theorem dX3_both_10 : decode cX3_both 10 = .ok (.iconst 0, 1) := by decide +kernel
theorem dX3_both_11 : decode cX3_both 11 = .ok (.istore_n 2, 1) := by decide +kernel
theorem dX3_both_12 : decode cX3_both 12 = .ok (.iload_n 2, 1) := by decide +kernel
theorem dX3_both_13 : decode cX3_both 13 = .ok (.aload_n 0, 1) := by decide +kernel
theorem dX3_both_14 : decode cX3_both 14 = .ok (.getfield 22, 3) := by decide +kernel
theorem dX3_both_17 : decode cX3_both 17 = .ok (.if_icmp .ge 43, 3) := by decide +kernel
theorem dX3_both_20 : decode cX3_both 20 = .ok (.aload_n 0, 1) := by decide +kernel
theorem dX3_both_21 : decode cX3_both 21 = .ok (.ldc 150, 2) := by decide +kernel
theorem dX3_both_23 : decode cX3_both 23 = .ok (.invokevirtual 63, 3) := by decide +kernel
theorem dX3_both_26 : decode cX3_both 26 = .ok (.ifCond .eq 34, 3) := by decide +kernel
theorem dX3_both_29 : decode cX3_both 29 = .ok (.aload_n 0, 1) := by decide +kernel
theorem dX3_both_30 : decode cX3_both 30 = .ok (.iload_n 1, 1) := by decide +kernel
theorem dX3_both_31 : decode cX3_both 31 = .ok (.invokevirtual 147, 3) := by decide +kernel
theorem dX3_both_34 : decode cX3_both 34 = .ok (.ifCond .eq 18, 3) := by decide +kernel
theorem dX3_both_37 : decode cX3_both 37 = .ok (.aload_n 0, 1) := by decide +kernel
theorem dX3_both_38 : decode cX3_both 38 = .ok (.getfield 28, 3) := by decide +kernel
theorem dX3_both_41 : decode cX3_both 41 = .ok (.getfield 110, 3) := by decide +kernel
theorem dX3_both_44 : decode cX3_both 44 = .ok (.bipush (-20), 2) := by decide +kernel
theorem dX3_both_46 : decode cX3_both 46 = .ok (.invokevirtual 144, 3) := by decide +kernel
theorem dX3_both_49 : decode cX3_both 49 = .ok (.ifCond .ne 5, 3) := by decide +kernel
theorem dX3_both_52 : decode cX3_both 52 = .ok (.iconst 0, 1) := by decide +kernel
theorem dX3_both_53 : decode cX3_both 53 = .ok (.ireturn, 1) := by decide +kernel
theorem dX3_both_54 : decode cX3_both 54 = .ok (.iinc 2 1, 3) := by decide +kernel
theorem dX3_both_57 : decode cX3_both 57 = .ok (.goto (-45), 3) := by decide +kernel
theorem dX3_both_60 : decode cX3_both 60 = .ok (.iconst 1, 1) := by decide +kernel
theorem dX3_both_61 : decode cX3_both 61 = .ok (.ireturn, 1) := by decide +kernel
theorem dX3_fact_0 : decode cX3_fact 0 = .ok (.aload_n 0, 1) := by decide +kernel
theorem dX3_fact_1 : decode cX3_fact 1 = .ok (.getfield 25, 3) := by decide +kernel
theorem dX3_fact_4 : decode cX3_fact 4 = .ok (.istore_n 2, 1) := by decide +kernel
theorem dX3_fact_5 : decode cX3_fact 5 = .ok (.aload_n 0, 1) := by decide +kernel
theorem dX3_fact_6 : decode cX3_fact 6 = .ok (.ldc 152, 2) := by decide +kernel
theorem dX3_fact_8 : decode cX3_fact 8 = .ok (.invokevirtual 63, 3) := by decide +kernel
theorem dX3_fact_11 : decode cX3_fact 11 = .ok (.ifCond .eq 43, 3) := by decide +kernel
theorem dX3_fact_14 : decode cX3_fact 14 = .ok (.aload_n 0, 1) := by decide +kernel
theorem dX3_fact_15 : decode cX3_fact 15 = .ok (.iload_n 1, 1) := by decide +kernel
theorem dX3_fact_16 : decode cX3_fact 16 = .ok (.iload_n 2, 1) := by decide +kernel
theorem dX3_fact_17 : decode cX3_fact 17 = .ok (.invokevirtual 154, 3) := by decide +kernel
theorem dX3_fact_20 : decode cX3_fact 20 = .ok (.ifCond .eq 32, 3) := by decide +kernel
theorem dX3_fact_23 : decode cX3_fact 23 = .ok (.aload_n 0, 1) := by decide +kernel
theorem dX3_fact_24 : decode cX3_fact 24 = .ok (.iload_n 1, 1) := by decide +kernel
theorem dX3_fact_25 : decode cX3_fact 25 = .ok (.iconst 1, 1) := by decide +kernel
theorem dX3_fact_26 : decode cX3_fact 26 = .ok (.iadd, 1) := by decide +kernel
theorem dX3_fact_27 : decode cX3_fact 27 = .ok (.invokevirtual 147, 3) := by decide +kernel
theorem dX3_fact_30 : decode cX3_fact 30 = .ok (.ifCond .eq 22, 3) := by decide +kernel
theorem dX3_fact_33 : decode cX3_fact 33 = .ok (.aload_n 0, 1) := by decide +kernel
theorem dX3_fact_34 : decode cX3_fact 34 = .ok (.getfield 28, 3) := by decide +kernel
theorem dX3_fact_37 : decode cX3_fact 37 = .ok (.getfield 110, 3) := by decide +kernel
theorem dX3_fact_40 : decode cX3_fact 40 = .ok (.bipush (-22), 2) := by decide +kernel
theorem dX3_fact_42 : decode cX3_fact 42 = .ok (.invokevirtual 144, 3) := by decide +kernel
theorem dX3_fact_45 : decode cX3_fact 45 = .ok (.ifCond .eq 7, 3) := by decide +kernel
theorem dX3_fact_48 : decode cX3_fact 48 = .ok (.iconst 1, 1) := by decide +kernel
theorem dX3_fact_49 : decode cX3_fact 49 = .ok (.goto 4, 3) := by decide +kernel
theorem dX3_fact_52 : decode cX3_fact 52 = .ok (.iconst 0, 1) := by decide +kernel
theorem dX3_fact_53 : decode cX3_fact 53 = .ok (.ireturn, 1) := by decide +kernel
theorem dX3_fact_54 : decode cX3_fact 54 = .ok (.aload_n 0, 1) := by decide +kernel
theorem dX3_fact_55 : decode cX3_fact 55 = .ok (.bipush 91, 2) := by decide +kernel
theorem dX3_fact_57 : decode cX3_fact 57 = .ok (.invokevirtual 57, 3) := by decide +kernel
theorem dX3_fact_60 : decode cX3_fact 60 = .ok (.ifCond .eq 49, 3) := by decide +kernel
theorem dX3_fact_63 : decode cX3_fact 63 = .ok (.aload_n 0, 1) := by decide +kernel
theorem dX3_fact_64 : decode cX3_fact 64 = .ok (.iload_n 1, 1) := by decide +kernel
theorem dX3_fact_65 : decode cX3_fact 65 = .ok (.iload_n 2, 1) := by decide +kernel
theorem dX3_fact_66 : decode cX3_fact 66 = .ok (.invokevirtual 154, 3) := by decide +kernel
theorem dX3_fact_69 : decode cX3_fact 69 = .ok (.ifCond .eq 22, 3) := by decide +kernel
theorem dX3_fact_72 : decode cX3_fact 72 = .ok (.aload_n 0, 1) := by decide +kernel
theorem dX3_fact_73 : decode cX3_fact 73 = .ok (.iload_n 1, 1) := by decide +kernel
theorem dX3_fact_74 : decode cX3_fact 74 = .ok (.iconst 1, 1) := by decide +kernel
theorem dX3_fact_75 : decode cX3_fact 75 = .ok (.iadd, 1) := by decide +kernel
theorem dX3_fact_76 : decode cX3_fact 76 = .ok (.invokevirtual 126, 3) := by decide +kernel
theorem dX3_fact_79 : decode cX3_fact 79 = .ok (.ifCond .eq 12, 3) := by decide +kernel
theorem dX3_fact_82 : decode cX3_fact 82 = .ok (.aload_n 0, 1) := by decide +kernel
theorem dX3_fact_83 : decode cX3_fact 83 = .ok (.bipush 93, 2) := by decide +kernel
theorem dX3_fact_85 : decode cX3_fact 85 = .ok (.invokevirtual 57, 3) := by decide +kernel
theorem dX3_fact_88 : decode cX3_fact 88 = .ok (.ifCond .ne 15, 3) := by decide +kernel
theorem dX3_fact_91 : decode cX3_fact 91 = .ok (.aload_n 0, 1) := by decide +kernel
theorem dX3_fact_92 : decode cX3_fact 92 = .ok (.iconst 1, 1) := by decide +kernel
theorem dX3_fact_93 : decode cX3_fact 93 = .ok (.aload_n 0, 1) := by decide +kernel
theorem dX3_fact_94 : decode cX3_fact 94 = .ok (.getfield 25, 3) := by decide +kernel
theorem dX3_fact_97 : decode cX3_fact 97 = .ok (.invokevirtual 49, 3) := by decide +kernel
theorem dX3_fact_100 : decode cX3_fact 100 = .ok (.ifCond .eq 7, 3) := by decide +kernel
theorem dX3_fact_103 : decode cX3_fact 103 = .ok (.iconst 1, 1) := by decide +kernel
theorem dX3_fact_104 : decode cX3_fact 104 = .ok (.goto 4, 3) := by decide +kernel
theorem dX3_fact_107 : decode cX3_fact 107 = .ok (.iconst 0, 1) := by decide +kernel
theorem dX3_fact_108 : decode cX3_fact 108 = .ok (.ireturn, 1) := by decide +kernel
theorem dX3_fact_109 : decode cX3_fact 109 = .ok (.aload_n 0, 1) := by decide +kernel
theorem dX3_fact_110 : decode cX3_fact 110 = .ok (.ldc 157, 2) := by decide +kernel
theorem dX3_fact_112 : decode cX3_fact 112 = .ok (.invokevirtual 63, 3) := by decide +kernel
theorem dX3_fact_115 : decode cX3_fact 115 = .ok (.ifCond .eq 15, 3) := by decide +kernel
theorem dX3_fact_118 : decode cX3_fact 118 = .ok (.aload_n 0, 1) := by decide +kernel
theorem dX3_fact_119 : decode cX3_fact 119 = .ok (.getfield 28, 3) := by decide +kernel
theorem dX3_fact_122 : decode cX3_fact 122 = .ok (.getfield 110, 3) := by decide +kernel
theorem dX3_fact_125 : decode cX3_fact 125 = .ok (.iconst 1, 1) := by decide +kernel
theorem dX3_fact_126 : decode cX3_fact 126 = .ok (.invokevirtual 144, 3) := by decide +kernel
theorem dX3_fact_129 : decode cX3_fact 129 = .ok (.ireturn, 1) := by decide +kernel
theorem dX3_fact_130 : decode cX3_fact 130 = .ok (.aload_n 0, 1) := by decide +kernel
theorem dX3_fact_131 : decode cX3_fact 131 = .ok (.iload_n 1, 1) := by decide +kernel
theorem dX3_fact_132 : decode cX3_fact 132 = .ok (.invokevirtual 120, 3) := by decide +kernel
theorem dX3_fact_135 : decode cX3_fact 135 = .ok (.ifCond .ne 5, 3) := by decide +kernel
theorem dX3_fact_138 : decode cX3_fact 138 = .ok (.iconst 0, 1) := by decide +kernel
theorem dX3_fact_139 : decode cX3_fact 139 = .ok (.ireturn, 1) := by decide +kernel
theorem dX3_fact_140 : decode cX3_fact 140 = .ok (.aload_n 0, 1) := by decide +kernel
theorem dX3_fact_141 : decode cX3_fact 141 = .ok (.bipush 60, 2) := by decide +kernel
theorem dX3_fact_143 : decode cX3_fact 143 = .ok (.invokevirtual 57, 3) := by decide +kernel
theorem dX3_fact_146 : decode cX3_fact 146 = .ok (.ifCond .eq 8, 3) := by decide +kernel
theorem dX3_fact_149 : decode cX3_fact 149 = .ok (.bipush (-17), 2) := by decide +kernel
theorem dX3_fact_151 : decode cX3_fact 151 = .ok (.goto 32, 3) := by decide +kernel
theorem dX3_fact_154 : decode cX3_fact 154 = .ok (.aload_n 0, 1) := by decide +kernel
theorem dX3_fact_155 : decode cX3_fact 155 = .ok (.bipush 62, 2) := by decide +kernel
theorem dX3_fact_157 : decode cX3_fact 157 = .ok (.invokevirtual 57, 3) := by decide +kernel
theorem dX3_fact_160 : decode cX3_fact 160 = .ok (.ifCond .eq 8, 3) := by decide +kernel
theorem dX3_fact_163 : decode cX3_fact 163 = .ok (.bipush (-18), 2) := by decide +kernel
theorem dX3_fact_165 : decode cX3_fact 165 = .ok (.goto 18, 3) := by decide +kernel
theorem dX3_fact_168 : decode cX3_fact 168 = .ok (.aload_n 0, 1) := by decide +kernel
theorem dX3_fact_169 : decode cX3_fact 169 = .ok (.bipush 61, 2) := by decide +kernel
theorem dX3_fact_171 : decode cX3_fact 171 = .ok (.invokevirtual 57, 3) := by decide +kernel
theorem dX3_fact_174 : decode cX3_fact 174 = .ok (.ifCond .eq 8, 3) := by decide +kernel
theorem dX3_fact_177 : decode cX3_fact 177 = .ok (.bipush (-19), 2) := by decide +kernel
theorem dX3_fact_179 : decode cX3_fact 179 = .ok (.goto 4, 3) := by decide +kernel
theorem dX3_fact_182 : decode cX3_fact 182 = .ok (.iconst 0, 1) := by decide +kernel
theorem dX3_fact_183 : decode cX3_fact 183 = .ok (.istore_n 3, 1) := by decide +kernel
theorem dX3_fact_184 : decode cX3_fact 184 = .ok (.iload_n 3, 1) := by decide +kernel
theorem dX3_fact_185 : decode cX3_fact 185 = .ok (.ifCond .ne 13, 3) := by decide +kernel
theorem dX3_fact_188 : decode cX3_fact 188 = .ok (.aload_n 0, 1) := by decide +kernel
theorem dX3_fact_189 : decode cX3_fact 189 = .ok (.iconst 1, 1) := by decide +kernel
theorem dX3_fact_190 : decode cX3_fact 190 = .ok (.aload_n 0, 1) := by decide +kernel
theorem dX3_fact_191 : decode cX3_fact 191 = .ok (.getfield 25, 3) := by decide +kernel
theorem dX3_fact_194 : decode cX3_fact 194 = .ok (.invokevirtual 49, 3) := by decide +kernel
theorem dX3_fact_197 : decode cX3_fact 197 = .ok (.ireturn, 1) := by decide +kernel
theorem dX3_fact_198 : decode cX3_fact 198 = .ok (.aload_n 0, 1) := by decide +kernel
theorem dX3_fact_199 : decode cX3_fact 199 = .ok (.iload_n 1, 1) := by decide +kernel
theorem dX3_fact_200 : decode cX3_fact 200 = .ok (.invokevirtual 120, 3) := by decide +kernel
theorem dX3_fact_203 : decode cX3_fact 203 = .ok (.ifCond .eq 21, 3) := by decide +kernel
theorem dX3_fact_206 : decode cX3_fact 206 = .ok (.aload_n 0, 1) := by decide +kernel
theorem dX3_fact_207 : decode cX3_fact 207 = .ok (.getfield 28, 3) := by decide +kernel
theorem dX3_fact_210 : decode cX3_fact 210 = .ok (.getfield 110, 3) := by decide +kernel
theorem dX3_fact_213 : decode cX3_fact 213 = .ok (.iload_n 3, 1) := by decide +kernel
theorem dX3_fact_214 : decode cX3_fact 214 = .ok (.invokevirtual 144, 3) := by decide +kernel
theorem dX3_fact_217 : decode cX3_fact 217 = .ok (.ifCond .eq 7, 3) := by decide +kernel
theorem dX3_fact_220 : decode cX3_fact 220 = .ok (.iconst 1, 1) := by decide +kernel
theorem dX3_fact_221 : decode cX3_fact 221 = .ok (.goto 4, 3) := by decide +kernel
theorem dX3_fact_224 : decode cX3_fact 224 = .ok (.iconst 0, 1) := by decide +kernel
theorem dX3_fact_225 : decode cX3_fact 225 = .ok (.ireturn, 1) := by decide +kernel
theorem dX3_sum_0 : decode cX3_sum 0 = .ok (.aload_n 0, 1) := by decide +kernel
theorem dX3_sum_1 : decode cX3_sum 1 = .ok (.iload_n 1, 1) := by decide +kernel
theorem dX3_sum_2 : decode cX3_sum 2 = .ok (.invokevirtual 159, 3) := by decide +kernel
theorem dX3_sum_5 : decode cX3_sum 5 = .ok (.ifCond .ne 5, 3) := by decide +kernel
theorem dX3_sum_8 : decode cX3_sum 8 = .ok (.iconst 0, 1) := by decide +kernel
theorem dX3_sum_9 : decode cX3_sum 9 = .ok (.ireturn, 1) := by decide +kernel
theorem dX3_sum_10 : decode cX3_sum 10 = .ok (.iconst 0, 1) := by decide +kernel
theorem dX3_sum_11 : decode cX3_sum 11 = .ok (.istore_n 2, 1) := by decide +kernel
theorem dX3_sum_12 : decode cX3_sum 12 = .ok (.iload_n 2, 1) := by decide +kernel
theorem dX3_sum_13 : decode cX3_sum 13 = .ok (.aload_n 0, 1) := by decide +kernel
theorem dX3_sum_14 : decode cX3_sum 14 = .ok (.getfield 22, 3) := by decide +kernel
theorem dX3_sum_17 : decode cX3_sum 17 = .ok (.if_icmp .ge 69, 3) := by decide +kernel
theorem dX3_sum_20 : decode cX3_sum 20 = .ok (.aload_n 0, 1) := by decide +kernel
theorem dX3_sum_21 : decode cX3_sum 21 = .ok (.bipush 43, 2) := by decide +kernel
theorem dX3_sum_23 : decode cX3_sum 23 = .ok (.invokevirtual 57, 3) := by decide +kernel
theorem dX3_sum_26 : decode cX3_sum 26 = .ok (.ifCond .eq 8, 3) := by decide +kernel
theorem dX3_sum_29 : decode cX3_sum 29 = .ok (.bipush (-11), 2) := by decide +kernel
theorem dX3_sum_31 : decode cX3_sum 31 = .ok (.goto 18, 3) := by decide +kernel
theorem dX3_sum_34 : decode cX3_sum 34 = .ok (.aload_n 0, 1) := by decide +kernel
theorem dX3_sum_35 : decode cX3_sum 35 = .ok (.bipush 45, 2) := by decide +kernel
theorem dX3_sum_37 : decode cX3_sum 37 = .ok (.invokevirtual 57, 3) := by decide +kernel
theorem dX3_sum_40 : decode cX3_sum 40 = .ok (.ifCond .eq 8, 3) := by decide +kernel
theorem dX3_sum_43 : decode cX3_sum 43 = .ok (.bipush (-12), 2) := by decide +kernel
theorem dX3_sum_45 : decode cX3_sum 45 = .ok (.goto 4, 3) := by decide +kernel
theorem dX3_sum_48 : decode cX3_sum 48 = .ok (.iconst 0, 1) := by decide +kernel
theorem dX3_sum_49 : decode cX3_sum 49 = .ok (.istore_n 3, 1) := by decide +kernel
theorem dX3_sum_50 : decode cX3_sum 50 = .ok (.iload_n 3, 1) := by decide +kernel
theorem dX3_sum_51 : decode cX3_sum 51 = .ok (.ifCond .ne 5, 3) := by decide +kernel
theorem dX3_sum_54 : decode cX3_sum 54 = .ok (.iconst 1, 1) := by decide +kernel
theorem dX3_sum_55 : decode cX3_sum 55 = .ok (.ireturn, 1) := by decide +kernel
theorem dX3_sum_56 : decode cX3_sum 56 = .ok (.aload_n 0, 1) := by decide +kernel
theorem dX3_sum_57 : decode cX3_sum 57 = .ok (.iload_n 1, 1) := by decide +kernel
theorem dX3_sum_58 : decode cX3_sum 58 = .ok (.invokevirtual 159, 3) := by decide +kernel
theorem dX3_sum_61 : decode cX3_sum 61 = .ok (.ifCond .eq 17, 3) := by decide +kernel
theorem dX3_sum_64 : decode cX3_sum 64 = .ok (.aload_n 0, 1) := by decide +kernel
theorem dX3_sum_65 : decode cX3_sum 65 = .ok (.getfield 28, 3) := by decide +kernel
theorem dX3_sum_68 : decode cX3_sum 68 = .ok (.getfield 110, 3) := by decide +kernel
theorem dX3_sum_71 : decode cX3_sum 71 = .ok (.iload_n 3, 1) := by decide +kernel
theorem dX3_sum_72 : decode cX3_sum 72 = .ok (.invokevirtual 144, 3) := by decide +kernel
theorem dX3_sum_75 : decode cX3_sum 75 = .ok (.ifCond .ne 5, 3) := by decide +kernel
theorem dX3_sum_78 : decode cX3_sum 78 = .ok (.iconst 0, 1) := by decide +kernel
theorem dX3_sum_79 : decode cX3_sum 79 = .ok (.ireturn, 1) := by decide +kernel
theorem dX3_sum_80 : decode cX3_sum 80 = .ok (.iinc 2 1, 3) := by decide +kernel
theorem dX3_sum_83 : decode cX3_sum 83 = .ok (.goto (-71), 3) := by decide +kernel
theorem dX3_sum_86 : decode cX3_sum 86 = .ok (.iconst 1, 1) := by decide +kernel
theorem dX3_sum_87 : decode cX3_sum 87 = .ok (.ireturn, 1) := by decide +kernel
theorem dX3_product_0 : decode cX3_product 0 = .ok (.aload_n 0, 1) := by decide +kernel
theorem dX3_product_1 : decode cX3_product 1 = .ok (.iload_n 1, 1) := by decide +kernel
theorem dX3_product_2 : decode cX3_product 2 = .ok (.invokevirtual 162, 3) := by decide +kernel
theorem dX3_product_5 : decode cX3_product 5 = .ok (.ifCond .ne 5, 3) := by decide +kernel
theorem dX3_product_8 : decode cX3_product 8 = .ok (.iconst 0, 1) := by decide +kernel
theorem dX3_product_9 : decode cX3_product 9 = .ok (.ireturn, 1) := by decide +kernel
theorem dX3_product_10 : decode cX3_product 10 = .ok (.iconst 0, 1) := by decide +kernel
theorem dX3_product_11 : decode cX3_product 11 = .ok (.istore_n 2, 1) := by decide +kernel
theorem dX3_product_12 : decode cX3_product 12 = .ok (.iload_n 2, 1) := by decide +kernel
theorem dX3_product_13 : decode cX3_product 13 = .ok (.aload_n 0, 1) := by decide +kernel
theorem dX3_product_14 : decode cX3_product 14 = .ok (.getfield 22, 3) := by decide +kernel
theorem dX3_product_17 : decode cX3_product 17 = .ok (.if_icmp .ge 69, 3) := by decide +kernel
theorem dX3_product_20 : decode cX3_product 20 = .ok (.aload_n 0, 1) := by decide +kernel
theorem dX3_product_21 : decode cX3_product 21 = .ok (.bipush 42, 2) := by decide +kernel
theorem dX3_product_23 : decode cX3_product 23 = .ok (.invokevirtual 57, 3) := by decide +kernel
theorem dX3_product_26 : decode cX3_product 26 = .ok (.ifCond .eq 8, 3) := by decide +kernel
theorem dX3_product_29 : decode cX3_product 29 = .ok (.bipush (-13), 2) := by decide +kernel
theorem dX3_product_31 : decode cX3_product 31 = .ok (.goto 18, 3) := by decide +kernel
theorem dX3_product_34 : decode cX3_product 34 = .ok (.aload_n 0, 1) := by decide +kernel
theorem dX3_product_35 : decode cX3_product 35 = .ok (.bipush 47, 2) := by decide +kernel
theorem dX3_product_37 : decode cX3_product 37 = .ok (.invokevirtual 57, 3) := by decide +kernel
theorem dX3_product_40 : decode cX3_product 40 = .ok (.ifCond .eq 8, 3) := by decide +kernel
theorem dX3_product_43 : decode cX3_product 43 = .ok (.bipush (-14), 2) := by decide +kernel
theorem dX3_product_45 : decode cX3_product 45 = .ok (.goto 4, 3) := by decide +kernel
theorem dX3_product_48 : decode cX3_product 48 = .ok (.iconst 0, 1) := by decide +kernel
theorem dX3_product_49 : decode cX3_product 49 = .ok (.istore_n 3, 1) := by decide +kernel
theorem dX3_product_50 : decode cX3_product 50 = .ok (.iload_n 3, 1) := by decide +kernel
theorem dX3_product_51 : decode cX3_product 51 = .ok (.ifCond .ne 5, 3) := by decide +kernel
theorem dX3_product_54 : decode cX3_product 54 = .ok (.iconst 1, 1) := by decide +kernel
theorem dX3_product_55 : decode cX3_product 55 = .ok (.ireturn, 1) := by decide +kernel
theorem dX3_product_56 : decode cX3_product 56 = .ok (.aload_n 0, 1) := by decide +kernel
theorem dX3_product_57 : decode cX3_product 57 = .ok (.iload_n 1, 1) := by decide +kernel
theorem dX3_product_58 : decode cX3_product 58 = .ok (.invokevirtual 162, 3) := by decide +kernel
theorem dX3_product_61 : decode cX3_product 61 = .ok (.ifCond .eq 17, 3) := by decide +kernel
theorem dX3_product_64 : decode cX3_product 64 = .ok (.aload_n 0, 1) := by decide +kernel
theorem dX3_product_65 : decode cX3_product 65 = .ok (.getfield 28, 3) := by decide +kernel
theorem dX3_product_68 : decode cX3_product 68 = .ok (.getfield 110, 3) := by decide +kernel
theorem dX3_product_71 : decode cX3_product 71 = .ok (.iload_n 3, 1) := by decide +kernel
theorem dX3_product_72 : decode cX3_product 72 = .ok (.invokevirtual 144, 3) := by decide +kernel
theorem dX3_product_75 : decode cX3_product 75 = .ok (.ifCond .ne 5, 3) := by decide +kernel
theorem dX3_product_78 : decode cX3_product 78 = .ok (.iconst 0, 1) := by decide +kernel
theorem dX3_product_79 : decode cX3_product 79 = .ok (.ireturn, 1) := by decide +kernel
theorem dX3_product_80 : decode cX3_product 80 = .ok (.iinc 2 1, 3) := by decide +kernel
theorem dX3_product_83 : decode cX3_product 83 = .ok (.goto (-71), 3) := by decide +kernel
theorem dX3_product_86 : decode cX3_product 86 = .ok (.iconst 1, 1) := by decide +kernel
theorem dX3_product_87 : decode cX3_product 87 = .ok (.ireturn, 1) := by decide +kernel
theorem dX3_part_0 : decode cX3_part 0 = .ok (.aload_n 0, 1) := by decide +kernel
theorem dX3_part_1 : decode cX3_part 1 = .ok (.getfield 25, 3) := by decide +kernel
theorem dX3_part_4 : decode cX3_part 4 = .ok (.istore_n 2, 1) := by decide +kernel
theorem dX3_part_5 : decode cX3_part 5 = .ok (.aload_n 0, 1) := by decide +kernel
theorem dX3_part_6 : decode cX3_part 6 = .ok (.bipush 40, 2) := by decide +kernel
theorem dX3_part_8 : decode cX3_part 8 = .ok (.invokevirtual 57, 3) := by decide +kernel
theorem dX3_part_11 : decode cX3_part 11 = .ok (.ifCond .eq 49, 3) := by decide +kernel
theorem dX3_part_14 : decode cX3_part 14 = .ok (.aload_n 0, 1) := by decide +kernel
theorem dX3_part_15 : decode cX3_part 15 = .ok (.iload_n 1, 1) := by decide +kernel
theorem dX3_part_16 : decode cX3_part 16 = .ok (.iload_n 2, 1) := by decide +kernel
theorem dX3_part_17 : decode cX3_part 17 = .ok (.invokevirtual 154, 3) := by decide +kernel
theorem dX3_part_20 : decode cX3_part 20 = .ok (.ifCond .eq 22, 3) := by decide +kernel
theorem dX3_part_23 : decode cX3_part 23 = .ok (.aload_n 0, 1) := by decide +kernel
theorem dX3_part_24 : decode cX3_part 24 = .ok (.iload_n 1, 1) := by decide +kernel
theorem dX3_part_25 : decode cX3_part 25 = .ok (.iconst 1, 1) := by decide +kernel
theorem dX3_part_26 : decode cX3_part 26 = .ok (.iadd, 1) := by decide +kernel
theorem dX3_part_27 : decode cX3_part 27 = .ok (.invokevirtual 120, 3) := by decide +kernel
theorem dX3_part_30 : decode cX3_part 30 = .ok (.ifCond .eq 12, 3) := by decide +kernel
theorem dX3_part_33 : decode cX3_part 33 = .ok (.aload_n 0, 1) := by decide +kernel
theorem dX3_part_34 : decode cX3_part 34 = .ok (.bipush 41, 2) := by decide +kernel
theorem dX3_part_36 : decode cX3_part 36 = .ok (.invokevirtual 57, 3) := by decide +kernel
theorem dX3_part_39 : decode cX3_part 39 = .ok (.ifCond .ne 15, 3) := by decide +kernel
theorem dX3_part_42 : decode cX3_part 42 = .ok (.aload_n 0, 1) := by decide +kernel
theorem dX3_part_43 : decode cX3_part 43 = .ok (.iconst 1, 1) := by decide +kernel
theorem dX3_part_44 : decode cX3_part 44 = .ok (.aload_n 0, 1) := by decide +kernel
theorem dX3_part_45 : decode cX3_part 45 = .ok (.getfield 25, 3) := by decide +kernel
theorem dX3_part_48 : decode cX3_part 48 = .ok (.invokevirtual 49, 3) := by decide +kernel
theorem dX3_part_51 : decode cX3_part 51 = .ok (.ifCond .eq 7, 3) := by decide +kernel
theorem dX3_part_54 : decode cX3_part 54 = .ok (.iconst 1, 1) := by decide +kernel
theorem dX3_part_55 : decode cX3_part 55 = .ok (.goto 4, 3) := by decide +kernel
theorem dX3_part_58 : decode cX3_part 58 = .ok (.iconst 0, 1) := by decide +kernel
theorem dX3_part_59 : decode cX3_part 59 = .ok (.ireturn, 1) := by decide +kernel
theorem dX3_part_60 : decode cX3_part 60 = .ok (.aload_n 0, 1) := by decide +kernel
theorem dX3_part_61 : decode cX3_part 61 = .ok (.ldc 165, 2) := by decide +kernel
theorem dX3_part_63 : decode cX3_part 63 = .ok (.invokevirtual 63, 3) := by decide +kernel
theorem dX3_part_66 : decode cX3_part 66 = .ok (.ifCond .eq 11, 3) := by decide +kernel
theorem dX3_part_69 : decode cX3_part 69 = .ok (.aload_n 0, 1) := by decide +kernel
theorem dX3_part_70 : decode cX3_part 70 = .ok (.iload_n 1, 1) := by decide +kernel
theorem dX3_part_71 : decode cX3_part 71 = .ok (.bipush (-15), 2) := by decide +kernel
theorem dX3_part_73 : decode cX3_part 73 = .ok (.invokevirtual 166, 3) := by decide +kernel
theorem dX3_part_76 : decode cX3_part 76 = .ok (.ireturn, 1) := by decide +kernel
theorem dX3_part_77 : decode cX3_part 77 = .ok (.aload_n 0, 1) := by decide +kernel
theorem dX3_part_78 : decode cX3_part 78 = .ok (.ldc 169, 2) := by decide +kernel
theorem dX3_part_80 : decode cX3_part 80 = .ok (.invokevirtual 63, 3) := by decide +kernel
theorem dX3_part_83 : decode cX3_part 83 = .ok (.ifCond .eq 11, 3) := by decide +kernel
theorem dX3_part_86 : decode cX3_part 86 = .ok (.aload_n 0, 1) := by decide +kernel
theorem dX3_part_87 : decode cX3_part 87 = .ok (.iload_n 1, 1) := by decide +kernel
theorem dX3_part_88 : decode cX3_part 88 = .ok (.bipush (-16), 2) := by decide +kernel
theorem dX3_part_90 : decode cX3_part 90 = .ok (.invokevirtual 166, 3) := by decide +kernel
theorem dX3_part_93 : decode cX3_part 93 = .ok (.ireturn, 1) := by decide +kernel
theorem dX3_part_94 : decode cX3_part 94 = .ok (.aload_n 0, 1) := by decide +kernel
theorem dX3_part_95 : decode cX3_part 95 = .ok (.ldc 171, 2) := by decide +kernel
theorem dX3_part_97 : decode cX3_part 97 = .ok (.invokevirtual 63, 3) := by decide +kernel
theorem dX3_part_100 : decode cX3_part 100 = .ok (.ifCond .eq 15, 3) := by decide +kernel
theorem dX3_part_103 : decode cX3_part 103 = .ok (.aload_n 0, 1) := by decide +kernel
theorem dX3_part_104 : decode cX3_part 104 = .ok (.getfield 28, 3) := by decide +kernel
theorem dX3_part_107 : decode cX3_part 107 = .ok (.getfield 110, 3) := by decide +kernel
theorem dX3_part_110 : decode cX3_part 110 = .ok (.iconst (-1), 1) := by decide +kernel
theorem dX3_part_111 : decode cX3_part 111 = .ok (.invokevirtual 144, 3) := by decide +kernel
theorem dX3_part_114 : decode cX3_part 114 = .ok (.ireturn, 1) := by decide +kernel
theorem dX3_part_115 : decode cX3_part 115 = .ok (.aload_n 0, 1) := by decide +kernel
theorem dX3_part_116 : decode cX3_part 116 = .ok (.ldc 173, 2) := by decide +kernel
theorem dX3_part_118 : decode cX3_part 118 = .ok (.invokevirtual 63, 3) := by decide +kernel
theorem dX3_part_121 : decode cX3_part 121 = .ok (.ifCond .eq 16, 3) := by decide +kernel
theorem dX3_part_124 : decode cX3_part 124 = .ok (.aload_n 0, 1) := by decide +kernel
theorem dX3_part_125 : decode cX3_part 125 = .ok (.getfield 28, 3) := by decide +kernel
theorem dX3_part_128 : decode cX3_part 128 = .ok (.getfield 110, 3) := by decide +kernel
theorem dX3_part_131 : decode cX3_part 131 = .ok (.bipush (-2), 2) := by decide +kernel
theorem dX3_part_133 : decode cX3_part 133 = .ok (.invokevirtual 144, 3) := by decide +kernel
theorem dX3_part_136 : decode cX3_part 136 = .ok (.ireturn, 1) := by decide +kernel
theorem dX3_part_137 : decode cX3_part 137 = .ok (.aload_n 0, 1) := by decide +kernel
theorem dX3_part_138 : decode cX3_part 138 = .ok (.ldc 175, 2) := by decide +kernel
theorem dX3_part_140 : decode cX3_part 140 = .ok (.invokevirtual 63, 3) := by decide +kernel
theorem dX3_part_143 : decode cX3_part 143 = .ok (.ifCond .eq 16, 3) := by decide +kernel
theorem dX3_part_146 : decode cX3_part 146 = .ok (.aload_n 0, 1) := by decide +kernel
theorem dX3_part_147 : decode cX3_part 147 = .ok (.getfield 28, 3) := by decide +kernel
theorem dX3_part_150 : decode cX3_part 150 = .ok (.getfield 110, 3) := by decide +kernel
theorem dX3_part_153 : decode cX3_part 153 = .ok (.bipush (-3), 2) := by decide +kernel
theorem dX3_part_155 : decode cX3_part 155 = .ok (.invokevirtual 144, 3) := by decide +kernel
theorem dX3_part_158 : decode cX3_part 158 = .ok (.ireturn, 1) := by decide +kernel
theorem dX3_part_159 : decode cX3_part 159 = .ok (.aload_n 0, 1) := by decide +kernel
theorem dX3_part_160 : decode cX3_part 160 = .ok (.ldc 177, 2) := by decide +kernel
theorem dX3_part_162 : decode cX3_part 162 = .ok (.invokevirtual 63, 3) := by decide +kernel
theorem dX3_part_165 : decode cX3_part 165 = .ok (.ifCond .eq 16, 3) := by decide +kernel
theorem dX3_part_168 : decode cX3_part 168 = .ok (.aload_n 0, 1) := by decide +kernel
theorem dX3_part_169 : decode cX3_part 169 = .ok (.getfield 28, 3) := by decide +kernel
theorem dX3_part_172 : decode cX3_part 172 = .ok (.getfield 110, 3) := by decide +kernel
theorem dX3_part_175 : decode cX3_part 175 = .ok (.bipush (-4), 2) := by decide +kernel
theorem dX3_part_177 : decode cX3_part 177 = .ok (.invokevirtual 144, 3) := by decide +kernel
theorem dX3_part_180 : decode cX3_part 180 = .ok (.ireturn, 1) := by decide +kernel
theorem dX3_part_181 : decode cX3_part 181 = .ok (.aload_n 0, 1) := by decide +kernel
theorem dX3_part_182 : decode cX3_part 182 = .ok (.ldc 179, 2) := by decide +kernel
theorem dX3_part_184 : decode cX3_part 184 = .ok (.invokevirtual 63, 3) := by decide +kernel
theorem dX3_part_187 : decode cX3_part 187 = .ok (.ifCond .eq 16, 3) := by decide +kernel
theorem dX3_part_190 : decode cX3_part 190 = .ok (.aload_n 0, 1) := by decide +kernel
theorem dX3_part_191 : decode cX3_part 191 = .ok (.getfield 28, 3) := by decide +kernel
theorem dX3_part_194 : decode cX3_part 194 = .ok (.getfield 110, 3) := by decide +kernel
theorem dX3_part_197 : decode cX3_part 197 = .ok (.bipush (-5), 2) := by decide +kernel
theorem dX3_part_199 : decode cX3_part 199 = .ok (.invokevirtual 144, 3) := by decide +kernel
theorem dX3_part_202 : decode cX3_part 202 = .ok (.ireturn, 1) := by decide +kernel
theorem dX3_part_203 : decode cX3_part 203 = .ok (.aload_n 0, 1) := by decide +kernel
theorem dX3_part_204 : decode cX3_part 204 = .ok (.ldc 181, 2) := by decide +kernel
theorem dX3_part_206 : decode cX3_part 206 = .ok (.invokevirtual 63, 3) := by decide +kernel
theorem dX3_part_209 : decode cX3_part 209 = .ok (.ifCond .eq 16, 3) := by decide +kernel
theorem dX3_part_212 : decode cX3_part 212 = .ok (.aload_n 0, 1) := by decide +kernel
theorem dX3_part_213 : decode cX3_part 213 = .ok (.getfield 28, 3) := by decide +kernel
theorem dX3_part_216 : decode cX3_part 216 = .ok (.getfield 110, 3) := by decide +kernel
theorem dX3_part_219 : decode cX3_part 219 = .ok (.bipush (-6), 2) := by decide +kernel
theorem dX3_part_221 : decode cX3_part 221 = .ok (.invokevirtual 144, 3) := by decide +kernel
theorem dX3_part_224 : decode cX3_part 224 = .ok (.ireturn, 1) := by decide +kernel
theorem dX3_part_225 : decode cX3_part 225 = .ok (.aload_n 0, 1) := by decide +kernel
theorem dX3_part_226 : decode cX3_part 226 = .ok (.iconst 0, 1) := by decide +kernel
theorem dX3_part_227 : decode cX3_part 227 = .ok (.sipush 9999, 3) := by decide +kernel
theorem dX3_part_230 : decode cX3_part 230 = .ok (.invokevirtual 67, 3) := by decide +kernel
theorem dX3_part_233 : decode cX3_part 233 = .ok (.istore_n 3, 1) := by decide +kernel
theorem dX3_part_234 : decode cX3_part 234 = .ok (.iload_n 3, 1) := by decide +kernel
theorem dX3_part_235 : decode cX3_part 235 = .ok (.iconst (-1), 1) := by decide +kernel
theorem dX3_part_236 : decode cX3_part 236 = .ok (.if_icmp .eq 21, 3) := by decide +kernel
theorem dX3_part_239 : decode cX3_part 239 = .ok (.aload_n 0, 1) := by decide +kernel
theorem dX3_part_240 : decode cX3_part 240 = .ok (.getfield 28, 3) := by decide +kernel
theorem dX3_part_243 : decode cX3_part 243 = .ok (.getfield 110, 3) := by decide +kernel
theorem dX3_part_246 : decode cX3_part 246 = .ok (.iload_n 3, 1) := by decide +kernel
theorem dX3_part_247 : decode cX3_part 247 = .ok (.invokevirtual 144, 3) := by decide +kernel
theorem dX3_part_250 : decode cX3_part 250 = .ok (.ifCond .eq 7, 3) := by decide +kernel
theorem dX3_part_253 : decode cX3_part 253 = .ok (.iconst 1, 1) := by decide +kernel
theorem dX3_part_254 : decode cX3_part 254 = .ok (.goto 4, 3) := by decide +kernel
theorem dX3_part_257 : decode cX3_part 257 = .ok (.iconst 0, 1) := by decide +kernel
theorem dX3_part_258 : decode cX3_part 258 = .ok (.ireturn, 1) := by decide +kernel
theorem dX3_pair_0 : decode cX3_pair 0 = .ok (.aload_n 0, 1) := by decide +kernel
theorem dX3_pair_1 : decode cX3_pair 1 = .ok (.getfield 25, 3) := by decide +kernel
theorem dX3_pair_4 : decode cX3_pair 4 = .ok (.istore_n 3, 1) := by decide +kernel
theorem dX3_pair_5 : decode cX3_pair 5 = .ok (.aload_n 0, 1) := by decide +kernel
theorem dX3_pair_6 : decode cX3_pair 6 = .ok (.bipush 40, 2) := by decide +kernel
theorem dX3_pair_8 : decode cX3_pair 8 = .ok (.invokevirtual 57, 3) := by decide +kernel
theorem dX3_pair_11 : decode cX3_pair 11 = .ok (.ifCond .eq 64, 3) := by decide +kernel
theorem dX3_pair_14 : decode cX3_pair 14 = .ok (.aload_n 0, 1) := by decide +kernel
theorem dX3_pair_15 : decode cX3_pair 15 = .ok (.iload_n 1, 1) := by decide +kernel
theorem dX3_pair_16 : decode cX3_pair 16 = .ok (.iload_n 3, 1) := by decide +kernel
theorem dX3_pair_17 : decode cX3_pair 17 = .ok (.invokevirtual 154, 3) := by decide +kernel
theorem dX3_pair_20 : decode cX3_pair 20 = .ok (.ifCond .eq 55, 3) := by decide +kernel
theorem dX3_pair_23 : decode cX3_pair 23 = .ok (.aload_n 0, 1) := by decide +kernel
theorem dX3_pair_24 : decode cX3_pair 24 = .ok (.iload_n 1, 1) := by decide +kernel
theorem dX3_pair_25 : decode cX3_pair 25 = .ok (.iconst 1, 1) := by decide +kernel
theorem dX3_pair_26 : decode cX3_pair 26 = .ok (.iadd, 1) := by decide +kernel
theorem dX3_pair_27 : decode cX3_pair 27 = .ok (.invokevirtual 120, 3) := by decide +kernel
theorem dX3_pair_30 : decode cX3_pair 30 = .ok (.ifCond .eq 45, 3) := by decide +kernel
theorem dX3_pair_33 : decode cX3_pair 33 = .ok (.aload_n 0, 1) := by decide +kernel
theorem dX3_pair_34 : decode cX3_pair 34 = .ok (.bipush 44, 2) := by decide +kernel
theorem dX3_pair_36 : decode cX3_pair 36 = .ok (.invokevirtual 57, 3) := by decide +kernel
theorem dX3_pair_39 : decode cX3_pair 39 = .ok (.ifCond .eq 36, 3) := by decide +kernel
theorem dX3_pair_42 : decode cX3_pair 42 = .ok (.aload_n 0, 1) := by decide +kernel
theorem dX3_pair_43 : decode cX3_pair 43 = .ok (.iload_n 1, 1) := by decide +kernel
theorem dX3_pair_44 : decode cX3_pair 44 = .ok (.iconst 1, 1) := by decide +kernel
theorem dX3_pair_45 : decode cX3_pair 45 = .ok (.iadd, 1) := by decide +kernel
theorem dX3_pair_46 : decode cX3_pair 46 = .ok (.invokevirtual 120, 3) := by decide +kernel
theorem dX3_pair_49 : decode cX3_pair 49 = .ok (.ifCond .eq 26, 3) := by decide +kernel
theorem dX3_pair_52 : decode cX3_pair 52 = .ok (.aload_n 0, 1) := by decide +kernel
theorem dX3_pair_53 : decode cX3_pair 53 = .ok (.bipush 41, 2) := by decide +kernel
theorem dX3_pair_55 : decode cX3_pair 55 = .ok (.invokevirtual 57, 3) := by decide +kernel
theorem dX3_pair_58 : decode cX3_pair 58 = .ok (.ifCond .eq 17, 3) := by decide +kernel
theorem dX3_pair_61 : decode cX3_pair 61 = .ok (.aload_n 0, 1) := by decide +kernel
theorem dX3_pair_62 : decode cX3_pair 62 = .ok (.getfield 28, 3) := by decide +kernel
theorem dX3_pair_65 : decode cX3_pair 65 = .ok (.getfield 110, 3) := by decide +kernel
theorem dX3_pair_68 : decode cX3_pair 68 = .ok (.iload_n 2, 1) := by decide +kernel
theorem dX3_pair_69 : decode cX3_pair 69 = .ok (.invokevirtual 144, 3) := by decide +kernel
theorem dX3_pair_72 : decode cX3_pair 72 = .ok (.ifCond .ne 15, 3) := by decide +kernel
theorem dX3_pair_75 : decode cX3_pair 75 = .ok (.aload_n 0, 1) := by decide +kernel
theorem dX3_pair_76 : decode cX3_pair 76 = .ok (.iconst 1, 1) := by decide +kernel
theorem dX3_pair_77 : decode cX3_pair 77 = .ok (.aload_n 0, 1) := by decide +kernel
theorem dX3_pair_78 : decode cX3_pair 78 = .ok (.getfield 25, 3) := by decide +kernel
theorem dX3_pair_81 : decode cX3_pair 81 = .ok (.invokevirtual 49, 3) := by decide +kernel
theorem dX3_pair_84 : decode cX3_pair 84 = .ok (.ifCond .eq 7, 3) := by decide +kernel
theorem dX3_pair_87 : decode cX3_pair 87 = .ok (.iconst 1, 1) := by decide +kernel
theorem dX3_pair_88 : decode cX3_pair 88 = .ok (.goto 4, 3) := by decide +kernel
theorem dX3_pair_91 : decode cX3_pair 91 = .ok (.iconst 0, 1) := by decide +kernel
theorem dX3_pair_92 : decode cX3_pair 92 = .ok (.ireturn, 1) := by decide +kernel
theorem dX3_mayOpen_0 : decode cX3_mayOpen 0 = .ok (.iload_n 1, 1) := by decide +kernel
theorem dX3_mayOpen_1 : decode cX3_mayOpen 1 = .ok (.bipush 6, 2) := by decide +kernel
theorem dX3_mayOpen_3 : decode cX3_mayOpen 3 = .ok (.if_icmp .lt 12, 3) := by decide +kernel
theorem dX3_mayOpen_6 : decode cX3_mayOpen 6 = .ok (.aload_n 0, 1) := by decide +kernel
theorem dX3_mayOpen_7 : decode cX3_mayOpen 7 = .ok (.iconst 4, 1) := by decide +kernel
theorem dX3_mayOpen_8 : decode cX3_mayOpen 8 = .ok (.iload_n 2, 1) := by decide +kernel
theorem dX3_mayOpen_9 : decode cX3_mayOpen 9 = .ok (.invokevirtual 49, 3) := by decide +kernel
theorem dX3_mayOpen_12 : decode cX3_mayOpen 12 = .ok (.ifCond .eq 7, 3) := by decide +kernel
theorem dX3_mayOpen_15 : decode cX3_mayOpen 15 = .ok (.iconst 1, 1) := by decide +kernel
theorem dX3_mayOpen_16 : decode cX3_mayOpen 16 = .ok (.goto 4, 3) := by decide +kernel
theorem dX3_mayOpen_19 : decode cX3_mayOpen 19 = .ok (.iconst 0, 1) := by decide +kernel
theorem dX3_mayOpen_20 : decode cX3_mayOpen 20 = .ok (.ireturn, 1) := by decide +kernel
theorem dX3_takes_0 : decode cX3_takes 0 = .ok (.aload_n 0, 1) := by decide +kernel
theorem dX3_takes_1 : decode cX3_takes 1 = .ok (.getfield 25, 3) := by decide +kernel
theorem dX3_takes_4 : decode cX3_takes 4 = .ok (.aload_n 1, 1) := by decide +kernel
theorem dX3_takes_5 : decode cX3_takes 5 = .ok (.invokevirtual 183, 3) := by decide +kernel
theorem dX3_takes_8 : decode cX3_takes 8 = .ok (.iadd, 1) := by decide +kernel
theorem dX3_takes_9 : decode cX3_takes 9 = .ok (.istore_n 2, 1) := by decide +kernel
theorem dX3_takes_10 : decode cX3_takes 10 = .ok (.iload_n 2, 1) := by decide +kernel
theorem dX3_takes_11 : decode cX3_takes 11 = .ok (.aload_n 0, 1) := by decide +kernel
theorem dX3_takes_12 : decode cX3_takes 12 = .ok (.getfield 22, 3) := by decide +kernel
theorem dX3_takes_15 : decode cX3_takes 15 = .ok (.if_icmp .gt 24, 3) := by decide +kernel
theorem dX3_takes_18 : decode cX3_takes 18 = .ok (.aload_n 0, 1) := by decide +kernel
theorem dX3_takes_19 : decode cX3_takes 19 = .ok (.iload_n 2, 1) := by decide +kernel
theorem dX3_takes_20 : decode cX3_takes 20 = .ok (.invokevirtual 187, 3) := by decide +kernel
theorem dX3_takes_23 : decode cX3_takes 23 = .ok (.ifCond .ne 16, 3) := by decide +kernel
theorem dX3_takes_26 : decode cX3_takes 26 = .ok (.aload_n 0, 1) := by decide +kernel
theorem dX3_takes_27 : decode cX3_takes 27 = .ok (.aload_n 0, 1) := by decide +kernel
theorem dX3_takes_28 : decode cX3_takes 28 = .ok (.getfield 25, 3) := by decide +kernel
theorem dX3_takes_31 : decode cX3_takes 31 = .ok (.iconst 1, 1) := by decide +kernel
theorem dX3_takes_32 : decode cX3_takes 32 = .ok (.isub, 1) := by decide +kernel
theorem dX3_takes_33 : decode cX3_takes 33 = .ok (.invokevirtual 190, 3) := by decide +kernel
theorem dX3_takes_36 : decode cX3_takes 36 = .ok (.ifCond .eq 5, 3) := by decide +kernel
theorem dX3_takes_39 : decode cX3_takes 39 = .ok (.iconst 0, 1) := by decide +kernel
theorem dX3_takes_40 : decode cX3_takes 40 = .ok (.ireturn, 1) := by decide +kernel
theorem dX3_takes_41 : decode cX3_takes 41 = .ok (.iconst 0, 1) := by decide +kernel
theorem dX3_takes_42 : decode cX3_takes 42 = .ok (.istore_n 3, 1) := by decide +kernel
theorem dX3_takes_43 : decode cX3_takes 43 = .ok (.iload_n 3, 1) := by decide +kernel
theorem dX3_takes_44 : decode cX3_takes 44 = .ok (.aload_n 1, 1) := by decide +kernel
theorem dX3_takes_45 : decode cX3_takes 45 = .ok (.invokevirtual 183, 3) := by decide +kernel
theorem dX3_takes_48 : decode cX3_takes 48 = .ok (.if_icmp .ge 30, 3) := by decide +kernel
theorem dX3_takes_51 : decode cX3_takes 51 = .ok (.aload_n 0, 1) := by decide +kernel
theorem dX3_takes_52 : decode cX3_takes 52 = .ok (.getfield 18, 3) := by decide +kernel
theorem dX3_takes_55 : decode cX3_takes 55 = .ok (.aload_n 0, 1) := by decide +kernel
theorem dX3_takes_56 : decode cX3_takes 56 = .ok (.getfield 25, 3) := by decide +kernel
theorem dX3_takes_59 : decode cX3_takes 59 = .ok (.iload_n 3, 1) := by decide +kernel
theorem dX3_takes_60 : decode cX3_takes 60 = .ok (.iadd, 1) := by decide +kernel
theorem dX3_takes_61 : decode cX3_takes 61 = .ok (.iaload, 1) := by decide +kernel
theorem dX3_takes_62 : decode cX3_takes 62 = .ok (.aload_n 1, 1) := by decide +kernel
theorem dX3_takes_63 : decode cX3_takes 63 = .ok (.iload_n 3, 1) := by decide +kernel
theorem dX3_takes_64 : decode cX3_takes 64 = .ok (.invokevirtual 193, 3) := by decide +kernel
theorem dX3_takes_67 : decode cX3_takes 67 = .ok (.if_icmp .eq 5, 3) := by decide +kernel
theorem dX3_takes_70 : decode cX3_takes 70 = .ok (.iconst 0, 1) := by decide +kernel
theorem dX3_takes_71 : decode cX3_takes 71 = .ok (.ireturn, 1) := by decide +kernel
theorem dX3_takes_72 : decode cX3_takes 72 = .ok (.iinc 3 1, 3) := by decide +kernel
theorem dX3_takes_75 : decode cX3_takes 75 = .ok (.goto (-32), 3) := by decide +kernel
theorem dX3_takes_78 : decode cX3_takes 78 = .ok (.aload_n 0, 1) := by decide +kernel
theorem dX3_takes_79 : decode cX3_takes 79 = .ok (.iload_n 2, 1) := by decide +kernel
theorem dX3_takes_80 : decode cX3_takes 80 = .ok (.putfield 25, 3) := by decide +kernel
theorem dX3_takes_83 : decode cX3_takes 83 = .ok (.aload_n 0, 1) := by decide +kernel
theorem dX3_takes_84 : decode cX3_takes 84 = .ok (.invokevirtual 43, 3) := by decide +kernel
theorem dX3_takes_87 : decode cX3_takes 87 = .ok (.iconst 1, 1) := by decide +kernel
theorem dX3_takes_88 : decode cX3_takes 88 = .ok (.ireturn, 1) := by decide +kernel
theorem dX3_takesSign_0 : decode cX3_takesSign 0 = .ok (.aload_n 0, 1) := by decide +kernel
theorem dX3_takesSign_1 : decode cX3_takesSign 1 = .ok (.getfield 25, 3) := by decide +kernel
theorem dX3_takesSign_4 : decode cX3_takesSign 4 = .ok (.aload_n 0, 1) := by decide +kernel
theorem dX3_takesSign_5 : decode cX3_takesSign 5 = .ok (.getfield 22, 3) := by decide +kernel
theorem dX3_takesSign_8 : decode cX3_takesSign 8 = .ok (.if_icmp .ge 16, 3) := by decide +kernel
theorem dX3_takesSign_11 : decode cX3_takesSign 11 = .ok (.aload_n 0, 1) := by decide +kernel
theorem dX3_takesSign_12 : decode cX3_takesSign 12 = .ok (.getfield 18, 3) := by decide +kernel
theorem dX3_takesSign_15 : decode cX3_takesSign 15 = .ok (.aload_n 0, 1) := by decide +kernel
theorem dX3_takesSign_16 : decode cX3_takesSign 16 = .ok (.getfield 25, 3) := by decide +kernel
theorem dX3_takesSign_19 : decode cX3_takesSign 19 = .ok (.iaload, 1) := by decide +kernel
theorem dX3_takesSign_20 : decode cX3_takesSign 20 = .ok (.iload_n 1, 1) := by decide +kernel
theorem dX3_takesSign_21 : decode cX3_takesSign 21 = .ok (.if_icmp .eq 5, 3) := by decide +kernel
theorem dX3_takesSign_24 : decode cX3_takesSign 24 = .ok (.iconst 0, 1) := by decide +kernel
theorem dX3_takesSign_25 : decode cX3_takesSign 25 = .ok (.ireturn, 1) := by decide +kernel
theorem dX3_takesSign_26 : decode cX3_takesSign 26 = .ok (.aload_n 0, 1) := by decide +kernel
theorem dX3_takesSign_27 : decode cX3_takesSign 27 = .ok (.dup, 1) := by decide +kernel
theorem dX3_takesSign_28 : decode cX3_takesSign 28 = .ok (.getfield 25, 3) := by decide +kernel
theorem dX3_takesSign_31 : decode cX3_takesSign 31 = .ok (.iconst 1, 1) := by decide +kernel
theorem dX3_takesSign_32 : decode cX3_takesSign 32 = .ok (.iadd, 1) := by decide +kernel
theorem dX3_takesSign_33 : decode cX3_takesSign 33 = .ok (.putfield 25, 3) := by decide +kernel
theorem dX3_takesSign_36 : decode cX3_takesSign 36 = .ok (.aload_n 0, 1) := by decide +kernel
theorem dX3_takesSign_37 : decode cX3_takesSign 37 = .ok (.invokevirtual 43, 3) := by decide +kernel
theorem dX3_takesSign_40 : decode cX3_takesSign 40 = .ok (.iconst 1, 1) := by decide +kernel
theorem dX3_takesSign_41 : decode cX3_takesSign 41 = .ok (.ireturn, 1) := by decide +kernel
theorem dX3_expectsWord_0 : decode cX3_expectsWord 0 = .ok (.aload_n 0, 1) := by decide +kernel
theorem dX3_expectsWord_1 : decode cX3_expectsWord 1 = .ok (.aload_n 1, 1) := by decide +kernel
theorem dX3_expectsWord_2 : decode cX3_expectsWord 2 = .ok (.invokevirtual 63, 3) := by decide +kernel
theorem dX3_expectsWord_5 : decode cX3_expectsWord 5 = .ok (.ifCond .ne 15, 3) := by decide +kernel
theorem dX3_expectsWord_8 : decode cX3_expectsWord 8 = .ok (.aload_n 0, 1) := by decide +kernel
theorem dX3_expectsWord_9 : decode cX3_expectsWord 9 = .ok (.iconst 1, 1) := by decide +kernel
theorem dX3_expectsWord_10 : decode cX3_expectsWord 10 = .ok (.aload_n 0, 1) := by decide +kernel
theorem dX3_expectsWord_11 : decode cX3_expectsWord 11 = .ok (.getfield 25, 3) := by decide +kernel
theorem dX3_expectsWord_14 : decode cX3_expectsWord 14 = .ok (.invokevirtual 49, 3) := by decide +kernel
theorem dX3_expectsWord_17 : decode cX3_expectsWord 17 = .ok (.ifCond .eq 7, 3) := by decide +kernel
theorem dX3_expectsWord_20 : decode cX3_expectsWord 20 = .ok (.iconst 1, 1) := by decide +kernel
theorem dX3_expectsWord_21 : decode cX3_expectsWord 21 = .ok (.goto 4, 3) := by decide +kernel
theorem dX3_expectsWord_24 : decode cX3_expectsWord 24 = .ok (.iconst 0, 1) := by decide +kernel
theorem dX3_expectsWord_25 : decode cX3_expectsWord 25 = .ok (.ireturn, 1) := by decide +kernel
theorem dX3_number_0 : decode cX3_number 0 = .ok (.aload_n 0, 1) := by decide +kernel
theorem dX3_number_1 : decode cX3_number 1 = .ok (.aload_n 0, 1) := by decide +kernel
theorem dX3_number_2 : decode cX3_number 2 = .ok (.getfield 25, 3) := by decide +kernel
theorem dX3_number_5 : decode cX3_number 5 = .ok (.invokevirtual 190, 3) := by decide +kernel
theorem dX3_number_8 : decode cX3_number 8 = .ok (.ifCond .eq 16, 3) := by decide +kernel
theorem dX3_number_11 : decode cX3_number 11 = .ok (.aload_n 0, 1) := by decide +kernel
theorem dX3_number_12 : decode cX3_number 12 = .ok (.aload_n 0, 1) := by decide +kernel
theorem dX3_number_13 : decode cX3_number 13 = .ok (.getfield 25, 3) := by decide +kernel
theorem dX3_number_16 : decode cX3_number 16 = .ok (.iconst 1, 1) := by decide +kernel
theorem dX3_number_17 : decode cX3_number 17 = .ok (.isub, 1) := by decide +kernel
theorem dX3_number_18 : decode cX3_number 18 = .ok (.invokevirtual 187, 3) := by decide +kernel
theorem dX3_number_21 : decode cX3_number 21 = .ok (.ifCond .eq 15, 3) := by decide +kernel
theorem dX3_number_24 : decode cX3_number 24 = .ok (.aload_n 0, 1) := by decide +kernel
theorem dX3_number_25 : decode cX3_number 25 = .ok (.iconst 1, 1) := by decide +kernel
theorem dX3_number_26 : decode cX3_number 26 = .ok (.aload_n 0, 1) := by decide +kernel
theorem dX3_number_27 : decode cX3_number 27 = .ok (.getfield 25, 3) := by decide +kernel
theorem dX3_number_30 : decode cX3_number 30 = .ok (.invokevirtual 49, 3) := by decide +kernel
theorem dX3_number_33 : decode cX3_number 33 = .ok (.pop, 1) := by decide +kernel
theorem dX3_number_34 : decode cX3_number 34 = .ok (.iconst (-1), 1) := by decide +kernel
theorem dX3_number_35 : decode cX3_number 35 = .ok (.ireturn, 1) := by decide +kernel
theorem dX3_number_36 : decode cX3_number 36 = .ok (.iconst 0, 1) := by decide +kernel
theorem dX3_number_37 : decode cX3_number 37 = .ok (.istore_n 3, 1) := by decide +kernel
theorem dX3_number_38 : decode cX3_number 38 = .ok (.aload_n 0, 1) := by decide +kernel
theorem dX3_number_39 : decode cX3_number 39 = .ok (.getfield 25, 3) := by decide +kernel
theorem dX3_number_42 : decode cX3_number 42 = .ok (.istore 4, 2) := by decide +kernel
theorem dX3_number_44 : decode cX3_number 44 = .ok (.iload 4, 2) := by decide +kernel
theorem dX3_number_46 : decode cX3_number 46 = .ok (.aload_n 0, 1) := by decide +kernel
theorem dX3_number_47 : decode cX3_number 47 = .ok (.getfield 22, 3) := by decide +kernel
theorem dX3_number_50 : decode cX3_number 50 = .ok (.if_icmp .ge 55, 3) := by decide +kernel
theorem dX3_number_53 : decode cX3_number 53 = .ok (.aload_n 0, 1) := by decide +kernel
theorem dX3_number_54 : decode cX3_number 54 = .ok (.iload 4, 2) := by decide +kernel
theorem dX3_number_56 : decode cX3_number 56 = .ok (.invokevirtual 190, 3) := by decide +kernel
theorem dX3_number_59 : decode cX3_number 59 = .ok (.ifCond .eq 46, 3) := by decide +kernel
theorem dX3_number_62 : decode cX3_number 62 = .ok (.iload 4, 2) := by decide +kernel
theorem dX3_number_64 : decode cX3_number 64 = .ok (.aload_n 0, 1) := by decide +kernel
theorem dX3_number_65 : decode cX3_number 65 = .ok (.getfield 25, 3) := by decide +kernel
theorem dX3_number_68 : decode cX3_number 68 = .ok (.isub, 1) := by decide +kernel
theorem dX3_number_69 : decode cX3_number 69 = .ok (.iconst 4, 1) := by decide +kernel
theorem dX3_number_70 : decode cX3_number 70 = .ok (.if_icmp .ne 13, 3) := by decide +kernel
theorem dX3_number_73 : decode cX3_number 73 = .ok (.aload_n 0, 1) := by decide +kernel
theorem dX3_number_74 : decode cX3_number 74 = .ok (.iconst 1, 1) := by decide +kernel
theorem dX3_number_75 : decode cX3_number 75 = .ok (.iload 4, 2) := by decide +kernel
theorem dX3_number_77 : decode cX3_number 77 = .ok (.invokevirtual 49, 3) := by decide +kernel
theorem dX3_number_80 : decode cX3_number 80 = .ok (.pop, 1) := by decide +kernel
theorem dX3_number_81 : decode cX3_number 81 = .ok (.iconst (-1), 1) := by decide +kernel
theorem dX3_number_82 : decode cX3_number 82 = .ok (.ireturn, 1) := by decide +kernel
theorem dX3_number_83 : decode cX3_number 83 = .ok (.bipush 10, 2) := by decide +kernel
theorem dX3_number_85 : decode cX3_number 85 = .ok (.iload_n 3, 1) := by decide +kernel
theorem dX3_number_86 : decode cX3_number 86 = .ok (.imul, 1) := by decide +kernel
theorem dX3_number_87 : decode cX3_number 87 = .ok (.aload_n 0, 1) := by decide +kernel
theorem dX3_number_88 : decode cX3_number 88 = .ok (.getfield 18, 3) := by decide +kernel
theorem dX3_number_91 : decode cX3_number 91 = .ok (.iload 4, 2) := by decide +kernel
theorem dX3_number_93 : decode cX3_number 93 = .ok (.iaload, 1) := by decide +kernel
theorem dX3_number_94 : decode cX3_number 94 = .ok (.iadd, 1) := by decide +kernel
theorem dX3_number_95 : decode cX3_number 95 = .ok (.bipush 48, 2) := by decide +kernel
theorem dX3_number_97 : decode cX3_number 97 = .ok (.isub, 1) := by decide +kernel
theorem dX3_number_98 : decode cX3_number 98 = .ok (.istore_n 3, 1) := by decide +kernel
theorem dX3_number_99 : decode cX3_number 99 = .ok (.iinc 4 1, 3) := by decide +kernel
theorem dX3_number_102 : decode cX3_number 102 = .ok (.goto (-58), 3) := by decide +kernel
theorem dX3_number_105 : decode cX3_number 105 = .ok (.iload_n 3, 1) := by decide +kernel
theorem dX3_number_106 : decode cX3_number 106 = .ok (.iload_n 1, 1) := by decide +kernel
theorem dX3_number_107 : decode cX3_number 107 = .ok (.if_icmp .lt 8, 3) := by decide +kernel
theorem dX3_number_110 : decode cX3_number 110 = .ok (.iload_n 3, 1) := by decide +kernel
theorem dX3_number_111 : decode cX3_number 111 = .ok (.iload_n 2, 1) := by decide +kernel
theorem dX3_number_112 : decode cX3_number 112 = .ok (.if_icmp .le 15, 3) := by decide +kernel
theorem dX3_number_115 : decode cX3_number 115 = .ok (.aload_n 0, 1) := by decide +kernel
theorem dX3_number_116 : decode cX3_number 116 = .ok (.iconst 2, 1) := by decide +kernel
theorem dX3_number_117 : decode cX3_number 117 = .ok (.aload_n 0, 1) := by decide +kernel
theorem dX3_number_118 : decode cX3_number 118 = .ok (.getfield 25, 3) := by decide +kernel
theorem dX3_number_121 : decode cX3_number 121 = .ok (.invokevirtual 49, 3) := by decide +kernel
theorem dX3_number_124 : decode cX3_number 124 = .ok (.pop, 1) := by decide +kernel
theorem dX3_number_125 : decode cX3_number 125 = .ok (.iconst (-1), 1) := by decide +kernel
theorem dX3_number_126 : decode cX3_number 126 = .ok (.ireturn, 1) := by decide +kernel
theorem dX3_number_127 : decode cX3_number 127 = .ok (.aload_n 0, 1) := by decide +kernel
theorem dX3_number_128 : decode cX3_number 128 = .ok (.iload 4, 2) := by decide +kernel
theorem dX3_number_130 : decode cX3_number 130 = .ok (.putfield 25, 3) := by decide +kernel
theorem dX3_number_133 : decode cX3_number 133 = .ok (.aload_n 0, 1) := by decide +kernel
theorem dX3_number_134 : decode cX3_number 134 = .ok (.invokevirtual 43, 3) := by decide +kernel
theorem dX3_number_137 : decode cX3_number 137 = .ok (.iload_n 3, 1) := by decide +kernel
theorem dX3_number_138 : decode cX3_number 138 = .ok (.ireturn, 1) := by decide +kernel
theorem dX3_skip_0 : decode cX3_skip 0 = .ok (.aload_n 0, 1) := by decide +kernel
theorem dX3_skip_1 : decode cX3_skip 1 = .ok (.getfield 25, 3) := by decide +kernel
theorem dX3_skip_4 : decode cX3_skip 4 = .ok (.aload_n 0, 1) := by decide +kernel
theorem dX3_skip_5 : decode cX3_skip 5 = .ok (.getfield 22, 3) := by decide +kernel
theorem dX3_skip_8 : decode cX3_skip 8 = .ok (.if_icmp .ge 44, 3) := by decide +kernel
theorem dX3_skip_11 : decode cX3_skip 11 = .ok (.aload_n 0, 1) := by decide +kernel
theorem dX3_skip_12 : decode cX3_skip 12 = .ok (.getfield 18, 3) := by decide +kernel
theorem dX3_skip_15 : decode cX3_skip 15 = .ok (.aload_n 0, 1) := by decide +kernel
theorem dX3_skip_16 : decode cX3_skip 16 = .ok (.getfield 25, 3) := by decide +kernel
theorem dX3_skip_19 : decode cX3_skip 19 = .ok (.iaload, 1) := by decide +kernel
theorem dX3_skip_20 : decode cX3_skip 20 = .ok (.bipush 32, 2) := by decide +kernel
theorem dX3_skip_22 : decode cX3_skip 22 = .ok (.if_icmp .eq 17, 3) := by decide +kernel
theorem dX3_skip_25 : decode cX3_skip 25 = .ok (.aload_n 0, 1) := by decide +kernel
theorem dX3_skip_26 : decode cX3_skip 26 = .ok (.getfield 18, 3) := by decide +kernel
theorem dX3_skip_29 : decode cX3_skip 29 = .ok (.aload_n 0, 1) := by decide +kernel
theorem dX3_skip_30 : decode cX3_skip 30 = .ok (.getfield 25, 3) := by decide +kernel
theorem dX3_skip_33 : decode cX3_skip 33 = .ok (.iaload, 1) := by decide +kernel
theorem dX3_skip_34 : decode cX3_skip 34 = .ok (.bipush 10, 2) := by decide +kernel
theorem dX3_skip_36 : decode cX3_skip 36 = .ok (.if_icmp .ne 16, 3) := by decide +kernel
theorem dX3_skip_39 : decode cX3_skip 39 = .ok (.aload_n 0, 1) := by decide +kernel
theorem dX3_skip_40 : decode cX3_skip 40 = .ok (.dup, 1) := by decide +kernel
theorem dX3_skip_41 : decode cX3_skip 41 = .ok (.getfield 25, 3) := by decide +kernel
theorem dX3_skip_44 : decode cX3_skip 44 = .ok (.iconst 1, 1) := by decide +kernel
theorem dX3_skip_45 : decode cX3_skip 45 = .ok (.iadd, 1) := by decide +kernel
theorem dX3_skip_46 : decode cX3_skip 46 = .ok (.putfield 25, 3) := by decide +kernel
theorem dX3_skip_49 : decode cX3_skip 49 = .ok (.goto (-49), 3) := by decide +kernel
theorem dX3_skip_52 : decode cX3_skip 52 = .ok (.return_, 1) := by decide +kernel
theorem dX3_isLetter_0 : decode cX3_isLetter 0 = .ok (.iload_n 1, 1) := by decide +kernel
theorem dX3_isLetter_1 : decode cX3_isLetter 1 = .ok (.ifCond .lt 37, 3) := by decide +kernel
theorem dX3_isLetter_4 : decode cX3_isLetter 4 = .ok (.iload_n 1, 1) := by decide +kernel
theorem dX3_isLetter_5 : decode cX3_isLetter 5 = .ok (.aload_n 0, 1) := by decide +kernel
theorem dX3_isLetter_6 : decode cX3_isLetter 6 = .ok (.getfield 22, 3) := by decide +kernel
theorem dX3_isLetter_9 : decode cX3_isLetter 9 = .ok (.if_icmp .ge 29, 3) := by decide +kernel
theorem dX3_isLetter_12 : decode cX3_isLetter 12 = .ok (.aload_n 0, 1) := by decide +kernel
theorem dX3_isLetter_13 : decode cX3_isLetter 13 = .ok (.getfield 18, 3) := by decide +kernel
theorem dX3_isLetter_16 : decode cX3_isLetter 16 = .ok (.iload_n 1, 1) := by decide +kernel
theorem dX3_isLetter_17 : decode cX3_isLetter 17 = .ok (.iaload, 1) := by decide +kernel
theorem dX3_isLetter_18 : decode cX3_isLetter 18 = .ok (.bipush 97, 2) := by decide +kernel
theorem dX3_isLetter_20 : decode cX3_isLetter 20 = .ok (.if_icmp .lt 18, 3) := by decide +kernel
theorem dX3_isLetter_23 : decode cX3_isLetter 23 = .ok (.aload_n 0, 1) := by decide +kernel
theorem dX3_isLetter_24 : decode cX3_isLetter 24 = .ok (.getfield 18, 3) := by decide +kernel
theorem dX3_isLetter_27 : decode cX3_isLetter 27 = .ok (.iload_n 1, 1) := by decide +kernel
theorem dX3_isLetter_28 : decode cX3_isLetter 28 = .ok (.iaload, 1) := by decide +kernel
theorem dX3_isLetter_29 : decode cX3_isLetter 29 = .ok (.bipush 122, 2) := by decide +kernel
theorem dX3_isLetter_31 : decode cX3_isLetter 31 = .ok (.if_icmp .gt 7, 3) := by decide +kernel
theorem dX3_isLetter_34 : decode cX3_isLetter 34 = .ok (.iconst 1, 1) := by decide +kernel
theorem dX3_isLetter_35 : decode cX3_isLetter 35 = .ok (.goto 4, 3) := by decide +kernel
theorem dX3_isLetter_38 : decode cX3_isLetter 38 = .ok (.iconst 0, 1) := by decide +kernel
theorem dX3_isLetter_39 : decode cX3_isLetter 39 = .ok (.ireturn, 1) := by decide +kernel
theorem dX3_isDigit_0 : decode cX3_isDigit 0 = .ok (.iload_n 1, 1) := by decide +kernel
theorem dX3_isDigit_1 : decode cX3_isDigit 1 = .ok (.ifCond .lt 37, 3) := by decide +kernel
theorem dX3_isDigit_4 : decode cX3_isDigit 4 = .ok (.iload_n 1, 1) := by decide +kernel
theorem dX3_isDigit_5 : decode cX3_isDigit 5 = .ok (.aload_n 0, 1) := by decide +kernel
theorem dX3_isDigit_6 : decode cX3_isDigit 6 = .ok (.getfield 22, 3) := by decide +kernel
theorem dX3_isDigit_9 : decode cX3_isDigit 9 = .ok (.if_icmp .ge 29, 3) := by decide +kernel
theorem dX3_isDigit_12 : decode cX3_isDigit 12 = .ok (.aload_n 0, 1) := by decide +kernel
theorem dX3_isDigit_13 : decode cX3_isDigit 13 = .ok (.getfield 18, 3) := by decide +kernel
theorem dX3_isDigit_16 : decode cX3_isDigit 16 = .ok (.iload_n 1, 1) := by decide +kernel
theorem dX3_isDigit_17 : decode cX3_isDigit 17 = .ok (.iaload, 1) := by decide +kernel
theorem dX3_isDigit_18 : decode cX3_isDigit 18 = .ok (.bipush 48, 2) := by decide +kernel
theorem dX3_isDigit_20 : decode cX3_isDigit 20 = .ok (.if_icmp .lt 18, 3) := by decide +kernel
theorem dX3_isDigit_23 : decode cX3_isDigit 23 = .ok (.aload_n 0, 1) := by decide +kernel
theorem dX3_isDigit_24 : decode cX3_isDigit 24 = .ok (.getfield 18, 3) := by decide +kernel
theorem dX3_isDigit_27 : decode cX3_isDigit 27 = .ok (.iload_n 1, 1) := by decide +kernel
theorem dX3_isDigit_28 : decode cX3_isDigit 28 = .ok (.iaload, 1) := by decide +kernel
theorem dX3_isDigit_29 : decode cX3_isDigit 29 = .ok (.bipush 57, 2) := by decide +kernel
theorem dX3_isDigit_31 : decode cX3_isDigit 31 = .ok (.if_icmp .gt 7, 3) := by decide +kernel
theorem dX3_isDigit_34 : decode cX3_isDigit 34 = .ok (.iconst 1, 1) := by decide +kernel
theorem dX3_isDigit_35 : decode cX3_isDigit 35 = .ok (.goto 4, 3) := by decide +kernel
theorem dX3_isDigit_38 : decode cX3_isDigit 38 = .ok (.iconst 0, 1) := by decide +kernel
theorem dX3_isDigit_39 : decode cX3_isDigit 39 = .ok (.ireturn, 1) := by decide +kernel
theorem dX3_fail_0 : decode cX3_fail 0 = .ok (.aload_n 0, 1) := by decide +kernel
theorem dX3_fail_1 : decode cX3_fail 1 = .ok (.getfield 9, 3) := by decide +kernel
theorem dX3_fail_4 : decode cX3_fail 4 = .ok (.ifCond .ne 13, 3) := by decide +kernel
theorem dX3_fail_7 : decode cX3_fail 7 = .ok (.aload_n 0, 1) := by decide +kernel
theorem dX3_fail_8 : decode cX3_fail 8 = .ok (.iload_n 1, 1) := by decide +kernel
theorem dX3_fail_9 : decode cX3_fail 9 = .ok (.putfield 9, 3) := by decide +kernel
theorem dX3_fail_12 : decode cX3_fail 12 = .ok (.aload_n 0, 1) := by decide +kernel
theorem dX3_fail_13 : decode cX3_fail 13 = .ok (.iload_n 2, 1) := by decide +kernel
theorem dX3_fail_14 : decode cX3_fail 14 = .ok (.putfield 15, 3) := by decide +kernel
theorem dX3_fail_17 : decode cX3_fail 17 = .ok (.iconst 0, 1) := by decide +kernel
theorem dX3_fail_18 : decode cX3_fail 18 = .ok (.ireturn, 1) := by decide +kernel
